/-! The machine of this proof: ints and references as numbers, a heap as four functions; what a stretch of code asks ('pw_wp'), and that the real machine does it ('pw_sound'). -/
abbrev pw_A : Type := Int32 ⊕ Nat
/-- how many cells were made; kind and length of a cell; its ints; its references. Cell n lies at base + (n - 2); 0 is null, 1 the script. Kinds: 1 int array, 2 boolean array, 3 array of Ride, 4 array of Group, 5 the script, 10 + class -/
abbrev pw_Hp : Type := Nat × (Nat → Nat × Nat) × (Nat → Nat → Int32) × (Nat → Nat → Nat)
abbrev pw_O : Type := va_G × (Nat → ClassId) × (Nat × Nat)
abbrev pw_Ls : Type := List (Option pw_A)
abbrev pw_Kt : Type := Bool × Nat → pw_Ls → List pw_A → pw_Hp → Nat → Nat → Prop
/-- an instruction, where it goes on, where it jumps, numbers, (cells, slots, place of its link), constants and cases -/
abbrev pw_E : Type := Instr × (Bool × Nat) × (Bool × Nat) × (Nat × Nat × Nat) × (Nat × Nat × Nat) × List (Int32 × (Bool × Nat))
def pw_V (Ω : pw_O) (v : pw_A) : Value := match v with
  | .inl x => .int x
  | .inr n => if n = 0 then .null else if n = 1 then .ref Ω.2.2.2 else .ref (Ω.2.2.1 + (n - 2))
def pw_k (h : pw_Hp) (n : Nat) : Nat := (h.2.1 n).1
def pw_n (h : pw_Hp) (n : Nat) : Nat := (h.2.1 n).2
def pw_i (h : pw_Hp) (n k : Nat) : Int32 := h.2.2.1 n k
def pw_r (h : pw_Hp) (n k : Nat) : Nat := h.2.2.2 n k
def pw_wi (h : pw_Hp) (n k : Nat) (x : Int32) : pw_Hp := (h.1, h.2.1, (fun a j => if a = n ∧ j = k then x else h.2.2.1 a j), h.2.2.2)
def pw_wr (h : pw_Hp) (n k : Nat) (x : Nat) : pw_Hp := (h.1, h.2.1, h.2.2.1, (fun a j => if a = n ∧ j = k then x else h.2.2.2 a j))
def pw_nw (h : pw_Hp) (kd len : Nat) : pw_Hp := (h.1 + 1, (fun a => if a = h.1 + 2 then (kd, len) else h.2.1 a), (fun a j => if a = h.1 + 2 then 0 else h.2.2.1 a j), (fun a j => if a = h.1 + 2 then 0 else h.2.2.2 a j))
-- the words that every method may rest on, and the links between nest mates
def pw_tb : List Cond := lw_tbl.filter goodWord
def pw_isN : Cond → Bool
  | .fieldLinkNest .. => true
  | .methodLinkNest .. => true
  | .arrayOver (.object _) => true
  | _ => false
def pw_nl : List Cond := lw_tbl.filter pw_isN
def pw_aty : Nat → FieldType
  | 1 => .int
  | 2 => .boolean
  | 3 => .object "ParkRows$Ride"
  | _ => .object "ParkRows$Group"
def pw_tys (Ω : pw_O) : List (ClassId × FieldType) := [(Ω.2.1 0, .int), (Ω.2.1 1, pw_aty 1), (Ω.2.1 2, pw_aty 2), (Ω.2.1 3, pw_aty 3), (Ω.2.1 4, pw_aty 4)]
def pw_rf (ci k : Nat) : Bool := match pw_fty ci k with
  | .int => false
  | .boolean => false
  | _ => true
def pw_fv (Ω : pw_O) (h : pw_Hp) (ci n k : Nat) : Value := if pw_rf ci k = true then pw_V Ω (.inr (pw_r h n k)) else .int (pw_i h n k)
def pw_cell (Ω : pw_O) (h : pw_Hp) (n : Nat) (H : Heap) : Prop :=
  (pw_k h n = 1 ∨ pw_k h n = 2 → H[Ω.2.2.1 + (n - 2)]? = some (arrV (Ω.2.1 (pw_k h n)) (pw_n h n) (fun j => .int (pw_i h n j)))) ∧
  (pw_k h n = 3 ∨ pw_k h n = 4 → H[Ω.2.2.1 + (n - 2)]? = some (arrV (Ω.2.1 (pw_k h n)) (pw_n h n) (fun j => pw_V Ω (.inr (pw_r h n j))))) ∧
  (∀ ci, pw_k h n = 10 + ci → ∃ r : vw_C, pw_cl[ci]? = some r ∧ t_OB (Ω.2.2.1 + (n - 2)) (Ω.1.1 ci) r.2.2 (Ω.1.2 ci) H (pw_fv Ω h ci n))
def pw_H (Ω : pw_O) (s : State) (h : pw_Hp) (H : Heap) : Prop :=
  H.size = Ω.2.2.1 + h.1 ∧ (∀ n, pw_k h n ≠ 0 → (n = 1 ∧ pw_k h n = 5) ∨ (2 ≤ n ∧ n < h.1 + 2 ∧ pw_k h n ≠ 5)) ∧ (∀ n, 2 ≤ n → pw_cell Ω h n H) ∧
  (pw_k h 1 = 5 → va_X Ω.2.2.2 (pw_n h 1) (pw_i h 1) s H ∧ Ω.2.2.2 < Ω.2.2.1)
def pw_Af (Ω : pw_O) : Nat → Prop := fun q => Ω.2.2.1 ≤ q
def pw_Kn (Ω : pw_O) (s : State) : Prop := va_K Ω.1 pw_cl (pw_tys Ω) s ∧ ∀ w ∈ pw_nl, va_Nw w s
def pw_nth (k : Nat) (ls : pw_Ls) : Option pw_A := (ls[k]?).join
def pw_L (Ω : pw_O) (Sl : Array Slot) (n : Nat) (ls : pw_Ls) : Prop := Sl.size = n ∧ lv_wf Sl ∧ (∀ k v, pw_nth k ls = some v → Sl[k]? = some (.val (pw_V Ω v))) ∧ ls.length = n
def pw_rv (M : pw_M) (v : Int32) : Prop := M.2.2.2.1 = some .int ∨ (M.2.2.2.1 = some .boolean ∧ (v = 0 ∨ v = 1))
/-- where a method runs: the machine, its code, its words, its room, and how it ends -/
def pw_Act (M : pw_M) (Q : Option pw_A → pw_Hp → Prop) (p : Program) (l : Launch) (e : Env) (R : Room) (s : State) (m : MethodId) (args : Array Value) (below : List Frame) (meth : Method) (c : Code) (Z : State → Prop) (Ω : pw_O) : Prop :=
  p.tables.exec = Jvm.exec ∧ c.code = M.2.1 ∧ c.maxLocals = M.2.2.1 ∧ s.vm.findClass M.1.cls = some m.cls ∧ (∀ w ∈ pw_tb, w.before args s = true) ∧ pw_Kn Ω s ∧ meth.name = M.1.name ∧
  (M.2.2.2.2.1 ≤ R.frames ∧ 37 * M.2.2.2.2.1 ≤ R.locals ∧ M.2.2.2.2.2.1 ≤ R.cells ∧ M.2.2.2.2.2.2 ≤ R.slots) ∧ Ω.2.2.1 ≤ s.heap.size ∧
  (∀ (H : Heap) (locs : List Loc) (Sl : Array Slot) (pc : Nat) (h' : pw_Hp), va_S (pw_Af Ω) s.heap H locs → pw_H Ω s h' H →
    (∀ v : Int32, decode M.2.1 pc = .ok (.ireturn, 1) → pw_rv M v → Q (some (.inl v)) h' → W p l e R s m args below meth c H locs M.2.2.2.2.2.1 M.2.2.2.2.2.2 Z (F0 m pc Sl [.int v])) ∧
    (∀ v : Nat, decode M.2.1 pc = .ok (.areturn, 1) → (∃ C, M.2.2.2.1 = some (.object C)) → Q (some (.inr v)) h' → W p l e R s m args below meth c H locs M.2.2.2.2.2.1 M.2.2.2.2.2.2 Z (F0 m pc Sl [pw_V Ω (.inr v)])) ∧
    (decode M.2.1 pc = .ok (.return_, 1) → M.2.2.2.1 = none → Q none h' → W p l e R s m args below meth c H locs M.2.2.2.2.2.1 M.2.2.2.2.2.2 Z (F0 m pc Sl [])))
def pw_J (M : pw_M) (Q : Option pw_A → pw_Hp → Prop) (pc : Nat) (ls : pw_Ls) (st : List pw_A) (h : pw_Hp) (bc bs : Nat) : Prop :=
  ∀ (p : Program) (l : Launch) (e : Env) (R : Room) (s : State) (m : MethodId) (args : Array Value) (below : List Frame) (meth : Method) (c : Code) (Z : State → Prop) (Ω : pw_O), pw_Act M Q p l e R s m args below meth c Z Ω →
  ∀ (H : Heap) (locs : List Loc) (cells slots : Nat) (Sl : Array Slot), pw_H Ω s h H → va_S (pw_Af Ω) s.heap H locs → cells + bc ≤ M.2.2.2.2.2.1 → slots + bs ≤ M.2.2.2.2.2.2 → pw_L Ω Sl M.2.2.1 ls →
  W p l e R s m args below meth c H locs cells slots Z (F0 m pc Sl (st.map (pw_V Ω)))
def pw_rm (M : pw_M) : Room := { frames := M.2.2.2.2.1, cells := M.2.2.2.2.2.1, slots := M.2.2.2.2.2.2, locals := 37 * M.2.2.2.2.1 }
def pw_ws (M : pw_M) : List Cond := .code M.1 M.2.1 M.2.2.1 M.2.2.2.1 :: pw_tb
def pw_Qc (Ω : pw_O) (Q : Option pw_A → pw_Hp → Prop) : Array Value → State → Outcome → State → Prop := fun _ st oc t => (∃ (v : Option pw_A) (h' : pw_Hp), oc = .returned (v.map (pw_V Ω)) ∧ Q v h' ∧ pw_H Ω t h' t.heap) ∧ va_F (pw_Af Ω) st t
def pw_Pc (Ω : pw_O) (as : List pw_A) (h : pw_Hp) : Array Value → State → Prop := va_Pc (as.map (pw_V Ω)) (fun U => pw_Kn Ω U ∧ Ω.2.2.1 ≤ U.heap.size ∧ pw_H Ω U h U.heap)
/-- method j, called with these arguments in this heap, comes back, and Q holds of its answer and its heap -/
def pw_C (j : Nat) (as : List pw_A) (h : pw_Hp) (Q : Option pw_A → pw_Hp → Prop) : Prop :=
  ∀ (l : Launch) (Ω : pw_O), Met l (pw_md j).1 (pw_ws (pw_md j)) (pw_rm (pw_md j)) (pw_Pc Ω as h) (pw_Qc Ω Q) (pw_md j).2.2.2.2.2.1 (pw_md j).2.2.2.2.2.2 (pw_Af Ω)
def pw_qi (k : Int32 → pw_Hp → Prop) : Option pw_A → pw_Hp → Prop := fun v h' => ∃ x, v = some (.inl x) ∧ k x h'
def pw_qr (k : Nat → pw_Hp → Prop) : Option pw_A → pw_Hp → Prop := fun v h' => ∃ x, v = some (.inr x) ∧ k x h'
def pw_qv (k : pw_Hp → Prop) : Option pw_A → pw_Hp → Prop := fun v h' => v = none ∧ k h'
def pw_Ci (j : Nat) (as : List pw_A) (h : pw_Hp) (k : Int32 → pw_Hp → Prop) : Prop := pw_C j as h (pw_qi k)
def pw_Cr (j : Nat) (as : List pw_A) (h : pw_Hp) (k : Nat → pw_Hp → Prop) : Prop := pw_C j as h (pw_qr k)
def pw_Cv (j : Nat) (as : List pw_A) (h : pw_Hp) (k : pw_Hp → Prop) : Prop := pw_C j as h (pw_qv k)
-- ===== what an instruction asks =====
def pw_li (o : Option pw_A) (f : Int32 → Prop) : Prop := match o with
  | some (.inl x) => f x
  | _ => False
def pw_lr (o : Option pw_A) (f : Nat → Prop) : Prop := match o with
  | some (.inr n) => f n
  | _ => False
def pw_s1 (st : List pw_A) (f : Int32 → List pw_A → Prop) : Prop := match st with
  | .inl x :: r => f x r
  | _ => False
def pw_s2 (st : List pw_A) (f : Int32 → Int32 → List pw_A → Prop) : Prop := match st with
  | .inl y :: .inl x :: r => f x y r
  | _ => False
def pw_sr (st : List pw_A) (f : Nat → List pw_A → Prop) : Prop := match st with
  | .inr n :: r => f n r
  | _ => False
def pw_sir (st : List pw_A) (f : Nat → Int32 → List pw_A → Prop) : Prop := match st with
  | .inl i :: .inr n :: r => f n i r
  | _ => False
def pw_siir (st : List pw_A) (f : Nat → Int32 → Int32 → List pw_A → Prop) : Prop := match st with
  | .inl x :: .inl i :: .inr n :: r => f n i x r
  | _ => False
def pw_srir (st : List pw_A) (f : Nat → Int32 → Nat → List pw_A → Prop) : Prop := match st with
  | .inr q :: .inl i :: .inr n :: r => f n i q r
  | _ => False
def pw_srr (st : List pw_A) (f : Nat → Nat → List pw_A → Prop) : Prop := match st with
  | .inr q :: .inr n :: r => f n q r
  | _ => False
def pw_sa (st : List pw_A) (f : pw_A → List pw_A → Prop) : Prop := match st with
  | v :: r => f v r
  | _ => False
def pw_cv (sw : List (Int32 × (Bool × Nat))) : Int32 := match sw with
  | a :: _ => a.1
  | [] => 0
def pw_cc (c : Jvm.ClassFile.Cond) (x y : Int32) (A B : Prop) : Prop := match c with
  | .eq => (x = y → A) ∧ (¬ x = y → B)
  | .ne => (¬ x = y → A) ∧ (x = y → B)
  | .lt => (x < y → A) ∧ (¬ x < y → B)
  | .ge => (y ≤ x → A) ∧ (¬ y ≤ x → B)
  | .gt => (y < x → A) ∧ (¬ y < x → B)
  | .le => (x ≤ y → A) ∧ (¬ x ≤ y → B)
def pw_sw (x : Int32) (k : Bool × Nat → Prop) (d : Bool × Nat) : List (Int32 × (Bool × Nat)) → Prop
  | [] => k d
  | a :: r => (x = a.1 → k a.2) ∧ (¬ x = a.1 → pw_sw x k d r)
/-- the arguments, and what lies below them -/
def pw_pop (n : Nat) (st : List pw_A) : List pw_A × List pw_A := ((st.take n).reverse, st.drop n)
def pw_rcv (ci : Nat) (h : pw_Hp) (as : List pw_A) : Prop := match as with
  | .inr n :: _ => pw_k h n = 10 + ci
  | _ => False
def pw_ret (rk j : Nat) (as r : List pw_A) (h : pw_Hp) (k : List pw_A → pw_Hp → Prop) : Prop := match rk with
  | 0 => pw_Cv j as h (fun h' => k r h')
  | 1 => pw_Ci j as h (fun x h' => k (.inl x :: r) h')
  | _ => pw_Cr j as h (fun x h' => k (.inr x :: r) h')
def pw_short : Nat → List pw_A → Prop
  | 0, r => r.length ≤ 8
  | n + 1, _ :: r => pw_short n r
  | _ + 1, [] => False
def pw_get (ref : Nat) (h : pw_Hp) (n k : Nat) : pw_A := match ref with
  | 1 => .inr (pw_r h n k)
  | _ => .inl (pw_i h n k)
def pw_put (ref : Nat) (st : List pw_A) (ci k : Nat) (h : pw_Hp) (f : List pw_A → pw_Hp → Prop) : Prop := match ref with
  | 0 => pw_sir st fun n x r => pw_k h n = 10 + ci ∧ f r (pw_wi h n k x)
  | 1 => pw_srr st fun n q r => pw_k h n = 10 + ci ∧ f r (pw_wr h n k q)
  | _ => pw_sir st fun n x r => pw_k h n = 10 + ci ∧ (x = 0 ∨ x = 1) ∧ f r (pw_wi h n k x)
def pw_irt (z : Nat) (st : List pw_A) (f : Int32 → Prop) : Prop := match st with
  | [.inl v] => match z with
    | 2 => (v = 0 ∨ v = 1) ∧ f v
    | _ => f v
  | _ => False
def pw_art (st : List pw_A) (f : Nat → Prop) : Prop := match st with
  | [.inr v] => f v
  | _ => False
def pw_vrt (st : List pw_A) (f : Prop) : Prop := match st with
  | [] => f
  | _ => False
/-- an index within -/
def pw_at (i : Int32) (n : Nat) : Prop := ¬ i < 0 ∧ i.toNatClampNeg < n
def pw_stp (Q : Option pw_A → pw_Hp → Prop) (e : pw_E) (K : pw_Kt) (ls : pw_Ls) (st : List pw_A) (h : pw_Hp) (bc bs : Nat) : Prop :=
  match e.1 with
  | .iload_n k => pw_li (pw_nth k.val ls) fun x => K e.2.1 ls (.inl x :: st) h bc bs
  | .iload k => pw_li (pw_nth k ls) fun x => K e.2.1 ls (.inl x :: st) h bc bs
  | .aload_n k => pw_lr (pw_nth k.val ls) fun x => K e.2.1 ls (.inr x :: st) h bc bs
  | .aload k => pw_lr (pw_nth k ls) fun x => K e.2.1 ls (.inr x :: st) h bc bs
  | .istore_n k => pw_s1 st fun x r => K e.2.1 (ls.set k.val (some (.inl x))) r h bc bs
  | .istore k => pw_s1 st fun x r => K e.2.1 (ls.set k (some (.inl x))) r h bc bs
  | .astore_n k => pw_sr st fun x r => K e.2.1 (ls.set k.val (some (.inr x))) r h bc bs
  | .astore k => pw_sr st fun x r => K e.2.1 (ls.set k (some (.inr x))) r h bc bs
  | .iinc k _ => pw_li (pw_nth k ls) fun x => K e.2.1 (ls.set k (some (.inl (x + pw_cv e.2.2.2.2.2)))) st h bc bs
  | .iconst _ => K e.2.1 ls (.inl (pw_cv e.2.2.2.2.2) :: st) h bc bs
  | .bipush _ => K e.2.1 ls (.inl (pw_cv e.2.2.2.2.2) :: st) h bc bs
  | .sipush _ => K e.2.1 ls (.inl (pw_cv e.2.2.2.2.2) :: st) h bc bs
  | .aconst_null => K e.2.1 ls (.inr 0 :: st) h bc bs
  | .iadd => pw_s2 st fun x y r => K e.2.1 ls (.inl (x + y) :: r) h bc bs
  | .isub => pw_s2 st fun x y r => K e.2.1 ls (.inl (x - y) :: r) h bc bs
  | .imul => pw_s2 st fun x y r => K e.2.1 ls (.inl (x * y) :: r) h bc bs
  | .iand => pw_s2 st fun x y r => K e.2.1 ls (.inl (x &&& y) :: r) h bc bs
  | .idiv => pw_s2 st fun x y r => ¬ y = 0 ∧ K e.2.1 ls (.inl (x / y) :: r) h bc bs
  | .irem => pw_s2 st fun x y r => ¬ y = 0 ∧ K e.2.1 ls (.inl (x - x / y * y) :: r) h bc bs
  | .ineg => pw_s1 st fun x r => K e.2.1 ls (.inl (-x) :: r) h bc bs
  | .dup => pw_sa st fun v r => K e.2.1 ls (v :: v :: r) h bc bs
  | .pop => pw_sa st fun _ r => K e.2.1 ls r h bc bs
  | .dup2 => pw_sa st fun v r => pw_sa r fun w r => K e.2.1 ls (v :: w :: v :: w :: r) h bc bs
  | .if_icmp c _ => pw_s2 st fun x y r => pw_cc c x y (K e.2.2.1 ls r h bc bs) (K e.2.1 ls r h bc bs)
  | .ifCond c _ => pw_s1 st fun x r => pw_cc c x 0 (K e.2.2.1 ls r h bc bs) (K e.2.1 ls r h bc bs)
  | .ifnull _ => pw_sr st fun n r => (n = 0 → K e.2.2.1 ls r h bc bs) ∧ (¬ n = 0 → K e.2.1 ls r h bc bs)
  | .ifnonnull _ => pw_sr st fun n r => (¬ n = 0 → K e.2.2.1 ls r h bc bs) ∧ (n = 0 → K e.2.1 ls r h bc bs)
  | .goto _ => K e.2.2.1 ls st h bc bs
  | .tableswitch .. => pw_s1 st fun x r => pw_sw x (fun t => K t ls r h bc bs) e.2.2.1 e.2.2.2.2.2
  | .lookupswitch .. => pw_s1 st fun x r => pw_sw x (fun t => K t ls r h bc bs) e.2.2.1 e.2.2.2.2.2
  | .getfield _ => pw_sr st fun n r => pw_k h n = 10 + e.2.2.2.1.1 ∧ K e.2.1 ls (pw_get e.2.2.2.1.2.2 h n e.2.2.2.1.2.1 :: r) h bc bs
  | .putfield _ => pw_put e.2.2.2.1.2.2 st e.2.2.2.1.1 e.2.2.2.1.2.1 h (fun r h' => K e.2.1 ls r h' bc bs)
  | .iaload => pw_sir st fun n i r => (pw_k h n = 1 ∨ pw_k h n = 5) ∧ pw_at i (pw_n h n) ∧ K e.2.1 ls (.inl (pw_i h n i.toNatClampNeg) :: r) h bc bs
  | .baload => pw_sir st fun n i r => pw_k h n = 2 ∧ pw_at i (pw_n h n) ∧ K e.2.1 ls (.inl (pw_i h n i.toNatClampNeg) :: r) h bc bs
  | .aaload => pw_sir st fun n i r => (pw_k h n = 3 ∨ pw_k h n = 4) ∧ pw_at i (pw_n h n) ∧ K e.2.1 ls (.inr (pw_r h n i.toNatClampNeg) :: r) h bc bs
  | .iastore => pw_siir st fun n i x r => pw_k h n = 1 ∧ pw_at i (pw_n h n) ∧ K e.2.1 ls r (pw_wi h n i.toNatClampNeg x) bc bs
  | .bastore => pw_siir st fun n i x r => pw_k h n = 2 ∧ pw_at i (pw_n h n) ∧ (x = 0 ∨ x = 1) ∧ K e.2.1 ls r (pw_wi h n i.toNatClampNeg x) bc bs
  | .aastore => pw_srir st fun n i q r => ((pw_k h n = 3 ∧ pw_k h q = 11) ∨ (pw_k h n = 4 ∧ pw_k h q = 10)) ∧ pw_at i (pw_n h n) ∧ K e.2.1 ls r (pw_wr h n i.toNatClampNeg q) bc bs
  | .arraylength => pw_sr st fun n r => (pw_k h n = 1 ∨ pw_k h n = 2 ∨ pw_k h n = 3 ∨ pw_k h n = 4 ∨ pw_k h n = 5) ∧ K e.2.1 ls (.inl (nI (pw_n h n)) :: r) h bc bs
  | .newarray _ => pw_s1 st fun x r => (¬ x < 0 ∧ x.toNatClampNeg ≤ 10000) ∧ 1 ≤ bc ∧ x.toNatClampNeg ≤ bs ∧ K e.2.1 ls (.inr (h.1 + 2) :: r) (pw_nw h e.2.2.2.1.1 x.toNatClampNeg) (bc - 1) (bs - x.toNatClampNeg)
  | .anewarray _ => pw_s1 st fun x r => (¬ x < 0 ∧ x.toNatClampNeg ≤ 10000) ∧ 1 ≤ bc ∧ x.toNatClampNeg ≤ bs ∧ K e.2.1 ls (.inr (h.1 + 2) :: r) (pw_nw h e.2.2.2.1.1 x.toNatClampNeg) (bc - 1) (bs - x.toNatClampNeg)
  | .new _ => 1 ≤ bc ∧ e.2.2.2.1.2.1 ≤ bs ∧ K e.2.1 ls (.inr (h.1 + 2) :: st) (pw_nw h (10 + e.2.2.2.1.1) e.2.2.2.1.2.1) (bc - 1) (bs - e.2.2.2.1.2.1)
  | .invokevirtual _ => pw_short e.2.2.2.1.2.1 st ∧ e.2.2.2.2.1.1 ≤ bc ∧ e.2.2.2.2.1.2.1 ≤ bs ∧ pw_rcv e.2.2.1.2 h (pw_pop e.2.2.2.1.2.1 st).1 ∧ pw_ret e.2.2.2.1.2.2 e.2.2.2.1.1 (pw_pop e.2.2.2.1.2.1 st).1 (pw_pop e.2.2.2.1.2.1 st).2 h (fun r h' => K e.2.1 ls r h' (bc - e.2.2.2.2.1.1) (bs - e.2.2.2.2.1.2.1))
  | .invokespecial _ => match e.2.2.2.1.1 with
    | 1001 => pw_sr st fun n r => pw_short 0 r ∧ ¬ n = 0 ∧ K e.2.1 ls r h bc bs
    | _ => pw_short e.2.2.2.1.2.1 st ∧ e.2.2.2.2.1.1 ≤ bc ∧ e.2.2.2.2.1.2.1 ≤ bs ∧ pw_rcv e.2.2.1.2 h (pw_pop e.2.2.2.1.2.1 st).1 ∧ pw_ret e.2.2.2.1.2.2 e.2.2.2.1.1 (pw_pop e.2.2.2.1.2.1 st).1 (pw_pop e.2.2.2.1.2.1 st).2 h (fun r h' => K e.2.1 ls r h' (bc - e.2.2.2.2.1.1) (bs - e.2.2.2.2.1.2.1))
  | .invokestatic _ => match e.2.2.2.1.1 with
    | 1000 => pw_s2 st fun x y r => pw_short 0 r ∧ K e.2.1 ls (.inl (if x < y then y else x) :: r) h bc bs
    | _ => pw_short e.2.2.2.1.2.1 st ∧ e.2.2.2.2.1.1 ≤ bc ∧ e.2.2.2.2.1.2.1 ≤ bs ∧ pw_ret e.2.2.2.1.2.2 e.2.2.2.1.1 (pw_pop e.2.2.2.1.2.1 st).1 (pw_pop e.2.2.2.1.2.1 st).2 h (fun r h' => K e.2.1 ls r h' (bc - e.2.2.2.2.1.1) (bs - e.2.2.2.2.1.2.1))
  | .ireturn => pw_irt e.2.2.2.1.2.2 st fun v => Q (some (.inl v)) h
  | .areturn => pw_art st fun v => Q (some (.inr v)) h
  | .return_ => pw_vrt st (Q none h)
  | _ => False
def pw_go (J : Nat → pw_Ls → List pw_A → pw_Hp → Nat → Nat → Prop) (w : Nat → pw_Ls → List pw_A → pw_Hp → Nat → Nat → Prop) : pw_Kt := fun t => match t.1 with
  | true => J t.2
  | false => w t.2
def pw_wp (g : Nat → pw_E) (Q : Option pw_A → pw_Hp → Prop) (J : Nat → pw_Ls → List pw_A → pw_Hp → Nat → Nat → Prop) : Nat → Nat → pw_Ls → List pw_A → pw_Hp → Nat → Nat → Prop
  | 0 => J
  | n + 1 => fun pc ls st h bc bs => pw_stp Q (g pc) (pw_go J (pw_wp g Q J n)) ls st h bc bs
