/-! The check of a printed program, and that what 'pw_wp' asks is enough. -/
def pw_dc (M : pw_M) (pc : Nat) (e : pw_E) (L : Nat) : Bool := decide (decode M.2.1 pc = .ok (e.1, L)) && decide (e.2.1.2 = pc + L)
def pw_lkw (i : Nat) (w : Cond) : Bool := decide (lw_tbl[i]? = some w) && goodWord w
def pw_lkn (i : Nat) (w : Cond) : Bool := decide (lw_tbl[i]? = some w) && pw_isN w
def pw_rc (ci k : Nat) : Nat := match pw_fty ci k with
  | .int => 0
  | .boolean => 2
  | .array _ => 1
  | .object _ => 1
  | _ => 3
def pw_fck (M : pw_M) (idx : Nat) (e : pw_E) : Bool := match pw_cl[e.2.2.2.1.1]? with
  | some r => decide (e.2.2.2.1.2.1 < r.2.2) && (pw_lkw e.2.2.2.2.1.2.2 (.fieldLink M.1.cls idx r.1 (r.2.1 e.2.2.2.1.2.1).2.1 (r.2.1 e.2.2.2.1.2.1).2.2.1) || pw_lkn e.2.2.2.2.1.2.2 (.fieldLinkNest M.1.cls idx r.1 (r.2.1 e.2.2.2.1.2.1).2.1 (r.2.1 e.2.2.2.1.2.1).2.2.1 "ParkRows")) && decide (e.2.2.2.1.2.2 = pw_rc e.2.2.2.1.1 e.2.2.2.1.2.1) && decide (pw_rc e.2.2.2.1.1 e.2.2.2.1.2.1 < 3)
  | none => false
def pw_pck (M : pw_M) (idx : Nat) (e : pw_E) : Bool := match pw_cl[e.2.2.2.1.1]? with
  | some r => decide ((r.2.1 e.2.2.2.1.2.1).2.2.2 = false) || (decide (M.1.name = "<init>") && decide (M.1.cls = r.1) && pw_lkw e.2.2.2.2.1.2.2 (.fieldLink M.1.cls idx r.1 (r.2.1 e.2.2.2.1.2.1).2.1 (r.2.1 e.2.2.2.1.2.1).2.2.1))
  | none => false
def pw_tsk (pc : Nat) : Int → List Int → List (Int32 × (Bool × Nat)) → Bool
  | lo, o :: os, a :: sw => decide (a.1.toInt = lo) && decide ((pc : Int) + o = (a.2.2 : Int)) && pw_tsk pc (lo + 1) os sw
  | _, [], [] => true
  | _, _, _ => false
def pw_lsk (pc : Nat) : List (Int × Int) → List (Int32 × (Bool × Nat)) → Bool
  | o :: os, a :: sw => decide (a.1.toInt = o.1) && decide ((pc : Int) + o.2 = (a.2.2 : Int)) && pw_lsk pc os sw
  | [], [] => true
  | _, _ => false
/-- places of the words of callee j: its code, its class ready, what kind it is, that it is chosen -/
def pw_jck (j n : Nat) (q : Nat × Nat × Nat) : Bool := pw_lkw q.1 (.code (pw_md j).1 (pw_md j).2.1 (pw_md j).2.2.1 (pw_md j).2.2.2.1) && pw_lkw q.2.1 (.initialized (pw_md j).1.cls) && decide ((pw_md j).1.cls ≠ "java/lang/invoke/MethodHandle") && decide ((pw_md j).1.cls ≠ "java/lang/invoke/VarHandle") && decide ((parseMethodDescriptor (pw_md j).1.desc).map (fun d => d.parameters.length) = some n) && decide ((pw_md j).2.2.1 ≤ 18) && plainName (pw_md j).1.cls
/-- (number of parameters, (code, ready), kind (0 static, 1 instance, 2 constructor), (place of kind, place of chosen)) by method; filled in by the printed table -/
abbrev pw_Jt : Type := Nat × (Nat × Nat × Nat) × Nat × (Nat × Nat)
def pw_jall (t : List pw_Jt) (j : Nat) : Bool := match t[j]? with
  | some q => pw_jck j q.1 q.2.1 && (match q.2.2.1 with
    | 0 => pw_lkw q.2.2.2.1 (.static (pw_md j).1)
    | 1 => pw_lkw q.2.2.2.1 (.instanceMethod (pw_md j).1) && pw_lkw q.2.2.2.2 (.selects (pw_md j).1.cls (pw_md j).1 (pw_md j).1)
    | _ => pw_lkw q.2.2.2.1 (.instanceMethod (pw_md j).1) && decide ((pw_md j).1.name = "<init>") && decide ((pw_md j).2.2.2.1 = none))
  | none => false
/-- a call's entry beside the callee's row: parameters, kind, budget, level, class -/
def pw_cck (M : pw_M) (t : List pw_Jt) (idx : Nat) (e : pw_E) (kind extra : Nat) : Bool := match t[e.2.2.2.1.1]? with
  | some q => decide (q.2.2.1 = kind) && decide (e.2.2.2.1.2.1 = q.1 + extra) && decide (e.2.2.2.2.1.1 = (pw_md e.2.2.2.1.1).2.2.2.2.2.1) && decide (e.2.2.2.2.1.2.1 = (pw_md e.2.2.2.1.1).2.2.2.2.2.2) && decide ((pw_md e.2.2.2.1.1).2.2.2.2.1 + 1 ≤ M.2.2.2.2.1) && (pw_lkw e.2.2.2.2.1.2.2 (.methodLink M.1.cls idx (pw_md e.2.2.2.1.1).1) || (decide (kind ≠ 0) && pw_lkn e.2.2.2.2.1.2.2 (.methodLinkNest M.1.cls idx (pw_md e.2.2.2.1.1).1 "ParkRows")))
  | none => false
def pw_clk (ci : Nat) (C : String) : Bool := match pw_cl[ci]? with
  | some r => decide (r.1 = C)
  | none => false
def pw_chk (t : List pw_Jt) (M : pw_M) (pc : Nat) (e : pw_E) : Bool := match e.1 with
  | .iload_n _ => pw_dc M pc e 1
  | .aload_n _ => pw_dc M pc e 1
  | .iload _ => pw_dc M pc e 2
  | .aload _ => pw_dc M pc e 2
  | .istore_n k => pw_dc M pc e 1 && decide (k.val < M.2.2.1)
  | .astore_n k => pw_dc M pc e 1 && decide (k.val < M.2.2.1)
  | .istore k => pw_dc M pc e 2 && decide (k < M.2.2.1)
  | .astore k => pw_dc M pc e 2 && decide (k < M.2.2.1)
  | .iinc k n => pw_dc M pc e 3 && decide (k < M.2.2.1) && decide (Int32.ofInt n = pw_cv e.2.2.2.2.2)
  | .iconst n => pw_dc M pc e 1 && decide (Int32.ofInt n = pw_cv e.2.2.2.2.2)
  | .bipush n => pw_dc M pc e 2 && decide ((Int8.ofInt n).toInt32 = pw_cv e.2.2.2.2.2)
  | .sipush n => pw_dc M pc e 3 && decide ((Int16.ofInt n).toInt32 = pw_cv e.2.2.2.2.2)
  | .aconst_null => pw_dc M pc e 1
  | .iadd => pw_dc M pc e 1
  | .isub => pw_dc M pc e 1
  | .imul => pw_dc M pc e 1
  | .iand => pw_dc M pc e 1
  | .idiv => pw_dc M pc e 1
  | .irem => pw_dc M pc e 1
  | .ineg => pw_dc M pc e 1
  | .dup => pw_dc M pc e 1
  | .pop => pw_dc M pc e 1
  | .dup2 => pw_dc M pc e 1
  | .if_icmp _ o => pw_dc M pc e 3 && decide ((pc : Int) + o = (e.2.2.1.2 : Int))
  | .ifCond _ o => pw_dc M pc e 3 && decide ((pc : Int) + o = (e.2.2.1.2 : Int))
  | .ifnull o => pw_dc M pc e 3 && decide ((pc : Int) + o = (e.2.2.1.2 : Int))
  | .ifnonnull o => pw_dc M pc e 3 && decide ((pc : Int) + o = (e.2.2.1.2 : Int))
  | .goto o => pw_dc M pc e 3 && decide ((pc : Int) + o = (e.2.2.1.2 : Int))
  | .tableswitch d lo hi os => pw_dc M pc e (e.2.1.2 - pc) && decide ((pc : Int) + d = (e.2.2.1.2 : Int)) && pw_tsk pc lo os.toList e.2.2.2.2.2 && decide (hi + 1 = lo + (os.toList.length : Int))
  | .lookupswitch d ps => pw_dc M pc e (e.2.1.2 - pc) && decide ((pc : Int) + d = (e.2.2.1.2 : Int)) && pw_lsk pc ps.toList e.2.2.2.2.2 && (ps.toList.zip (ps.toList.drop 1)).all (fun (a, next) => decide (a.1 < next.1))
  | .getfield idx => pw_dc M pc e 3 && pw_fck M idx e
  | .putfield idx => pw_dc M pc e 3 && pw_fck M idx e && pw_pck M idx e
  | .iaload => pw_dc M pc e 1
  | .baload => pw_dc M pc e 1
  | .aaload => pw_dc M pc e 1
  | .iastore => pw_dc M pc e 1
  | .bastore => pw_dc M pc e 1
  | .aastore => pw_dc M pc e 1
  | .arraylength => pw_dc M pc e 1
  | .newarray a => pw_dc M pc e 2 && ((decide (a = .int) && decide (e.2.2.2.1.1 = 1)) || (decide (a = .boolean) && decide (e.2.2.2.1.1 = 2))) && pw_lkw e.2.2.2.2.1.2.2 (.arrayClass (newarray.typeOf a))
  | .anewarray idx => pw_dc M pc e 3 && ((decide (e.2.2.2.1.1 = 3) && pw_lkw e.2.2.2.2.1.2.2 (.classLink M.1.cls idx "ParkRows$Ride") && pw_lkn e.2.2.2.1.2.1 (.arrayOver (.object "ParkRows$Ride"))) || (decide (e.2.2.2.1.1 = 4) && pw_lkw e.2.2.2.2.1.2.2 (.classLink M.1.cls idx "ParkRows$Group") && pw_lkn e.2.2.2.1.2.1 (.arrayOver (.object "ParkRows$Group"))))
  | .new idx => pw_dc M pc e 3 && (match pw_cl[e.2.2.2.1.1]? with
    | some r => decide (e.2.2.2.1.2.1 = r.2.2) && pw_lkw e.2.2.2.2.1.2.2 (.classLink M.1.cls idx r.1) && pw_lkw e.2.2.2.2.1.1 (.instantiable r.1 r.2.2) && pw_lkw e.2.2.2.2.1.2.1 (.initialized r.1)
    | none => false)
  | .invokevirtual idx => pw_dc M pc e 3 && pw_cck M t idx e 1 1 && pw_clk e.2.2.1.2 (pw_md e.2.2.2.1.1).1.cls
  | .invokespecial idx => pw_dc M pc e 3 && (match e.2.2.2.1.1 with
    | 1001 => pw_lkw e.2.2.2.2.1.2.2 (.methodLink M.1.cls idx Lib.objectInit) && pw_lkw e.2.2.2.2.1.1 (.instanceMethod Lib.objectInit) && pw_lkw e.2.2.2.2.1.2.1 (.code Lib.objectInit ⟨#[0xb1]⟩ 1 none) && decide (1 ≤ M.2.2.2.2.1)
    | _ => pw_cck M t idx e 2 1)
  | .invokestatic idx => pw_dc M pc e 3 && (match e.2.2.2.1.1 with
    | 1000 => pw_lkw e.2.2.2.2.1.2.2 (.methodLink M.1.cls idx Lib.Math.max.name) && pw_lkw e.2.2.2.2.1.1 (.static Lib.Math.max.name) && pw_lkw e.2.2.2.2.1.2.1 (.initialized "java/lang/Math") && pw_lkw e.2.2.2.1.2.1 (.code Lib.Math.max.name Lib.Math.max.code 2 (some .int)) && decide (1 ≤ M.2.2.2.2.1)
    | _ => pw_cck M t idx e 0 0)
  | .ireturn => pw_dc M pc e 1 && ((decide (M.2.2.2.1 = some .int) && decide (e.2.2.2.1.2.2 = 0)) || (decide (M.2.2.2.1 = some .boolean) && decide (e.2.2.2.1.2.2 = 2)))
  | .areturn => pw_dc M pc e 1 && (match M.2.2.2.1 with
    | some (.object _) => true
    | _ => false)
  | .return_ => pw_dc M pc e 1 && decide (M.2.2.2.1 = none)
  | _ => false
theorem pw_dc_inv {M : pw_M} {pc : Nat} {e : pw_E} {L : Nat} (h : pw_dc M pc e L = true) : decode M.2.1 pc = .ok (e.1, L) ∧ e.2.1.2 = pc + L := by
  unfold pw_dc at h
  simp only [Bool.and_eq_true, decide_eq_true_eq] at h
  exact h
theorem pw_lkw_in {i : Nat} {w : Cond} (h : pw_lkw i w = true) : w ∈ pw_tb := by
  unfold pw_lkw at h
  simp only [Bool.and_eq_true, decide_eq_true_eq] at h
  exact List.mem_filter.mpr ⟨List.mem_of_getElem? h.1, h.2⟩
theorem pw_lkn_in {i : Nat} {w : Cond} (h : pw_lkn i w = true) : w ∈ pw_nl := by
  unfold pw_lkn at h
  simp only [Bool.and_eq_true, decide_eq_true_eq] at h
  exact List.mem_filter.mpr ⟨List.mem_of_getElem? h.1, h.2⟩
theorem pw_li_inv {o : Option pw_A} {f : Int32 → Prop} (h : pw_li o f) : ∃ x, o = some (.inl x) ∧ f x := by
  match o, h with
  | some (.inl x), h => exact ⟨x, rfl, h⟩
theorem pw_lr_inv {o : Option pw_A} {f : Nat → Prop} (h : pw_lr o f) : ∃ x, o = some (.inr x) ∧ f x := by
  match o, h with
  | some (.inr x), h => exact ⟨x, rfl, h⟩
theorem pw_s1_inv {st : List pw_A} {f : Int32 → List pw_A → Prop} (h : pw_s1 st f) : ∃ x r, st = .inl x :: r ∧ f x r := by
  match st, h with
  | .inl x :: r, h => exact ⟨x, r, rfl, h⟩
theorem pw_s2_inv {st : List pw_A} {f : Int32 → Int32 → List pw_A → Prop} (h : pw_s2 st f) : ∃ x y r, st = .inl y :: .inl x :: r ∧ f x y r := by
  match st, h with
  | .inl y :: .inl x :: r, h => exact ⟨x, y, r, rfl, h⟩
theorem pw_sr_inv {st : List pw_A} {f : Nat → List pw_A → Prop} (h : pw_sr st f) : ∃ x r, st = .inr x :: r ∧ f x r := by
  match st, h with
  | .inr x :: r, h => exact ⟨x, r, rfl, h⟩
theorem pw_sir_inv {st : List pw_A} {f : Nat → Int32 → List pw_A → Prop} (h : pw_sir st f) : ∃ n i r, st = .inl i :: .inr n :: r ∧ f n i r := by
  match st, h with
  | .inl i :: .inr n :: r, h => exact ⟨n, i, r, rfl, h⟩
theorem pw_siir_inv {st : List pw_A} {f : Nat → Int32 → Int32 → List pw_A → Prop} (h : pw_siir st f) : ∃ n i x r, st = .inl x :: .inl i :: .inr n :: r ∧ f n i x r := by
  match st, h with
  | .inl x :: .inl i :: .inr n :: r, h => exact ⟨n, i, x, r, rfl, h⟩
theorem pw_srir_inv {st : List pw_A} {f : Nat → Int32 → Nat → List pw_A → Prop} (h : pw_srir st f) : ∃ n i q r, st = .inr q :: .inl i :: .inr n :: r ∧ f n i q r := by
  match st, h with
  | .inr q :: .inl i :: .inr n :: r, h => exact ⟨n, i, q, r, rfl, h⟩
theorem pw_srr_inv {st : List pw_A} {f : Nat → Nat → List pw_A → Prop} (h : pw_srr st f) : ∃ n q r, st = .inr q :: .inr n :: r ∧ f n q r := by
  match st, h with
  | .inr q :: .inr n :: r, h => exact ⟨n, q, r, rfl, h⟩
theorem pw_sa_inv {st : List pw_A} {f : pw_A → List pw_A → Prop} (h : pw_sa st f) : ∃ v r, st = v :: r ∧ f v r := by
  match st, h with
  | v :: r, h => exact ⟨v, r, rfl, h⟩
theorem pw_cc_mono {c : Jvm.ClassFile.Cond} {x y : Int32} {A B A' B' : Prop} (h : pw_cc c x y A B) (ha : A → A') (hb : B → B') : pw_cc c x y A' B' := by
  cases c <;> exact ⟨fun q => ha (h.1 q), fun q => hb (h.2 q)⟩
theorem pw_C_mono {j : Nat} {as : List pw_A} {h : pw_Hp} {Q Q' : Option pw_A → pw_Hp → Prop} (hc : pw_C j as h Q) (hq : ∀ v h', Q v h' → Q' v h') : pw_C j as h Q' := by
  intro l Ω p e a1 a2 a3 s m args below a4 a5 a6 a7
  obtain ⟨n, o, b1, b2, b3, ⟨⟨v, h', c1, c2, c3⟩, c4⟩, b5⟩ := hc l Ω p e a1 a2 a3 s m args below a4 a5 a6 a7
  exact ⟨n, o, b1, b2, b3, ⟨⟨v, h', c1, hq v h' c2, c3⟩, c4⟩, b5⟩
theorem pw_ret_C {rk j : Nat} {as r : List pw_A} {h : pw_Hp} {k : List pw_A → pw_Hp → Prop} (hr : pw_ret rk j as r h k) : pw_C j as h (fun v h' => k (v.toList ++ r) h') := by
  match rk, hr with
  | 0, hr => exact pw_C_mono hr (fun v h' q => by obtain ⟨rfl, q⟩ := q; exact q)
  | 1, hr => exact pw_C_mono hr (fun v h' q => by obtain ⟨x, rfl, q⟩ := q; exact q)
  | n + 2, hr => exact pw_C_mono hr (fun v h' q => by obtain ⟨x, rfl, q⟩ := q; exact q)
theorem pw_tab_inv {pc : Nat} {x : Int32} {k : Bool × Nat → Prop} {d : Bool × Nat} : ∀ (sw : List (Int32 × (Bool × Nat))) (lo : Int) (os : List Int), pw_tsk pc lo os sw = true → pw_sw x k d sw →
    (∃ (i : Nat) (o : Int) (t : Bool × Nat), os[i]? = some o ∧ x.toInt = lo + (i : Int) ∧ (pc : Int) + o = (t.2 : Int) ∧ k t) ∨ ((x.toInt < lo ∨ lo + (os.length : Int) ≤ x.toInt) ∧ k d) := by
  intro sw
  induction sw with
  | nil =>
    intro lo os h1 h2
    cases os with
    | nil => exact Or.inr ⟨by simp; omega, h2⟩
    | cons o os => simp [pw_tsk] at h1
  | cons a sw ih =>
    intro lo os h1 h2
    cases os with
    | nil => simp [pw_tsk] at h1
    | cons o os =>
      simp only [pw_tsk, Bool.and_eq_true, decide_eq_true_eq] at h1
      obtain ⟨⟨g1, g2⟩, g3⟩ := h1
      by_cases hx : x = a.1
      · exact Or.inl ⟨0, o, a.2, rfl, by rw [hx, g1]; simp, g2, h2.1 hx⟩
      · have hne : x.toInt ≠ lo := fun q => hx (Int32.toInt_inj.mp (by rw [q, g1]))
        rcases ih (lo + 1) os g3 (h2.2 hx) with ⟨i, o', t, w1, w2, w3, w4⟩ | ⟨w1, w2⟩
        · exact Or.inl ⟨i + 1, o', t, by simpa using w1, by rw [w2]; omega, w3, w4⟩
        · refine Or.inr ⟨?_, w2⟩
          simp only [List.length_cons]
          omega
theorem pw_look_inv {pc : Nat} {x : Int32} {k : Bool × Nat → Prop} {d : Bool × Nat} {dflt : Int} (hd : (pc : Int) + dflt = (d.2 : Int)) : ∀ (sw : List (Int32 × (Bool × Nat))) (os : List (Int × Int)), pw_lsk pc os sw = true → pw_sw x k d sw →
    ∃ t : Bool × Nat, (pc : Int) + Op.lookupswitch.offset os dflt x.toInt = (t.2 : Int) ∧ k t := by
  intro sw
  induction sw with
  | nil =>
    intro os h1 h2
    cases os with
    | nil => exact ⟨d, by rw [Op.lookupswitch.offset_nil]; exact hd, h2⟩
    | cons o os => simp [pw_lsk] at h1
  | cons a sw ih =>
    intro os h1 h2
    cases os with
    | nil => simp [pw_lsk] at h1
    | cons o os =>
      obtain ⟨o1, o2⟩ := o
      simp only [pw_lsk, Bool.and_eq_true, decide_eq_true_eq] at h1
      obtain ⟨⟨g1, g2⟩, g3⟩ := h1
      by_cases hx : x = a.1
      · refine ⟨a.2, ?_, h2.1 hx⟩
        rw [Op.lookupswitch.offset_cons, if_pos (by rw [hx, g1])]
        exact g2
      · obtain ⟨t, w1, w2⟩ := ih os g3 (h2.2 hx)
        exact ⟨t, by rw [lv_osw hx g1]; exact w1, w2⟩
