/-! The real machine does what 'pw_stp' asks. -/
theorem pw_V0 (Ω : pw_O) : pw_V Ω (.inr 0) = .null := rfl
theorem pw_V1 (Ω : pw_O) : pw_V Ω (.inr 1) = .ref Ω.2.2.2 := rfl
theorem pw_V2 (Ω : pw_O) {n : Nat} (h : 2 ≤ n) : pw_V Ω (.inr n) = .ref (Ω.2.2.1 + (n - 2)) := by
  unfold pw_V
  simp only
  rw [if_neg (by omega), if_neg (by omega)]
theorem pw_Vr (Ω : pw_O) (n : Nat) : (n = 0 ∧ pw_V Ω (.inr n) = .null) ∨ (n ≠ 0 ∧ ∃ a, pw_V Ω (.inr n) = .ref a) := by
  by_cases h : n = 0
  · subst h; exact Or.inl ⟨rfl, rfl⟩
  · by_cases h1 : n = 1
    · subst h1; exact Or.inr ⟨h, _, rfl⟩
    · exact Or.inr ⟨h, _, pw_V2 Ω (by omega)⟩
theorem pw_Vc (Ω : pw_O) (v : pw_A) : (pw_V Ω v).category = 1 := by
  cases v with
  | inl x => rfl
  | inr n => rcases pw_Vr Ω n with ⟨-, h⟩ | ⟨-, a, h⟩ <;> rw [h] <;> rfl
theorem pw_sumc (Ω : pw_O) (st : List pw_A) : ((st.map (pw_V Ω)).map fun v => v.category).sum = st.length := by
  induction st with
  | nil => rfl
  | cons a r ih => simp only [List.map_cons, List.sum_cons, List.length_cons, pw_Vc, ih]; omega
theorem pw_kin {Ω : pw_O} {s : State} {h : pw_Hp} {H : Heap} (hH : pw_H Ω s h H) {n : Nat} (h0 : pw_k h n ≠ 0) (h5 : pw_k h n ≠ 5) : 2 ≤ n ∧ n < h.1 + 2 ∧ pw_V Ω (.inr n) = .ref (Ω.2.2.1 + (n - 2)) := by
  rcases hH.2.1 n h0 with ⟨-, h⟩ | ⟨h1, h2, -⟩
  · exact absurd h h5
  · exact ⟨h1, h2, pw_V2 Ω h1⟩
/-- the locals as the kit lists them -/
def pw_lv (Ω : pw_O) (ls : pw_Ls) : List (Nat × Value) := (List.range ls.length).filterMap (fun k => (pw_nth k ls).map (fun v => (k, pw_V Ω v)))
theorem pw_lv_in {Ω : pw_O} {ls : pw_Ls} {k : Nat} {v : pw_A} (h : pw_nth k ls = some v) : (k, pw_V Ω v) ∈ pw_lv Ω ls := by
  have hk : k < ls.length := by
    unfold pw_nth at h
    rcases Nat.lt_or_ge k ls.length with q | q
    · exact q
    · rw [List.getElem?_eq_none q] at h
      cases h
  exact List.mem_filterMap.mpr ⟨k, List.mem_range.mpr hk, by rw [h]; rfl⟩
theorem pw_lv_of {Ω : pw_O} {ls : pw_Ls} {q : Nat × Value} (h : q ∈ pw_lv Ω ls) : ∃ v, pw_nth q.1 ls = some v ∧ q.2 = pw_V Ω v := by
  obtain ⟨k, -, h2⟩ := List.mem_filterMap.mp h
  cases hn : pw_nth k ls with
  | none => rw [hn] at h2; cases h2
  | some v =>
    rw [hn] at h2
    cases h2
    exact ⟨v, hn, rfl⟩
theorem pw_L_has {Ω : pw_O} {Sl : Array Slot} {n : Nat} {ls : pw_Ls} (h : pw_L Ω Sl n ls) : lv_has Sl n (pw_lv Ω ls) := by
  refine ⟨h.1, h.2.1, fun q hq => ?_⟩
  obtain ⟨v, h1, h2⟩ := pw_lv_of hq
  rw [h2]
  exact h.2.2.1 _ _ h1
theorem pw_nth_set {ls : pw_Ls} {i k : Nat} {v : pw_A} (hi : i < ls.length) : pw_nth k (ls.set i (some v)) = if k = i then some v else pw_nth k ls := by
  unfold pw_nth
  by_cases h : k = i
  · subst h
    rw [if_pos rfl, List.getElem?_set_self hi]
    rfl
  · rw [if_neg h, List.getElem?_set_ne (Ne.symm h)]
theorem pw_L_set {Ω : pw_O} {Sl Sl' : Array Slot} {n i : Nat} {ls : pw_Ls} {v : pw_A} (h : pw_L Ω Sl n ls) (hi : i < n) (h' : lv_has Sl' n ((i, pw_V Ω v) :: (pw_lv Ω ls).filter (fun q => !(q.1 == i) && !(q.1 + 1 == i && q.2.category == 2)))) : pw_L Ω Sl' n (ls.set i (some v)) := by
  have hl : i < ls.length := by rw [h.2.2.2]; exact hi
  refine ⟨h'.1, h'.2.1, fun k w hk => ?_, by rw [List.length_set]; exact h.2.2.2⟩
  rw [pw_nth_set hl] at hk
  by_cases hki : k = i
  · rw [if_pos hki] at hk
    cases hk
    subst hki
    exact h'.2.2 (k, pw_V Ω v) List.mem_cons_self
  · rw [if_neg hki] at hk
    refine h'.2.2 (k, pw_V Ω w) (List.mem_cons_of_mem _ (List.mem_filter.mpr ⟨pw_lv_in hk, ?_⟩))
    simp [hki, pw_Vc]
section PWX
variable {M : pw_M} {Q : Option pw_A → pw_Hp → Prop} {pc : Nat} {ls : pw_Ls} {st : List pw_A} {h : pw_Hp} {bc bs : Nat}
theorem pw_x_iload_n {k : Fin 4} {x : Int32} (hd : decode M.2.1 pc = .ok (.iload_n k, 1)) (hl : pw_nth k.val ls = some (.inl x)) (hk : pw_J M Q (pc + 1) ls (.inl x :: st) h bc bs) : pw_J M Q pc ls st h bc bs := by
  intro p l e R s m args below meth c Z Ω C H locs cells slots Sl hH hS hc hs hL
  exact lv_iload_n C.1 C.2.1 hd rfl (hL.2.2.1 _ _ hl) (hk p l e R s m args below meth c Z Ω C H locs cells slots Sl hH hS hc hs hL)
theorem pw_x_iload {k : Nat} {x : Int32} (hd : decode M.2.1 pc = .ok (.iload k, 2)) (hl : pw_nth k ls = some (.inl x)) (hk : pw_J M Q (pc + 2) ls (.inl x :: st) h bc bs) : pw_J M Q pc ls st h bc bs := by
  intro p l e R s m args below meth c Z Ω C H locs cells slots Sl hH hS hc hs hL
  exact lv_iload C.1 C.2.1 hd (hL.2.2.1 _ _ hl) (hk p l e R s m args below meth c Z Ω C H locs cells slots Sl hH hS hc hs hL)
theorem pw_x_aload_n {k : Fin 4} {x : Nat} (hd : decode M.2.1 pc = .ok (.aload_n k, 1)) (hl : pw_nth k.val ls = some (.inr x)) (hk : pw_J M Q (pc + 1) ls (.inr x :: st) h bc bs) : pw_J M Q pc ls st h bc bs := by
  intro p l e R s m args below meth c Z Ω C H locs cells slots Sl hH hS hc hs hL
  have h1 := hL.2.2.1 _ _ hl
  have h2 := hk p l e R s m args below meth c Z Ω C H locs cells slots Sl hH hS hc hs hL
  rw [List.map_cons] at h2
  rcases pw_Vr Ω x with ⟨-, hv⟩ | ⟨-, a, hv⟩
  · rw [hv] at h1 h2
    exact lv_aload_nN C.1 C.2.1 hd rfl h1 h2
  · rw [hv] at h1 h2
    exact lv_aload_n C.1 C.2.1 hd rfl h1 h2
theorem pw_x_aload {k : Nat} {x : Nat} (hd : decode M.2.1 pc = .ok (.aload k, 2)) (hl : pw_nth k ls = some (.inr x)) (hk : pw_J M Q (pc + 2) ls (.inr x :: st) h bc bs) : pw_J M Q pc ls st h bc bs := by
  intro p l e R s m args below meth c Z Ω C H locs cells slots Sl hH hS hc hs hL
  have h1 := hL.2.2.1 _ _ hl
  have h2 := hk p l e R s m args below meth c Z Ω C H locs cells slots Sl hH hS hc hs hL
  rw [List.map_cons] at h2
  rcases pw_Vr Ω x with ⟨-, hv⟩ | ⟨-, a, hv⟩
  · rw [hv] at h1 h2
    exact lv_aloadN C.1 C.2.1 hd h1 h2
  · rw [hv] at h1 h2
    exact lv_aload C.1 C.2.1 hd h1 h2
theorem pw_x_istore_n {k : Fin 4} {x : Int32} (hd : decode M.2.1 pc = .ok (.istore_n k, 1)) (hn : k.val < M.2.2.1) (hk : pw_J M Q (pc + 1) (ls.set k.val (some (.inl x))) st h bc bs) : pw_J M Q pc ls (.inl x :: st) h bc bs := by
  intro p l e R s m args below meth c Z Ω C H locs cells slots Sl hH hS hc hs hL
  exact lv_istore_n C.1 C.2.1 hd rfl (pw_L_has hL) hn rfl (fun Sl' hl' => hk p l e R s m args below meth c Z Ω C H locs cells slots Sl' hH hS hc hs (pw_L_set hL hn hl'))
theorem pw_x_istore {k : Nat} {x : Int32} (hd : decode M.2.1 pc = .ok (.istore k, 2)) (hn : k < M.2.2.1) (hk : pw_J M Q (pc + 2) (ls.set k (some (.inl x))) st h bc bs) : pw_J M Q pc ls (.inl x :: st) h bc bs := by
  intro p l e R s m args below meth c Z Ω C H locs cells slots Sl hH hS hc hs hL
  exact lv_istore C.1 C.2.1 hd (pw_L_has hL) hn rfl (fun Sl' hl' => hk p l e R s m args below meth c Z Ω C H locs cells slots Sl' hH hS hc hs (pw_L_set hL hn hl'))
theorem pw_x_astore_n {k : Fin 4} {x : Nat} (hd : decode M.2.1 pc = .ok (.astore_n k, 1)) (hn : k.val < M.2.2.1) (hk : pw_J M Q (pc + 1) (ls.set k.val (some (.inr x))) st h bc bs) : pw_J M Q pc ls (.inr x :: st) h bc bs := by
  intro p l e R s m args below meth c Z Ω C H locs cells slots Sl hH hS hc hs hL
  have key := fun Sl' hl' => hk p l e R s m args below meth c Z Ω C H locs cells slots Sl' hH hS hc hs (pw_L_set (v := .inr x) hL hn hl')
  rw [List.map_cons]
  rcases pw_Vr Ω x with ⟨-, hv⟩ | ⟨-, a, hv⟩
  · rw [hv] at key ⊢
    exact lv_astore_nN C.1 C.2.1 hd rfl (pw_L_has hL) hn rfl key
  · rw [hv] at key ⊢
    exact lv_astore_n C.1 C.2.1 hd rfl (pw_L_has hL) hn rfl key
theorem pw_x_astore {k : Nat} {x : Nat} (hd : decode M.2.1 pc = .ok (.astore k, 2)) (hn : k < M.2.2.1) (hk : pw_J M Q (pc + 2) (ls.set k (some (.inr x))) st h bc bs) : pw_J M Q pc ls (.inr x :: st) h bc bs := by
  intro p l e R s m args below meth c Z Ω C H locs cells slots Sl hH hS hc hs hL
  have key := fun Sl' hl' => hk p l e R s m args below meth c Z Ω C H locs cells slots Sl' hH hS hc hs (pw_L_set (v := .inr x) hL hn hl')
  rw [List.map_cons]
  rcases pw_Vr Ω x with ⟨-, hv⟩ | ⟨-, a, hv⟩
  · rw [hv] at key ⊢
    exact lv_astoreN C.1 C.2.1 hd (pw_L_has hL) hn rfl key
  · rw [hv] at key ⊢
    exact lv_astore C.1 C.2.1 hd (pw_L_has hL) hn rfl key
theorem pw_x_iinc {k : Nat} {n : Int} {x v : Int32} (hd : decode M.2.1 pc = .ok (.iinc k n, 3)) (hl : pw_nth k ls = some (.inl x)) (hn : k < M.2.2.1) (hv : Int32.ofInt n = v) (hk : pw_J M Q (pc + 3) (ls.set k (some (.inl (x + v)))) st h bc bs) : pw_J M Q pc ls st h bc bs := by
  intro p l e R s m args below meth c Z Ω C H locs cells slots Sl hH hS hc hs hL
  subst hv
  obtain ⟨i, hi⟩ := List.getElem?_of_mem (pw_lv_in (Ω := Ω) hl)
  exact lv_iinc C.1 C.2.1 hd (pw_L_has hL) hi rfl hn rfl (fun Sl' hl' => hk p l e R s m args below meth c Z Ω C H locs cells slots Sl' hH hS hc hs (pw_L_set (v := .inl (x + Int32.ofInt n)) hL hn hl'))
theorem pw_x_iconst {n : Int} {v : Int32} (hd : decode M.2.1 pc = .ok (.iconst n, 1)) (hv : Int32.ofInt n = v) (hk : pw_J M Q (pc + 1) ls (.inl v :: st) h bc bs) : pw_J M Q pc ls st h bc bs := by
  intro p l e R s m args below meth c Z Ω C H locs cells slots Sl hH hS hc hs hL
  exact lv_iconst C.1 C.2.1 hd hv (hk p l e R s m args below meth c Z Ω C H locs cells slots Sl hH hS hc hs hL)
theorem pw_x_bipush {n : Int} {v : Int32} (hd : decode M.2.1 pc = .ok (.bipush n, 2)) (hv : (Int8.ofInt n).toInt32 = v) (hk : pw_J M Q (pc + 2) ls (.inl v :: st) h bc bs) : pw_J M Q pc ls st h bc bs := by
  intro p l e R s m args below meth c Z Ω C H locs cells slots Sl hH hS hc hs hL
  exact lv_bipush C.1 C.2.1 hd hv (hk p l e R s m args below meth c Z Ω C H locs cells slots Sl hH hS hc hs hL)
theorem pw_x_sipush {n : Int} {v : Int32} (hd : decode M.2.1 pc = .ok (.sipush n, 3)) (hv : (Int16.ofInt n).toInt32 = v) (hk : pw_J M Q (pc + 3) ls (.inl v :: st) h bc bs) : pw_J M Q pc ls st h bc bs := by
  intro p l e R s m args below meth c Z Ω C H locs cells slots Sl hH hS hc hs hL
  exact lv_sipush C.1 C.2.1 hd hv (hk p l e R s m args below meth c Z Ω C H locs cells slots Sl hH hS hc hs hL)
theorem pw_x_null (hd : decode M.2.1 pc = .ok (.aconst_null, 1)) (hk : pw_J M Q (pc + 1) ls (.inr 0 :: st) h bc bs) : pw_J M Q pc ls st h bc bs := by
  intro p l e R s m args below meth c Z Ω C H locs cells slots Sl hH hS hc hs hL
  exact lv_null C.1 C.2.1 hd (hk p l e R s m args below meth c Z Ω C H locs cells slots Sl hH hS hc hs hL)
theorem pw_x_iadd {x y : Int32} (hd : decode M.2.1 pc = .ok (.iadd, 1)) (hk : pw_J M Q (pc + 1) ls (.inl (x + y) :: st) h bc bs) : pw_J M Q pc ls (.inl y :: .inl x :: st) h bc bs := by
  intro p l e R s m args below meth c Z Ω C H locs cells slots Sl hH hS hc hs hL
  exact lv_iadd C.1 C.2.1 hd (hk p l e R s m args below meth c Z Ω C H locs cells slots Sl hH hS hc hs hL)
theorem pw_x_isub {x y : Int32} (hd : decode M.2.1 pc = .ok (.isub, 1)) (hk : pw_J M Q (pc + 1) ls (.inl (x - y) :: st) h bc bs) : pw_J M Q pc ls (.inl y :: .inl x :: st) h bc bs := by
  intro p l e R s m args below meth c Z Ω C H locs cells slots Sl hH hS hc hs hL
  exact lv_isub C.1 C.2.1 hd (hk p l e R s m args below meth c Z Ω C H locs cells slots Sl hH hS hc hs hL)
theorem pw_x_imul {x y : Int32} (hd : decode M.2.1 pc = .ok (.imul, 1)) (hk : pw_J M Q (pc + 1) ls (.inl (x * y) :: st) h bc bs) : pw_J M Q pc ls (.inl y :: .inl x :: st) h bc bs := by
  intro p l e R s m args below meth c Z Ω C H locs cells slots Sl hH hS hc hs hL
  exact lv_imul C.1 C.2.1 hd (hk p l e R s m args below meth c Z Ω C H locs cells slots Sl hH hS hc hs hL)
theorem pw_x_iand {x y : Int32} (hd : decode M.2.1 pc = .ok (.iand, 1)) (hk : pw_J M Q (pc + 1) ls (.inl (x &&& y) :: st) h bc bs) : pw_J M Q pc ls (.inl y :: .inl x :: st) h bc bs := by
  intro p l e R s m args below meth c Z Ω C H locs cells slots Sl hH hS hc hs hL
  exact lv_iand C.1 C.2.1 hd (hk p l e R s m args below meth c Z Ω C H locs cells slots Sl hH hS hc hs hL)
theorem pw_x_idiv {x y : Int32} (hd : decode M.2.1 pc = .ok (.idiv, 1)) (h0 : ¬ y = 0) (hk : pw_J M Q (pc + 1) ls (.inl (x / y) :: st) h bc bs) : pw_J M Q pc ls (.inl y :: .inl x :: st) h bc bs := by
  intro p l e R s m args below meth c Z Ω C H locs cells slots Sl hH hS hc hs hL
  exact lv_idiv C.1 C.2.1 hd h0 (hk p l e R s m args below meth c Z Ω C H locs cells slots Sl hH hS hc hs hL)
theorem pw_x_irem {x y : Int32} (hd : decode M.2.1 pc = .ok (.irem, 1)) (h0 : ¬ y = 0) (hk : pw_J M Q (pc + 1) ls (.inl (x - x / y * y) :: st) h bc bs) : pw_J M Q pc ls (.inl y :: .inl x :: st) h bc bs := by
  intro p l e R s m args below meth c Z Ω C H locs cells slots Sl hH hS hc hs hL
  exact lv_irem C.1 C.2.1 hd h0 (hk p l e R s m args below meth c Z Ω C H locs cells slots Sl hH hS hc hs hL)
theorem pw_x_ineg {x : Int32} (hd : decode M.2.1 pc = .ok (.ineg, 1)) (hk : pw_J M Q (pc + 1) ls (.inl (-x) :: st) h bc bs) : pw_J M Q pc ls (.inl x :: st) h bc bs := by
  intro p l e R s m args below meth c Z Ω C H locs cells slots Sl hH hS hc hs hL
  exact lv_ineg C.1 C.2.1 hd (hk p l e R s m args below meth c Z Ω C H locs cells slots Sl hH hS hc hs hL)
theorem pw_x_dup {v : pw_A} (hd : decode M.2.1 pc = .ok (.dup, 1)) (hk : pw_J M Q (pc + 1) ls (v :: v :: st) h bc bs) : pw_J M Q pc ls (v :: st) h bc bs := by
  intro p l e R s m args below meth c Z Ω C H locs cells slots Sl hH hS hc hs hL
  exact lv_dup C.1 C.2.1 hd (pw_Vc Ω v) (hk p l e R s m args below meth c Z Ω C H locs cells slots Sl hH hS hc hs hL)
theorem pw_x_pop {v : pw_A} (hd : decode M.2.1 pc = .ok (.pop, 1)) (hk : pw_J M Q (pc + 1) ls st h bc bs) : pw_J M Q pc ls (v :: st) h bc bs := by
  intro p l e R s m args below meth c Z Ω C H locs cells slots Sl hH hS hc hs hL
  exact lv_pop C.1 C.2.1 hd (pw_Vc Ω v) (hk p l e R s m args below meth c Z Ω C H locs cells slots Sl hH hS hc hs hL)
theorem pw_x_dup2 {v w : pw_A} (hd : decode M.2.1 pc = .ok (.dup2, 1)) (hk : pw_J M Q (pc + 1) ls (v :: w :: v :: w :: st) h bc bs) : pw_J M Q pc ls (v :: w :: st) h bc bs := by
  intro p l e R s m args below meth c Z Ω C H locs cells slots Sl hH hS hc hs hL
  exact lv_dup2_11 C.1 C.2.1 hd (pw_Vc Ω v) (pw_Vc Ω w) (hk p l e R s m args below meth c Z Ω C H locs cells slots Sl hH hS hc hs hL)
theorem pw_x_icmp {cd : Jvm.ClassFile.Cond} {x y : Int32} {off : Int} {tgt : Nat} (hd : decode M.2.1 pc = .ok (.if_icmp cd off, 3)) (ht : (pc : Int) + off = (tgt : Int)) (hk : pw_cc cd x y (pw_J M Q tgt ls st h bc bs) (pw_J M Q (pc + 3) ls st h bc bs)) : pw_J M Q pc ls (.inl y :: .inl x :: st) h bc bs := by
  intro p l e R s m args below meth c Z Ω C H locs cells slots Sl hH hS hc hs hL
  cases cd with
  | eq => exact lv_icmp_eq C.1 C.2.1 hd ht (fun q => hk.1 q p l e R s m args below meth c Z Ω C H locs cells slots Sl hH hS hc hs hL) (fun q => hk.2 q p l e R s m args below meth c Z Ω C H locs cells slots Sl hH hS hc hs hL)
  | ne => exact lv_icmp_ne C.1 C.2.1 hd ht (fun q => hk.1 q p l e R s m args below meth c Z Ω C H locs cells slots Sl hH hS hc hs hL) (fun q => hk.2 q p l e R s m args below meth c Z Ω C H locs cells slots Sl hH hS hc hs hL)
  | lt => exact lv_icmp_lt C.1 C.2.1 hd ht (fun q => hk.1 q p l e R s m args below meth c Z Ω C H locs cells slots Sl hH hS hc hs hL) (fun q => hk.2 q p l e R s m args below meth c Z Ω C H locs cells slots Sl hH hS hc hs hL)
  | ge => exact lv_icmp_ge C.1 C.2.1 hd ht (fun q => hk.1 q p l e R s m args below meth c Z Ω C H locs cells slots Sl hH hS hc hs hL) (fun q => hk.2 q p l e R s m args below meth c Z Ω C H locs cells slots Sl hH hS hc hs hL)
  | gt => exact lv_icmp_gt C.1 C.2.1 hd ht (fun q => hk.1 q p l e R s m args below meth c Z Ω C H locs cells slots Sl hH hS hc hs hL) (fun q => hk.2 q p l e R s m args below meth c Z Ω C H locs cells slots Sl hH hS hc hs hL)
  | le => exact lv_icmp_le C.1 C.2.1 hd ht (fun q => hk.1 q p l e R s m args below meth c Z Ω C H locs cells slots Sl hH hS hc hs hL) (fun q => hk.2 q p l e R s m args below meth c Z Ω C H locs cells slots Sl hH hS hc hs hL)
theorem pw_x_if {cd : Jvm.ClassFile.Cond} {x : Int32} {off : Int} {tgt : Nat} (hd : decode M.2.1 pc = .ok (.ifCond cd off, 3)) (ht : (pc : Int) + off = (tgt : Int)) (hk : pw_cc cd x 0 (pw_J M Q tgt ls st h bc bs) (pw_J M Q (pc + 3) ls st h bc bs)) : pw_J M Q pc ls (.inl x :: st) h bc bs := by
  intro p l e R s m args below meth c Z Ω C H locs cells slots Sl hH hS hc hs hL
  cases cd with
  | eq => exact lv_if_eq C.1 C.2.1 hd ht (fun q => hk.1 q p l e R s m args below meth c Z Ω C H locs cells slots Sl hH hS hc hs hL) (fun q => hk.2 q p l e R s m args below meth c Z Ω C H locs cells slots Sl hH hS hc hs hL)
  | ne => exact lv_if_ne C.1 C.2.1 hd ht (fun q => hk.1 q p l e R s m args below meth c Z Ω C H locs cells slots Sl hH hS hc hs hL) (fun q => hk.2 q p l e R s m args below meth c Z Ω C H locs cells slots Sl hH hS hc hs hL)
  | lt => exact lv_if_lt C.1 C.2.1 hd ht (fun q => hk.1 q p l e R s m args below meth c Z Ω C H locs cells slots Sl hH hS hc hs hL) (fun q => hk.2 q p l e R s m args below meth c Z Ω C H locs cells slots Sl hH hS hc hs hL)
  | ge => exact lv_if_ge C.1 C.2.1 hd ht (fun q => hk.1 q p l e R s m args below meth c Z Ω C H locs cells slots Sl hH hS hc hs hL) (fun q => hk.2 q p l e R s m args below meth c Z Ω C H locs cells slots Sl hH hS hc hs hL)
  | gt => exact lv_if_gt C.1 C.2.1 hd ht (fun q => hk.1 q p l e R s m args below meth c Z Ω C H locs cells slots Sl hH hS hc hs hL) (fun q => hk.2 q p l e R s m args below meth c Z Ω C H locs cells slots Sl hH hS hc hs hL)
  | le => exact lv_if_le C.1 C.2.1 hd ht (fun q => hk.1 q p l e R s m args below meth c Z Ω C H locs cells slots Sl hH hS hc hs hL) (fun q => hk.2 q p l e R s m args below meth c Z Ω C H locs cells slots Sl hH hS hc hs hL)
theorem pw_x_ifnull {n : Nat} {off : Int} {tgt : Nat} (hd : decode M.2.1 pc = .ok (.ifnull off, 3)) (ht : (pc : Int) + off = (tgt : Int)) (hk : (n = 0 → pw_J M Q tgt ls st h bc bs) ∧ (¬ n = 0 → pw_J M Q (pc + 3) ls st h bc bs)) : pw_J M Q pc ls (.inr n :: st) h bc bs := by
  intro p l e R s m args below meth c Z Ω C H locs cells slots Sl hH hS hc hs hL
  rw [List.map_cons]
  rcases pw_Vr Ω n with ⟨h0, hv⟩ | ⟨h0, a, hv⟩
  · rw [hv]
    exact lv_ifnullN C.1 C.2.1 hd ht (hk.1 h0 p l e R s m args below meth c Z Ω C H locs cells slots Sl hH hS hc hs hL)
  · rw [hv]
    exact lv_ifnull C.1 C.2.1 hd (hk.2 h0 p l e R s m args below meth c Z Ω C H locs cells slots Sl hH hS hc hs hL)
theorem pw_x_ifnonnull {n : Nat} {off : Int} {tgt : Nat} (hd : decode M.2.1 pc = .ok (.ifnonnull off, 3)) (ht : (pc : Int) + off = (tgt : Int)) (hk : (¬ n = 0 → pw_J M Q tgt ls st h bc bs) ∧ (n = 0 → pw_J M Q (pc + 3) ls st h bc bs)) : pw_J M Q pc ls (.inr n :: st) h bc bs := by
  intro p l e R s m args below meth c Z Ω C H locs cells slots Sl hH hS hc hs hL
  rw [List.map_cons]
  rcases pw_Vr Ω n with ⟨h0, hv⟩ | ⟨h0, a, hv⟩
  · rw [hv]
    exact lv_ifnonnullN C.1 C.2.1 hd (hk.2 h0 p l e R s m args below meth c Z Ω C H locs cells slots Sl hH hS hc hs hL)
  · rw [hv]
    exact lv_ifnonnull C.1 C.2.1 hd ht (hk.1 h0 p l e R s m args below meth c Z Ω C H locs cells slots Sl hH hS hc hs hL)
theorem pw_x_goto {off : Int} {tgt : Nat} (hd : decode M.2.1 pc = .ok (.goto off, 3)) (ht : (pc : Int) + off = (tgt : Int)) (hk : pw_J M Q tgt ls st h bc bs) : pw_J M Q pc ls st h bc bs := by
  intro p l e R s m args below meth c Z Ω C H locs cells slots Sl hH hS hc hs hL
  exact lv_goto C.1 C.2.1 hd ht (hk p l e R s m args below meth c Z Ω C H locs cells slots Sl hH hS hc hs hL)
theorem pw_x_iret {v : Int32} (hd : decode M.2.1 pc = .ok (.ireturn, 1)) (hr : pw_rv M v) (hk : Q (some (.inl v)) h) : pw_J M Q pc ls [.inl v] h bc bs := by
  intro p l e R s m args below meth c Z Ω C H locs cells slots Sl hH hS hc hs hL
  exact W.widen (by omega) (by omega) ((C.2.2.2.2.2.2.2.2.2 H locs Sl pc h hS hH).1 v hd hr hk)
theorem pw_x_aret {v : Nat} (hd : decode M.2.1 pc = .ok (.areturn, 1)) (hr : ∃ C, M.2.2.2.1 = some (.object C)) (hk : Q (some (.inr v)) h) : pw_J M Q pc ls [.inr v] h bc bs := by
  intro p l e R s m args below meth c Z Ω C H locs cells slots Sl hH hS hc hs hL
  exact W.widen (by omega) (by omega) ((C.2.2.2.2.2.2.2.2.2 H locs Sl pc h hS hH).2.1 v hd hr hk)
theorem pw_x_vret (hd : decode M.2.1 pc = .ok (.return_, 1)) (hr : M.2.2.2.1 = none) (hk : Q none h) : pw_J M Q pc ls [] h bc bs := by
  intro p l e R s m args below meth c Z Ω C H locs cells slots Sl hH hS hc hs hL
  exact W.widen (by omega) (by omega) ((C.2.2.2.2.2.2.2.2.2 H locs Sl pc h hS hH).2.2 hd hr hk)
end PWX
