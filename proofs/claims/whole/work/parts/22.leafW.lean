/-! Row: a list of numbers. -/
def ps_Rw (σ : ps_S) (a : Nat) (L : List Nat) : Prop := σ a 1 = nI L.length ∧ L.length ≤ 60 ∧ ∀ (i x : Nat), L[i]? = some x → σ (a + 1) i = nI x
theorem ps_Rw_same {σ τ : ps_S} {a : Nat} {L : List Nat} (h : ps_Rw σ a L) (h1 : τ a = σ a) (h2 : τ (a + 1) = σ (a + 1)) : ps_Rw τ a L := by
  unfold ps_Rw
  rw [h1, h2]
  exact h
theorem ps_Rw_app {σ : ps_S} {a g : Nat} {L : List Nat} (h : ps_Rw σ a L) (h6 : L.length < 60) : ps_Rw (ps_up (ps_up σ (a + 1) L.length (nI g)) a 1 (nI (L.length + 1))) a (L ++ [g]) := by
  refine ⟨by rw [ps_up_s]; simp, by simp; omega, fun i x hx => ?_⟩
  rw [ps_up_n (Or.inl (by omega))]
  by_cases hi : i < L.length
  · rw [List.getElem?_append_left hi] at hx
    rw [ps_up_n (Or.inr (by omega))]
    exact h.2.2 i x hx
  · rw [List.getElem?_append_right (by omega)] at hx
    have h0 : i - L.length < 1 := (List.getElem?_eq_some_iff.mp hx).1
    have hi2 : i = L.length := by omega
    subst hi2
    rw [Nat.sub_self] at hx
    cases hx
    rw [ps_up_s]
section PSW
variable {h : pw_Hp} {σ : ps_S} {a : Nat} {L : List Nat}
set_option maxHeartbeats 4000000 in
set_option maxRecDepth 100000 in
theorem c_W_at {i x : Nat} {k : Int32 → pw_Hp → Prop} (hw : ps_WS h a) (hR : ps_Rw σ a L) (hx : L[i]? = some x) (hk : k (nI x) (pw_st h σ)) : pw_Ci 9 [.inr a, .inl (nI i)] (pw_st h σ) k := by
  have hi : i < L.length := (List.getElem?_eq_some_iff.mp hx).1
  obtain ⟨r1, r2, r3⟩ := hR
  have e := r3 i x hx
  unfold ps_WS at hw
  refine pw_intro (M := pm_W_at) rfl (by decide) (Nat.le_of_ble_eq_true rfl) (ls := [some (.inr a), some (.inl (nI i))]) rfl ?_
  refine pw_sound pw_tok pk_W_at 400 _ _ _ _ _ _ ?_
  simp only [pv_all, pv_stp, pe_W_at, pv_st, Nat.reduceAdd, eq_self, true_and, and_true, true_or, or_true, hw, r1]
  simp (disch := omega) only [pn_c, pn_lt, pn_le, pn_at, pn_cl, e]
  exact ⟨fun q => absurd q (by omega), fun _ => ⟨fun q => absurd q (by omega), fun _ => ⟨fun q => absurd q (by omega), fun _ => ⟨by omega, hk⟩⟩⟩⟩
set_option maxHeartbeats 4000000 in
set_option maxRecDepth 100000 in
theorem c_W_at_o {y : Int32} {k : Int32 → pw_Hp → Prop} (hw : ps_WS h a) (hR : ps_Rw σ a L) (hy : y < 0 ∨ nI L.length ≤ y) (hk : k (-9) (pw_st h σ)) : pw_Ci 9 [.inr a, .inl y] (pw_st h σ) k := by
  obtain ⟨r1, r2, r3⟩ := hR
  unfold ps_WS at hw
  refine pw_intro (M := pm_W_at) rfl (by decide) (Nat.le_of_ble_eq_true rfl) (ls := [some (.inr a), some (.inl y)]) rfl ?_
  refine pw_sound pw_tok pk_W_at 400 _ _ _ _ _ _ ?_
  simp only [pv_all, pv_stp, pe_W_at, pv_st, Nat.reduceAdd, eq_self, true_and, and_true, true_or, or_true, hw, r1]
  exact ⟨fun _ => hk, fun q => ⟨fun _ => hk, fun q2 => absurd hy (fun z => z.elim q q2)⟩⟩
set_option maxHeartbeats 4000000 in
set_option maxRecDepth 100000 in
theorem c_W_append {g : Nat} {k : Int32 → pw_Hp → Prop} (hw : ps_WS h a) (hR : ps_Rw σ a L) (h6 : L.length < 60) (hk : k (nI L.length) (pw_st h (ps_up (ps_up σ (a + 1) L.length (nI g)) a 1 (nI (L.length + 1))))) : pw_Ci 10 [.inr a, .inl (nI g)] (pw_st h σ) k := by
  obtain ⟨r1, r2, r3⟩ := hR
  have e1 : ps_up σ (a + 1) L.length (nI g) a 1 = nI L.length := by rw [ps_up_n (Or.inl (by omega))]; exact r1
  unfold ps_WS at hw
  refine pw_intro (M := pm_W_append) rfl (by decide) (Nat.le_of_ble_eq_true rfl) (ls := [some (.inr a), some (.inl (nI g))]) rfl ?_
  refine pw_sound pw_tok pk_W_append 400 _ _ _ _ _ _ ?_
  simp only [pv_all, pv_stp, pe_W_append, pv_st, Nat.reduceAdd, eq_self, true_and, and_true, true_or, or_true, hw, r1]
  simp (disch := omega) only [pn_c, pn_lt, pn_le, pn_at, pn_cl, pn_add, e1, ps_up_s, pn_sub, Nat.add_sub_cancel]
  exact ⟨fun q => absurd q (by omega), fun _ => ⟨fun _ => ⟨by omega, hk⟩, fun q => absurd h6 q⟩⟩
set_option maxHeartbeats 4000000 in
set_option maxRecDepth 100000 in
theorem c_W_placeOf_2 {g i : Nat} {k : Int32 → pw_Hp → Prop} (hw : ps_WS h a) (hR : ps_Rw σ a L) (hL : ∀ x ∈ L, x < 60) (hg : g < 60) (hi : L[i]? = some g) (hf : ∀ j, j < i → L[j]? ≠ some g) (hk : k (nI i) (pw_st h σ)) :
    ∀ (n j : Nat), j + n = i → pw_J pm_W_placeOf (pw_qi k) 2 [some (.inr a), some (.inl (nI g)), some (.inl (nI j))] [] (pw_st h σ) 0 0 := by
  have hil : i < L.length := (List.getElem?_eq_some_iff.mp hi).1
  have hw' := hw
  unfold ps_WS at hw'
  have r1 := hR.1
  have r2 := hR.2.1
  intro n
  induction n with
  | zero =>
    intro j hj
    refine pw_sound pw_tok pk_W_placeOf 400 _ _ _ _ _ _ ?_
    simp only [pv_all, pv_stp, pe_W_placeOf, pv_st, Nat.reduceAdd, eq_self, true_and, and_true, true_or, or_true, hw', r1]
    simp (disch := omega) only [pn_le]
    refine ⟨fun q => absurd q (by omega), fun _ => ?_⟩
    refine c_W_at hw hR (x := g) (by rw [show j = i by omega]; exact hi) ?_
    exact ⟨fun q => absurd rfl q, fun _ => by rw [show j = i by omega]; exact hk⟩
  | succ n ih =>
    intro j hj
    have hjl : j < L.length := by omega
    refine pw_sound pw_tok pk_W_placeOf 400 _ _ _ _ _ _ ?_
    simp only [pv_all, pv_stp, pe_W_placeOf, pv_st, Nat.reduceAdd, eq_self, true_and, and_true, true_or, or_true, hw', r1]
    simp (disch := omega) only [pn_le]
    refine ⟨fun q => absurd q (by omega), fun _ => ?_⟩
    refine c_W_at hw hR (x := L[j]) (List.getElem?_eq_getElem hjl) ?_
    refine ⟨fun q => ?_, fun q => ?_⟩
    · rw [nI_1]
      exact ih (j + 1) (by omega)
    · have h1 : L[j] < 60 := hL _ (List.getElem_mem hjl)
      rw [pn_eq (by omega) (by omega)] at q
      exact absurd (by rw [List.getElem?_eq_getElem hjl, q]) (hf j (by omega))
set_option maxHeartbeats 4000000 in
set_option maxRecDepth 100000 in
theorem c_W_placeOf {g i : Nat} {k : Int32 → pw_Hp → Prop} (hw : ps_WS h a) (hR : ps_Rw σ a L) (hL : ∀ x ∈ L, x < 60) (hg : g < 60) (hi : L[i]? = some g) (hf : ∀ j, j < i → L[j]? ≠ some g) (hk : k (nI i) (pw_st h σ)) : pw_Ci 40 [.inr a, .inl (nI g)] (pw_st h σ) k := by
  refine pw_intro (M := pm_W_placeOf) rfl (by decide) (Nat.le_of_ble_eq_true rfl) (ls := [some (.inr a), some (.inl (nI g)), none]) rfl ?_
  refine pw_sound pw_tok pk_W_placeOf 400 _ _ _ _ _ _ ?_
  simp only [pv_all, pv_stp, pe_W_placeOf, pv_st, Nat.reduceAdd, eq_self, true_and, and_true, true_or, or_true]
  exact c_W_placeOf_2 hw hR hL hg hi hf hk i 0 (by omega)
set_option maxHeartbeats 4000000 in
set_option maxRecDepth 100000 in
theorem c_W_removeAt_17 {p : Nat} {x : Int32} {k : pw_Hp → Prop} (hw : ps_WS h a) (h6 : L.length ≤ 60) (hp : p < L.length) (hk : ∀ τ : ps_S, ps_Rw τ a (L.eraseIdx p) → (∀ f, f ≠ a → f ≠ a + 1 → τ f = σ f) → k (pw_st h τ)) :
    ∀ (n m : Nat) (τ : ps_S), m + n = L.length → p < m → τ a 1 = nI L.length → (∀ f, f ≠ a → f ≠ a + 1 → τ f = σ f) → (∀ i y, i < p → L[i]? = some y → τ (a + 1) i = nI y) → (∀ i y, p ≤ i → i + 1 < m → L[i + 1]? = some y → τ (a + 1) i = nI y) → (∀ i y, m ≤ i → L[i]? = some y → τ (a + 1) i = nI y) → pw_J pm_W_removeAt (pw_qv k) 17 [some (.inr a), some (.inl x), some (.inl (nI m))] [] (pw_st h τ) 0 0 := by
  have hw' := hw
  unfold ps_WS at hw'
  intro n
  induction n with
  | zero =>
    intro m τ hm hpm t1 t2 t3 t4 t5
    refine pw_sound pw_tok pk_W_removeAt 400 _ _ _ _ _ _ ?_
    simp only [pv_all, pv_stp, pe_W_removeAt, pv_st, Nat.reduceAdd, eq_self, true_and, and_true, true_or, or_true, hw', t1]
    simp (disch := omega) only [pn_le, pn_c, pn_sub]
    refine ⟨fun _ => ?_, fun q => absurd q (by omega)⟩
    refine hk _ ⟨?_, ?_, fun i y hy => ?_⟩ (fun f h1 h2 => ?_)
    · rw [ps_up_s, List.length_eraseIdx, if_pos hp]
    · rw [List.length_eraseIdx, if_pos hp]; omega
    · rw [ps_up_n (Or.inl (by omega))]
      rw [List.getElem?_eraseIdx] at hy
      by_cases hip : i < p
      · rw [if_pos hip] at hy
        exact t3 i y hip hy
      · rw [if_neg hip] at hy
        have : i + 1 < L.length := (List.getElem?_eq_some_iff.mp hy).1
        exact t4 i y (by omega) (by omega) hy
    · rw [ps_up_f h1]; exact t2 f h1 h2
  | succ n ih =>
    intro m τ hm hpm t1 t2 t3 t4 t5
    have hml : m < L.length := by omega
    have em := t5 m L[m] (Nat.le_refl m) (List.getElem?_eq_getElem hml)
    refine pw_sound pw_tok pk_W_removeAt 400 _ _ _ _ _ _ ?_
    simp only [pv_all, pv_stp, pe_W_removeAt, pv_st, Nat.reduceAdd, eq_self, true_and, and_true, true_or, or_true, hw', t1]
    simp (disch := omega) only [pn_le, pn_c, pn_sub, pn_at, pn_cl, pn_add]
    refine ⟨fun q => absurd q (by omega), fun _ => ⟨fun q => absurd q (by omega), fun _ => ⟨by omega, by omega, ?_⟩⟩⟩
    refine ih (m + 1) _ (by omega) (by omega) ?_ (fun f h1 h2 => ?_) (fun i y hi hy => ?_) (fun i y h1 h2 hy => ?_) (fun i y hi hy => ?_)
    · rw [ps_up_n (Or.inl (by omega))]; exact t1
    · rw [ps_up_f h2]; exact t2 f h1 h2
    · rw [ps_up_n (Or.inr (by omega))]; exact t3 i y hi hy
    · by_cases hi : i = m - 1
      · rw [show i + 1 = m by omega] at hy
        rw [hi, ps_up_s]
        exact t5 m y (Nat.le_refl m) hy
      · rw [ps_up_n (Or.inr hi)]; exact t4 i y h1 (by omega) hy
    · rw [ps_up_n (Or.inr (by omega))]; exact t5 i y (by omega) hy
set_option maxHeartbeats 4000000 in
set_option maxRecDepth 100000 in
theorem c_W_removeAt {p : Nat} {k : pw_Hp → Prop} (hw : ps_WS h a) (hR : ps_Rw σ a L) (hp : p < L.length) (hk : ∀ τ : ps_S, ps_Rw τ a (L.eraseIdx p) → (∀ f, f ≠ a → f ≠ a + 1 → τ f = σ f) → k (pw_st h τ)) : pw_Cv 11 [.inr a, .inl (nI p)] (pw_st h σ) k := by
  have hw' := hw
  unfold ps_WS at hw'
  obtain ⟨r1, r2, r3⟩ := hR
  refine pw_intro (M := pm_W_removeAt) rfl (by decide) (Nat.le_of_ble_eq_true rfl) (ls := [some (.inr a), some (.inl (nI p)), none]) rfl ?_
  refine pw_sound pw_tok pk_W_removeAt 400 _ _ _ _ _ _ ?_
  simp only [pv_all, pv_stp, pe_W_removeAt, pv_st, Nat.reduceAdd, eq_self, true_and, and_true, true_or, or_true, hw', r1]
  simp (disch := omega) only [pn_lt, pn_c, pn_add]
  refine ⟨fun q => absurd q (by omega), fun _ => ⟨fun _ => ?_, fun q => absurd hp q⟩⟩
  exact c_W_removeAt_17 hw r2 hp hk (L.length - (p + 1)) (p + 1) σ (by omega) (by omega) r1 (fun _ _ _ => rfl) (fun i y _ hy => r3 i y hy) (fun i y h1 h2 hy => by omega) (fun i y _ hy => r3 i y hy)
end PSW
