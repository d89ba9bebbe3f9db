/-! The reference: what it tells. -/
def ps_ma (P : Nat → Bool) (v : Nat → Int32) : Nat → Int32
  | 0 => 0
  | g + 1 => ps_ma P v g + (if P g = true then v g else 0)
def ps_mp (μ : ps_S) (x1 x2 : Int32) (g : Nat) : Bool := decide (μ 20 g = x2) && (decide (x1 < 0) || decide (μ 21 g = x1))
def ps_mv2 (μ : ps_S) (x3 : Int32) (g : Nat) : Int32 := if x3 = 0 then 1 else μ 19 g
section PMY
variable {h : pw_Hp} {R G m n : Nat} {Nw : Nat → Nat} {σ μ : ps_S} {ρ : ps_P}
set_option maxHeartbeats 4000000 in
set_option maxRecDepth 100000 in
theorem c_M_manyAt_6 {x1 x2 x3 : Int32} {k : Int32 → pw_Hp → Prop} (hM : ps_MS h) (hD : ps_Md R G m σ μ ρ) (hG : G ≤ 60) (hk : k (ps_ma (ps_mp μ x1 x2) (ps_mv2 μ x3) G) (pw_st h σ)) :
    ∀ (c i : Nat), i + c = G → pw_J pm_M_manyAt (pw_qi k) 6 [some (.inr 7), some (.inl x1), some (.inl x2), some (.inl x3), some (.inl (ps_ma (ps_mp μ x1 x2) (ps_mv2 μ x3) i)), some (.inl (nI i))] [] (pw_st h σ) 0 0 := by
  have e := ps_Md_e hD
  have v := hD.2.1.2.2.2.1
  unfold ps_MS at hM
  intro c
  induction c with
  | zero =>
    intro i hi
    refine pw_sound pw_tok pk_M_manyAt 400 _ _ _ _ _ _ ?_
    simp only [pv_all, pv_stp, pe_M_manyAt, pv_st, Nat.reduceAdd, eq_self, true_and, and_true, true_or, or_true, hM, v]
    rw [pn_le (by omega) (by omega)]
    exact ⟨fun _ => by rw [show i = G by omega]; exact hk, fun q => absurd (by omega) q⟩
  | succ c ih =>
    intro i hi
    have nx := ih (i + 1) (by omega)
    unfold ps_ma at nx
    have no : ps_mp μ x1 x2 i = false → pw_J pm_M_manyAt (pw_qi k) 6 [some (.inr 7), some (.inl x1), some (.inl x2), some (.inl x3), some (.inl (ps_ma (ps_mp μ x1 x2) (ps_mv2 μ x3) i + 0)), some (.inl (nI (i + 1)))] [] (pw_st h σ) 0 0 := fun z => by
      rw [z, if_neg (by decide)] at nx; exact nx
    have y0 : ps_mp μ x1 x2 i = true → x3 = 0 → pw_J pm_M_manyAt (pw_qi k) 6 [some (.inr 7), some (.inl x1), some (.inl x2), some (.inl x3), some (.inl (ps_ma (ps_mp μ x1 x2) (ps_mv2 μ x3) i + 1)), some (.inl (nI (i + 1)))] [] (pw_st h σ) 0 0 := fun z z3 => by
      rw [z, if_pos rfl] at nx
      have : ps_mv2 μ x3 i = 1 := by unfold ps_mv2; rw [if_pos z3]
      rw [this] at nx
      exact nx
    have y1 : ps_mp μ x1 x2 i = true → ¬ x3 = 0 → pw_J pm_M_manyAt (pw_qi k) 6 [some (.inr 7), some (.inl x1), some (.inl x2), some (.inl x3), some (.inl (ps_ma (ps_mp μ x1 x2) (ps_mv2 μ x3) i + μ 19 i)), some (.inl (nI (i + 1)))] [] (pw_st h σ) 0 0 := fun z z3 => by
      rw [z, if_pos rfl] at nx
      have : ps_mv2 μ x3 i = μ 19 i := by unfold ps_mv2; rw [if_neg z3]
      rw [this] at nx
      exact nx
    refine pw_sound pw_tok pk_M_manyAt 400 _ _ _ _ _ _ ?_
    simp only [pv_all, pv_stp, pe_M_manyAt, pv_st, Nat.reduceAdd, eq_self, true_and, and_true, true_or, or_true, hM, v]
    simp (disch := omega) only [pn_le, pn_at, pn_cl, e, nI_1]
    unfold ps_mp at no y0 y1
    refine ⟨fun q => absurd q (by omega), fun _ => ⟨by omega, fun q => no (by simp [q]), fun q1 => ⟨fun q2 => ⟨fun q3 => y0 (by simp [q1, q2]) q3, fun q3 => ⟨by omega, y1 (by simp [q1, q2]) q3⟩⟩, fun q2 => ⟨by omega, fun q3 => no (by simp [q2, q3]), fun q3 => ⟨fun q4 => y0 (by simp [q1, q3]) q4, fun q4 => ⟨by omega, y1 (by simp [q1, q3]) q4⟩⟩⟩⟩⟩⟩
set_option maxHeartbeats 4000000 in
set_option maxRecDepth 100000 in
theorem c_M_manyAt {x1 x2 x3 : Int32} {k : Int32 → pw_Hp → Prop} (hM : ps_MS h) (hD : ps_Md R G m σ μ ρ) (hG : G ≤ 60) (hk : k (ps_ma (ps_mp μ x1 x2) (ps_mv2 μ x3) G) (pw_st h σ)) : pw_Ci 30 [.inr 7, .inl x1, .inl x2, .inl x3] (pw_st h σ) k := by
  have hM' := hM
  unfold ps_MS at hM
  refine pw_intro (M := pm_M_manyAt) rfl (by decide) (Nat.le_of_ble_eq_true rfl) (ls := [some (.inr 7), some (.inl x1), some (.inl x2), some (.inl x3), none, none]) rfl ?_
  refine pw_sound pw_tok pk_M_manyAt 400 _ _ _ _ _ _ ?_
  simp only [pv_all, pv_stp, pe_M_manyAt, pv_st, Nat.reduceAdd, eq_self, true_and, and_true, true_or, or_true, hM]
  exact c_M_manyAt_6 hM' hD hG hk G 0 (Nat.zero_add G)
theorem ps_ma_cn {P : Nat → Bool} : ∀ i, ps_ma P (ps_mv2 μ 0) i = nI (ps_cn P i) := by
  intro i
  induction i with
  | zero => rfl
  | succ i ih =>
    unfold ps_ma ps_cn
    rw [ih]
    by_cases q : P i = true
    · rw [if_pos q, if_pos q, ← nI_1]; rfl
    · rw [if_neg q, if_neg q, Int32.add_zero, Nat.add_zero]
theorem ps_ma_row (hW : ps_Wf R G Nw μ ρ n) {r b : Nat} (hr : r < R) (hb : b < 2) : ps_ma (ps_mp μ (nI r) (nI (b + 1))) (ps_mv2 μ 0) G = nI (ρ (2 * r + b)).length := by
  obtain ⟨l1, l2⟩ := hW.2.2.2.1 r b hr hb
  have hR := hW.1.1
  rw [ps_ma_cn, ps_cn_len G _ _ l1 (fun x hx => ((l2 x).mp hx).1) (fun x hx => ?_)]
  rw [l2 x]
  unfold ps_mp
  have h0 : ¬ nI r < 0 := nI_pos (by omega)
  simp [h0, hx]
theorem ps_ma_on {r : Nat} (hr : r < 8) : ∀ i, ps_ma (ps_mp μ (nI r) 3) (ps_mv2 μ 1) i = ps_sumOn μ r i := by
  intro i
  have h0 : ¬ nI r < 0 := nI_pos (by omega)
  induction i with
  | zero => rfl
  | succ i ih =>
    unfold ps_ma ps_sumOn
    rw [ih]
    have e1 : ps_mv2 μ 1 i = μ 19 i := rfl
    rw [e1]
    by_cases q : μ 20 i = 3 ∧ μ 21 i = nI r
    · rw [if_pos q, if_pos (by unfold ps_mp; simp [q.1, q.2])]
    · rw [if_neg q, if_neg (by unfold ps_mp; simpa [h0] using q)]
theorem ps_ma_pd {d : Nat} (hd : d ≤ 4) : ∀ i, (∀ g, g < i → μ 20 g = nI (ps_N μ 20 g) ∧ ps_N μ 20 g ≤ 4) → ps_ma (ps_mp μ (-1) (nI d)) (ps_mv2 μ 1) i = ps_pd μ d d i := by
  intro i
  induction i with
  | zero => intro _; rfl
  | succ i ih =>
    intro hg
    unfold ps_ma ps_pd
    rw [ih (fun g hg' => hg g (by omega))]
    obtain ⟨g1, g2⟩ := hg i (by omega)
    have e1 : ps_mv2 μ 1 i = μ 19 i := rfl
    rw [e1]
    by_cases q : d ≤ ps_N μ 20 i ∧ ps_N μ 20 i ≤ d
    · rw [if_pos q, if_pos]
      unfold ps_mp
      rw [g1, show ps_N μ 20 i = d by omega]
      simp
    · rw [if_neg q, if_neg]
      unfold ps_mp
      intro z
      have z1 : μ 20 i = nI d := by simpa using z
      rw [g1, pn_eq (by omega) (by omega)] at z1
      omega
theorem ps_pd_12 : ∀ i, ps_pd μ 1 1 i + ps_pd μ 2 2 i = ps_pd μ 1 2 i := by
  intro i
  induction i with
  | zero => rfl
  | succ i ih =>
    unfold ps_pd
    rw [← ih]
    rcases (show ps_N μ 20 i = 1 ∨ ps_N μ 20 i = 2 ∨ (ps_N μ 20 i ≠ 1 ∧ ps_N μ 20 i ≠ 2) by omega) with q | q | q
    · rw [if_pos (by omega), if_neg (by omega), if_pos (by omega)]; grind
    · rw [if_neg (by omega), if_pos (by omega), if_pos (by omega)]; grind
    · rw [if_neg (by omega), if_neg (by omega), if_neg (by omega)]; grind
set_option maxHeartbeats 4000000 in
set_option maxRecDepth 100000 in
theorem c_M_groupOf_b {x y : Int32} {k : Int32 → pw_Hp → Prop} (hM : ps_MS h) (hD : ps_Md R G m σ μ ρ) (hG : G ≤ 60) (hb : x < 0 ∨ nI G ≤ x) (hk : ∀ τ, ps_Md R G m τ (ps_ref μ 1) ρ → ps_Ofm σ τ → k (-1) (pw_st h τ)) : pw_Ci 89 [.inr 7, .inl x, .inl y] (pw_st h σ) k := by
  have hM' := hM
  unfold ps_MS at hM
  refine pw_intro (M := pm_M_groupOf) rfl (by decide) (Nat.le_of_ble_eq_true rfl) (ls := [some (.inr 7), some (.inl x), some (.inl y)]) rfl ?_
  refine pw_sound pw_tok pk_M_groupOf 400 _ _ _ _ _ _ ?_
  simp only [pv_all, pv_stp, pe_M_groupOf, pv_st, Nat.reduceAdd, eq_self, true_and, and_true, true_or, or_true, hM]
  refine c_M_isGroup_o hM' hD hG hb ⟨fun q => absurd rfl q, fun _ => ?_⟩
  simp only [pv_st, hM, eq_self, true_and]
  exact c_M_ref hM' hD (c := 1) (by decide) (by decide) hk
theorem ps_split {L : List Nat} {g : Nat} (hg : g ∈ L) : ∃ A B, L = A ++ g :: B ∧ L.idxOf g = A.length := by
  have i := ps_idx hg
  refine ⟨L.take (L.idxOf g), L.drop (L.idxOf g + 1), ?_, by rw [List.length_take]; omega⟩
  have h1 : L[L.idxOf g]'i.2.2.1 = g := List.getElem_idxOf i.2.2.1
  conv => lhs; rw [← List.take_append_drop (L.idxOf g) L]
  rw [List.drop_eq_getElem_cons i.2.2.1, h1]
set_option maxHeartbeats 4000000 in
set_option maxRecDepth 100000 in
theorem c_M_groupOf {g : Nat} {y : Int32} {k : Int32 → pw_Hp → Prop} (hM : ps_MS h) (hD : ps_Md R G m σ μ ρ) (hW : ps_Wf R G Nw μ ρ n) (hm : m < 100000) (hg : g < G) (hk : k (ps_gof μ ρ g y) (pw_st h σ)) : pw_Ci 89 [.inr 7, .inl (nI g), .inl y] (pw_st h σ) k := by
  have hM' := hM
  have e := ps_Md_e hD
  have hG := hW.1.2.1
  obtain ⟨-, -, -, w4, w5, -, -, -, -, -, -, w12, -⟩ := hW.2.2.1 g hg
  have pl : (ps_N μ 20 g = 1 ∨ ps_N μ 20 g = 2) → ∀ (k : Int32 → pw_Hp → Prop), k (nI ((ρ (2 * ps_N μ 21 g + (ps_N μ 20 g - 1))).idxOf g)) (pw_st h σ) → pw_Ci 25 [.inr 7, .inl (nI g)] (pw_st h σ) k := fun z k hk => by
    obtain ⟨u1, u2⟩ := w12 (by omega) (by omega)
    have ro := ps_Ro_of hD hW u2 (show ps_N μ 20 g - 1 < 2 by omega)
    have hmem : g ∈ ρ (2 * ps_N μ 21 g + (ps_N μ 20 g - 1)) := ((hW.2.2.2.1 _ _ u2 (show ps_N μ 20 g - 1 < 2 by omega)).2 g).mpr ⟨hg, by rw [w4, show ps_N μ 20 g - 1 + 1 = ps_N μ 20 g by omega], u1⟩
    obtain ⟨A, B, hL, hi⟩ := ps_split hmem
    rw [hi] at hk
    rw [hL] at ro
    exact c_M_placeOf hM' hG hD.2.1.2.2.2.1 hm ro hk
  unfold ps_MS at hM
  unfold ps_gof at hk
  refine pw_intro (M := pm_M_groupOf) rfl (by decide) (Nat.le_of_ble_eq_true rfl) (ls := [some (.inr 7), some (.inl (nI g)), some (.inl y)]) rfl ?_
  refine pw_sound pw_tok pk_M_groupOf 400 _ _ _ _ _ _ ?_
  simp only [pv_all, pv_stp, pe_M_groupOf, pv_st, Nat.reduceAdd, eq_self, true_and, and_true, true_or, or_true, hM]
  refine c_M_isGroup hM' hD hG hg ⟨fun _ => ?_, fun q => absurd q (by decide)⟩
  simp (disch := omega) only [pv_st, hM, eq_self, true_and, true_or, pn_at, pn_cl, e]
  refine ⟨fun q => ⟨by omega, ?_⟩, fun q0 => ⟨fun q => ⟨by omega, ?_⟩, fun q1 => ⟨fun q => ⟨by omega, ?_⟩, fun q2 => ⟨fun q => ⟨by omega, fun z => ?_, fun z => ⟨by omega, fun z2 => ?_, fun z2 => ?_⟩⟩, fun q3 => ⟨fun q => ⟨by omega, ?_⟩, fun q4 => ⟨fun q => ⟨by omega, ?_⟩, fun q5 => ⟨fun q => ⟨by omega, ?_⟩, fun q6 => ⟨fun q => ⟨by omega, ?_⟩, fun q7 => ⟨fun q8 => ?_, fun q => ⟨by omega, ?_⟩⟩⟩⟩⟩⟩⟩⟩⟩⟩
  · rw [if_pos q] at hk; exact hk
  · rw [if_neg q0, if_pos q] at hk; exact hk
  · rw [if_neg q0, if_neg q1, if_pos q] at hk; exact hk
  · rw [if_neg q0, if_neg q1, if_neg q2, if_pos q] at hk
    have z' : ps_N μ 20 g = 1 := by rw [w4, show (1 : Int32) = nI 1 from rfl, pn_eq (by omega) (by omega)] at z; exact z
    rw [if_pos (Or.inl z')] at hk
    exact pl (Or.inl z') _ hk
  · rw [if_neg q0, if_neg q1, if_neg q2, if_pos q] at hk
    rw [w4, show (1 : Int32) = nI 1 from rfl, pn_eq (by omega) (by omega)] at z
    rw [w4, show (2 : Int32) = nI 2 from rfl, pn_eq (by omega) (by omega)] at z2
    rw [if_neg (fun w => w.elim z z2)] at hk
    exact hk
  · rw [if_neg q0, if_neg q1, if_neg q2, if_pos q] at hk
    have z' : ps_N μ 20 g = 2 := by rw [w4, show (2 : Int32) = nI 2 from rfl, pn_eq (by omega) (by omega)] at z2; exact z2
    rw [if_pos (Or.inr z')] at hk
    exact pl (Or.inr z') _ hk
  · rw [if_neg q0, if_neg q1, if_neg q2, if_neg q3, if_pos q] at hk; exact hk
  · rw [if_neg q0, if_neg q1, if_neg q2, if_neg q3, if_neg q4, if_pos q] at hk; exact hk
  · rw [if_neg q0, if_neg q1, if_neg q2, if_neg q3, if_neg q4, if_neg q5, if_pos q] at hk; exact hk
  · rw [if_neg q0, if_neg q1, if_neg q2, if_neg q3, if_neg q4, if_neg q5, if_neg q6, if_pos q] at hk; exact hk
  · rw [if_neg q0, if_neg q1, if_neg q2, if_neg q3, if_neg q4, if_neg q5, if_neg q6, if_neg q7, if_neg q8] at hk; exact hk
  · rw [if_neg q0, if_neg q1, if_neg q2, if_neg q3, if_neg q4, if_neg q5, if_neg q6, if_neg q7, if_pos q] at hk; exact hk
set_option maxHeartbeats 4000000 in
set_option maxRecDepth 100000 in
theorem c_M_rideOf_b {x y : Int32} {k : Int32 → pw_Hp → Prop} (hM : ps_MS h) (hD : ps_Md R G m σ μ ρ) (hR : R ≤ 8) (hb : x < 0 ∨ nI R ≤ x) (hk : ∀ τ, ps_Md R G m τ (ps_ref μ 1) ρ → ps_Ofm σ τ → k (-1) (pw_st h τ)) : pw_Ci 91 [.inr 7, .inl x, .inl y] (pw_st h σ) k := by
  have hM' := hM
  unfold ps_MS at hM
  refine pw_intro (M := pm_M_rideOf) rfl (by decide) (Nat.le_of_ble_eq_true rfl) (ls := [some (.inr 7), some (.inl x), some (.inl y)]) rfl ?_
  refine pw_sound pw_tok pk_M_rideOf 400 _ _ _ _ _ _ ?_
  simp only [pv_all, pv_stp, pe_M_rideOf, pv_st, Nat.reduceAdd, eq_self, true_and, and_true, true_or, or_true, hM]
  refine c_M_isRide_o hM' hD hR hb ⟨fun q => absurd rfl q, fun _ => ?_⟩
  simp only [pv_st, hM, eq_self, true_and]
  exact c_M_ref hM' hD (c := 1) (by decide) (by decide) hk
set_option maxHeartbeats 4000000 in
set_option maxRecDepth 100000 in
theorem c_M_rideOf {r : Nat} {y : Int32} {k : Int32 → pw_Hp → Prop} (hM : ps_MS h) (hD : ps_Md R G m σ μ ρ) (hW : ps_Wf R G Nw μ ρ n) (hr : r < R) (hk : k (ps_rof μ ρ r y) (pw_st h σ)) : pw_Ci 91 [.inr 7, .inl (nI r), .inl y] (pw_st h σ) k := by
  have hM' := hM
  have e := ps_Md_e hD
  have hR := hW.1.1
  have hG := hW.1.2.1
  have wr := (hW.2.1 r hr).1
  have p := ps_wd_pos wr
  have tb := hW.1.2.2.2.1
  have et := hD.2.1.1
  rw [hW.1.2.2.1] at et
  have hd0 : ¬ nI (ps_wd μ r) = 0 := by rw [show (0 : Int32) = nI 0 from rfl, pn_eq (by omega) (by omega)]; omega
  unfold ps_MS at hM
  unfold ps_rof at hk
  refine pw_intro (M := pm_M_rideOf) rfl (by decide) (Nat.le_of_ble_eq_true rfl) (ls := [some (.inr 7), some (.inl (nI r)), some (.inl y)]) rfl ?_
  refine pw_sound pw_tok pk_M_rideOf 400 _ _ _ _ _ _ ?_
  simp only [pv_all, pv_stp, pe_M_rideOf, pv_st, Nat.reduceAdd, eq_self, true_and, and_true, true_or, or_true, hM]
  refine c_M_isRide hM' hD hR hr ⟨fun _ => ?_, fun q => absurd q (by decide)⟩
  simp (disch := omega) only [pv_st, hM, eq_self, true_and, true_or, pn_at, pn_cl, e, et]
  refine ⟨fun q => ⟨by omega, ?_⟩, fun q0 => ⟨fun q => ⟨by omega, ?_⟩, fun q1 => ⟨fun q => ⟨by omega, ?_⟩, fun q2 => ⟨fun q => ⟨by omega, ?_⟩, fun q3 => ⟨fun q => ⟨by omega, ?_⟩, fun q4 => ⟨fun q => ?_, fun q5 => ⟨fun q => ?_, fun q6 => ⟨fun q => ?_, fun q7 => ⟨fun q => ?_, fun q8 => ⟨fun q => ⟨by omega, ?_⟩, fun q9 => ⟨fun q => ⟨by omega, ?_⟩, fun q10 => ⟨fun q => ?_, fun q11 => ⟨fun q12 => ?_, fun q => ⟨by omega, ?_⟩⟩⟩⟩⟩⟩⟩⟩⟩⟩⟩⟩⟩⟩
  · rw [if_pos q] at hk; exact hk
  · rw [if_neg q0, if_pos q] at hk; exact hk
  · rw [if_neg q0, if_neg q1, if_pos q] at hk; exact hk
  · rw [if_neg q0, if_neg q1, if_neg q2, if_pos q] at hk; exact hk
  · rw [if_neg q0, if_neg q1, if_neg q2, if_neg q3, if_pos q] at hk; exact hk
  · rw [if_neg q0, if_neg q1, if_neg q2, if_neg q3, if_neg q4, if_pos q] at hk
    refine c_M_runs hM' hD hR hr ?_
    by_cases z : ps_runs (μ 13 r) (μ 12 r) (μ 7 1) = true
    · rw [if_pos z] at hk ⊢
      exact ⟨fun q => absurd q (by decide), fun _ => hk⟩
    · rw [if_neg z] at hk ⊢
      exact ⟨fun _ => hk, fun q => absurd rfl q⟩
  · rw [if_neg q0, if_neg q1, if_neg q2, if_neg q3, if_neg q4, if_neg q5, if_pos q] at hk
    refine c_M_manyAt hM' hD hG ?_
    have := ps_ma_row hW (b := 0) hr (by decide)
    rw [show (1 : Int32) = nI (0 + 1) from rfl, this]
    exact hk
  · rw [if_neg q0, if_neg q1, if_neg q2, if_neg q3, if_neg q4, if_neg q5, if_neg q6, if_pos q] at hk
    refine c_M_manyAt hM' hD hG ?_
    have := ps_ma_row hW (b := 1) hr (by decide)
    rw [show (2 : Int32) = nI (1 + 1) from rfl, this]
    exact hk
  · rw [if_neg q0, if_neg q1, if_neg q2, if_neg q3, if_neg q4, if_neg q5, if_neg q6, if_neg q7, if_pos q] at hk
    refine c_M_manyAt hM' hD hG ?_
    rw [ps_ma_on (by omega), ← hW.2.2.2.2.1 r hr]
    exact hk
  · rw [if_neg q0, if_neg q1, if_neg q2, if_neg q3, if_neg q4, if_neg q5, if_neg q6, if_neg q7, if_neg q8, if_pos q] at hk; exact hk
  · rw [if_neg q0, if_neg q1, if_neg q2, if_neg q3, if_neg q4, if_neg q5, if_neg q6, if_neg q7, if_neg q8, if_neg q9, if_pos q] at hk; exact hk
  · rw [if_neg q0, if_neg q1, if_neg q2, if_neg q3, if_neg q4, if_neg q5, if_neg q6, if_neg q7, if_neg q8, if_neg q9, if_neg q10, if_pos q] at hk
    refine c_M_width hM' hD hR hr wr ⟨hd0, ?_⟩
    rw [pn_div (by omega) (by omega) (by omega)]
    exact hk
  · rw [if_neg q0, if_neg q1, if_neg q2, if_neg q3, if_neg q4, if_neg q5, if_neg q6, if_neg q7, if_neg q8, if_neg q9, if_neg q10, if_neg q11, if_neg q12] at hk; exact hk
  · rw [if_neg q0, if_neg q1, if_neg q2, if_neg q3, if_neg q4, if_neg q5, if_neg q6, if_neg q7, if_neg q8, if_neg q9, if_neg q10, if_neg q11, if_pos q] at hk; exact hk
end PMY
