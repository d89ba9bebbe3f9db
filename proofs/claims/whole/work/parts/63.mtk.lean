section PMK
variable {h : pw_Hp} {R G m n : Nat} {Nw : Nat → Nat} {σ μ : ps_S} {ρ : ps_P}
set_option maxHeartbeats 4000000 in
set_option maxRecDepth 100000 in
theorem c_M_free_b {x y : Int32} {k : Int32 → pw_Hp → Prop} (hM : ps_MS h) (hD : ps_Md R G m σ μ ρ) (hR : R ≤ 8) (hG : G ≤ 60) (hb : ps_bad2 G R x y) (hk : ∀ τ, ps_Md R G m τ (ps_ref μ 1) ρ → ps_Ofm σ τ → k (-1) (pw_st h τ)) : pw_Ci 106 [.inr 7, .inl x, .inl y] (pw_st h σ) k := by
  have hM' := hM
  unfold ps_MS at hM
  refine pw_intro (M := pm_M_free) rfl (by decide) (Nat.le_of_ble_eq_true rfl) (ls := [some (.inr 7), some (.inl x), some (.inl y), none]) rfl ?_
  refine pw_sound pw_tok pk_M_free 400 _ _ _ _ _ _ ?_
  simp only [pv_all, pv_stp, pe_M_free, pv_st, Nat.reduceAdd, eq_self, true_and, and_true, true_or, or_true, hM]
  refine c_M_lack_b hM' hD hR hG hb ⟨fun q => absurd q (by decide), fun _ => ⟨fun q => absurd q (by decide), fun _ => ?_⟩⟩
  simp only [pv_st, hM, eq_self, true_and]
  exact c_M_ref hM' hD (c := 1) (by decide) (by decide) hk
set_option maxHeartbeats 4000000 in
set_option maxRecDepth 100000 in
theorem c_M_take_b {x y : Int32} {k : Int32 → pw_Hp → Prop} (hM : ps_MS h) (hD : ps_Md R G m σ μ ρ) (hR : R ≤ 8) (hG : G ≤ 60) (hb : ps_bad2 G R x y) (hk : ∀ τ, ps_Md R G m τ (ps_ref μ 1) ρ → ps_Ofm σ τ → k (-1) (pw_st h τ)) : pw_Ci 107 [.inr 7, .inl x, .inl y] (pw_st h σ) k := by
  have hM' := hM
  unfold ps_MS at hM
  refine pw_intro (M := pm_M_take) rfl (by decide) (Nat.le_of_ble_eq_true rfl) (ls := [some (.inr 7), some (.inl x), some (.inl y), none, none]) rfl ?_
  refine pw_sound pw_tok pk_M_take 400 _ _ _ _ _ _ ?_
  simp only [pv_all, pv_stp, pe_M_take, pv_st, Nat.reduceAdd, eq_self, true_and, and_true, true_or, or_true, hM]
  refine c_M_lack_b hM' hD hR hG hb ⟨fun q => absurd q (by decide), fun _ => ⟨fun q => absurd q (by decide), fun _ => ?_⟩⟩
  simp only [pv_st, hM, eq_self, true_and]
  exact c_M_ref hM' hD (c := 1) (by decide) (by decide) hk
set_option maxHeartbeats 4000000 in
set_option maxRecDepth 100000 in
theorem c_M_free {g r : Nat} {k : Int32 → pw_Hp → Prop} (hM : ps_MS h) (hD : ps_Md R G m σ μ ρ) (hW : ps_Wf R G Nw μ ρ n) (hg : g < G) (hr : r < R) (hk : ∀ τ, ps_Md R G m τ (ps_free μ g r).2 ρ → ps_Ofm σ τ → k (ps_free μ g r).1 (pw_st h τ)) : pw_Ci 106 [.inr 7, .inl (nI g), .inl (nI r)] (pw_st h σ) k := by
  have hM' := hM
  unfold ps_MS at hM
  have wr := (hW.2.1 r hr).1
  have hN := ps_Nw_le wr
  have tb := hW.1.2.2.2.1
  have hdiv : ps_N μ 7 0 / ps_wd μ r ≤ 5000 / ps_wd μ r := Nat.div_le_div_right tb
  unfold ps_free at hk
  refine pw_intro (M := pm_M_free) rfl (by decide) (Nat.le_of_ble_eq_true rfl) (ls := [some (.inr 7), some (.inl (nI g)), some (.inl (nI r)), none]) rfl ?_
  refine pw_sound pw_tok pk_M_free 400 _ _ _ _ _ _ ?_
  simp only [pv_all, pv_stp, pe_M_free, pv_st, Nat.reduceAdd, eq_self, true_and, and_true, true_or, or_true, hM]
  refine c_M_lack hM' hD hW hg hr ?_
  by_cases z1 : ps_N μ 20 g = 4
  · rw [if_pos z1] at hk ⊢
    refine ⟨fun q => absurd q (by decide), fun _ => ⟨fun q => absurd q (by decide), fun _ => ?_⟩⟩
    simp only [pv_st, hM, eq_self, true_and]
    exact c_M_ref hM' hD (c := 2) (by decide) (by decide) hk
  rw [if_neg z1] at hk ⊢
  by_cases z2 : ps_N μ 24 g = 2
  · rw [if_pos z2] at hk ⊢
    refine ⟨fun q => absurd q (by decide), fun _ => ⟨fun q => absurd q (by decide), fun _ => ?_⟩⟩
    simp only [pv_st, hM, eq_self, true_and]
    exact c_M_ref hM' hD (c := 6) (by decide) (by decide) hk
  rw [if_neg z2] at hk ⊢
  refine ⟨fun _ => ?_, fun q => absurd (by decide) q⟩
  simp only [pv_st, hM, eq_self, true_and]
  refine c_M_firstFree hM' hD hW hg hr ?_
  cases hf : ps_ff μ g r (ps_N μ 7 0 / ps_wd μ r + 1) 40 with
  | none =>
    rw [hf] at hk
    refine ⟨fun q => absurd q (by decide), fun _ => ?_⟩
    simp only [pv_st, hM, eq_self, true_and]
    exact c_M_ref hM' hD (c := 3) (by decide) (by decide) hk
  | some w =>
    rw [hf] at hk
    have hw := ps_ff_in 40 _ w hf
    refine ⟨fun _ => hk σ hD (ps_Ofm_rf σ), fun q => absurd ?_ q⟩
    show (0 : Int32) ≤ nI w
    rw [show (0 : Int32) = nI 0 from rfl, pn_le (by omega) (by omega)]; omega
set_option maxHeartbeats 4000000 in
set_option maxRecDepth 100000 in
theorem c_M_take {g r : Nat} {k : Int32 → pw_Hp → Prop} (hM : ps_MS h) (hD : ps_Md R G m σ μ ρ) (hW : ps_Wf R G Nw μ ρ n) (hg : g < G) (hr : r < R) (hk : ∀ τ, ps_Md R G m τ (ps_take μ g r).2 ρ → ps_Ofm σ τ → k (ps_take μ g r).1 (pw_st h τ)) : pw_Ci 107 [.inr 7, .inl (nI g), .inl (nI r)] (pw_st h σ) k := by
  have hM' := hM
  have e := ps_Md_e hD
  unfold ps_MS at hM
  have hR := hW.1.1
  have hG := hW.1.2.1
  have wr := (hW.2.1 r hr).1
  obtain ⟨-, -, -, -, -, w6, w7, -⟩ := hW.2.2.1 g hg
  have hN := ps_Nw_le wr
  have tb := hW.1.2.2.2.1
  have hdiv : ps_N μ 7 0 / ps_wd μ r ≤ 5000 / ps_wd μ r := Nat.div_le_div_right tb
  unfold ps_take at hk
  refine pw_intro (M := pm_M_take) rfl (by decide) (Nat.le_of_ble_eq_true rfl) (ls := [some (.inr 7), some (.inl (nI g)), some (.inl (nI r)), none, none]) rfl ?_
  refine pw_sound pw_tok pk_M_take 400 _ _ _ _ _ _ ?_
  simp only [pv_all, pv_stp, pe_M_take, pv_st, Nat.reduceAdd, eq_self, true_and, and_true, true_or, or_true, hM]
  refine c_M_lack hM' hD hW hg hr ?_
  by_cases z1 : ps_N μ 20 g = 4
  · rw [if_pos z1] at hk ⊢
    refine ⟨fun q => absurd q (by decide), fun _ => ⟨fun q => absurd q (by decide), fun _ => ?_⟩⟩
    simp only [pv_st, hM, eq_self, true_and]
    exact c_M_ref hM' hD (c := 2) (by decide) (by decide) hk
  rw [if_neg z1] at hk ⊢
  by_cases z2 : ps_N μ 24 g = 2
  · rw [if_pos z2] at hk ⊢
    refine ⟨fun q => absurd q (by decide), fun _ => ⟨fun q => absurd q (by decide), fun _ => ?_⟩⟩
    simp only [pv_st, hM, eq_self, true_and]
    exact c_M_ref hM' hD (c := 6) (by decide) (by decide) hk
  rw [if_neg z2] at hk ⊢
  refine ⟨fun _ => ?_, fun q => absurd (by decide) q⟩
  simp only [pv_st, hM, eq_self, true_and]
  refine c_M_firstFree hM' hD hW hg hr ?_
  cases hf : ps_ff μ g r (ps_N μ 7 0 / ps_wd μ r + 1) 40 with
  | none =>
    rw [hf] at hk
    refine ⟨fun q => absurd q (by decide), fun _ => ?_⟩
    simp only [pv_st, hM, eq_self, true_and]
    exact c_M_ref hM' hD (c := 3) (by decide) (by decide) hk
  | some w =>
    rw [hf] at hk
    have hw := ps_ff_in 40 _ w hf
    refine ⟨fun _ => ?_, fun q => absurd ?_ q⟩
    · have e2 : (2 : Int32) * nI g + nI (ps_N μ 24 g) = nI (2 * g + ps_N μ 24 g) := by rw [show (2 : Int32) = nI 2 from rfl, pn_mul, pn_add]
      have e1 : (1100 : Int32) * nI r + nI w = nI (1100 * r + w) := by rw [show (1100 : Int32) = nI 1100 from rfl, pn_mul, pn_add]
      have e24 := e.2.2.2.2.1
      have e18 := e.1.2.2.2.2.2.2.2.2.2.2.1
      have e19 := e.1.2.2.2.2.2.2.2.2.2.2.2
      have t24 : ∀ x y, ps_up (ps_up σ 25 (2 * g + ps_N μ 24 g) x) 26 (2 * g + ps_N μ 24 g) y 24 g = nI (ps_N μ 24 g) := fun x y => by rw [ps_up_n (Or.inl (by decide)), ps_up_n (Or.inl (by decide)), e24, w6]
      have t18 : ∀ x y z j, ps_up (ps_up (ps_up σ 25 (2 * g + ps_N μ 24 g) x) 26 (2 * g + ps_N μ 24 g) y) 24 g z 18 j = μ 18 j := fun x y z j => by rw [ps_up_n (Or.inl (by decide)), ps_up_n (Or.inl (by decide)), ps_up_n (Or.inl (by decide)), e18]
      have t19 : ∀ x y z j, ps_up (ps_up (ps_up σ 25 (2 * g + ps_N μ 24 g) x) 26 (2 * g + ps_N μ 24 g) y) 24 g z 19 j = μ 19 j := fun x y z j => by rw [ps_up_n (Or.inl (by decide)), ps_up_n (Or.inl (by decide)), ps_up_n (Or.inl (by decide)), e19]
      simp (disch := omega) only [pv_st, hM, eq_self, true_and, true_or, pn_at, pn_cl, e24, w6, e2, t24, e1, t18, t19]
      refine ⟨by omega, by omega, by omega, by omega, by omega, by omega, by omega, by omega, ?_⟩
      refine hk _ ?_ ?_
      · unfold ps_tk ps_addt
        rw [w6]
        exact rm_up (rm_up (rm_up (rm_up hD (by decide) (by decide) (by decide)) (by decide) (by decide) (by decide)) (by decide) (by decide) (by decide)) (by decide) (by decide) (by decide)
      · exact ps_Ofm_tr (ps_Ofm_tr (ps_Ofm_tr (ps_Ofm_up (by decide) (by decide)) (ps_Ofm_up (by decide) (by decide))) (ps_Ofm_up (by decide) (by decide))) (ps_Ofm_up (by decide) (by decide))
    · show (0 : Int32) ≤ nI w
      rw [show (0 : Int32) = nI 0 from rfl, pn_le (by omega) (by omega)]; omega
theorem rm_drop {g j : Nat} (hD : ps_Md R G m σ μ ρ) : ps_Md R G m (ps_drop σ g j) (ps_drop μ g j) ρ := by
  have e := (ps_Md_e hD).2
  unfold ps_drop
  by_cases q : j = 0
  · rw [if_pos q, if_pos q, e.2.2.2.1, e.2.2.2.2.1, e.2.2.2.2.2.1]
    exact rm_up (rm_up (rm_up hD (by decide) (by decide) (by decide)) (by decide) (by decide) (by decide)) (by decide) (by decide) (by decide)
  · rw [if_neg q, if_neg q, e.2.2.2.1]
    exact rm_up hD (by decide) (by decide) (by decide)
theorem ps_Ofm_drop {g j : Nat} : ps_Ofm σ (ps_drop σ g j) := by
  unfold ps_drop
  by_cases q : j = 0
  · rw [if_pos q]
    exact ps_Ofm_tr (ps_Ofm_tr (ps_Ofm_up (by decide) (by decide)) (ps_Ofm_up (by decide) (by decide))) (ps_Ofm_up (by decide) (by decide))
  · rw [if_neg q]
    exact ps_Ofm_up (by decide) (by decide)
set_option maxHeartbeats 4000000 in
set_option maxRecDepth 100000 in
theorem c_M_dropTime {g j : Nat} {k : pw_Hp → Prop} (hM : ps_MS h) (hg : g < 60) (hj : j < 2) (hk : k (pw_st h (ps_drop σ g j))) : pw_Cv 23 [.inr 7, .inl (nI g), .inl (nI j)] (pw_st h σ) k := by
  unfold ps_MS at hM
  have e2 : (2 : Int32) * nI g = nI (2 * g) := pn_mul 2 g
  unfold ps_drop at hk
  refine pw_intro (M := pm_M_dropTime) rfl (by decide) (Nat.le_of_ble_eq_true rfl) (ls := [some (.inr 7), some (.inl (nI g)), some (.inl (nI j))]) rfl ?_
  refine pw_sound pw_tok pk_M_dropTime 400 _ _ _ _ _ _ ?_
  simp only [pv_all, pv_stp, pe_M_dropTime, pv_st, Nat.reduceAdd, eq_self, true_and, and_true, true_or, or_true, hM, e2, nI_1]
  rcases (show j = 0 ∨ j = 1 by omega) with rfl | rfl
  · rw [if_pos rfl] at hk
    simp (disch := omega) only [pn_at, pn_cl]
    refine ⟨fun q => absurd rfl q, fun _ => ⟨by omega, by omega, by omega, by omega, by omega, by omega, ?_⟩⟩
    rw [ps_up_n (Or.inl (by decide)), ps_up_n (Or.inl (by decide)), ps_up_n (Or.inl (by decide))]
    exact hk
  · rw [if_neg (by decide)] at hk
    simp (disch := omega) only [pn_at, pn_cl]
    exact ⟨fun q => ⟨by omega, by omega, hk⟩, fun q => absurd q (by decide)⟩
set_option maxHeartbeats 4000000 in
set_option maxRecDepth 100000 in
theorem c_M_give_b {x y : Int32} {k : Int32 → pw_Hp → Prop} (hM : ps_MS h) (hD : ps_Md R G m σ μ ρ) (hW : ps_Wf R G Nw μ ρ n) (hb : (x < 0 ∨ nI G ≤ x) ∨ ∃ g, g < G ∧ x = nI g ∧ (y < 0 ∨ nI (ps_N μ 24 g) ≤ y)) (hk : ∀ τ, ps_Md R G m τ (ps_ref μ 1) ρ → ps_Ofm σ τ → k (-1) (pw_st h τ)) : pw_Ci 80 [.inr 7, .inl x, .inl y] (pw_st h σ) k := by
  have hM' := hM
  have e := (ps_Md_e hD).2
  have hG := hW.1.2.1
  unfold ps_MS at hM
  refine pw_intro (M := pm_M_give) rfl (by decide) (Nat.le_of_ble_eq_true rfl) (ls := [some (.inr 7), some (.inl x), some (.inl y), none]) rfl ?_
  refine pw_sound pw_tok pk_M_give 400 _ _ _ _ _ _ ?_
  simp only [pv_all, pv_stp, pe_M_give, pv_st, Nat.reduceAdd, eq_self, true_and, and_true, true_or, or_true, hM]
  rcases hb with hb | ⟨g, hg, rfl, hb⟩
  · refine c_M_isGroup_o hM' hD hG hb ⟨fun _ => ?_, fun q => absurd rfl q⟩
    simp only [pv_st, hM, eq_self, true_and]
    exact c_M_ref hM' hD (c := 1) (by decide) (by decide) hk
  · obtain ⟨-, -, -, -, -, w6, w7, -⟩ := hW.2.2.1 g hg
    refine c_M_isGroup hM' hD hG hg ⟨fun q => absurd q (by decide), fun _ => ?_⟩
    simp (disch := omega) only [pv_st, hM, eq_self, true_and, true_or, pn_at, pn_cl, e, w6]
    refine ⟨by omega, ?_⟩
    refine c_M_in (fun q1 q2 => ?_) (fun _ => ⟨fun q => absurd rfl q, fun _ => ?_⟩)
    · exfalso
      rcases hb with hb | hb
      · exact fa_nlt' q1 hb
      · rw [fa_le', nI_toInt (by omega)] at hb
        rw [fa_le', pn_pred (by omega)] at q2
        omega
    · simp only [pv_st, hM, eq_self, true_and]
      exact c_M_ref hM' hD (c := 1) (by decide) (by decide) hk
set_option maxHeartbeats 4000000 in
set_option maxRecDepth 100000 in
theorem c_M_give {g j : Nat} {k : Int32 → pw_Hp → Prop} (hM : ps_MS h) (hD : ps_Md R G m σ μ ρ) (hW : ps_Wf R G Nw μ ρ n) (hg : g < G) (hj : j < ps_N μ 24 g) (hk : ∀ τ, ps_Md R G m τ (ps_gv μ g j) ρ → ps_Ofm σ τ → k (μ 26 (2 * g + j)) (pw_st h τ)) : pw_Ci 80 [.inr 7, .inl (nI g), .inl (nI j)] (pw_st h σ) k := by
  have hM' := hM
  have e := ps_Md_e hD
  have hG := hW.1.2.1
  have hR := hW.1.1
  obtain ⟨-, -, -, -, -, w6, w7, -, -, -, -, -, -, w8⟩ := hW.2.2.1 g hg
  obtain ⟨t1, t2, t3, t4⟩ := w8 j hj
  have hN := ps_Nw_le (hW.2.1 _ t2).1
  unfold ps_MS at hM
  have e2 : (2 : Int32) * nI g + nI j = nI (2 * g + j) := by rw [show (2 : Int32) = nI 2 from rfl, pn_mul, pn_add]
  have e1 : (1100 : Int32) * nI (ps_N μ 25 (2 * g + j)) + nI (ps_N μ 26 (2 * g + j)) = nI (1100 * ps_N μ 25 (2 * g + j) + ps_N μ 26 (2 * g + j)) := by rw [show (1100 : Int32) = nI 1100 from rfl, pn_mul, pn_add]
  rw [t3] at hk
  refine pw_intro (M := pm_M_give) rfl (by decide) (Nat.le_of_ble_eq_true rfl) (ls := [some (.inr 7), some (.inl (nI g)), some (.inl (nI j)), none]) rfl ?_
  refine pw_sound pw_tok pk_M_give 400 _ _ _ _ _ _ ?_
  simp only [pv_all, pv_stp, pe_M_give, pv_st, Nat.reduceAdd, eq_self, true_and, and_true, true_or, or_true, hM]
  refine c_M_isGroup hM' hD hG hg ⟨fun q => absurd q (by decide), fun _ => ?_⟩
  simp (disch := omega) only [pv_st, hM, eq_self, true_and, true_or, pn_at, pn_cl, e, w6]
  refine ⟨by omega, ?_⟩
  refine c_M_in (fun q1 q2 => ⟨fun _ => ?_, fun q => absurd q (by decide)⟩) (fun q => absurd ⟨?_, ?_⟩ q)
  · simp (disch := omega) only [pv_st, hM, eq_self, true_and, true_or, pn_at, pn_cl, e, e2, t1, t3, e1]
    refine ⟨by omega, by omega, by omega, by omega, by omega, ?_⟩
    refine c_M_dropTime hM' (by omega) (by omega) ?_
    refine hk _ ?_ ?_
    · unfold ps_gv
      exact rm_drop (rm_up hD (by decide) (by decide) (by decide))
    · exact ps_Ofm_tr (ps_Ofm_up (by decide) (by decide)) ps_Ofm_drop
  · rw [show (0 : Int32) = nI 0 from rfl, pn_le (by omega) (by omega)]; omega
  · rw [fa_le', pn_pred (by omega), nI_toInt (by omega)]; omega
end PMK
