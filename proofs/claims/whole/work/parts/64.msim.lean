/-! The reference: simple calls. -/
section PMS
variable {h : pw_Hp} {R G m n : Nat} {Nw : Nat → Nat} {σ μ : ps_S} {ρ : ps_P}
set_option maxHeartbeats 4000000 in
set_option maxRecDepth 100000 in
theorem c_M_walk_b {x y z : Int32} {k : Int32 → pw_Hp → Prop} (hM : ps_MS h) (hD : ps_Md R G m σ μ ρ) (hR : R ≤ 8) (hb : (x < 0 ∨ nI R ≤ x) ∨ (y < 0 ∨ nI R ≤ y) ∨ x = y) (hk : ∀ τ, ps_Md R G m τ (ps_ref μ 1) ρ → ps_Ofm σ τ → k (-1) (pw_st h τ)) : pw_Ci 76 [.inr 7, .inl x, .inl y, .inl z] (pw_st h σ) k := by
  have hM' := hM
  unfold ps_MS at hM
  have fin : pw_Ci 20 [.inr 7, .inl (-1)] (pw_st h σ) fun x h' => k x h' := c_M_ref hM' hD (c := 1) (by decide) (by decide) hk
  refine pw_intro (M := pm_M_walk) rfl (by decide) (Nat.le_of_ble_eq_true rfl) (ls := [some (.inr 7), some (.inl x), some (.inl y), some (.inl z), none]) rfl ?_
  refine pw_sound pw_tok pk_M_walk 400 _ _ _ _ _ _ ?_
  simp only [pv_all, pv_stp, pe_M_walk, pv_st, Nat.reduceAdd, eq_self, true_and, and_true, true_or, or_true, hM]
  rcases ps_cases x R (by omega) with q | ⟨a, ha, rfl⟩
  · refine c_M_isRide_o hM' hD hR q ⟨fun _ => ?_, fun q => absurd rfl q⟩
    simp only [pv_st, hM, eq_self, true_and]
    exact fin
  · refine c_M_isRide hM' hD hR ha ⟨fun q => absurd q (by decide), fun _ => ?_⟩
    simp only [pv_st, hM, eq_self, true_and]
    rcases ps_cases y R (by omega) with q | ⟨b, hb2, rfl⟩
    · refine c_M_isRide_o hM' hD hR q ⟨fun _ => ?_, fun q => absurd rfl q⟩
      simp only [pv_st, hM, eq_self, true_and]
      exact fin
    · refine c_M_isRide hM' hD hR hb2 ⟨fun q => absurd q (by decide), fun _ => ?_⟩
      simp only [pv_st, hM, eq_self, true_and]
      have hab : nI a = nI b := by
        rcases hb with hb | hb | hb
        · exact absurd hb (fun z => absurd rfl (pn_out z (by omega) a ha))
        · exact absurd hb (fun z => absurd rfl (pn_out z (by omega) b hb2))
        · exact hb
      exact ⟨fun q => absurd hab q, fun _ => fin⟩
set_option maxHeartbeats 4000000 in
set_option maxRecDepth 100000 in
theorem c_M_walk {a b : Nat} {z : Int32} {k : Int32 → pw_Hp → Prop} (hM : ps_MS h) (hD : ps_Md R G m σ μ ρ) (hR : R ≤ 8) (ha : a < R) (hb : b < R) (hab : a ≠ b) (h4 : z < 0 → ∀ τ, ps_Md R G m τ (ps_ref μ 4) ρ → ps_Ofm σ τ → k (-4) (pw_st h τ)) (h6 : 50 < z → ∀ τ, ps_Md R G m τ (ps_ref μ 6) ρ → ps_Ofm σ τ → k (-6) (pw_st h τ)) (hk : ¬ z < 0 → ¬ 50 < z → ∀ τ, ps_Md R G m τ (ps_walk μ a b z) ρ → ps_Ofm σ τ → k (μ 17 (8 * a + b)) (pw_st h τ)) : pw_Ci 76 [.inr 7, .inl (nI a), .inl (nI b), .inl z] (pw_st h σ) k := by
  have hM' := hM
  have e := (ps_Md_e hD).1
  unfold ps_MS at hM
  have e1 : (8 : Int32) * nI a + nI b = nI (8 * a + b) := by rw [show (8 : Int32) = nI 8 from rfl, pn_mul, pn_add]
  have e2 : (8 : Int32) * nI b + nI a = nI (8 * b + a) := by rw [show (8 : Int32) = nI 8 from rfl, pn_mul, pn_add]
  refine pw_intro (M := pm_M_walk) rfl (by decide) (Nat.le_of_ble_eq_true rfl) (ls := [some (.inr 7), some (.inl (nI a)), some (.inl (nI b)), some (.inl z), none]) rfl ?_
  refine pw_sound pw_tok pk_M_walk 400 _ _ _ _ _ _ ?_
  simp only [pv_all, pv_stp, pe_M_walk, pv_st, Nat.reduceAdd, eq_self, true_and, and_true, true_or, or_true, hM, e1, e2]
  refine c_M_isRide hM' hD hR ha ⟨fun q => absurd q (by decide), fun _ => ?_⟩
  simp only [pv_st, hM, eq_self, true_and]
  refine c_M_isRide hM' hD hR hb ⟨fun q => absurd q (by decide), fun _ => ?_⟩
  have hne : ¬ nI a = nI b := by rw [pn_eq (by omega) (by omega)]; exact hab
  refine ⟨fun _ => ⟨fun q0 => ⟨fun q5 => ?_, fun q5 => ?_⟩, fun q0 => ?_⟩, fun q => absurd q hne⟩
  · simp (disch := omega) only [pv_st, hM, eq_self, true_and, true_or, pn_at, pn_cl, e]
    refine ⟨by omega, by omega, by omega, ?_⟩
    refine hk (fa_nlt' q0) (fa_nlt' q5) _ ?_ ?_
    · exact rm_up (rm_up hD (by decide) (by decide) (by decide)) (by decide) (by decide) (by decide)
    · exact ps_Ofm_tr (ps_Ofm_up (by decide) (by decide)) (ps_Ofm_up (by decide) (by decide))
  · simp only [pv_st, hM, eq_self, true_and]
    exact c_M_ref hM' hD (c := 6) (by decide) (by decide) (h6 (by rw [fa_lt']; rw [fa_le'] at q5; omega))
  · simp only [pv_st, hM, eq_self, true_and]
    exact c_M_ref hM' hD (c := 4) (by decide) (by decide) (h4 (by rw [fa_lt']; rw [fa_le'] at q0; omega))
set_option maxHeartbeats 4000000 in
set_option maxRecDepth 100000 in
theorem c_M_part_b {x y z : Int32} {k : Int32 → pw_Hp → Prop} (hM : ps_MS h) (hD : ps_Md R G m σ μ ρ) (hR : R ≤ 8) (hb : x < 0 ∨ nI R ≤ x) (hk : ∀ τ, ps_Md R G m τ (ps_ref μ 1) ρ → ps_Ofm σ τ → k (-1) (pw_st h τ)) : pw_Ci 77 [.inr 7, .inl x, .inl y, .inl z] (pw_st h σ) k := by
  have hM' := hM
  unfold ps_MS at hM
  refine pw_intro (M := pm_M_part) rfl (by decide) (Nat.le_of_ble_eq_true rfl) (ls := [some (.inr 7), some (.inl x), some (.inl y), some (.inl z)]) rfl ?_
  refine pw_sound pw_tok pk_M_part 400 _ _ _ _ _ _ ?_
  simp only [pv_all, pv_stp, pe_M_part, pv_st, Nat.reduceAdd, eq_self, true_and, and_true, true_or, or_true, hM]
  refine c_M_isRide_o hM' hD hR hb ⟨fun q => absurd rfl q, fun _ => ?_⟩
  simp only [pv_st, hM, eq_self, true_and]
  exact c_M_ref hM' hD (c := 1) (by decide) (by decide) hk
set_option maxHeartbeats 4000000 in
set_option maxRecDepth 100000 in
theorem c_M_part {r : Nat} {y z : Int32} {k : Int32 → pw_Hp → Prop} (hM : ps_MS h) (hD : ps_Md R G m σ μ ρ) (hR : R ≤ 8) (hr : r < R) (h4 : (y < 0 ∨ z < 0) → ∀ τ, ps_Md R G m τ (ps_ref μ 4) ρ → ps_Ofm σ τ → k (-4) (pw_st h τ)) (h6 : ¬ (y < 0 ∨ z < 0) → (μ 8 r < y ∨ 99 < z) → ∀ τ, ps_Md R G m τ (ps_ref μ 6) ρ → ps_Ofm σ τ → k (-6) (pw_st h τ)) (hk : ¬ (y < 0 ∨ z < 0) → ¬ (μ 8 r < y ∨ 99 < z) → ∀ τ, ps_Md R G m τ (ps_up (ps_up μ 10 r y) 11 r z) ρ → ps_Ofm σ τ → k 1 (pw_st h τ)) : pw_Ci 77 [.inr 7, .inl (nI r), .inl y, .inl z] (pw_st h σ) k := by
  have hM' := hM
  have e := (ps_Md_e hD).1
  unfold ps_MS at hM
  refine pw_intro (M := pm_M_part) rfl (by decide) (Nat.le_of_ble_eq_true rfl) (ls := [some (.inr 7), some (.inl (nI r)), some (.inl y), some (.inl z)]) rfl ?_
  refine pw_sound pw_tok pk_M_part 400 _ _ _ _ _ _ ?_
  simp only [pv_all, pv_stp, pe_M_part, pv_st, Nat.reduceAdd, eq_self, true_and, and_true, true_or, or_true, hM]
  refine c_M_isRide hM' hD hR hr ⟨fun _ => ?_, fun q => absurd q (by decide)⟩
  simp (disch := omega) only [pv_st, hM, eq_self, true_and, true_or, pn_at, pn_cl, e]
  have f4 : (y < 0 ∨ z < 0) → pw_Ci 20 [.inr 7, .inl (-4)] (pw_st h σ) fun x h' => k x h' := fun q => c_M_ref hM' hD (c := 4) (by decide) (by decide) (h4 q)
  refine ⟨fun q => f4 (Or.inl q), fun q1 => ⟨fun q2 => ?_, fun q => f4 (Or.inr (by rw [fa_lt']; rw [fa_le'] at q; omega))⟩⟩
  have n4 : ¬ (y < 0 ∨ z < 0) := fun w => w.elim q1 (fa_nlt' q2)
  have f6 : (μ 8 r < y ∨ 99 < z) → pw_Ci 20 [.inr 7, .inl (-6)] (pw_st h σ) fun x h' => k x h' := fun q => c_M_ref hM' hD (c := 6) (by decide) (by decide) (h6 n4 q)
  refine ⟨by omega, fun q => f6 (Or.inl q), fun q3 => ⟨fun q4 => ?_, fun q => f6 (Or.inr (by rw [fa_lt']; rw [fa_le'] at q; omega))⟩⟩
  refine ⟨by omega, by omega, ?_⟩
  refine hk n4 (fun w => w.elim q3 (fa_nlt' q4)) _ ?_ ?_
  · exact rm_up (rm_up hD (by decide) (by decide) (by decide)) (by decide) (by decide) (by decide)
  · exact ps_Ofm_tr (ps_Ofm_up (by decide) (by decide)) (ps_Ofm_up (by decide) (by decide))
set_option maxHeartbeats 4000000 in
set_option maxRecDepth 100000 in
theorem c_M_stop_b {x y : Int32} {k : Int32 → pw_Hp → Prop} (hM : ps_MS h) (hD : ps_Md R G m σ μ ρ) (hR : R ≤ 8) (hb : x < 0 ∨ nI R ≤ x) (hk : k 0 (pw_st h σ)) : pw_Ci 85 [.inr 7, .inl x, .inl y] (pw_st h σ) k := by
  have hM' := hM
  unfold ps_MS at hM
  refine pw_intro (M := pm_M_stop) rfl (by decide) (Nat.le_of_ble_eq_true rfl) (ls := [some (.inr 7), some (.inl x), some (.inl y)]) rfl ?_
  refine pw_sound pw_tok pk_M_stop 400 _ _ _ _ _ _ ?_
  simp only [pv_all, pv_stp, pe_M_stop, pv_st, Nat.reduceAdd, eq_self, true_and, and_true, true_or, or_true, hM]
  exact c_M_isRide_o hM' hD hR hb ⟨fun _ => hk, fun q => absurd rfl q⟩
set_option maxHeartbeats 4000000 in
set_option maxRecDepth 100000 in
theorem c_M_stop {r : Nat} {y : Int32} {k : Int32 → pw_Hp → Prop} (hM : ps_MS h) (hD : ps_Md R G m σ μ ρ) (hR : R ≤ 8) (hr : r < R) (hy : y = 0 ∨ y = 1) (h0 : μ 13 r = y → k 0 (pw_st h σ)) (hk : ¬ μ 13 r = y → ∀ τ, ps_Md R G m τ (ps_up μ 13 r y) ρ → ps_Ofm σ τ → k 1 (pw_st h τ)) : pw_Ci 85 [.inr 7, .inl (nI r), .inl y] (pw_st h σ) k := by
  have hM' := hM
  have e := (ps_Md_e hD).1
  unfold ps_MS at hM
  refine pw_intro (M := pm_M_stop) rfl (by decide) (Nat.le_of_ble_eq_true rfl) (ls := [some (.inr 7), some (.inl (nI r)), some (.inl y)]) rfl ?_
  refine pw_sound pw_tok pk_M_stop 400 _ _ _ _ _ _ ?_
  simp only [pv_all, pv_stp, pe_M_stop, pv_st, Nat.reduceAdd, eq_self, true_and, and_true, true_or, or_true, hM]
  refine c_M_isRide hM' hD hR hr ⟨fun q => absurd q (by decide), fun _ => ?_⟩
  simp (disch := omega) only [pv_st, hM, eq_self, true_and, true_or, pn_at, pn_cl, e]
  refine ⟨by omega, fun q => ⟨by omega, hy, ?_⟩, fun q => h0 q⟩
  exact hk q _ (rm_up hD (by decide) (by decide) (by decide)) (ps_Ofm_up (by decide) (by decide))
set_option maxHeartbeats 4000000 in
set_option maxRecDepth 100000 in
theorem c_M_rain {y : Int32} {k : Int32 → pw_Hp → Prop} (hM : ps_MS h) (hD : ps_Md R G m σ μ ρ) (hy : y = 0 ∨ y = 1) (h0 : μ 7 1 = y → ∀ τ, ps_Md R G m τ μ ρ → ps_Ofm σ τ → k 0 (pw_st h τ)) (hk : ¬ μ 7 1 = y → ∀ τ, ps_Md R G m τ (ps_up μ 7 1 y) ρ → ps_Ofm σ τ → k 1 (pw_st h τ)) : pw_Ci 27 [.inr 7, .inl y] (pw_st h σ) k := by
  have e1 := hD.2.1.2.1
  unfold ps_MS at hM
  refine pw_intro (M := pm_M_rain) rfl (by decide) (Nat.le_of_ble_eq_true rfl) (ls := [some (.inr 7), some (.inl y), none]) rfl ?_
  refine pw_sound pw_tok pk_M_rain 400 _ _ _ _ _ _ ?_
  simp only [pv_all, pv_stp, pe_M_rain, pv_st, Nat.reduceAdd, eq_self, true_and, and_true, true_or, or_true, hM, e1]
  refine ⟨fun q => ⟨hy, ?_⟩, fun q => ⟨hy, ?_⟩⟩
  · refine h0 q _ ?_ (ps_Ofm_up (by decide) (by decide))
    have := rm_7 (i := 1) (x := y) hD (Or.inr rfl)
    rwa [ps_up_id q] at this
  · exact hk q _ (rm_7 hD (Or.inr rfl)) (ps_Ofm_up (by decide) (by decide))
set_option maxHeartbeats 4000000 in
set_option maxRecDepth 100000 in
theorem c_M_time_b {x y z : Int32} {k : Int32 → pw_Hp → Prop} (hM : ps_MS h) (hD : ps_Md R G m σ μ ρ) (hW : ps_Wf R G Nw μ ρ n) (hb : (x < 0 ∨ nI G ≤ x) ∨ ∃ g, g < G ∧ x = nI g ∧ (y < 0 ∨ nI (ps_N μ 24 g) ≤ y)) (hk : ∀ τ, ps_Md R G m τ (ps_ref μ 1) ρ → ps_Ofm σ τ → k (-1) (pw_st h τ)) : pw_Ci 90 [.inr 7, .inl x, .inl y, .inl z] (pw_st h σ) k := by
  have hM' := hM
  have e := (ps_Md_e hD).2
  have hG := hW.1.2.1
  unfold ps_MS at hM
  refine pw_intro (M := pm_M_time) rfl (by decide) (Nat.le_of_ble_eq_true rfl) (ls := [some (.inr 7), some (.inl x), some (.inl y), some (.inl z)]) rfl ?_
  refine pw_sound pw_tok pk_M_time 400 _ _ _ _ _ _ ?_
  simp only [pv_all, pv_stp, pe_M_time, pv_st, Nat.reduceAdd, eq_self, true_and, and_true, true_or, or_true, hM]
  rcases hb with hb | ⟨g, hg, rfl, hb⟩
  · refine c_M_isGroup_o hM' hD hG hb ⟨fun _ => ?_, fun q => absurd rfl q⟩
    simp only [pv_st, hM, eq_self, true_and]
    exact c_M_ref hM' hD (c := 1) (by decide) (by decide) hk
  · obtain ⟨-, -, -, -, -, w6, w7, -⟩ := hW.2.2.1 g hg
    refine c_M_isGroup hM' hD hG hg ⟨fun q => absurd q (by decide), fun _ => ?_⟩
    simp (disch := omega) only [pv_st, hM, eq_self, true_and, true_or, pn_at, pn_cl, e, w6]
    refine ⟨by omega, ?_⟩
    refine c_M_in (fun q1 q2 => ?_) (fun _ => ⟨fun q => absurd rfl q, fun _ => ?_⟩)
    · exfalso
      rcases hb with hb | hb
      · exact fa_nlt' q1 hb
      · rw [fa_le', nI_toInt (by omega)] at hb
        rw [fa_le', pn_pred (by omega)] at q2
        omega
    · simp only [pv_st, hM, eq_self, true_and]
      exact c_M_ref hM' hD (c := 1) (by decide) (by decide) hk
set_option maxHeartbeats 4000000 in
set_option maxRecDepth 100000 in
theorem c_M_time {g j : Nat} {z : Int32} {k : Int32 → pw_Hp → Prop} (hM : ps_MS h) (hD : ps_Md R G m σ μ ρ) (hW : ps_Wf R G Nw μ ρ n) (hg : g < G) (hj : j < ps_N μ 24 g) (hk : k (if z = 0 then μ 25 (2 * g + j) else if z = 1 then μ 26 (2 * g + j) else -9) (pw_st h σ)) : pw_Ci 90 [.inr 7, .inl (nI g), .inl (nI j), .inl z] (pw_st h σ) k := by
  have hM' := hM
  have e := ps_Md_e hD
  have hG := hW.1.2.1
  obtain ⟨-, -, -, -, -, w6, w7, -⟩ := hW.2.2.1 g hg
  unfold ps_MS at hM
  have e2 : (2 : Int32) * nI g + nI j = nI (2 * g + j) := by rw [show (2 : Int32) = nI 2 from rfl, pn_mul, pn_add]
  refine pw_intro (M := pm_M_time) rfl (by decide) (Nat.le_of_ble_eq_true rfl) (ls := [some (.inr 7), some (.inl (nI g)), some (.inl (nI j)), some (.inl z)]) rfl ?_
  refine pw_sound pw_tok pk_M_time 400 _ _ _ _ _ _ ?_
  simp only [pv_all, pv_stp, pe_M_time, pv_st, Nat.reduceAdd, eq_self, true_and, and_true, true_or, or_true, hM]
  refine c_M_isGroup hM' hD hG hg ⟨fun q => absurd q (by decide), fun _ => ?_⟩
  simp (disch := omega) only [pv_st, hM, eq_self, true_and, true_or, pn_at, pn_cl, e, w6]
  refine ⟨by omega, ?_⟩
  refine c_M_in (fun q1 q2 => ⟨fun _ => ?_, fun q => absurd q (by decide)⟩) (fun q => absurd ⟨?_, ?_⟩ q)
  · simp (disch := omega) only [pv_st, hM, eq_self, true_and, true_or, pn_at, pn_cl, e, e2]
    refine ⟨fun q => ⟨fun q' => ?_, fun q' => ⟨by omega, ?_⟩⟩, fun q => ⟨by omega, ?_⟩⟩
    · rw [if_neg q, if_neg q'] at hk; exact hk
    · rw [if_neg q, if_pos q'] at hk; exact hk
    · rw [if_pos q] at hk; exact hk
  · rw [show (0 : Int32) = nI 0 from rfl, pn_le (by omega) (by omega)]; omega
  · rw [fa_le', pn_pred (by omega), nI_toInt (by omega)]; omega
set_option maxHeartbeats 4000000 in
set_option maxRecDepth 100000 in
theorem c_M_window_b {x y z : Int32} {k : Int32 → pw_Hp → Prop} (hM : ps_MS h) (hD : ps_Md R G m σ μ ρ) (hR : R ≤ 8) (hb : (x < 0 ∨ nI R ≤ x) ∨ y < 0) (hk : ∀ τ, ps_Md R G m τ (ps_ref μ 1) ρ → ps_Ofm σ τ → k (-1) (pw_st h τ)) : pw_Ci 92 [.inr 7, .inl x, .inl y, .inl z] (pw_st h σ) k := by
  have hM' := hM
  unfold ps_MS at hM
  have fin : pw_Ci 20 [.inr 7, .inl (-1)] (pw_st h σ) fun x h' => k x h' := c_M_ref hM' hD (c := 1) (by decide) (by decide) hk
  refine pw_intro (M := pm_M_window) rfl (by decide) (Nat.le_of_ble_eq_true rfl) (ls := [some (.inr 7), some (.inl x), some (.inl y), some (.inl z)]) rfl ?_
  refine pw_sound pw_tok pk_M_window 400 _ _ _ _ _ _ ?_
  simp only [pv_all, pv_stp, pe_M_window, pv_st, Nat.reduceAdd, eq_self, true_and, and_true, true_or, or_true, hM]
  rcases ps_cases x R (by omega) with q | ⟨a, ha, rfl⟩
  · refine c_M_isRide_o hM' hD hR q ⟨fun _ => ?_, fun q => absurd rfl q⟩
    simp only [pv_st, hM, eq_self, true_and]
    exact fin
  · refine c_M_isRide hM' hD hR ha ⟨fun q => absurd q (by decide), fun _ => ?_⟩
    simp only [pv_st, hM, eq_self, true_and]
    have hy : y < 0 := by
      rcases hb with hb | hb
      · exact absurd hb (fun z => absurd rfl (pn_out z (by omega) a ha))
      · exact hb
    exact ⟨fun q => absurd hy (fa_nlt' q), fun _ => fin⟩
set_option maxHeartbeats 4000000 in
set_option maxRecDepth 100000 in
theorem c_M_window {r : Nat} {y z : Int32} {k : Int32 → pw_Hp → Prop} (hM : ps_MS h) (hD : ps_Md R G m σ μ ρ) (hW : ps_Wf R G Nw μ ρ n) (hr : r < R) (hy : ¬ y < 0) (hk : k (if z = 0 then (if y < 1100 then μ 18 (1100 * r + y.toNatClampNeg) else 0) else if z = 1 then nI (ps_room μ r) else -9) (pw_st h σ)) : pw_Ci 92 [.inr 7, .inl (nI r), .inl y, .inl z] (pw_st h σ) k := by
  have hM' := hM
  have e := (ps_Md_e hD).1
  have hR := hW.1.1
  have wr := (hW.2.1 r hr).1
  unfold ps_MS at hM
  refine pw_intro (M := pm_M_window) rfl (by decide) (Nat.le_of_ble_eq_true rfl) (ls := [some (.inr 7), some (.inl (nI r)), some (.inl y), some (.inl z)]) rfl ?_
  refine pw_sound pw_tok pk_M_window 400 _ _ _ _ _ _ ?_
  simp only [pv_all, pv_stp, pe_M_window, pv_st, Nat.reduceAdd, eq_self, true_and, and_true, true_or, or_true, hM]
  refine c_M_isRide hM' hD hR hr ⟨fun q => absurd q (by decide), fun _ => ?_⟩
  simp only [pv_st, hM, eq_self, true_and, true_or, e]
  refine ⟨fun _ => ⟨fun q1 => ⟨fun q2 => ?_, fun q2 => ?_⟩, fun q1 => ⟨fun q2 => ?_, fun q2 => ?_⟩⟩, fun q => absurd (fa_of_nlt' hy) q⟩
  · rw [if_neg q1, if_neg q2] at hk; exact hk
  · rw [if_neg q1, if_pos q2] at hk
    exact c_M_roomOf hM' hD hR hr wr hk
  · rw [if_pos q1, if_neg (fa_nlt' q2)] at hk; exact hk
  · obtain ⟨w, hw, rfl⟩ := nI_of hy
    have hlt : w < 1100 := by
      rw [show (1100 : Int32) = nI 1100 from rfl, pn_le (by decide) hw] at q2
      omega
    have e1 : (1100 : Int32) * nI r + nI w = nI (1100 * r + w) := by rw [show (1100 : Int32) = nI 1100 from rfl, pn_mul, pn_add]
    rw [if_pos q1, if_pos (by rw [show (1100 : Int32) = nI 1100 from rfl, pn_lt hw (by decide)]; exact hlt), pn_cl hw] at hk
    rw [e1, pn_at (by omega), pn_cl (by omega)]
    exact ⟨by omega, hk⟩
end PMS
