/-! ParkRows: walk, part, stop, rain, time, window, row. -/
def ps_walk (μ : ps_S) (a b : Nat) (x : Int32) : ps_S := ps_up (ps_up μ 17 (8 * a + b) x) 17 (8 * b + a) x
section PSM
variable {h : pw_Hp} {R G : Nat} {aR aG Nw : Nat → Nat} {σ μ : ps_S} {ρ : ps_P} {n : Nat}
set_option maxHeartbeats 4000000 in
set_option maxRecDepth 100000 in
theorem c_P_walk_b {x y z : Int32} {k : Int32 → pw_Hp → Prop} (hC : ps_CS h R G aR aG Nw) (hV : ps_Rv R G aR aG Nw σ μ ρ) (hb : (x < 0 ∨ nI R ≤ x) ∨ (y < 0 ∨ nI R ≤ y) ∨ x = y) (hk : ∀ τ, ps_Rv R G aR aG Nw τ (ps_ref μ 1) ρ → ps_Off σ τ → k (-1) (pw_st h τ)) : pw_Ci 42 [.inr 2, .inl x, .inl y, .inl z] (pw_st h σ) k := by
  have hT := hC.1.1
  have ref := c_P_ref (k := k) hC hV (x := -1) (c := 0) (by decide) (by decide) hk
  refine pw_intro (M := pm_P_walk) rfl (by decide) (Nat.le_of_ble_eq_true rfl) (ls := [some (.inr 2), some (.inl x), some (.inl y), some (.inl z), none]) rfl ?_
  refine pw_sound pw_tok pk_P_walk 400 _ _ _ _ _ _ ?_
  simp only [pv_all, pv_stp, pe_P_walk, pv_st, Nat.reduceAdd, eq_self, true_and, and_true, true_or, or_true, hT]
  rcases ps_cases x R (by have := hC.2.1; omega) with hx | ⟨a, ha, rfl⟩
  · exact c_P_rideAt_o hC hV hx ⟨fun _ => ⟨hT, ref⟩, fun q => absurd rfl q⟩
  · have a40 := (hC.2.2.2.1 a ha).2.2.2.2.2.1
    refine c_P_rideAt hC hV ha ⟨fun q => absurd q (by omega), fun _ => ⟨hT, ?_⟩⟩
    rcases ps_cases y R (by have := hC.2.1; omega) with hy | ⟨b, hb2, rfl⟩
    · exact c_P_rideAt_o hC hV hy ⟨fun _ => ⟨hT, ref⟩, fun q => absurd rfl q⟩
    · have b40 := (hC.2.2.2.1 b hb2).2.2.2.2.2.1
      refine c_P_rideAt hC hV hb2 ⟨fun q => absurd q (by omega), fun _ => ⟨fun q => ?_, fun _ => ⟨hT, ref⟩⟩⟩
      rcases hb with z1 | z1 | z1
      · exact absurd rfl (pn_out z1 (by have := hC.2.1; omega) a ha)
      · exact absurd rfl (pn_out z1 (by have := hC.2.1; omega) b hb2)
      · exact absurd z1 q
set_option maxHeartbeats 4000000 in
set_option maxRecDepth 100000 in
theorem c_P_walk {a b : Nat} {z : Int32} {k : Int32 → pw_Hp → Prop} (hC : ps_CS h R G aR aG Nw) (hV : ps_Rv R G aR aG Nw σ μ ρ) (ha : a < R) (hb : b < R) (hab : a ≠ b) (h4 : z < 0 → ∀ τ, ps_Rv R G aR aG Nw τ (ps_ref μ 4) ρ → ps_Off σ τ → k (-4) (pw_st h τ)) (h6 : 50 < z → ∀ τ, ps_Rv R G aR aG Nw τ (ps_ref μ 6) ρ → ps_Off σ τ → k (-6) (pw_st h τ)) (hk : ¬ z < 0 → ¬ 50 < z → ∀ τ, ps_Rv R G aR aG Nw τ (ps_walk μ a b z) ρ → ps_Off σ τ → k (μ 17 (8 * a + b)) (pw_st h τ)) : pw_Ci 42 [.inr 2, .inl (nI a), .inl (nI b), .inl z] (pw_st h σ) k := by
  have hT := hC.1.1
  have hR8 := hC.2.1
  have a40 := (hC.2.2.2.1 a ha).2.2.2.2.2.1
  have b40 := (hC.2.2.2.1 b hb).2.2.2.2.2.1
  refine pw_intro (M := pm_P_walk) rfl (by decide) (Nat.le_of_ble_eq_true rfl) (ls := [some (.inr 2), some (.inl (nI a)), some (.inl (nI b)), some (.inl z), none]) rfl ?_
  refine pw_sound pw_tok pk_P_walk 400 _ _ _ _ _ _ ?_
  simp only [pv_all, pv_stp, pe_P_walk, pv_st, Nat.reduceAdd, eq_self, true_and, and_true, true_or, or_true, hT]
  refine c_P_rideAt hC hV ha ⟨fun q => absurd q (by omega), fun _ => ⟨hT, ?_⟩⟩
  refine c_P_rideAt hC hV hb ⟨fun q => absurd q (by omega), fun _ => ⟨fun _ => ⟨fun q1 => ⟨fun q2 => ⟨hT, ?_⟩, fun q2 => ⟨hT, ?_⟩⟩, fun q1 => ⟨hT, ?_⟩⟩, fun q => ?_⟩⟩
  · refine c_P_walkBetween hC hV (by omega) (by omega) ⟨hT, ?_⟩
    refine c_P_setWalk hC (by omega) (by omega) ⟨hT, ?_⟩
    refine c_P_setWalk hC (by omega) (by omega) ?_
    exact hk (fa_nlt' q1) (fa_nlt' q2) _ (ru_walk hC (ru_walk hC hV)) (ps_Off_tr (ps_Off_up (by omega)) (ps_Off_up (by omega)))
  · exact c_P_ref hC hV (c := 5) (by decide) (by decide) (h6 (by rw [fa_le'] at q2; rw [fa_lt']; omega))
  · exact c_P_ref hC hV (c := 3) (by decide) (by decide) (h4 (by rw [fa_le'] at q1; rw [fa_lt']; omega))
  · rw [pn_eq (by omega) (by omega)] at q
    exact absurd q hab
set_option maxHeartbeats 4000000 in
set_option maxRecDepth 100000 in
theorem c_P_part_b {x y z : Int32} {k : Int32 → pw_Hp → Prop} (hC : ps_CS h R G aR aG Nw) (hV : ps_Rv R G aR aG Nw σ μ ρ) (hb : x < 0 ∨ nI R ≤ x) (hk : ∀ τ, ps_Rv R G aR aG Nw τ (ps_ref μ 1) ρ → ps_Off σ τ → k (-1) (pw_st h τ)) : pw_Ci 43 [.inr 2, .inl x, .inl y, .inl z] (pw_st h σ) k := by
  have hT := hC.1.1
  refine pw_intro (M := pm_P_part) rfl (by decide) (Nat.le_of_ble_eq_true rfl) (ls := [some (.inr 2), some (.inl x), some (.inl y), some (.inl z), none]) rfl ?_
  refine pw_sound pw_tok pk_P_part 400 _ _ _ _ _ _ ?_
  simp only [pv_all, pv_stp, pe_P_part, pv_st, Nat.reduceAdd, eq_self, true_and, and_true, true_or, or_true, hT]
  exact c_P_rideAt_o hC hV hb ⟨fun q => absurd rfl q, fun _ => ⟨hT, c_P_ref hC hV (c := 0) (by decide) (by decide) hk⟩⟩
set_option maxHeartbeats 4000000 in
set_option maxRecDepth 100000 in
theorem c_P_part {r : Nat} {y z : Int32} {k : Int32 → pw_Hp → Prop} (hC : ps_CS h R G aR aG Nw) (hV : ps_Rv R G aR aG Nw σ μ ρ) (hr : r < R) (h4 : (y < 0 ∨ z < 0) → ∀ τ, ps_Rv R G aR aG Nw τ (ps_ref μ 4) ρ → ps_Off σ τ → k (-4) (pw_st h τ)) (h6 : ¬ (y < 0 ∨ z < 0) → (μ 8 r < y ∨ 99 < z) → ∀ τ, ps_Rv R G aR aG Nw τ (ps_ref μ 6) ρ → ps_Off σ τ → k (-6) (pw_st h τ)) (hk : ¬ (y < 0 ∨ z < 0) → ¬ (μ 8 r < y ∨ 99 < z) → ∀ τ, ps_Rv R G aR aG Nw τ (ps_up (ps_up μ 10 r y) 11 r z) ρ → ps_Off σ τ → k 1 (pw_st h τ)) : pw_Ci 43 [.inr 2, .inl (nI r), .inl y, .inl z] (pw_st h σ) k := by
  have hT := hC.1.1
  obtain ⟨-, d2, -, -, -, a40, -⟩ := hC.2.2.2.1 r hr
  have e1 := (hV.2.1 r hr).1.2.1
  refine pw_intro (M := pm_P_part) rfl (by decide) (Nat.le_of_ble_eq_true rfl) (ls := [some (.inr 2), some (.inl (nI r)), some (.inl y), some (.inl z), none]) rfl ?_
  refine pw_sound pw_tok pk_P_part 400 _ _ _ _ _ _ ?_
  simp only [pv_all, pv_stp, pe_P_part, pv_st, Nat.reduceAdd, eq_self, true_and, and_true, true_or, or_true, hT]
  refine c_P_rideAt hC hV hr ⟨fun _ => ⟨fun q1 => ⟨hT, ?_⟩, fun q1 => ⟨fun q2 => ⟨d2.1, ?_⟩, fun q2 => ⟨hT, ?_⟩⟩⟩, fun q => absurd q (by omega)⟩
  · exact c_P_ref hC hV (c := 3) (by decide) (by decide) (h4 (Or.inl q1))
  · have n4 : ¬ (y < 0 ∨ z < 0) := fun w => w.elim q1 (fa_nlt' q2)
    simp only [pv_st, d2.1, hT, e1, true_and]
    refine ⟨fun q3 => ?_, fun q3 => ⟨fun q4 => ?_, fun q4 => ?_⟩⟩
    · exact c_P_ref hC hV (c := 5) (by decide) (by decide) (h6 n4 (Or.inl q3))
    · exact hk n4 (fun w => w.elim q3 (fa_nlt' q4)) _ (ru_D10 hC (ru_D9 hC hV hr) hr) (ps_Off_tr (ps_Off_up (by omega)) (ps_Off_up (by omega)))
    · exact c_P_ref hC hV (c := 5) (by decide) (by decide) (h6 n4 (Or.inr (by rw [fa_le'] at q4; rw [fa_lt']; omega)))
  · exact c_P_ref hC hV (c := 3) (by decide) (by decide) (h4 (Or.inr (by rw [fa_le'] at q2; rw [fa_lt']; omega)))
set_option maxHeartbeats 4000000 in
set_option maxRecDepth 100000 in
theorem c_P_stop_b {x y : Int32} {k : Int32 → pw_Hp → Prop} (hC : ps_CS h R G aR aG Nw) (hV : ps_Rv R G aR aG Nw σ μ ρ) (hb : x < 0 ∨ nI R ≤ x) (hk : k 0 (pw_st h σ)) : pw_Ci 45 [.inr 2, .inl x, .inl y] (pw_st h σ) k := by
  have hT := hC.1.1
  refine pw_intro (M := pm_P_stop) rfl (by decide) (Nat.le_of_ble_eq_true rfl) (ls := [some (.inr 2), some (.inl x), some (.inl y), none]) rfl ?_
  refine pw_sound pw_tok pk_P_stop 400 _ _ _ _ _ _ ?_
  simp only [pv_all, pv_stp, pe_P_stop, pv_st, Nat.reduceAdd, eq_self, true_and, and_true, true_or, or_true, hT]
  exact c_P_rideAt_o hC hV hb ⟨fun _ => hk, fun q => absurd rfl q⟩
set_option maxHeartbeats 4000000 in
set_option maxRecDepth 100000 in
theorem c_P_stop {r : Nat} {y : Int32} {k : Int32 → pw_Hp → Prop} (hC : ps_CS h R G aR aG Nw) (hV : ps_Rv R G aR aG Nw σ μ ρ) (hr : r < R) (hy : y = 0 ∨ y = 1) (h0 : μ 13 r = y → k 0 (pw_st h σ)) (hk : ¬ μ 13 r = y → ∀ τ, ps_Rv R G aR aG Nw τ (ps_up μ 13 r y) ρ → ps_Off σ τ → k 1 (pw_st h τ)) : pw_Ci 45 [.inr 2, .inl (nI r), .inl y] (pw_st h σ) k := by
  have hT := hC.1.1
  obtain ⟨-, d2, -, -, -, a40, -⟩ := hC.2.2.2.1 r hr
  have e1 := (hV.2.1 r hr).1.2.2.2.2.2.2.2.2.1
  refine pw_intro (M := pm_P_stop) rfl (by decide) (Nat.le_of_ble_eq_true rfl) (ls := [some (.inr 2), some (.inl (nI r)), some (.inl y), none]) rfl ?_
  refine pw_sound pw_tok pk_P_stop 400 _ _ _ _ _ _ ?_
  simp only [pv_all, pv_stp, pe_P_stop, pv_st, Nat.reduceAdd, eq_self, true_and, and_true, true_or, or_true, hT]
  refine c_P_rideAt hC hV hr ⟨fun q => absurd q (by omega), fun _ => ⟨d2.1, ?_⟩⟩
  simp only [pv_st, d2.1, e1, true_and, or_true, true_or]
  exact ⟨fun q => ⟨hy, hk q _ (ru_D11 hC hV hr) (ps_Off_up (by omega))⟩, h0⟩
set_option maxHeartbeats 4000000 in
set_option maxRecDepth 100000 in
theorem c_P_rain {y : Int32} {k : Int32 → pw_Hp → Prop} (hC : ps_CS h R G aR aG Nw) (hV : ps_Rv R G aR aG Nw σ μ ρ) (hy : y = 0 ∨ y = 1) (h0 : μ 7 1 = y → k 0 (pw_st h σ)) (hk : ¬ μ 7 1 = y → ∀ τ, ps_Rv R G aR aG Nw τ (ps_up μ 7 1 y) ρ → ps_Off σ τ → k 1 (pw_st h τ)) : pw_Ci 12 [.inr 2, .inl y] (pw_st h σ) k := by
  have hT := hC.1.1
  have e1 := hV.1.2.2.2.2.2.1
  refine pw_intro (M := pm_P_rain) rfl (by decide) (Nat.le_of_ble_eq_true rfl) (ls := [some (.inr 2), some (.inl y)]) rfl ?_
  refine pw_sound pw_tok pk_P_rain 400 _ _ _ _ _ _ ?_
  simp only [pv_all, pv_stp, pe_P_rain, pv_st, Nat.reduceAdd, eq_self, true_and, and_true, true_or, or_true, hT, e1]
  exact ⟨fun q => ⟨hy, hk q _ (ru_rain hC hV) (ps_Off_up (by omega))⟩, h0⟩
set_option maxHeartbeats 4000000 in
set_option maxRecDepth 100000 in
theorem c_P_time_b {x y z : Int32} {k : Int32 → pw_Hp → Prop} (hC : ps_CS h R G aR aG Nw) (hV : ps_Rv R G aR aG Nw σ μ ρ) (hW : ps_Wf R G Nw μ ρ n) (hb : (x < 0 ∨ nI G ≤ x) ∨ ∃ g, g < G ∧ x = nI g ∧ (y < 0 ∨ nI (ps_N μ 24 g) ≤ y)) (hk : ∀ τ, ps_Rv R G aR aG Nw τ (ps_ref μ 1) ρ → ps_Off σ τ → k (-1) (pw_st h τ)) : pw_Ci 68 [.inr 2, .inl x, .inl y, .inl z] (pw_st h σ) k := by
  have hT := hC.1.1
  refine pw_intro (M := pm_P_time) rfl (by decide) (Nat.le_of_ble_eq_true rfl) (ls := [some (.inr 2), some (.inl x), some (.inl y), some (.inl z), none]) rfl ?_
  refine pw_sound pw_tok pk_P_time 400 _ _ _ _ _ _ ?_
  simp only [pv_all, pv_stp, pe_P_time, pv_st, Nat.reduceAdd, eq_self, true_and, and_true, true_or, or_true, hT]
  rcases hb with hb | ⟨g, hg, rfl, hy⟩
  · exact c_P_groupAt_o hC hV hb ⟨fun _ => ⟨hT, c_P_ref hC hV (c := 0) (by decide) (by decide) hk⟩, fun q => absurd rfl q⟩
  · obtain ⟨-, s2, a40, -⟩ := hC.2.2.2.2.1 g hg
    obtain ⟨-, -, -, -, -, w6, w7, -⟩ := hW.2.2.1 g hg
    have e4 := (hV.2.2 g hg).2.2.1
    rw [w6] at e4
    refine c_P_groupAt hC hV hg ⟨fun q => absurd q (by omega), fun _ => ⟨s2.1, ?_⟩⟩
    exact c_G_hasTime_n s2 e4 hy ⟨fun q => absurd rfl q, fun _ => ⟨hT, c_P_ref hC hV (c := 0) (by decide) (by decide) hk⟩⟩
set_option maxHeartbeats 4000000 in
set_option maxRecDepth 100000 in
theorem c_P_time {g j : Nat} {z : Int32} {k : Int32 → pw_Hp → Prop} (hC : ps_CS h R G aR aG Nw) (hV : ps_Rv R G aR aG Nw σ μ ρ) (hW : ps_Wf R G Nw μ ρ n) (hg : g < G) (hj : j < ps_N μ 24 g) (hk : k (if z = 0 then μ 25 (2 * g + j) else if z = 1 then μ 26 (2 * g + j) else -9) (pw_st h σ)) : pw_Ci 68 [.inr 2, .inl (nI g), .inl (nI j), .inl z] (pw_st h σ) k := by
  have hT := hC.1.1
  obtain ⟨-, s2, a40, -⟩ := hC.2.2.2.2.1 g hg
  obtain ⟨-, -, -, -, -, w6, w7, -⟩ := hW.2.2.1 g hg
  obtain ⟨-, -, e4, -, -, -, -, -, -, -, e12⟩ := hV.2.2 g hg
  have e2 := e12 j hj
  rw [w6] at e4
  refine pw_intro (M := pm_P_time) rfl (by decide) (Nat.le_of_ble_eq_true rfl) (ls := [some (.inr 2), some (.inl (nI g)), some (.inl (nI j)), some (.inl z), none]) rfl ?_
  refine pw_sound pw_tok pk_P_time 400 _ _ _ _ _ _ ?_
  simp only [pv_all, pv_stp, pe_P_time, pv_st, Nat.reduceAdd, eq_self, true_and, and_true, true_or, or_true, hT]
  refine c_P_groupAt hC hV hg ⟨fun q => absurd q (by omega), fun _ => ⟨s2.1, ?_⟩⟩
  refine c_G_hasTime_y s2 e4 w7 hj ⟨fun _ => ⟨fun q => ⟨s2.1, ?_⟩, fun q => ⟨fun q2 => ⟨s2.1, ?_⟩, fun q2 => ?_⟩⟩, fun q => absurd q (by decide)⟩
  · rw [if_pos q] at hk
    exact c_G_rideOfTime s2 e4 w7 hj (by rw [e2.1]; exact hk)
  · rw [if_neg q, if_pos q2] at hk
    exact c_G_windowOfTime s2 e4 w7 hj (by rw [e2.2]; exact hk)
  · rw [if_neg q, if_neg q2] at hk
    exact hk
set_option maxHeartbeats 4000000 in
set_option maxRecDepth 100000 in
theorem c_P_window_b {x y z : Int32} {k : Int32 → pw_Hp → Prop} (hC : ps_CS h R G aR aG Nw) (hV : ps_Rv R G aR aG Nw σ μ ρ) (hb : (x < 0 ∨ nI R ≤ x) ∨ y < 0) (hk : ∀ τ, ps_Rv R G aR aG Nw τ (ps_ref μ 1) ρ → ps_Off σ τ → k (-1) (pw_st h τ)) : pw_Ci 69 [.inr 2, .inl x, .inl y, .inl z] (pw_st h σ) k := by
  have hT := hC.1.1
  refine pw_intro (M := pm_P_window) rfl (by decide) (Nat.le_of_ble_eq_true rfl) (ls := [some (.inr 2), some (.inl x), some (.inl y), some (.inl z), none]) rfl ?_
  refine pw_sound pw_tok pk_P_window 400 _ _ _ _ _ _ ?_
  simp only [pv_all, pv_stp, pe_P_window, pv_st, Nat.reduceAdd, eq_self, true_and, and_true, true_or, or_true, hT]
  rcases ps_cases x R (by have := hC.2.1; omega) with hx | ⟨r, hr, rfl⟩
  · exact c_P_rideAt_o hC hV hx ⟨fun _ => ⟨hT, c_P_ref hC hV (c := 0) (by decide) (by decide) hk⟩, fun q => absurd rfl q⟩
  · have a40 := (hC.2.2.2.1 r hr).2.2.2.2.2.1
    refine c_P_rideAt hC hV hr ⟨fun q => absurd q (by omega), fun _ => ⟨fun q => ?_, fun _ => ⟨hT, c_P_ref hC hV (c := 0) (by decide) (by decide) hk⟩⟩⟩
    rcases hb with z1 | z1
    · exact absurd rfl (pn_out z1 (by have := hC.2.1; omega) r hr)
    · exact absurd z1 (fa_nlt' q)
set_option maxHeartbeats 4000000 in
set_option maxRecDepth 100000 in
theorem c_P_window {r : Nat} {y z : Int32} {k : Int32 → pw_Hp → Prop} (hC : ps_CS h R G aR aG Nw) (hV : ps_Rv R G aR aG Nw σ μ ρ) (hW : ps_Wf R G Nw μ ρ n) (hr : r < R) (hy : ¬ y < 0) (hk : k (if z = 0 then (if y < 1100 then μ 18 (1100 * r + y.toNatClampNeg) else 0) else if z = 1 then nI (ps_room μ r) else -9) (pw_st h σ)) : pw_Ci 69 [.inr 2, .inl (nI r), .inl y, .inl z] (pw_st h σ) k := by
  have hT := hC.1.1
  obtain ⟨-, d2, -, -, N11, a40, -⟩ := hC.2.2.2.1 r hr
  obtain ⟨wr, wN⟩ := hW.2.1 r hr
  have hNle := ps_Nw_le wr
  obtain ⟨-, -, x0, -, -, -, x1, x2, x3, x4, -⟩ := id wr
  obtain ⟨-, -, -, -, -, -, u9, u10, -⟩ := (hV.2.1 r hr).1
  have egv := (hV.2.1 r hr).2.2.2
  rw [x1] at u9
  rw [x3] at u10
  have hR8 := hC.2.1
  refine pw_intro (M := pm_P_window) rfl (by decide) (Nat.le_of_ble_eq_true rfl) (ls := [some (.inr 2), some (.inl (nI r)), some (.inl y), some (.inl z), none]) rfl ?_
  refine pw_sound pw_tok pk_P_window 400 _ _ _ _ _ _ ?_
  simp only [pv_all, pv_stp, pe_P_window, pv_st, Nat.reduceAdd, eq_self, true_and, and_true, true_or, or_true, hT]
  refine c_P_rideAt hC hV hr ⟨fun q => absurd q (by omega), fun _ => ⟨fun _ => ⟨fun q => ⟨d2.1, ?_⟩, fun q => ⟨fun q2 => ⟨d2.1, ?_⟩, fun q2 => ?_⟩⟩, fun q => absurd (fa_of_nlt' hy) q⟩⟩
  · rw [if_pos q] at hk
    rcases ps_cases y (Nw r) (by omega) with hyo | ⟨w, hw, rfl⟩
    · refine c_D_givenOf_o d2 hyo ?_
      rcases hyo with z1 | z1
      · exact absurd z1 hy
      · by_cases hy2 : y < 1100
        · rw [if_pos hy2] at hk
          obtain ⟨w, hw, rfl⟩ := nI_of hy
          have q1 : w < 1100 := by rw [show (1100 : Int32) = nI 1100 from rfl, pn_lt hw (by omega)] at hy2; exact hy2
          rw [pn_le (by omega) (by omega)] at z1
          rw [nI_clamp hw, hW.2.2.2.2.2.2.1 r w (by omega) q1 (Or.inr (by omega))] at hk
          exact hk
        · rw [if_neg hy2] at hk
          exact hk
    · refine c_D_givenOf d2 (by omega) hw ?_
      rw [egv w hw]
      rw [if_pos (by rw [show (1100 : Int32) = nI 1100 from rfl, pn_lt (by omega) (by omega)]; omega), nI_clamp (by omega)] at hk
      exact hk
  · rw [if_neg q, if_pos q2] at hk
    exact c_D_roomOfWindow d2 u9 u10 (by omega) x4 hk
  · rw [if_neg q, if_neg q2] at hk
    exact hk
set_option maxHeartbeats 4000000 in
set_option maxRecDepth 100000 in
theorem c_P_row_b {x y z : Int32} {k : Int32 → pw_Hp → Prop} (hC : ps_CS h R G aR aG Nw) (hV : ps_Rv R G aR aG Nw σ μ ρ) (hb : x < 0 ∨ nI R ≤ x) (hk : ∀ τ, ps_Rv R G aR aG Nw τ (ps_ref μ 1) ρ → ps_Off σ τ → k (-1) (pw_st h τ)) : pw_Ci 47 [.inr 2, .inl x, .inl y, .inl z] (pw_st h σ) k := by
  have hT := hC.1.1
  refine pw_intro (M := pm_P_row) rfl (by decide) (Nat.le_of_ble_eq_true rfl) (ls := [some (.inr 2), some (.inl x), some (.inl y), some (.inl z), none, none]) rfl ?_
  refine pw_sound pw_tok pk_P_row 400 _ _ _ _ _ _ ?_
  simp only [pv_all, pv_stp, pe_P_row, pv_st, Nat.reduceAdd, eq_self, true_and, and_true, true_or, or_true, hT]
  exact c_P_rideAt_o hC hV hb ⟨fun q => absurd rfl q, fun _ => ⟨hT, c_P_ref hC hV (c := 0) (by decide) (by decide) hk⟩⟩
set_option maxHeartbeats 4000000 in
set_option maxRecDepth 100000 in
theorem c_P_row {r : Nat} {y z : Int32} {k : Int32 → pw_Hp → Prop} (hC : ps_CS h R G aR aG Nw) (hV : ps_Rv R G aR aG Nw σ μ ρ) (hr : r < R) (hi : ∀ i x, z = nI i → (ρ (2 * r + (if y = 0 then 0 else 1)))[i]? = some x → k (nI x) (pw_st h σ)) (ho : (z < 0 ∨ nI (ρ (2 * r + (if y = 0 then 0 else 1))).length ≤ z) → k (-9) (pw_st h σ)) : pw_Ci 47 [.inr 2, .inl (nI r), .inl y, .inl z] (pw_st h σ) k := by
  have hT := hC.1.1
  obtain ⟨-, d2, w1, w3, -, a40, -⟩ := hC.2.2.2.1 r hr
  obtain ⟨-, r1, r2, -⟩ := hV.2.1 r hr
  have fin : ∀ (a : Nat) (L : List Nat), ps_WS h a → ps_Rw σ a L → (∀ i x, z = nI i → L[i]? = some x → k (nI x) (pw_st h σ)) → ((z < 0 ∨ nI L.length ≤ z) → k (-9) (pw_st h σ)) → pw_Ci 9 [.inr a, .inl z] (pw_st h σ) k := by
    intro a L hws hrw h1 h2
    rcases ps_cases z L.length (by have := hrw.2.1; omega) with hz | ⟨i, hil, rfl⟩
    · exact c_W_at_o hws hrw hz (h2 hz)
    · exact c_W_at hws hrw (List.getElem?_eq_getElem hil) (h1 i _ rfl (List.getElem?_eq_getElem hil))
  have d2' := d2
  unfold ps_DS at d2'
  refine pw_intro (M := pm_P_row) rfl (by decide) (Nat.le_of_ble_eq_true rfl) (ls := [some (.inr 2), some (.inl (nI r)), some (.inl y), some (.inl z), none, none]) rfl ?_
  refine pw_sound pw_tok pk_P_row 400 _ _ _ _ _ _ ?_
  simp only [pv_all, pv_stp, pe_P_row, pv_st, Nat.reduceAdd, eq_self, true_and, and_true, true_or, or_true, hT]
  refine c_P_rideAt hC hV hr ⟨fun _ => ⟨fun q => ?_, fun q => ?_⟩, fun q => absurd q (by omega)⟩
  · simp only [pv_st, d2', w1.1, true_and, eq_self]
    rw [if_pos q] at hi ho
    exact fin _ _ w1 r1 hi ho
  · simp only [pv_st, d2', w3.1, true_and, eq_self]
    rw [if_neg q] at hi ho
    exact fin _ _ w3 r2 hi ho
end PSM
