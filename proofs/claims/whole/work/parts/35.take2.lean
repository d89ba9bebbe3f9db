section PTL
variable {h : pw_Hp} {R G : Nat} {aR aG Nw : Nat → Nat} {σ μ : ps_S} {ρ : ps_P} {n : Nat}
theorem ps_t2 (hW : ps_Wf R G Nw μ ρ n) : ∀ i, i < G → ps_N μ 24 i ≤ 2 := fun i hi => (hW.2.2.1 i hi).2.2.2.2.2.2.1
theorem ps_neg {w : Nat} (h : w < 2147483648) : ¬ nI w < 0 := nI_pos h
-- bad arguments
set_option maxHeartbeats 4000000 in
set_option maxRecDepth 100000 in
theorem c_P_wtt_b {x y : Nat} {k : Int32 → pw_Hp → Prop} (hx : x = 0 ∨ y = 0) (hk : k (-1) (pw_st h σ)) : pw_Ci 104 [.inr 2, .inr x, .inr y] (pw_st h σ) k := by
  refine pw_intro (M := pm_P_windowToTake) rfl (by decide) (Nat.le_of_ble_eq_true rfl) (ls := [some (.inr 2), some (.inr x), some (.inr y), none, none]) rfl ?_
  refine pw_sound pw_tok pk_P_windowToTake 400 _ _ _ _ _ _ ?_
  simp only [pv_all, pv_stp, pe_P_windowToTake, pv_st, Nat.reduceAdd, eq_self, true_and, and_true, true_or, or_true]
  exact ⟨fun _ => hk, fun q => ⟨fun q2 => absurd hx (fun z => z.elim q q2), fun _ => hk⟩⟩
def ps_bad2 (G R : Nat) (x y : Int32) : Prop := (x < 0 ∨ nI G ≤ x) ∨ (y < 0 ∨ nI R ≤ y)
theorem ps_cases (x : Int32) (G : Nat) (hG : G ≤ 100000) : (x < 0 ∨ nI G ≤ x) ∨ ∃ g, g < G ∧ x = nI g := by
  rcases pk_ix x (n := G) (by omega) with q | q | q
  · exact Or.inl (Or.inl q)
  · exact Or.inl (Or.inr q)
  · exact Or.inr q
-- a group and a ride by number, one of them wrong: one of the two cells is null
theorem c_P_two {x y : Int32} {k : Nat → Nat → pw_Hp → Prop} (hC : ps_CS h R G aR aG Nw) (hV : ps_Rv R G aR aG Nw σ μ ρ) (hb : ps_bad2 G R x y) (hk : ∀ a b, (a = 0 ∨ b = 0) → k a b (pw_st h σ)) : pw_Cr 16 [.inr 2, .inl x] (pw_st h σ) (fun a h1 => pw_k h1 2 = 13 ∧ pw_Cr 15 [.inr 2, .inl y] h1 (fun b h2 => k a b h2)) := by
  have hT := hC.1.1
  rcases ps_cases x G (by have := hC.2.2.1; omega) with hx | ⟨g, hg, rfl⟩
  · refine c_P_groupAt_o hC hV hx ⟨hT, ?_⟩
    rcases ps_cases y R (by have := hC.2.1; omega) with hy | ⟨r, hr, rfl⟩
    · exact c_P_rideAt_o hC hV hy (hk _ _ (Or.inl rfl))
    · exact c_P_rideAt hC hV hr (hk _ _ (Or.inl rfl))
  · rcases hb with hb | hy
    · exact absurd hb (fun z => pn_out z (by have := hC.2.2.1; omega) g hg rfl)
    · exact c_P_groupAt hC hV hg ⟨hT, c_P_rideAt_o hC hV hy (hk _ _ (Or.inr rfl))⟩
set_option maxHeartbeats 4000000 in
set_option maxRecDepth 100000 in
theorem c_P_take_b {x y : Int32} {k : Int32 → pw_Hp → Prop} (hC : ps_CS h R G aR aG Nw) (hV : ps_Rv R G aR aG Nw σ μ ρ) (hb : ps_bad2 G R x y) (hk : ∀ τ, ps_Rv R G aR aG Nw τ (ps_ref μ 1) ρ → ps_Off σ τ → k (-1) (pw_st h τ)) : pw_Ci 109 [.inr 2, .inl x, .inl y] (pw_st h σ) k := by
  have hT := hC.1.1
  refine pw_intro (M := pm_P_take) rfl (by decide) (Nat.le_of_ble_eq_true rfl) (ls := [some (.inr 2), some (.inl x), some (.inl y), none, none, none]) rfl ?_
  refine pw_sound pw_tok pk_P_take 400 _ _ _ _ _ _ ?_
  simp only [pv_all, pv_stp, pe_P_take, pv_st, Nat.reduceAdd, eq_self, true_and, and_true, true_or, or_true, hT]
  refine c_P_two hC hV hb (fun a b hab => ⟨hT, ?_⟩)
  refine c_P_wtt_b hab ⟨fun _ => ⟨hT, c_P_ref hC hV (c := 0) (by decide) (by decide) hk⟩, fun q => absurd (by decide) q⟩
set_option maxHeartbeats 4000000 in
set_option maxRecDepth 100000 in
theorem c_P_free_b {x y : Int32} {k : Int32 → pw_Hp → Prop} (hC : ps_CS h R G aR aG Nw) (hV : ps_Rv R G aR aG Nw σ μ ρ) (hb : ps_bad2 G R x y) (hk : ∀ τ, ps_Rv R G aR aG Nw τ (ps_ref μ 1) ρ → ps_Off σ τ → k (-1) (pw_st h τ)) : pw_Ci 110 [.inr 2, .inl x, .inl y] (pw_st h σ) k := by
  have hT := hC.1.1
  refine pw_intro (M := pm_P_free) rfl (by decide) (Nat.le_of_ble_eq_true rfl) (ls := [some (.inr 2), some (.inl x), some (.inl y), none]) rfl ?_
  refine pw_sound pw_tok pk_P_free 400 _ _ _ _ _ _ ?_
  simp only [pv_all, pv_stp, pe_P_free, pv_st, Nat.reduceAdd, eq_self, true_and, and_true, true_or, or_true, hT]
  refine c_P_two hC hV hb (fun a b hab => ⟨hT, ?_⟩)
  refine c_P_wtt_b hab ⟨fun q => absurd q (by decide), fun _ => ⟨hT, c_P_ref hC hV (c := 0) (by decide) (by decide) hk⟩⟩
set_option maxHeartbeats 4000000 in
set_option maxRecDepth 100000 in
theorem c_P_take {g r : Nat} {k : Int32 → pw_Hp → Prop} (hC : ps_CS h R G aR aG Nw) (hV : ps_Rv R G aR aG Nw σ μ ρ) (hW : ps_Wf R G Nw μ ρ n) (hg : g < G) (hr : r < R) (hk : ∀ τ, ps_Rv R G aR aG Nw τ (ps_take μ g r).2 ρ → ps_Off σ τ → k (ps_take μ g r).1 (pw_st h τ)) : pw_Ci 109 [.inr 2, .inl (nI g), .inl (nI r)] (pw_st h σ) k := by
  have hT := hC.1.1
  obtain ⟨-, s2, a40, -⟩ := hC.2.2.2.2.1 g hg
  obtain ⟨-, d2, -, -, N11, b40, -⟩ := hC.2.2.2.1 r hr
  obtain ⟨wr, wN⟩ := hW.2.1 r hr
  have hNle := ps_Nw_le wr
  have p2 := ps_wd_pos wr
  have tb := hW.1.2.2.2.1
  have hle : ps_N μ 7 0 / ps_wd μ r ≤ 5000 / ps_wd μ r := Nat.div_le_div_right tb
  obtain ⟨-, -, -, -, -, w6, w7, -⟩ := hW.2.2.1 g hg
  refine pw_intro (M := pm_P_take) rfl (by decide) (Nat.le_of_ble_eq_true rfl) (ls := [some (.inr 2), some (.inl (nI g)), some (.inl (nI r)), none, none, none]) rfl ?_
  refine pw_sound pw_tok pk_P_take 400 _ _ _ _ _ _ ?_
  simp only [pv_all, pv_stp, pe_P_take, pv_st, Nat.reduceAdd, eq_self, true_and, and_true, true_or, or_true, hT]
  refine c_P_groupAt hC hV hg ⟨hT, ?_⟩
  refine c_P_rideAt hC hV hr ⟨hT, ?_⟩
  refine c_P_windowToTake hC hV hW hg hr ?_
  unfold ps_take at hk
  unfold ps_wtt
  by_cases z1 : ps_N μ 20 g = 4
  · rw [if_pos z1] at hk ⊢
    exact ⟨fun _ => ⟨hT, c_P_ref hC hV (c := 1) (by decide) (by decide) hk⟩, fun q => absurd (by decide) q⟩
  rw [if_neg z1] at hk ⊢
  by_cases z2 : ps_N μ 24 g = 2
  · rw [if_pos z2] at hk ⊢
    exact ⟨fun _ => ⟨hT, c_P_ref hC hV (c := 5) (by decide) (by decide) hk⟩, fun q => absurd (by decide) q⟩
  rw [if_neg z2] at hk ⊢
  cases hf : ps_ff μ g r (ps_N μ 7 0 / ps_wd μ r + 1) 40 with
  | none =>
    rw [hf] at hk
    exact ⟨fun _ => ⟨hT, c_P_ref hC hV (c := 2) (by decide) (by decide) hk⟩, fun q => absurd (by decide) q⟩
  | some w =>
    rw [hf] at hk
    have hw := ps_ff_in _ _ _ hf
    have hwN : w < Nw r := by omega
    refine ⟨fun q => absurd q (ps_neg (by omega)), fun _ => ⟨fun q => absurd q (by omega), fun _ => ⟨fun _ => ⟨s2.1, d2.1, ?_⟩, fun q => absurd q (by omega)⟩⟩⟩
    refine c_D_addGiven d2 (by omega) hwN ⟨d2.1, s2.1, ?_⟩
    have eg := (hV.2.1 r hr).2.2.2 w hwN
    have em := (hV.2.2 g hg).2.1
    have et := (hV.2.2 g hg).2.2.1
    have en := (hV.2.1 r hr).1.1
    have hlay := hC.2.2.2.2.2.2.2 r g hr hg
    simp only [pv_st]
    rw [ps_up_n (Or.inl (show aR r ≠ aR r + 5 by omega)), en, eg, em]
    have hV2 := ru_given (x := μ 18 (1100 * r + w) + μ 19 g) hC hV hr hwN
    have ht2 : ps_up σ (aR r + 5) w (μ 18 (1100 * r + w) + μ 19 g) (aG g) 4 = nI (ps_N μ 24 g) := by rw [ps_up_n (Or.inl (by omega)), et]; exact w6
    refine c_G_addTime s2 ht2 (by omega) (hk _ ?_ ?_)
    · have hV3 := ru_addt (x := nI r) (y := nI w) hC hV2 hg (fun i hi => by unfold ps_N; rw [ps_up_n (Or.inl (by decide))]; exact ps_t2 hW i hi) (t := ps_N μ 24 g) (by rw [ps_up_n (Or.inl (by decide))]; exact w6) (by omega)
      have : ps_addt (ps_up μ 18 (1100 * r + w) (μ 18 (1100 * r + w) + μ 19 g)) g (ps_N μ 24 g) (nI r) (nI w) = ps_tk μ g r w := by
        unfold ps_addt ps_tk ps_addt
        rw [ps_up_n (Or.inl (show 24 ≠ 18 by decide)), ps_up_comm (f := 18) (f' := 25) (by decide), ps_up_comm (f := 18) (f' := 26) (by decide), ps_up_comm (f := 18) (f' := 24) (by decide)]
      rw [this] at hV3
      exact hV3
    · refine ps_Off_tr (ps_Off_up (by omega)) (ps_Off_tr (ps_Off_up (by omega)) (ps_Off_tr (ps_Off_up (by omega)) (ps_Off_up (by omega))))
set_option maxHeartbeats 4000000 in
set_option maxRecDepth 100000 in
theorem c_P_free {g r : Nat} {k : Int32 → pw_Hp → Prop} (hC : ps_CS h R G aR aG Nw) (hV : ps_Rv R G aR aG Nw σ μ ρ) (hW : ps_Wf R G Nw μ ρ n) (hg : g < G) (hr : r < R) (hk : ∀ τ, ps_Rv R G aR aG Nw τ (ps_free μ g r).2 ρ → ps_Off σ τ → k (ps_free μ g r).1 (pw_st h τ)) : pw_Ci 110 [.inr 2, .inl (nI g), .inl (nI r)] (pw_st h σ) k := by
  have hT := hC.1.1
  obtain ⟨wr, wN⟩ := hW.2.1 r hr
  have hNle := ps_Nw_le wr
  have tb := hW.1.2.2.2.1
  have hle : ps_N μ 7 0 / ps_wd μ r ≤ 5000 / ps_wd μ r := Nat.div_le_div_right tb
  refine pw_intro (M := pm_P_free) rfl (by decide) (Nat.le_of_ble_eq_true rfl) (ls := [some (.inr 2), some (.inl (nI g)), some (.inl (nI r)), none]) rfl ?_
  refine pw_sound pw_tok pk_P_free 400 _ _ _ _ _ _ ?_
  simp only [pv_all, pv_stp, pe_P_free, pv_st, Nat.reduceAdd, eq_self, true_and, and_true, true_or, or_true, hT]
  refine c_P_groupAt hC hV hg ⟨hT, ?_⟩
  refine c_P_rideAt hC hV hr ⟨hT, ?_⟩
  refine c_P_windowToTake hC hV hW hg hr ?_
  unfold ps_free at hk
  unfold ps_wtt
  by_cases z1 : ps_N μ 20 g = 4
  · rw [if_pos z1] at hk ⊢
    exact ⟨fun q => absurd q (by decide), fun _ => ⟨hT, c_P_ref hC hV (c := 1) (by decide) (by decide) hk⟩⟩
  rw [if_neg z1] at hk ⊢
  by_cases z2 : ps_N μ 24 g = 2
  · rw [if_pos z2] at hk ⊢
    exact ⟨fun q => absurd q (by decide), fun _ => ⟨hT, c_P_ref hC hV (c := 5) (by decide) (by decide) hk⟩⟩
  rw [if_neg z2] at hk ⊢
  cases hf : ps_ff μ g r (ps_N μ 7 0 / ps_wd μ r + 1) 40 with
  | none =>
    rw [hf] at hk
    exact ⟨fun q => absurd q (by decide), fun _ => ⟨hT, c_P_ref hC hV (c := 2) (by decide) (by decide) hk⟩⟩
  | some w =>
    rw [hf] at hk
    have hw := ps_ff_in _ _ _ hf
    exact ⟨fun _ => hk σ hV (ps_Off_rf σ), fun q => absurd (nI_pos' (by omega)) q⟩
set_option maxHeartbeats 4000000 in
set_option maxRecDepth 100000 in
theorem c_P_giveBack {g j : Nat} {k : Int32 → pw_Hp → Prop} (hC : ps_CS h R G aR aG Nw) (hV : ps_Rv R G aR aG Nw σ μ ρ) (hW : ps_Wf R G Nw μ ρ n) (hg : g < G) (hj : j < ps_N μ 24 g) (hk : ∀ τ, ps_Rv R G aR aG Nw τ (ps_gv μ g j) ρ → ps_Off σ τ → k (μ 26 (2 * g + j)) (pw_st h τ)) : pw_Ci 73 [.inr 2, .inr (aG g), .inl (nI j)] (pw_st h σ) k := by
  have hT := hC.1.1
  obtain ⟨-, s2, a40, -⟩ := hC.2.2.2.2.1 g hg
  obtain ⟨-, -, -, -, -, w6, w7, -, -, -, -, -, -, w8⟩ := hW.2.2.1 g hg
  obtain ⟨t1, t2, t3, t4⟩ := w8 j hj
  obtain ⟨-, d2, -, -, N11, b40, -⟩ := hC.2.2.2.1 _ t2
  obtain ⟨wr, wN⟩ := hW.2.1 _ t2
  have hNle := ps_Nw_le wr
  obtain ⟨-, em, e4, -, -, -, -, -, -, -, e12⟩ := hV.2.2 g hg
  have e2 := e12 j hj
  rw [w6] at e4
  have hlay := hC.2.2.2.2.2.2.2 _ g t2 hg
  have hwN : ps_N μ 26 (2 * g + j) < Nw (ps_N μ 25 (2 * g + j)) := by omega
  have eg := (hV.2.1 _ t2).2.2.2 _ hwN
  refine pw_intro (M := pm_P_giveBack) rfl (by decide) (Nat.le_of_ble_eq_true rfl) (ls := [some (.inr 2), some (.inr (aG g)), some (.inl (nI j)), none, none]) rfl ?_
  refine pw_sound pw_tok pk_P_giveBack 400 _ _ _ _ _ _ ?_
  simp only [pv_all, pv_stp, pe_P_giveBack, pv_st, Nat.reduceAdd, eq_self, true_and, and_true, true_or, or_true, hT, s2.1]
  refine c_G_rideOfTime s2 e4 w7 hj ⟨hT, ?_⟩
  rw [e2.1, t1]
  refine c_P_rideAt hC hV t2 ⟨s2.1, ?_⟩
  refine c_G_windowOfTime s2 e4 w7 hj ⟨fun q => absurd q (by omega), fun _ => ⟨s2.1, d2.1, ?_⟩⟩
  rw [e2.2, t3]
  refine c_D_addGiven d2 (by omega) hwN ⟨s2.1, ?_⟩
  simp only [pv_st]
  rw [eg, em, show μ 18 (1100 * ps_N μ 25 (2 * g + j) + ps_N μ 26 (2 * g + j)) + -μ 19 g = μ 18 (1100 * ps_N μ 25 (2 * g + j) + ps_N μ 26 (2 * g + j)) - μ 19 g from (Int32.sub_eq_add_neg _ _).symm]
  have hV2 := ru_given (x := μ 18 (1100 * ps_N μ 25 (2 * g + j) + ps_N μ 26 (2 * g + j)) - μ 19 g) hC hV t2 hwN
  have et2 : ps_up σ (aR (ps_N μ 25 (2 * g + j)) + 5) (ps_N μ 26 (2 * g + j)) (μ 18 (1100 * ps_N μ 25 (2 * g + j) + ps_N μ 26 (2 * g + j)) - μ 19 g) (aG g) 4 = nI (ps_N μ 24 g) := by rw [ps_up_n (Or.inl (by omega))]; exact e4
  refine c_G_dropTime s2 et2 w7 hj ?_
  rw [← t3]
  refine hk _ ?_ ?_
  · exact ru_drop hC hV2 hg (fun i hi => by unfold ps_N; rw [ps_up_n (Or.inl (by decide))]; exact ps_t2 hW i hi) (by rw [ps_up_n (Or.inl (by decide))]; exact w6) w7 hj
  · intro f f1 f2
    unfold ps_gdrop
    split
    · rw [ps_up_f (by omega), ps_up_f (by omega), ps_up_f (by omega), ps_up_f (by omega)]
    · rw [ps_up_f (by omega), ps_up_f (by omega)]
set_option maxHeartbeats 4000000 in
set_option maxRecDepth 100000 in
theorem c_P_give {g j : Nat} {k : Int32 → pw_Hp → Prop} (hC : ps_CS h R G aR aG Nw) (hV : ps_Rv R G aR aG Nw σ μ ρ) (hW : ps_Wf R G Nw μ ρ n) (hg : g < G) (hj : j < ps_N μ 24 g) (hk : ∀ τ, ps_Rv R G aR aG Nw τ (ps_gv μ g j) ρ → ps_Off σ τ → k (μ 26 (2 * g + j)) (pw_st h τ)) : pw_Ci 95 [.inr 2, .inl (nI g), .inl (nI j)] (pw_st h σ) k := by
  have hT := hC.1.1
  obtain ⟨-, s2, a40, -⟩ := hC.2.2.2.2.1 g hg
  obtain ⟨-, -, -, -, -, w6, w7, -⟩ := hW.2.2.1 g hg
  have e4 := (hV.2.2 g hg).2.2.1
  rw [w6] at e4
  refine pw_intro (M := pm_P_give) rfl (by decide) (Nat.le_of_ble_eq_true rfl) (ls := [some (.inr 2), some (.inl (nI g)), some (.inl (nI j)), none]) rfl ?_
  refine pw_sound pw_tok pk_P_give 400 _ _ _ _ _ _ ?_
  simp only [pv_all, pv_stp, pe_P_give, pv_st, Nat.reduceAdd, eq_self, true_and, and_true, true_or, or_true, hT]
  refine c_P_groupAt hC hV hg ⟨fun q => absurd q (by omega), fun _ => ⟨s2.1, ?_⟩⟩
  refine c_G_hasTime_y s2 e4 w7 hj ⟨fun _ => ⟨hT, c_P_giveBack hC hV hW hg hj hk⟩, fun q => absurd q (by decide)⟩
set_option maxHeartbeats 4000000 in
set_option maxRecDepth 100000 in
theorem c_P_give_b {x y : Int32} {k : Int32 → pw_Hp → Prop} (hC : ps_CS h R G aR aG Nw) (hV : ps_Rv R G aR aG Nw σ μ ρ) (hW : ps_Wf R G Nw μ ρ n) (hb : (x < 0 ∨ nI G ≤ x) ∨ ∃ g, g < G ∧ x = nI g ∧ (y < 0 ∨ nI (ps_N μ 24 g) ≤ y)) (hk : ∀ τ, ps_Rv R G aR aG Nw τ (ps_ref μ 1) ρ → ps_Off σ τ → k (-1) (pw_st h τ)) : pw_Ci 95 [.inr 2, .inl x, .inl y] (pw_st h σ) k := by
  have hT := hC.1.1
  refine pw_intro (M := pm_P_give) rfl (by decide) (Nat.le_of_ble_eq_true rfl) (ls := [some (.inr 2), some (.inl x), some (.inl y), none]) rfl ?_
  refine pw_sound pw_tok pk_P_give 400 _ _ _ _ _ _ ?_
  simp only [pv_all, pv_stp, pe_P_give, pv_st, Nat.reduceAdd, eq_self, true_and, and_true, true_or, or_true, hT]
  rcases hb with hb | ⟨g, hg, rfl, hy⟩
  · exact c_P_groupAt_o hC hV hb ⟨fun _ => ⟨hT, c_P_ref hC hV (c := 0) (by decide) (by decide) hk⟩, fun q => absurd rfl q⟩
  · obtain ⟨-, s2, a40, -⟩ := hC.2.2.2.2.1 g hg
    obtain ⟨-, -, -, -, -, w6, w7, -⟩ := hW.2.2.1 g hg
    have e4 := (hV.2.2 g hg).2.2.1
    rw [w6] at e4
    refine c_P_groupAt hC hV hg ⟨fun q => absurd q (by omega), fun _ => ⟨s2.1, ?_⟩⟩
    exact c_G_hasTime_n s2 e4 hy ⟨fun q => absurd rfl q, fun _ => ⟨hT, c_P_ref hC hV (c := 0) (by decide) (by decide) hk⟩⟩
end PTL
