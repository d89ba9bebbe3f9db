/-! ParkRows: its small methods. -/
section PSP
variable {h : pw_Hp} {R G : Nat} {aR aG Nw : Nat → Nat} {σ μ : ps_S} {ρ : ps_P} {n : Nat}
set_option maxHeartbeats 4000000 in
set_option maxRecDepth 100000 in
theorem c_P_refused {x : Int32} {c : Nat} {k : Int32 → pw_Hp → Prop} (hC : ps_CS h R G aR aG Nw) (hx : -1 - x = nI c) (hc : c < 6) (hk : k x (pw_st h (ps_up σ 6 c (σ 6 c + 1)))) : pw_Ci 13 [.inr 2, .inl x] (pw_st h σ) k := by
  have hT := hC.1
  unfold ps_TS at hT
  refine pw_intro (M := pm_P_refused) rfl (by decide) (Nat.le_of_ble_eq_true rfl) (ls := [some (.inr 2), some (.inl x), none]) rfl ?_
  refine pw_sound pw_tok pk_P_refused 400 _ _ _ _ _ _ ?_
  simp only [pv_all, pv_stp, pe_P_refused, pv_st, Nat.reduceAdd, eq_self, true_and, and_true, true_or, or_true, hT, hx]
  simp (disch := omega) only [pn_c, pn_lt, pn_le, pn_at, pn_cl]
  refine ⟨fun q => absurd q (by omega), fun _ => ⟨fun q => absurd q (by omega), fun _ => ⟨hc, hc, ?_⟩⟩⟩
  simpa only [pn_c] using hk
-- a refusal, all in all
theorem c_P_ref {x : Int32} {c : Nat} {k : Int32 → pw_Hp → Prop} (hC : ps_CS h R G aR aG Nw) (hV : ps_Rv R G aR aG Nw σ μ ρ) (hx : -1 - x = nI c) (hc : c < 6) (hk : ∀ τ, ps_Rv R G aR aG Nw τ (ps_ref μ (c + 1)) ρ → ps_Off σ τ → k x (pw_st h τ)) : pw_Ci 13 [.inr 2, .inl x] (pw_st h σ) k := by
  refine c_P_refused hC hx hc (hk _ ?_ (ps_Off_up (by omega)))
  have e := hV.1.2.2.2.2.2.2.2 c hc
  unfold ps_ref
  rw [e]
  exact ru_ref hC hV
set_option maxHeartbeats 4000000 in
set_option maxRecDepth 100000 in
theorem c_P_rideAt {r : Nat} {k : Nat → pw_Hp → Prop} (hC : ps_CS h R G aR aG Nw) (hV : ps_Rv R G aR aG Nw σ μ ρ) (hr : r < R) (hk : k (aR r) (pw_st h σ)) : pw_Cr 15 [.inr 2, .inl (nI r)] (pw_st h σ) k := by
  have hT := hC.1
  have e := (hC.2.2.2.1 r hr).1
  have v := hV.1.1
  have hR8 := hC.2.1
  unfold ps_TS at hT
  refine pw_intro (M := pm_P_rideAt) rfl (by decide) (Nat.le_of_ble_eq_true rfl) (ls := [some (.inr 2), some (.inl (nI r))]) rfl ?_
  refine pw_sound pw_tok pk_P_rideAt 400 _ _ _ _ _ _ ?_
  simp only [pv_all, pv_stp, pe_P_rideAt, pv_st, Nat.reduceAdd, eq_self, true_and, and_true, true_or, or_true, hT, v]
  simp (disch := omega) only [pn_c, pn_lt, pn_le, pn_at, pn_cl, e]
  exact ⟨fun q => absurd q (by omega), fun _ => ⟨fun q => absurd q (by omega), fun _ => ⟨fun q => absurd q (by omega), fun _ => ⟨by omega, hk⟩⟩⟩⟩
set_option maxHeartbeats 4000000 in
set_option maxRecDepth 100000 in
theorem c_P_rideAt_o {x : Int32} {k : Nat → pw_Hp → Prop} (hC : ps_CS h R G aR aG Nw) (hV : ps_Rv R G aR aG Nw σ μ ρ) (hx : x < 0 ∨ nI R ≤ x) (hk : k 0 (pw_st h σ)) : pw_Cr 15 [.inr 2, .inl x] (pw_st h σ) k := by
  have hT := hC.1
  have v := hV.1.1
  unfold ps_TS at hT
  refine pw_intro (M := pm_P_rideAt) rfl (by decide) (Nat.le_of_ble_eq_true rfl) (ls := [some (.inr 2), some (.inl x)]) rfl ?_
  refine pw_sound pw_tok pk_P_rideAt 400 _ _ _ _ _ _ ?_
  simp only [pv_all, pv_stp, pe_P_rideAt, pv_st, Nat.reduceAdd, eq_self, true_and, and_true, true_or, or_true, hT, v]
  exact ⟨fun _ => hk, fun q => ⟨fun _ => hk, fun q2 => absurd hx (fun z => z.elim q q2)⟩⟩
set_option maxHeartbeats 4000000 in
set_option maxRecDepth 100000 in
theorem c_P_groupAt {g : Nat} {k : Nat → pw_Hp → Prop} (hC : ps_CS h R G aR aG Nw) (hV : ps_Rv R G aR aG Nw σ μ ρ) (hg : g < G) (hk : k (aG g) (pw_st h σ)) : pw_Cr 16 [.inr 2, .inl (nI g)] (pw_st h σ) k := by
  have hT := hC.1
  have e := (hC.2.2.2.2.1 g hg).1
  have v := hV.1.2.1
  have hR8 := hC.2.2.1
  unfold ps_TS at hT
  refine pw_intro (M := pm_P_groupAt) rfl (by decide) (Nat.le_of_ble_eq_true rfl) (ls := [some (.inr 2), some (.inl (nI g))]) rfl ?_
  refine pw_sound pw_tok pk_P_groupAt 400 _ _ _ _ _ _ ?_
  simp only [pv_all, pv_stp, pe_P_groupAt, pv_st, Nat.reduceAdd, eq_self, true_and, and_true, true_or, or_true, hT, v]
  simp (disch := omega) only [pn_c, pn_lt, pn_le, pn_at, pn_cl, e]
  exact ⟨fun q => absurd q (by omega), fun _ => ⟨fun q => absurd q (by omega), fun _ => ⟨fun q => absurd q (by omega), fun _ => ⟨by omega, hk⟩⟩⟩⟩
set_option maxHeartbeats 4000000 in
set_option maxRecDepth 100000 in
theorem c_P_groupAt_o {x : Int32} {k : Nat → pw_Hp → Prop} (hC : ps_CS h R G aR aG Nw) (hV : ps_Rv R G aR aG Nw σ μ ρ) (hx : x < 0 ∨ nI G ≤ x) (hk : k 0 (pw_st h σ)) : pw_Cr 16 [.inr 2, .inl x] (pw_st h σ) k := by
  have hT := hC.1
  have v := hV.1.2.1
  unfold ps_TS at hT
  refine pw_intro (M := pm_P_groupAt) rfl (by decide) (Nat.le_of_ble_eq_true rfl) (ls := [some (.inr 2), some (.inl x)]) rfl ?_
  refine pw_sound pw_tok pk_P_groupAt 400 _ _ _ _ _ _ ?_
  simp only [pv_all, pv_stp, pe_P_groupAt, pv_st, Nat.reduceAdd, eq_self, true_and, and_true, true_or, or_true, hT, v]
  exact ⟨fun _ => hk, fun q => ⟨fun _ => hk, fun q2 => absurd hx (fun z => z.elim q q2)⟩⟩
set_option maxHeartbeats 4000000 in
set_option maxRecDepth 100000 in
theorem c_P_walkBetween {a b : Nat} {k : Int32 → pw_Hp → Prop} (hC : ps_CS h R G aR aG Nw) (hV : ps_Rv R G aR aG Nw σ μ ρ) (ha : a < 8) (hb : b < 8) (hk : k (μ 17 (8 * a + b)) (pw_st h σ)) : pw_Ci 17 [.inr 2, .inl (nI a), .inl (nI b)] (pw_st h σ) k := by
  have hT := hC.1
  have v := hV.1.2.2.2.2.2.2.1 (8 * a + b) (by omega)
  unfold ps_TS at hT
  have e : nI a * 8 + nI b = nI (8 * a + b) := by rw [show (8 : Int32) = nI 8 from rfl, pn_mul, pn_add, Nat.mul_comm]
  refine pw_intro (M := pm_P_walkBetween) rfl (by decide) (Nat.le_of_ble_eq_true rfl) (ls := [some (.inr 2), some (.inl (nI a)), some (.inl (nI b)), none]) rfl ?_
  refine pw_sound pw_tok pk_P_walkBetween 400 _ _ _ _ _ _ ?_
  simp only [pv_all, pv_stp, pe_P_walkBetween, pv_st, Nat.reduceAdd, eq_self, true_and, and_true, true_or, or_true, hT, e]
  simp (disch := omega) only [pn_c, pn_lt, pn_le, pn_at, pn_cl, v]
  exact ⟨fun q => absurd q (by omega), fun _ => ⟨fun q => absurd q (by omega), fun _ => ⟨by omega, hk⟩⟩⟩
set_option maxHeartbeats 4000000 in
set_option maxRecDepth 100000 in
theorem c_P_setWalk {a b : Nat} {x : Int32} {k : pw_Hp → Prop} (hC : ps_CS h R G aR aG Nw) (ha : a < 8) (hb : b < 8) (hk : k (pw_st h (ps_up σ 5 (8 * a + b) x))) : pw_Cv 18 [.inr 2, .inl (nI a), .inl (nI b), .inl x] (pw_st h σ) k := by
  have hT := hC.1
  unfold ps_TS at hT
  have e : nI a * 8 + nI b = nI (8 * a + b) := by rw [show (8 : Int32) = nI 8 from rfl, pn_mul, pn_add, Nat.mul_comm]
  refine pw_intro (M := pm_P_setWalk) rfl (by decide) (Nat.le_of_ble_eq_true rfl) (ls := [some (.inr 2), some (.inl (nI a)), some (.inl (nI b)), some (.inl x), none]) rfl ?_
  refine pw_sound pw_tok pk_P_setWalk 400 _ _ _ _ _ _ ?_
  simp only [pv_all, pv_stp, pe_P_setWalk, pv_st, Nat.reduceAdd, eq_self, true_and, and_true, true_or, or_true, hT, e]
  simp (disch := omega) only [pn_c, pn_lt, pn_le, pn_at, pn_cl]
  exact ⟨fun q => absurd q (by omega), fun _ => ⟨fun q => absurd q (by omega), fun _ => ⟨by omega, hk⟩⟩⟩
set_option maxHeartbeats 4000000 in
set_option maxRecDepth 100000 in
theorem c_P_refusalsAt {c : Nat} {k : Int32 → pw_Hp → Prop} (hC : ps_CS h R G aR aG Nw) (hV : ps_Rv R G aR aG Nw σ μ ρ) (hc : c < 6) (hk : k (μ 31 (c + 1)) (pw_st h σ)) : pw_Ci 14 [.inr 2, .inl (nI c)] (pw_st h σ) k := by
  have hT := hC.1
  have v := hV.1.2.2.2.2.2.2.2 c hc
  unfold ps_TS at hT
  refine pw_intro (M := pm_P_refusalsAt) rfl (by decide) (Nat.le_of_ble_eq_true rfl) (ls := [some (.inr 2), some (.inl (nI c))]) rfl ?_
  refine pw_sound pw_tok pk_P_refusalsAt 400 _ _ _ _ _ _ ?_
  simp only [pv_all, pv_stp, pe_P_refusalsAt, pv_st, Nat.reduceAdd, eq_self, true_and, and_true, true_or, or_true, hT]
  simp (disch := omega) only [pn_c, pn_lt, pn_le, pn_at, pn_cl, v]
  exact ⟨fun q => absurd q (by omega), fun _ => ⟨fun q => absurd q (by omega), fun _ => ⟨hc, hk⟩⟩⟩
-- the row in which a group is: what it does is 1 or 2, at ride r
set_option maxHeartbeats 4000000 in
set_option maxRecDepth 100000 in
theorem c_P_rowOf {g r b : Nat} {k : Nat → pw_Hp → Prop} (hC : ps_CS h R G aR aG Nw) (hV : ps_Rv R G aR aG Nw σ μ ρ) (hg : g < G) (hr : r < R) (hb : b < 2) (h1 : μ 20 g = nI (b + 1)) (h2 : μ 21 g = nI r) (hk : k (aR r + 1 + 2 * b) (pw_st h σ)) : pw_Cr 48 [.inr 2, .inr (aG g)] (pw_st h σ) k := by
  have hT := hC.1
  obtain ⟨-, s2, s3, s4⟩ := hC.2.2.2.2.1 g hg
  obtain ⟨-, d2, d3, d4, d5, d6, d7⟩ := hC.2.2.2.1 r hr
  obtain ⟨-, -, -, e5, e6, -⟩ := hV.2.2 g hg
  unfold ps_TS at hT
  rw [h1] at e5
  rw [h2] at e6
  unfold ps_GS at s2
  unfold ps_DS at d2
  refine pw_intro (M := pm_P_rowOf) rfl (by decide) (Nat.le_of_ble_eq_true rfl) (ls := [some (.inr 2), some (.inr (aG g)), none]) rfl ?_
  refine pw_sound pw_tok pk_P_rowOf 400 _ _ _ _ _ _ ?_
  simp only [pv_all, pv_stp, pe_P_rowOf, pv_st, Nat.reduceAdd, eq_self, true_and, and_true, true_or, or_true, hT, s2, e5, e6]
  refine c_P_rideAt hC hV hr ?_
  simp only [pv_st, s2, d2, e5, eq_self, true_and]
  refine ⟨fun _ => ?_, fun q => absurd q (by omega)⟩
  rcases (show b = 0 ∨ b = 1 by omega) with rfl | rfl
  · exact ⟨fun q => absurd rfl q, fun _ => by simpa using hk⟩
  · exact ⟨fun _ => ⟨fun q => absurd rfl q, fun _ => by simpa using hk⟩, fun q => absurd q (by decide)⟩
set_option maxHeartbeats 4000000 in
set_option maxRecDepth 100000 in
theorem c_P_rowOf_o {g : Nat} {k : Nat → pw_Hp → Prop} (hC : ps_CS h R G aR aG Nw) (hV : ps_Rv R G aR aG Nw σ μ ρ) (hW : ps_Wf R G Nw μ ρ n) (hg : g < G) (h1 : ps_N μ 20 g ≠ 1) (h2 : ps_N μ 20 g ≠ 2) (hk : k 0 (pw_st h σ)) : pw_Cr 48 [.inr 2, .inr (aG g)] (pw_st h σ) k := by
  have hT := hC.1
  obtain ⟨-, s2, s3, s4⟩ := hC.2.2.2.2.1 g hg
  obtain ⟨-, -, -, e5, e6, -⟩ := hV.2.2 g hg
  obtain ⟨-, -, -, w4, w5, -, -, -, -, -, -, w6, w7, -⟩ := hW.2.2.1 g hg
  have hR8 := hC.2.1
  unfold ps_TS at hT
  unfold ps_GS at s2
  by_cases h3 : ps_N μ 20 g = 3
  · obtain ⟨u1, u2⟩ := w6 (by omega) (by omega)
    obtain ⟨-, d2, d3, d4, d5, d6, d7⟩ := hC.2.2.2.1 _ u2
    rw [u1] at e6
    rw [w4, h3] at e5
    refine pw_intro (M := pm_P_rowOf) rfl (by decide) (Nat.le_of_ble_eq_true rfl) (ls := [some (.inr 2), some (.inr (aG g)), none]) rfl ?_
    refine pw_sound pw_tok pk_P_rowOf 400 _ _ _ _ _ _ ?_
    simp only [pv_all, pv_stp, pe_P_rowOf, pv_st, Nat.reduceAdd, eq_self, true_and, and_true, true_or, or_true, hT, s2, e5, e6]
    refine c_P_rideAt hC hV u2 ?_
    simp only [pv_st, s2, e5, eq_self, true_and]
    exact ⟨fun _ => ⟨fun _ => ⟨fun _ => hk, fun q => absurd q (by decide)⟩, fun q => absurd q (by decide)⟩, fun q => absurd q (by omega)⟩
  · rw [w7 (by omega)] at e6
    refine pw_intro (M := pm_P_rowOf) rfl (by decide) (Nat.le_of_ble_eq_true rfl) (ls := [some (.inr 2), some (.inr (aG g)), none]) rfl ?_
    refine pw_sound pw_tok pk_P_rowOf 400 _ _ _ _ _ _ ?_
    simp only [pv_all, pv_stp, pe_P_rowOf, pv_st, Nat.reduceAdd, eq_self, true_and, and_true, true_or, or_true, hT, s2, e6]
    refine c_P_rideAt_o hC hV (Or.inl (by decide)) ?_
    exact ⟨fun q => absurd rfl q, fun _ => hk⟩
end PSP
