/-! The reference: how its cells hold the state; its small methods. -/
def ps_MS (h : pw_Hp) : Prop := pw_k h 7 = 14 ∧ pw_r h 7 3 = 8 ∧ pw_r h 7 4 = 9 ∧ pw_r h 7 5 = 10 ∧ pw_r h 7 6 = 11 ∧ pw_r h 7 7 = 12 ∧ pw_r h 7 8 = 13 ∧ pw_r h 7 9 = 14 ∧ pw_r h 7 10 = 15 ∧ pw_r h 7 11 = 16 ∧ pw_r h 7 12 = 17 ∧ pw_r h 7 13 = 18 ∧ pw_r h 7 15 = 19 ∧ pw_r h 7 16 = 20 ∧ pw_r h 7 17 = 21 ∧ pw_r h 7 18 = 22 ∧ pw_r h 7 20 = 23 ∧ pw_r h 7 21 = 24 ∧ pw_r h 7 22 = 25 ∧ pw_r h 7 23 = 26 ∧ pw_r h 7 24 = 27 ∧ pw_r h 7 25 = 28 ∧ pw_r h 7 26 = 29 ∧ pw_r h 7 27 = 30 ∧ pw_r h 7 28 = 31 ∧ pw_k h 8 = 1 ∧ pw_k h 9 = 1 ∧ pw_k h 10 = 1 ∧ pw_k h 11 = 1 ∧ pw_k h 12 = 1 ∧ pw_k h 13 = 2 ∧ pw_k h 14 = 1 ∧ pw_k h 15 = 1 ∧ pw_k h 16 = 1 ∧ pw_k h 17 = 1 ∧ pw_k h 18 = 1 ∧ pw_k h 19 = 1 ∧ pw_k h 20 = 1 ∧ pw_k h 21 = 1 ∧ pw_k h 22 = 1 ∧ pw_k h 23 = 1 ∧ pw_k h 24 = 1 ∧ pw_k h 25 = 1 ∧ pw_k h 26 = 1 ∧ pw_k h 27 = 1 ∧ pw_k h 28 = 1 ∧ pw_k h 29 = 1 ∧ pw_k h 30 = 1 ∧ pw_k h 31 = 1 ∧ pw_n h 8 = 8 ∧ pw_n h 9 = 8 ∧ pw_n h 10 = 8 ∧ pw_n h 11 = 8 ∧ pw_n h 12 = 8 ∧ pw_n h 13 = 8 ∧ pw_n h 14 = 8 ∧ pw_n h 15 = 8 ∧ pw_n h 16 = 8 ∧ pw_n h 17 = 64 ∧ pw_n h 18 = 8800 ∧ pw_n h 19 = 60 ∧ pw_n h 20 = 60 ∧ pw_n h 21 = 60 ∧ pw_n h 22 = 60 ∧ pw_n h 23 = 60 ∧ pw_n h 24 = 60 ∧ pw_n h 25 = 120 ∧ pw_n h 26 = 120 ∧ pw_n h 27 = 60 ∧ pw_n h 28 = 60 ∧ pw_n h 29 = 60 ∧ pw_n h 30 = 60 ∧ pw_n h 31 = 7
-- a row in its order
def ps_So (σ : ps_S) (m : Nat) (L : List Nat) : Prop := (∀ g, g ∈ L → σ 22 g = nI (ps_N σ 22 g) ∧ 1 ≤ ps_N σ 22 g ∧ ps_N σ 22 g ≤ m) ∧ L.Pairwise (fun a b => ps_N σ 22 a < ps_N σ 22 b)
def ps_Md (R G m : Nat) (σ μ : ps_S) (ρ : ps_P) : Prop := (∀ f, 8 ≤ f → f ≤ 31 → f ≠ 22 → σ f = μ f) ∧ (σ 7 0 = μ 7 0 ∧ σ 7 1 = μ 7 1 ∧ σ 7 2 = nI R ∧ σ 7 14 = nI G ∧ σ 7 19 = nI m) ∧ ∀ c, c < 2 * R → ps_So σ m (ρ c)
def ps_Ofm (σ τ : ps_S) : Prop := ∀ f, (f < 7 ∨ 31 < f) → τ f = σ f
theorem ps_Ofm_rf (σ : ps_S) : ps_Ofm σ σ := fun _ _ => rfl
theorem ps_Ofm_tr {σ τ υ : ps_S} (h1 : ps_Ofm σ τ) (h2 : ps_Ofm τ υ) : ps_Ofm σ υ := fun f a => (h2 f a).trans (h1 f a)
theorem ps_Ofm_up {σ : ps_S} {f i : Nat} {x : Int32} (h1 : 7 ≤ f) (h2 : f ≤ 31) : ps_Ofm σ (ps_up σ f i x) := fun a h => ps_up_f (by omega)
theorem ps_So_22 {σ τ : ps_S} {m : Nat} {L : List Nat} (h : τ 22 = σ 22) (hs : ps_So σ m L) : ps_So τ m L := by
  unfold ps_So ps_N at hs ⊢
  rw [h]
  exact hs
theorem ps_up_cg2 {μ ν : ps_S} {a i f : Nat} {x : Int32} (h : μ f = ν f) : ps_up μ a i x f = ps_up ν a i x f := funext fun j => by
  rw [ps_up_at, ps_up_at, h]
theorem pn_pred {R : Nat} (h : R ≤ 100000) : (nI R - 1).toInt = (R : Int) - 1 := by
  cases R with
  | zero => decide
  | succ S =>
    rw [show (1 : Int32) = nI 1 from rfl, pn_sub (by omega), nI_toInt (by omega)]
    omega
section PMO
variable {h : pw_Hp} {R G m : Nat} {σ μ : ps_S} {ρ : ps_P}
theorem ps_Md_e (hD : ps_Md R G m σ μ ρ) : (σ 8 = μ 8 ∧ σ 9 = μ 9 ∧ σ 10 = μ 10 ∧ σ 11 = μ 11 ∧ σ 12 = μ 12 ∧ σ 13 = μ 13 ∧ σ 14 = μ 14 ∧ σ 15 = μ 15 ∧ σ 16 = μ 16 ∧ σ 17 = μ 17 ∧ σ 18 = μ 18 ∧ σ 19 = μ 19) ∧ σ 20 = μ 20 ∧ σ 21 = μ 21 ∧ σ 23 = μ 23 ∧ σ 24 = μ 24 ∧ σ 25 = μ 25 ∧ σ 26 = μ 26 ∧ σ 27 = μ 27 ∧ σ 28 = μ 28 ∧ σ 29 = μ 29 ∧ σ 30 = μ 30 ∧ σ 31 = μ 31 := by
  have f := hD.1
  exact ⟨⟨f _ (by decide) (by decide) (by decide), f _ (by decide) (by decide) (by decide), f _ (by decide) (by decide) (by decide), f _ (by decide) (by decide) (by decide), f _ (by decide) (by decide) (by decide), f _ (by decide) (by decide) (by decide), f _ (by decide) (by decide) (by decide), f _ (by decide) (by decide) (by decide), f _ (by decide) (by decide) (by decide), f _ (by decide) (by decide) (by decide), f _ (by decide) (by decide) (by decide), f _ (by decide) (by decide) (by decide)⟩, f _ (by decide) (by decide) (by decide), f _ (by decide) (by decide) (by decide), f _ (by decide) (by decide) (by decide), f _ (by decide) (by decide) (by decide), f _ (by decide) (by decide) (by decide), f _ (by decide) (by decide) (by decide), f _ (by decide) (by decide) (by decide), f _ (by decide) (by decide) (by decide), f _ (by decide) (by decide) (by decide), f _ (by decide) (by decide) (by decide), f _ (by decide) (by decide) (by decide)⟩
theorem rm_up {f i : Nat} {x : Int32} (hD : ps_Md R G m σ μ ρ) (h1 : 8 ≤ f) (h2 : f ≤ 31) (h3 : f ≠ 22) : ps_Md R G m (ps_up σ f i x) (ps_up μ f i x) ρ := by
  obtain ⟨d1, d2, d3⟩ := hD
  refine ⟨fun a a1 a2 a3 => ps_up_cg2 (d1 a a1 a2 a3), ?_, fun c hc => ps_So_22 (ps_up_f (by omega)) (d3 c hc)⟩
  rw [ps_up_f (show 7 ≠ f by omega), ps_up_f (show 7 ≠ f by omega)]
  exact d2
theorem rm_eq {ν : ps_S} (hD : ps_Md R G m σ μ ρ) (he : ∀ f, 8 ≤ f → f ≤ 31 → f ≠ 22 → μ f = ν f) (h0 : μ 7 0 = ν 7 0) (h1 : μ 7 1 = ν 7 1) : ps_Md R G m σ ν ρ := by
  obtain ⟨d1, ⟨a1, a2, a3⟩, d3⟩ := hD
  exact ⟨fun a b c d => (d1 a b c d).trans (he a b c d), ⟨a1.trans h0, a2.trans h1, a3⟩, d3⟩
theorem rm_7 {i : Nat} {x : Int32} (hD : ps_Md R G m σ μ ρ) (hi : i = 0 ∨ i = 1) : ps_Md R G m (ps_up σ 7 i x) (ps_up μ 7 i x) ρ := by
  obtain ⟨d1, ⟨a1, a2, a3, a4, a5⟩, d3⟩ := hD
  refine ⟨fun a b c d => ps_up_cg2 (d1 a b c d), ⟨?_, ?_, ?_, ?_, ?_⟩, fun c hc => ps_So_22 (ps_up_f (by decide)) (d3 c hc)⟩
  · rw [ps_up_at, ps_up_at, a1]
  · rw [ps_up_at, ps_up_at, a2]
  · rw [ps_up_n (Or.inr (by omega))]; exact a3
  · rw [ps_up_n (Or.inr (by omega))]; exact a4
  · rw [ps_up_n (Or.inr (by omega))]; exact a5
theorem rm_left {x : Int32} (hD : ps_Md R G m σ μ ρ) : ps_Md R G m (ps_up σ 7 29 x) μ ρ := by
  obtain ⟨d1, ⟨a1, a2, a3, a4, a5⟩, d3⟩ := hD
  refine ⟨fun a b c d => ?_, ⟨?_, ?_, ?_, ?_, ?_⟩, fun c hc => ps_So_22 (ps_up_f (by decide)) (d3 c hc)⟩
  · rw [ps_up_f (by omega)]; exact d1 a b c d
  · rw [ps_up_n (Or.inr (by omega))]; exact a1
  · rw [ps_up_n (Or.inr (by omega))]; exact a2
  · rw [ps_up_n (Or.inr (by omega))]; exact a3
  · rw [ps_up_n (Or.inr (by omega))]; exact a4
  · rw [ps_up_n (Or.inr (by omega))]; exact a5
set_option maxHeartbeats 4000000 in
set_option maxRecDepth 100000 in
theorem c_M_in {x y z : Int32} {H : pw_Hp} {k : Int32 → pw_Hp → Prop} (h1 : y ≤ x → x ≤ z → k 1 H) (h0 : ¬ (y ≤ x ∧ x ≤ z) → k 0 H) : pw_Ci 19 [.inl x, .inl y, .inl z] H k := by
  refine pw_intro (M := pm_M_in) rfl (by decide) (Nat.le_of_ble_eq_true rfl) (ls := [some (.inl x), some (.inl y), some (.inl z)]) rfl ?_
  refine pw_sound pw_tok pk_M_in 400 _ _ _ _ _ _ ?_
  simp only [pv_all, pv_stp, pe_M_in, pv_st, Nat.reduceAdd, eq_self, true_and, and_true, true_or, or_true]
  refine ⟨fun q => ?_, fun q => ⟨fun q2 => ?_, fun q2 => ?_⟩⟩
  · exact h0 (fun w => fa_nlt' w.1 q)
  · exact h0 (fun w => fa_nlt' w.2 q2)
  · exact h1 (fa_of_nlt' q) (fa_of_nlt' q2)
set_option maxHeartbeats 4000000 in
set_option maxRecDepth 100000 in
theorem c_M_isRide {r : Nat} {k : Int32 → pw_Hp → Prop} (hM : ps_MS h) (hD : ps_Md R G m σ μ ρ) (hR : R ≤ 8) (hr : r < R) (hk : k 1 (pw_st h σ)) : pw_Ci 54 [.inr 7, .inl (nI r)] (pw_st h σ) k := by
  have v := hD.2.1.2.2.1
  unfold ps_MS at hM
  refine pw_intro (M := pm_M_isRide) rfl (by decide) (Nat.le_of_ble_eq_true rfl) (ls := [some (.inr 7), some (.inl (nI r))]) rfl ?_
  refine pw_sound pw_tok pk_M_isRide 400 _ _ _ _ _ _ ?_
  simp only [pv_all, pv_stp, pe_M_isRide, pv_st, Nat.reduceAdd, eq_self, true_and, and_true, true_or, or_true, hM, v]
  refine c_M_in (fun _ _ => ⟨Or.inr rfl, hk⟩) (fun q => absurd ⟨?_, ?_⟩ q)
  · rw [show (0 : Int32) = nI 0 from rfl, pn_le (by omega) (by omega)]; omega
  · rw [fa_le', pn_pred (by omega), nI_toInt (by omega)]; omega
set_option maxHeartbeats 4000000 in
set_option maxRecDepth 100000 in
theorem c_M_isRide_o {x : Int32} {k : Int32 → pw_Hp → Prop} (hM : ps_MS h) (hD : ps_Md R G m σ μ ρ) (hR : R ≤ 8) (hx : x < 0 ∨ nI R ≤ x) (hk : k 0 (pw_st h σ)) : pw_Ci 54 [.inr 7, .inl x] (pw_st h σ) k := by
  have v := hD.2.1.2.2.1
  unfold ps_MS at hM
  refine pw_intro (M := pm_M_isRide) rfl (by decide) (Nat.le_of_ble_eq_true rfl) (ls := [some (.inr 7), some (.inl x)]) rfl ?_
  refine pw_sound pw_tok pk_M_isRide 400 _ _ _ _ _ _ ?_
  simp only [pv_all, pv_stp, pe_M_isRide, pv_st, Nat.reduceAdd, eq_self, true_and, and_true, true_or, or_true, hM, v]
  refine c_M_in (fun q1 q2 => ?_) (fun q => ⟨Or.inl rfl, hk⟩)
  exfalso
  rcases hx with hx | hx
  · exact fa_nlt' q1 hx
  · rw [fa_le', nI_toInt (by omega)] at hx
    rw [fa_le', pn_pred (by omega)] at q2
    omega
set_option maxHeartbeats 4000000 in
set_option maxRecDepth 100000 in
theorem c_M_isGroup {g : Nat} {k : Int32 → pw_Hp → Prop} (hM : ps_MS h) (hD : ps_Md R G m σ μ ρ) (hG : G ≤ 60) (hr : g < G) (hk : k 1 (pw_st h σ)) : pw_Ci 55 [.inr 7, .inl (nI g)] (pw_st h σ) k := by
  have v := hD.2.1.2.2.2.1
  unfold ps_MS at hM
  refine pw_intro (M := pm_M_isGroup) rfl (by decide) (Nat.le_of_ble_eq_true rfl) (ls := [some (.inr 7), some (.inl (nI g))]) rfl ?_
  refine pw_sound pw_tok pk_M_isGroup 400 _ _ _ _ _ _ ?_
  simp only [pv_all, pv_stp, pe_M_isGroup, pv_st, Nat.reduceAdd, eq_self, true_and, and_true, true_or, or_true, hM, v]
  refine c_M_in (fun _ _ => ⟨Or.inr rfl, hk⟩) (fun q => absurd ⟨?_, ?_⟩ q)
  · rw [show (0 : Int32) = nI 0 from rfl, pn_le (by omega) (by omega)]; omega
  · rw [fa_le', pn_pred (by omega), nI_toInt (by omega)]; omega
set_option maxHeartbeats 4000000 in
set_option maxRecDepth 100000 in
theorem c_M_isGroup_o {x : Int32} {k : Int32 → pw_Hp → Prop} (hM : ps_MS h) (hD : ps_Md R G m σ μ ρ) (hG : G ≤ 60) (hx : x < 0 ∨ nI G ≤ x) (hk : k 0 (pw_st h σ)) : pw_Ci 55 [.inr 7, .inl x] (pw_st h σ) k := by
  have v := hD.2.1.2.2.2.1
  unfold ps_MS at hM
  refine pw_intro (M := pm_M_isGroup) rfl (by decide) (Nat.le_of_ble_eq_true rfl) (ls := [some (.inr 7), some (.inl x)]) rfl ?_
  refine pw_sound pw_tok pk_M_isGroup 400 _ _ _ _ _ _ ?_
  simp only [pv_all, pv_stp, pe_M_isGroup, pv_st, Nat.reduceAdd, eq_self, true_and, and_true, true_or, or_true, hM, v]
  refine c_M_in (fun q1 q2 => ?_) (fun q => ⟨Or.inl rfl, hk⟩)
  exfalso
  rcases hx with hx | hx
  · exact fa_nlt' q1 hx
  · rw [fa_le', nI_toInt (by omega)] at hx
    rw [fa_le', pn_pred (by omega)] at q2
    omega
set_option maxHeartbeats 4000000 in
set_option maxRecDepth 100000 in
theorem c_M_ref {x : Int32} {c : Nat} {k : Int32 → pw_Hp → Prop} (hM : ps_MS h) (hD : ps_Md R G m σ μ ρ) (hx : -x = nI c) (hc : c < 7) (hk : ∀ τ, ps_Md R G m τ (ps_ref μ c) ρ → ps_Ofm σ τ → k x (pw_st h τ)) : pw_Ci 20 [.inr 7, .inl x] (pw_st h σ) k := by
  have e := (ps_Md_e hD).2.2.2.2.2.2.2.2.2.2.2
  unfold ps_MS at hM
  refine pw_intro (M := pm_M_refuse) rfl (by decide) (Nat.le_of_ble_eq_true rfl) (ls := [some (.inr 7), some (.inl x)]) rfl ?_
  refine pw_sound pw_tok pk_M_refuse 400 _ _ _ _ _ _ ?_
  simp only [pv_all, pv_stp, pe_M_refuse, pv_st, Nat.reduceAdd, eq_self, true_and, and_true, true_or, or_true, hM, hx]
  simp (disch := omega) only [pn_at, pn_cl]
  refine ⟨hc, hc, ?_⟩
  have := hk _ (rm_up (f := 31) (i := c) (x := μ 31 c + 1) hD (by decide) (by decide) (by decide)) (ps_Ofm_up (by decide) (by decide))
  rw [e]
  exact this
set_option maxHeartbeats 4000000 in
set_option maxRecDepth 100000 in
theorem c_M_turn {r : Nat} {k : Int32 → pw_Hp → Prop} (hM : ps_MS h) (hD : ps_Md R G m σ μ ρ) (hR : R ≤ 8) (hr : r < R) (hw : ps_WR μ r) (hk : k (nI (ps_turn μ r)) (pw_st h σ)) : pw_Ci 21 [.inr 7, .inl (nI r)] (pw_st h σ) k := by
  have e := (ps_Md_e hD).1
  have w9 := hw.2.2.2.1
  unfold ps_MS at hM
  unfold ps_turn at hk
  refine pw_intro (M := pm_M_turn) rfl (by decide) (Nat.le_of_ble_eq_true rfl) (ls := [some (.inr 7), some (.inl (nI r))]) rfl ?_
  refine pw_sound pw_tok pk_M_turn 400 _ _ _ _ _ _ ?_
  simp only [pv_all, pv_stp, pe_M_turn, pv_st, Nat.reduceAdd, eq_self, true_and, and_true, true_or, or_true, hM]
  simp (disch := omega) only [pn_at, pn_cl, e]
  rw [w9]
  refine ⟨by omega, fun q => ⟨by omega, ?_⟩, fun q => ⟨by omega, ?_⟩⟩
  · rw [if_neg q] at hk; exact hk
  · rw [if_pos q, ← pn_mul] at hk; exact hk
set_option maxHeartbeats 4000000 in
set_option maxRecDepth 100000 in
theorem c_M_width {r : Nat} {k : Int32 → pw_Hp → Prop} (hM : ps_MS h) (hD : ps_Md R G m σ μ ρ) (hR : R ≤ 8) (hr : r < R) (hw : ps_WR μ r) (hk : k (nI (ps_wd μ r)) (pw_st h σ)) : pw_Ci 58 [.inr 7, .inl (nI r)] (pw_st h σ) k := by
  have hM' := hM
  unfold ps_MS at hM
  unfold ps_wd at hk
  refine pw_intro (M := pm_M_width) rfl (by decide) (Nat.le_of_ble_eq_true rfl) (ls := [some (.inr 7), some (.inl (nI r))]) rfl ?_
  refine pw_sound pw_tok pk_M_width 400 _ _ _ _ _ _ ?_
  simp only [pv_all, pv_stp, pe_M_width, pv_st, Nat.reduceAdd, eq_self, true_and, and_true, true_or, or_true, hM]
  refine c_M_turn hM' hD hR hr hw ?_
  rw [← pn_mul] at hk
  exact hk
set_option maxHeartbeats 4000000 in
set_option maxRecDepth 100000 in
theorem c_M_roomOf {r : Nat} {k : Int32 → pw_Hp → Prop} (hM : ps_MS h) (hD : ps_Md R G m σ μ ρ) (hR : R ≤ 8) (hr : r < R) (hw : ps_WR μ r) (hk : k (nI (ps_room μ r)) (pw_st h σ)) : pw_Ci 22 [.inr 7, .inl (nI r)] (pw_st h σ) k := by
  have e := (ps_Md_e hD).1
  obtain ⟨-, -, w3, -, -, -, w7, w8, w9, w10, -⟩ := hw
  unfold ps_MS at hM
  unfold ps_room at hk
  have e5 : (5 : Int32) * nI (ps_N μ 10 r) = nI (5 * ps_N μ 10 r) := pn_mul 5 _
  refine pw_intro (M := pm_M_roomOf) rfl (by decide) (Nat.le_of_ble_eq_true rfl) (ls := [some (.inr 7), some (.inl (nI r)), none]) rfl ?_
  refine pw_sound pw_tok pk_M_roomOf 400 _ _ _ _ _ _ ?_
  simp only [pv_all, pv_stp, pe_M_roomOf, pv_st, Nat.reduceAdd, eq_self, true_and, and_true, true_or, or_true, hM]
  simp (disch := omega) only [pn_at, pn_cl, e]
  rw [w7, w9, e5]
  refine ⟨by omega, by omega, ?_⟩
  rcases Nat.le_total (ps_N μ 11 r) (5 * ps_N μ 10 r) with z | z
  · rw [pn_sub z]
    refine ⟨fun q => ?_, fun q => hk⟩
    rw [show (0 : Int32) = nI 0 from rfl, pn_le (by omega) (by omega)] at q
    rw [show 5 * ps_N μ 10 r - ps_N μ 11 r = 0 by omega] at hk
    exact hk
  · refine ⟨fun q => ?_, fun q => ?_⟩
    · rw [show 5 * ps_N μ 10 r - ps_N μ 11 r = 0 by omega] at hk
      exact hk
    · exfalso
      apply q
      rw [fa_le', pk_sub_toInt (by omega) (by omega), show (0 : Int32).toInt = 0 from rfl]
      omega
set_option maxHeartbeats 4000000 in
set_option maxRecDepth 100000 in
theorem c_M_fits {g r w : Nat} {k : Int32 → pw_Hp → Prop} (hM : ps_MS h) (hD : ps_Md R G m σ μ ρ) (hR : R ≤ 8) (hG : G ≤ 60) (hg : g < G) (hr : r < R) (hw : ps_WR μ r) (hw1 : w < 1100) (hk : k (if ps_fits μ g r w = true then 1 else 0) (pw_st h σ)) : pw_Ci 59 [.inr 7, .inl (nI g), .inl (nI r), .inl (nI w)] (pw_st h σ) k := by
  have e := (ps_Md_e hD).1
  have hM' := hM
  unfold ps_MS at hM
  have e1 : (1100 : Int32) * nI r + nI w = nI (1100 * r + w) := by rw [show (1100 : Int32) = nI 1100 from rfl, pn_mul, pn_add]
  refine pw_intro (M := pm_M_fits) rfl (by decide) (Nat.le_of_ble_eq_true rfl) (ls := [some (.inr 7), some (.inl (nI g)), some (.inl (nI r)), some (.inl (nI w))]) rfl ?_
  refine pw_sound pw_tok pk_M_fits 400 _ _ _ _ _ _ ?_
  simp only [pv_all, pv_stp, pe_M_fits, pv_st, Nat.reduceAdd, eq_self, true_and, and_true, true_or, or_true, hM, e1]
  simp (disch := omega) only [pn_at, pn_cl, e]
  refine ⟨by omega, by omega, ?_⟩
  refine c_M_roomOf hM' hD hR hr hw ?_
  unfold ps_fits at hk
  refine ⟨fun q => ?_, fun q => ?_⟩
  · rw [if_neg (by rw [decide_eq_true_iff]; exact fun z => fa_nlt' z q)] at hk; exact hk
  · rw [if_pos (by rw [decide_eq_true_iff]; exact fa_of_nlt' q)] at hk; exact hk
set_option maxHeartbeats 4000000 in
set_option maxRecDepth 100000 in
theorem c_M_runs {r : Nat} {k : Int32 → pw_Hp → Prop} (hM : ps_MS h) (hD : ps_Md R G m σ μ ρ) (hR : R ≤ 8) (hr : r < R) (hk : k (if ps_runs (μ 13 r) (μ 12 r) (μ 7 1) = true then 1 else 0) (pw_st h σ)) : pw_Ci 28 [.inr 7, .inl (nI r)] (pw_st h σ) k := by
  have e := (ps_Md_e hD).1
  have e1 := hD.2.1.2.1
  unfold ps_MS at hM
  unfold ps_runs at hk
  refine pw_intro (M := pm_M_runs) rfl (by decide) (Nat.le_of_ble_eq_true rfl) (ls := [some (.inr 7), some (.inl (nI r))]) rfl ?_
  refine pw_sound pw_tok pk_M_runs 400 _ _ _ _ _ _ ?_
  simp only [pv_all, pv_stp, pe_M_runs, pv_st, Nat.reduceAdd, eq_self, true_and, and_true, true_or, or_true, hM, e1]
  simp (disch := omega) only [pn_at, pn_cl, e]
  refine ⟨by omega, fun q => ?_, fun q => ⟨by omega, fun q2 => ?_, fun q2 => ⟨fun q3 => ?_, fun q3 => ?_⟩⟩⟩
  · simpa [q] using hk
  · simpa [q, q2] using hk
  · simpa [q, q2, q3] using hk
  · simpa [q, q2, q3] using hk
end PMO
