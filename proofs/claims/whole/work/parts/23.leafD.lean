/-! Ride: its numbers and windows. -/
def ps_DS (h : pw_Hp) (a N : Nat) : Prop := pw_k h a = 11 ∧ pw_r h a 6 = a + 1 ∧ pw_r h a 7 = a + 3 ∧ pw_r h a 8 = a + 5 ∧ pw_k h (a + 5) = 1 ∧ pw_n h (a + 5) = N
section PSD
variable {h : pw_Hp} {σ : ps_S} {a N : Nat}
-- does it run, in this weather
def ps_runs (stopped kind rain : Int32) : Bool := decide (stopped = 0) && !(decide (kind = 3) && decide (rain ≠ 0))
set_option maxHeartbeats 4000000 in
set_option maxRecDepth 100000 in
theorem c_D_runs {x : Int32} {k : Int32 → pw_Hp → Prop} (hd : ps_DS h a N) (hk : k (if ps_runs (σ a 11) (σ a 3) x = true then 1 else 0) (pw_st h σ)) : pw_Ci 3 [.inr a, .inl x] (pw_st h σ) k := by
  unfold ps_DS at hd
  refine pw_intro (M := pm_D_runs) rfl (by decide) (Nat.le_of_ble_eq_true rfl) (ls := [some (.inr a), some (.inl x)]) rfl ?_
  refine pw_sound pw_tok pk_D_runs 400 _ _ _ _ _ _ ?_
  simp only [pv_all, pv_stp, pe_D_runs, pv_st, Nat.reduceAdd, eq_self, true_and, and_true, true_or, or_true, hd]
  unfold ps_runs at hk
  refine ⟨fun q => ?_, fun q => ⟨fun q2 => ?_, fun q2 => ⟨fun q3 => ?_, fun q3 => ?_⟩⟩⟩
  · simpa [q] using hk
  · simpa [q, q2] using hk
  · simpa [q, q2, q3] using hk
  · simpa [q, q2, q3] using hk
set_option maxHeartbeats 4000000 in
set_option maxRecDepth 100000 in
theorem c_D_windowAt {t w : Nat} {k : Int32 → pw_Hp → Prop} (hd : ps_DS h a N) (hw : σ a 5 = nI w) (h0 : 0 < w) (hw2 : w < 1000) (ht : t ≤ 5000) (hk : k (nI (t / w)) (pw_st h σ)) : pw_Ci 5 [.inr a, .inl (nI t)] (pw_st h σ) k := by
  unfold ps_DS at hd
  refine pw_intro (M := pm_D_windowAt) rfl (by decide) (Nat.le_of_ble_eq_true rfl) (ls := [some (.inr a), some (.inl (nI t))]) rfl ?_
  refine pw_sound pw_tok pk_D_windowAt 400 _ _ _ _ _ _ ?_
  simp only [pv_all, pv_stp, pe_D_windowAt, pv_st, Nat.reduceAdd, eq_self, true_and, and_true, true_or, or_true, hd, hw]
  simp (disch := omega) only [pn_c, pn_le, pn_eq, pn_div]
  exact ⟨fun q => absurd q (by omega), fun _ => ⟨by omega, hk⟩⟩
set_option maxHeartbeats 4000000 in
set_option maxRecDepth 100000 in
theorem c_D_beginsWindow {t w : Nat} {k : Int32 → pw_Hp → Prop} (hd : ps_DS h a N) (hw : σ a 5 = nI w) (h0 : 0 < w) (hw2 : w < 1000) (ht : t ≤ 5000) (hk : k (if t % w = 0 then 1 else 0) (pw_st h σ)) : pw_Ci 4 [.inr a, .inl (nI t)] (pw_st h σ) k := by
  unfold ps_DS at hd
  have hm : t % w < w := Nat.mod_lt _ h0
  refine pw_intro (M := pm_D_beginsWindow) rfl (by decide) (Nat.le_of_ble_eq_true rfl) (ls := [some (.inr a), some (.inl (nI t))]) rfl ?_
  refine pw_sound pw_tok pk_D_beginsWindow 400 _ _ _ _ _ _ ?_
  simp only [pv_all, pv_stp, pe_D_beginsWindow, pv_st, Nat.reduceAdd, eq_self, true_and, and_true, true_or, or_true, hd, hw]
  rw [pn_rem (by omega) h0 (by omega)]
  simp (disch := omega) only [pn_c, pn_le, pn_eq]
  refine ⟨fun q => absurd q (by omega), fun _ => ⟨by omega, fun q => ?_, fun q => ?_⟩⟩
  · rw [if_neg q] at hk; exact hk
  · rw [if_pos q] at hk; exact hk
set_option maxHeartbeats 4000000 in
set_option maxRecDepth 100000 in
theorem c_D_beginsRound {t w : Nat} {x : Int32} {k : Int32 → pw_Hp → Prop} (hd : ps_DS h a N) (hw : σ a 4 = nI w) (h0 : 0 < w) (hw2 : w < 1000) (ht : t ≤ 5000) (hk : k (if t % w = 0 ∧ ps_runs (σ a 11) (σ a 3) x = true then 1 else 0) (pw_st h σ)) : pw_Ci 36 [.inr a, .inl (nI t), .inl x] (pw_st h σ) k := by
  have hd' := hd
  unfold ps_DS at hd'
  have hm : t % w < w := Nat.mod_lt _ h0
  refine pw_intro (M := pm_D_beginsRound) rfl (by decide) (Nat.le_of_ble_eq_true rfl) (ls := [some (.inr a), some (.inl (nI t)), some (.inl x)]) rfl ?_
  refine pw_sound pw_tok pk_D_beginsRound 400 _ _ _ _ _ _ ?_
  simp only [pv_all, pv_stp, pe_D_beginsRound, pv_st, Nat.reduceAdd, eq_self, true_and, and_true, true_or, or_true, hd', hw]
  rw [pn_rem (by omega) h0 (by omega)]
  simp (disch := omega) only [pn_c, pn_le, pn_eq]
  refine ⟨fun q => absurd q (by omega), fun _ => ⟨by omega, fun q => ?_, fun q => ?_⟩⟩
  · rw [if_neg (fun z => q z.1)] at hk; exact hk
  · refine c_D_runs hd ?_
    by_cases hr : ps_runs (σ a 11) (σ a 3) x = true
    · rw [if_pos hr]
      rw [if_pos ⟨q, hr⟩] at hk
      exact ⟨fun z => absurd z (by decide), fun _ => hk⟩
    · rw [if_neg hr]
      rw [if_neg (fun z => hr z.2)] at hk
      exact ⟨fun _ => hk, fun z => absurd rfl z⟩
set_option maxHeartbeats 4000000 in
set_option maxRecDepth 100000 in
theorem c_D_firstTickOf {t w : Nat} {k : Int32 → pw_Hp → Prop} (hd : ps_DS h a N) (hw : σ a 5 = nI w) (hk : k (nI (t * w)) (pw_st h σ)) : pw_Ci 6 [.inr a, .inl (nI t)] (pw_st h σ) k := by
  unfold ps_DS at hd
  refine pw_intro (M := pm_D_firstTickOf) rfl (by decide) (Nat.le_of_ble_eq_true rfl) (ls := [some (.inr a), some (.inl (nI t))]) rfl ?_
  refine pw_sound pw_tok pk_D_firstTickOf 400 _ _ _ _ _ _ ?_
  simp only [pv_all, pv_stp, pe_D_firstTickOf, pv_st, Nat.reduceAdd, eq_self, true_and, and_true, true_or, or_true, hd, hw]
  rw [pn_mul]
  exact hk
set_option maxHeartbeats 4000000 in
set_option maxRecDepth 100000 in
theorem c_D_lastTickOf {t w : Nat} {k : Int32 → pw_Hp → Prop} (hd : ps_DS h a N) (hw : σ a 5 = nI w) (h0 : 0 < w) (hk : k (nI (t * w + w - 1)) (pw_st h σ)) : pw_Ci 37 [.inr a, .inl (nI t)] (pw_st h σ) k := by
  have hd' := hd
  unfold ps_DS at hd'
  refine pw_intro (M := pm_D_lastTickOf) rfl (by decide) (Nat.le_of_ble_eq_true rfl) (ls := [some (.inr a), some (.inl (nI t))]) rfl ?_
  refine pw_sound pw_tok pk_D_lastTickOf 400 _ _ _ _ _ _ ?_
  simp only [pv_all, pv_stp, pe_D_lastTickOf, pv_st, Nat.reduceAdd, eq_self, true_and, and_true, true_or, or_true, hd', hw]
  refine c_D_firstTickOf hd hw ⟨hd.1, ?_⟩
  simp (disch := omega) only [pv_st, hw, pn_c, pn_add, pn_sub]
  exact hk
set_option maxHeartbeats 4000000 in
set_option maxRecDepth 100000 in
theorem c_D_roomOfWindow {p sp : Nat} {k : Int32 → pw_Hp → Prop} (hd : ps_DS h a N) (hp : σ a 9 = nI p) (hs : σ a 10 = nI sp) (hp2 : p ≤ 40) (hs2 : sp ≤ 99) (hk : k (nI (5 * p - sp)) (pw_st h σ)) : pw_Ci 38 [.inr a] (pw_st h σ) k := by
  unfold ps_DS at hd
  refine pw_intro (M := pm_D_roomOfWindow) rfl (by decide) (Nat.le_of_ble_eq_true rfl) (ls := [some (.inr a)]) rfl ?_
  refine pw_sound pw_tok pk_D_roomOfWindow 400 _ _ _ _ _ _ ?_
  simp only [pv_all, pv_stp, pe_D_roomOfWindow, pv_st, Nat.reduceAdd, eq_self, true_and, and_true, true_or, or_true, hd, hp, hs]
  rw [show (5 : Int32) = nI 5 from rfl, pn_mul]
  by_cases hq : sp < 5 * p
  · rw [pn_sub (by omega), if_pos (by rw [show (0 : Int32) = nI 0 from rfl, pn_lt (by omega) (by omega)]; omega)]
    exact hk
  · rw [if_neg]
    · rw [show 5 * p - sp = 0 by omega] at hk
      exact hk
    · intro z
      have z2 := (fa_lt' _ _).mp z
      rw [pk_sub_toInt (by omega) (by omega)] at z2
      have : (0 : Int32).toInt = 0 := by decide
      omega
set_option maxHeartbeats 4000000 in
set_option maxRecDepth 100000 in
theorem c_D_givenOf {w : Nat} {k : Int32 → pw_Hp → Prop} (hd : ps_DS h a N) (hN : N < 10000) (hw : w < N) (hk : k (σ (a + 5) w) (pw_st h σ)) : pw_Ci 7 [.inr a, .inl (nI w)] (pw_st h σ) k := by
  unfold ps_DS at hd
  refine pw_intro (M := pm_D_givenOf) rfl (by decide) (Nat.le_of_ble_eq_true rfl) (ls := [some (.inr a), some (.inl (nI w))]) rfl ?_
  refine pw_sound pw_tok pk_D_givenOf 400 _ _ _ _ _ _ ?_
  simp only [pv_all, pv_stp, pe_D_givenOf, pv_st, Nat.reduceAdd, eq_self, true_and, and_true, true_or, or_true, hd]
  simp (disch := omega) only [pn_c, pn_lt, pn_le, pn_at, pn_cl]
  exact ⟨fun q => absurd q (by omega), fun _ => ⟨fun q => absurd q (by omega), fun _ => ⟨hw, hk⟩⟩⟩
set_option maxHeartbeats 4000000 in
set_option maxRecDepth 100000 in
theorem c_D_givenOf_o {x : Int32} {k : Int32 → pw_Hp → Prop} (hd : ps_DS h a N) (hx : x < 0 ∨ nI N ≤ x) (hk : k 0 (pw_st h σ)) : pw_Ci 7 [.inr a, .inl x] (pw_st h σ) k := by
  unfold ps_DS at hd
  refine pw_intro (M := pm_D_givenOf) rfl (by decide) (Nat.le_of_ble_eq_true rfl) (ls := [some (.inr a), some (.inl x)]) rfl ?_
  refine pw_sound pw_tok pk_D_givenOf 400 _ _ _ _ _ _ ?_
  simp only [pv_all, pv_stp, pe_D_givenOf, pv_st, Nat.reduceAdd, eq_self, true_and, and_true, true_or, or_true, hd]
  exact ⟨fun _ => hk, fun q => ⟨fun _ => hk, fun q2 => absurd hx (fun z => z.elim q q2)⟩⟩
set_option maxHeartbeats 4000000 in
set_option maxRecDepth 100000 in
theorem c_D_hasRoom {w p sp : Nat} {m : Int32} {k : Int32 → pw_Hp → Prop} (hd : ps_DS h a N) (hN : N < 10000) (hw : w < N) (hp : σ a 9 = nI p) (hs : σ a 10 = nI sp) (hp2 : p ≤ 40) (hs2 : sp ≤ 99) (hk : k (if σ (a + 5) w + m ≤ nI (5 * p - sp) then 1 else 0) (pw_st h σ)) : pw_Ci 64 [.inr a, .inl (nI w), .inl m] (pw_st h σ) k := by
  have hd' := hd
  unfold ps_DS at hd'
  refine pw_intro (M := pm_D_hasRoom) rfl (by decide) (Nat.le_of_ble_eq_true rfl) (ls := [some (.inr a), some (.inl (nI w)), some (.inl m)]) rfl ?_
  refine pw_sound pw_tok pk_D_hasRoom 400 _ _ _ _ _ _ ?_
  simp only [pv_all, pv_stp, pe_D_hasRoom, pv_st, Nat.reduceAdd, eq_self, true_and, and_true, true_or, or_true, hd']
  refine c_D_givenOf hd hN hw ⟨hd.1, ?_⟩
  refine c_D_roomOfWindow hd hp hs hp2 hs2 ⟨fun q => ?_, fun q => ?_⟩
  · rw [if_neg (fun z => (fa_nlt' z) q)] at hk; exact hk
  · rw [if_pos (fa_of_nlt' q)] at hk; exact hk
set_option maxHeartbeats 4000000 in
set_option maxRecDepth 100000 in
theorem c_D_addGiven {w : Nat} {m : Int32} {k : pw_Hp → Prop} (hd : ps_DS h a N) (hN : N < 10000) (hw : w < N) (hk : k (pw_st h (ps_up σ (a + 5) w (σ (a + 5) w + m)))) : pw_Cv 8 [.inr a, .inl (nI w), .inl m] (pw_st h σ) k := by
  unfold ps_DS at hd
  refine pw_intro (M := pm_D_addGiven) rfl (by decide) (Nat.le_of_ble_eq_true rfl) (ls := [some (.inr a), some (.inl (nI w)), some (.inl m)]) rfl ?_
  refine pw_sound pw_tok pk_D_addGiven 400 _ _ _ _ _ _ ?_
  simp only [pv_all, pv_stp, pe_D_addGiven, pv_st, Nat.reduceAdd, eq_self, true_and, and_true, true_or, or_true, hd]
  simp (disch := omega) only [pn_c, pn_lt, pn_le, pn_at, pn_cl]
  exact ⟨fun q => absurd q (by omega), fun _ => ⟨fun q => absurd q (by omega), fun _ => ⟨hw, hw, hk⟩⟩⟩
end PSD
