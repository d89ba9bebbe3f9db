/-! Group: its times. -/
section PSG
variable {h : pw_Hp} {σ : ps_S} {a : Nat}
set_option maxHeartbeats 4000000 in
set_option maxRecDepth 100000 in
theorem c_G_rideOfTime {t j : Nat} {k : Int32 → pw_Hp → Prop} (hg : ps_GS h a) (ht : σ a 4 = nI t) (h2 : t ≤ 2) (hj : j < t) (hk : k (σ (a + 1) j) (pw_st h σ)) : pw_Ci 32 [.inr a, .inl (nI j)] (pw_st h σ) k := by
  have hg' := hg
  unfold ps_GS at hg'
  refine pw_intro (M := pm_G_rideOfTime) rfl (by decide) (Nat.le_of_ble_eq_true rfl) (ls := [some (.inr a), some (.inl (nI j))]) rfl ?_
  refine pw_sound pw_tok pk_G_rideOfTime 400 _ _ _ _ _ _ ?_
  simp only [pv_all, pv_stp, pe_G_rideOfTime, pv_st, Nat.reduceAdd, eq_self, true_and, and_true, true_or, or_true, hg']
  refine c_G_hasTime_y hg ht h2 hj ⟨fun q => absurd q (by decide), fun _ => ?_⟩
  simp (disch := omega) only [pv_st, hg', true_or, true_and, eq_self, pn_c, pn_le, pn_at, pn_cl]
  exact ⟨fun q => absurd q (by omega), fun _ => ⟨by omega, hk⟩⟩
set_option maxHeartbeats 4000000 in
set_option maxRecDepth 100000 in
theorem c_G_windowOfTime {t j : Nat} {k : Int32 → pw_Hp → Prop} (hg : ps_GS h a) (ht : σ a 4 = nI t) (h2 : t ≤ 2) (hj : j < t) (hk : k (σ (a + 2) j) (pw_st h σ)) : pw_Ci 33 [.inr a, .inl (nI j)] (pw_st h σ) k := by
  have hg' := hg
  unfold ps_GS at hg'
  refine pw_intro (M := pm_G_windowOfTime) rfl (by decide) (Nat.le_of_ble_eq_true rfl) (ls := [some (.inr a), some (.inl (nI j))]) rfl ?_
  refine pw_sound pw_tok pk_G_windowOfTime 400 _ _ _ _ _ _ ?_
  simp only [pv_all, pv_stp, pe_G_windowOfTime, pv_st, Nat.reduceAdd, eq_self, true_and, and_true, true_or, or_true, hg']
  refine c_G_hasTime_y hg ht h2 hj ⟨fun q => absurd q (by decide), fun _ => ?_⟩
  simp (disch := omega) only [pv_st, hg', true_or, true_and, eq_self, pn_c, pn_le, pn_at, pn_cl]
  exact ⟨fun q => absurd q (by omega), fun _ => ⟨by omega, hk⟩⟩
set_option maxHeartbeats 4000000 in
set_option maxRecDepth 100000 in
theorem c_G_moveTimeTo {t j : Nat} {x : Int32} {k : pw_Hp → Prop} (hg : ps_GS h a) (ht : σ a 4 = nI t) (h2 : t ≤ 2) (hj : j < t) (hk : k (pw_st h (ps_up σ (a + 2) j x))) : pw_Cv 34 [.inr a, .inl (nI j), .inl x] (pw_st h σ) k := by
  have hg' := hg
  unfold ps_GS at hg'
  refine pw_intro (M := pm_G_moveTimeTo) rfl (by decide) (Nat.le_of_ble_eq_true rfl) (ls := [some (.inr a), some (.inl (nI j)), some (.inl x)]) rfl ?_
  refine pw_sound pw_tok pk_G_moveTimeTo 400 _ _ _ _ _ _ ?_
  simp only [pv_all, pv_stp, pe_G_moveTimeTo, pv_st, Nat.reduceAdd, eq_self, true_and, and_true, true_or, or_true, hg']
  refine c_G_hasTime_y hg ht h2 hj ⟨fun q => absurd q (by decide), fun _ => ?_⟩
  simp (disch := omega) only [pv_st, hg', true_or, true_and, eq_self, pn_c, pn_le, pn_at, pn_cl]
  exact ⟨fun q => absurd q (by omega), fun _ => ⟨by omega, hk⟩⟩
set_option maxHeartbeats 4000000 in
set_option maxRecDepth 100000 in
theorem c_G_addTime {t : Nat} {x y : Int32} {k : pw_Hp → Prop} (hg : ps_GS h a) (ht : σ a 4 = nI t) (h2 : t < 2) (hk : k (pw_st h (ps_up (ps_up (ps_up σ (a + 1) t x) (a + 2) t y) a 4 (nI (t + 1))))) : pw_Cv 2 [.inr a, .inl x, .inl y] (pw_st h σ) k := by
  have hg' := hg
  unfold ps_GS at hg'
  have e1 : ps_up σ (a + 1) t x a 4 = nI t := by rw [ps_up_n (Or.inl (by omega))]; exact ht
  have e2 : ps_up (ps_up σ (a + 1) t x) (a + 2) t y a 4 = nI t := by rw [ps_up_n (Or.inl (by omega))]; exact e1
  refine pw_intro (M := pm_G_addTime) rfl (by decide) (Nat.le_of_ble_eq_true rfl) (ls := [some (.inr a), some (.inl x), some (.inl y)]) rfl ?_
  refine pw_sound pw_tok pk_G_addTime 400 _ _ _ _ _ _ ?_
  simp only [pv_all, pv_stp, pe_G_addTime, pv_st, Nat.reduceAdd, eq_self, true_and, and_true, true_or, or_true, hg', ht]
  simp (disch := omega) only [pn_c, pn_lt, pn_le, pn_at, pn_cl, pn_add, e1, e2]
  exact ⟨fun q => absurd q (by omega), fun _ => ⟨fun q => absurd q (by omega), fun _ => ⟨fun q => absurd q (by omega), fun _ => ⟨by omega, by omega, hk⟩⟩⟩⟩
/-- the times behind a dropped one move up -/
def ps_gdrop (σ : ps_S) (a t j : Nat) : ps_S := if j + 1 < t then ps_up (ps_up (ps_up σ (a + 1) j (σ (a + 1) (j + 1))) (a + 2) j (σ (a + 2) (j + 1))) a 4 (nI (t - 1)) else ps_up σ a 4 (nI (t - 1))
set_option maxHeartbeats 4000000 in
set_option maxRecDepth 100000 in
theorem c_G_dropTime_13 {t j : Nat} {k : pw_Hp → Prop} (hg : ps_GS h a) (ht : σ a 4 = nI t) (h2 : t ≤ 2) (hj : t ≤ j) (h3 : j < 5) (h0 : 0 < t) {x : Int32} (hk : k (pw_st h (ps_up σ a 4 (nI (t - 1))))) : pw_J pm_G_dropTime (pw_qv k) 13 [some (.inr a), some (.inl x), some (.inl (nI j))] [] (pw_st h σ) 0 0 := by
  have hg' := hg
  unfold ps_GS at hg'
  refine pw_sound pw_tok pk_G_dropTime 400 _ _ _ _ _ _ ?_
  simp only [pv_all, pv_stp, pe_G_dropTime, pv_st, Nat.reduceAdd, eq_self, true_and, and_true, true_or, or_true, hg', ht]
  simp (disch := omega) only [pn_c, pn_lt, pn_le, pn_at, pn_cl, pn_sub]
  exact ⟨fun _ => hk, fun q => absurd hj q⟩
set_option maxHeartbeats 4000000 in
set_option maxRecDepth 100000 in
theorem c_G_dropTime {t j : Nat} {k : pw_Hp → Prop} (hg : ps_GS h a) (ht : σ a 4 = nI t) (h2 : t ≤ 2) (hj : j < t) (hk : k (pw_st h (ps_gdrop σ a t j))) : pw_Cv 35 [.inr a, .inl (nI j)] (pw_st h σ) k := by
  have hg' := hg
  unfold ps_GS at hg'
  refine pw_intro (M := pm_G_dropTime) rfl (by decide) (Nat.le_of_ble_eq_true rfl) (ls := [some (.inr a), some (.inl (nI j)), none]) rfl ?_
  refine pw_sound pw_tok pk_G_dropTime 400 _ _ _ _ _ _ ?_
  simp only [pv_all, pv_stp, pe_G_dropTime, pv_st, Nat.reduceAdd, eq_self, true_and, and_true, true_or, or_true, hg']
  refine c_G_hasTime_y hg ht h2 hj ⟨fun _ => ?_, fun q => absurd q (by decide)⟩
  rw [nI_1]
  unfold ps_gdrop at hk
  by_cases hq : j + 1 < t
  · rw [if_pos hq] at hk
    refine pw_sound pw_tok pk_G_dropTime 400 _ _ _ _ _ _ ?_
    simp only [pv_all, pv_stp, pe_G_dropTime, pv_st, Nat.reduceAdd, eq_self, true_and, and_true, true_or, or_true, hg', ht]
    simp (disch := omega) only [pn_c, pn_lt, pn_le, pn_at, pn_cl, pn_sub, pn_add, Nat.add_sub_cancel]
    refine ⟨fun q => absurd q (by omega), fun _ => ⟨fun q => absurd q (by omega), fun _ => ⟨fun q => absurd q (by omega), fun _ => ⟨by omega, by omega, by omega, by omega, ?_⟩⟩⟩⟩
    rw [show ps_up σ (a + 1) j (σ (a + 1) (j + 1)) (a + 2) (j + 1) = σ (a + 2) (j + 1) from ps_up_n (Or.inl (by omega))]
    refine c_G_dropTime_13 (t := t) hg ?_ h2 (by omega) (by omega) (by omega) hk
    rw [ps_up_n (Or.inl (by omega)), ps_up_n (Or.inl (by omega))]
    exact ht
  · rw [if_neg hq] at hk
    exact c_G_dropTime_13 hg ht h2 (by omega) (by omega) (by omega) hk
-- the first time at the ride x, window y: found at j, or nowhere
set_option maxHeartbeats 4000000 in
set_option maxRecDepth 100000 in
theorem c_G_placeOfTime_2 {t : Nat} {x y : Int32} {k : Int32 → pw_Hp → Prop} (hg : ps_GS h a) (ht : σ a 4 = nI t) (h2 : t ≤ 2) (hy : ∀ j, j < t → σ (a + 1) j = x → σ (a + 2) j = y → (∀ i, i < j → ¬ (σ (a + 1) i = x ∧ σ (a + 2) i = y)) → k (nI j) (pw_st h σ)) (hn : (∀ i, i < t → ¬ (σ (a + 1) i = x ∧ σ (a + 2) i = y)) → k (-9) (pw_st h σ)) :
    ∀ (n j : Nat), j + n = t → (∀ i, i < j → ¬ (σ (a + 1) i = x ∧ σ (a + 2) i = y)) → pw_J pm_G_placeOfTime (pw_qi k) 2 [some (.inr a), some (.inl x), some (.inl y), some (.inl (nI j))] [] (pw_st h σ) 0 0 := by
  intro n
  have hg' := hg
  unfold ps_GS at hg'
  induction n with
  | zero =>
    intro j hj hb
    refine pw_sound pw_tok pk_G_placeOfTime 400 _ _ _ _ _ _ ?_
    simp only [pv_all, pv_stp, pe_G_placeOfTime, pv_st, Nat.reduceAdd, eq_self, true_and, and_true, true_or, or_true, hg', ht]
    simp (disch := omega) only [pn_le]
    exact ⟨fun _ => hn (by rw [show t = j by omega]; exact hb), fun q => absurd q (by omega)⟩
  | succ n ih =>
    intro j hj hb
    refine pw_sound pw_tok pk_G_placeOfTime 400 _ _ _ _ _ _ ?_
    simp only [pv_all, pv_stp, pe_G_placeOfTime, pv_st, Nat.reduceAdd, eq_self, true_and, and_true, true_or, or_true, hg', ht]
    simp (disch := omega) only [pn_le]
    refine ⟨fun q => absurd q (by omega), fun _ => ?_⟩
    refine c_G_rideOfTime hg ht h2 (by omega) ?_
    refine ⟨fun q => ?_, fun q => ⟨hg.1, ?_⟩⟩
    · rw [nI_1]
      exact ih (j + 1) (by omega) (fun i hi => by rcases (show i < j ∨ i = j by omega) with z | z; exact hb i z; rw [z]; exact fun w => q w.1)
    · refine c_G_windowOfTime hg ht h2 (by omega) ?_
      refine ⟨fun q2 => ?_, fun q2 => ?_⟩
      · rw [nI_1]
        exact ih (j + 1) (by omega) (fun i hi => by rcases (show i < j ∨ i = j by omega) with z | z; exact hb i z; rw [z]; exact fun w => q2 w.2)
      · exact hy j (by omega) q q2 hb
set_option maxHeartbeats 4000000 in
set_option maxRecDepth 100000 in
theorem c_G_placeOfTime {t : Nat} {x y : Int32} {k : Int32 → pw_Hp → Prop} (hg : ps_GS h a) (ht : σ a 4 = nI t) (h2 : t ≤ 2) (hy : ∀ j, j < t → σ (a + 1) j = x → σ (a + 2) j = y → (∀ i, i < j → ¬ (σ (a + 1) i = x ∧ σ (a + 2) i = y)) → k (nI j) (pw_st h σ)) (hn : (∀ i, i < t → ¬ (σ (a + 1) i = x ∧ σ (a + 2) i = y)) → k (-9) (pw_st h σ)) : pw_Ci 62 [.inr a, .inl x, .inl y] (pw_st h σ) k := by
  refine pw_intro (M := pm_G_placeOfTime) rfl (by decide) (Nat.le_of_ble_eq_true rfl) (ls := [some (.inr a), some (.inl x), some (.inl y), none]) rfl ?_
  refine pw_sound pw_tok pk_G_placeOfTime 400 _ _ _ _ _ _ ?_
  simp only [pv_all, pv_stp, pe_G_placeOfTime, pv_st, Nat.reduceAdd, eq_self, true_and, and_true, true_or, or_true]
  exact c_G_placeOfTime_2 hg ht h2 hy hn t 0 (by omega) (fun i hi => absurd hi (by omega))
end PSG
