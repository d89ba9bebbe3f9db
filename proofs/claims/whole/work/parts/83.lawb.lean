/-! The law, case by case. -/
section PLB
variable {L i n bc bs : Nat} {xs : Nat → Int32} {Q : Option pw_A → pw_Hp → Prop} {H : pw_Hp}
set_option maxHeartbeats 4000000 in
set_option maxRecDepth 100000 in
theorem l_c11 (hI : ps_Inv L xs n H) (hn : n < 600) (hi : i + 6 ≤ L) (hL : L ≤ 3072) (hbc : 6 ≤ bc) (hbs : 1181 ≤ bs) (hk : ∀ H2 bc2 bs2, ps_Inv L xs (n + 1) H2 → bc ≤ bc2 + 6 → bs ≤ bs2 + 1181 → pw_J pm_L_law Q 883 [some (.inr 1), some (.inr 2), some (.inr 7), some (.inl (nI i))] [] H2 bc2 bs2) : pw_J pm_L_law Q 531 [some (.inr 1), some (.inr 2), some (.inr 7), some (.inl (nI i))] [] H bc bs := by
  obtain ⟨k1, n1, x1, k2, k7⟩ := hI.1
  have e1 : nI i + 1 = nI (i + 1) := pn_add i 1
  have e2 : nI i + 2 = nI (i + 2) := pn_add i 2
  have e3 : nI i + 3 = nI (i + 3) := pn_add i 3
  have e4 : nI i + 4 = nI (i + 4) := pn_add i 4
  have e5 : nI i + 5 = nI (i + 5) := pn_add i 5
  refine pw_sound pw_tok pk_L_c11 400 _ _ _ _ _ _ ?_
  simp only [pv_all, pv_stp, pe_L_c11, pv_st, Nat.reduceAdd, eq_self, true_and, and_true, true_or, or_true, k1, n1, x1, k2, k7, e1, e2, e3, e4, e5]
  simp (disch := omega) only [pn_at, pn_cl]
  refine ⟨by omega, fun z => ?_, fun z => ?_⟩
  · refine tw_rain hn 0 (Or.inl rfl) H _ hI (fun y H1 hm1 hc => ?_)
    obtain ⟨k1b, n1b, x1b, k2b, k7b⟩ := hm1
    simp (disch := omega) only [k1b, n1b, x1b, k7b, eq_self, true_and, or_true, pn_at, pn_cl]
    exact ⟨by omega, fun _ => hc _ (fun H2 h2 => ⟨fun _ => hk H2 _ _ h2 (by omega) (by omega), fun q => absurd rfl q⟩), fun q => absurd z q⟩
  · refine tw_rain hn 1 (Or.inr rfl) H _ hI (fun y H1 hm1 hc => ?_)
    obtain ⟨k1b, n1b, x1b, k2b, k7b⟩ := hm1
    simp (disch := omega) only [k1b, n1b, x1b, k7b, eq_self, true_and, or_true, pn_at, pn_cl]
    exact ⟨by omega, fun q => absurd q z, fun _ => hc _ (fun H2 h2 => ⟨fun _ => hk H2 _ _ h2 (by omega) (by omega), fun q => absurd rfl q⟩)⟩
set_option maxHeartbeats 4000000 in
set_option maxRecDepth 100000 in
theorem l_c12 (hI : ps_Inv L xs n H) (hn : n < 600) (hi : i + 6 ≤ L) (hL : L ≤ 3072) (hbc : 6 ≤ bc) (hbs : 1181 ≤ bs) (hk : ∀ H2 bc2 bs2, ps_Inv L xs (n + 1) H2 → bc ≤ bc2 + 6 → bs ≤ bs2 + 1181 → pw_J pm_L_law Q 883 [some (.inr 1), some (.inr 2), some (.inr 7), some (.inl (nI i))] [] H2 bc2 bs2) : pw_J pm_L_law Q 570 [some (.inr 1), some (.inr 2), some (.inr 7), some (.inl (nI i))] [] H bc bs := by
  obtain ⟨k1, n1, x1, k2, k7⟩ := hI.1
  have e1 : nI i + 1 = nI (i + 1) := pn_add i 1
  have e2 : nI i + 2 = nI (i + 2) := pn_add i 2
  have e3 : nI i + 3 = nI (i + 3) := pn_add i 3
  have e4 : nI i + 4 = nI (i + 4) := pn_add i 4
  have e5 : nI i + 5 = nI (i + 5) := pn_add i 5
  refine pw_sound pw_tok pk_L_c12 400 _ _ _ _ _ _ ?_
  simp only [pv_all, pv_stp, pe_L_c12, pv_st, Nat.reduceAdd, eq_self, true_and, and_true, true_or, or_true, k1, n1, x1, k2, k7, e1, e2, e3, e4, e5]
  simp (disch := omega) only [pn_at, pn_cl]
  refine ⟨by omega, ?_⟩
  refine tw_ticks hn _ H _ hI (fun y H1 hm1 hc => ?_)
  obtain ⟨k1b, n1b, x1b, k2b, k7b⟩ := hm1
  simp (disch := omega) only [k1b, n1b, x1b, k7b, eq_self, true_and, or_true, pn_at, pn_cl]
  exact ⟨by omega, hc _ (fun H2 h2 => ⟨fun _ => hk H2 _ _ h2 (by omega) (by omega), fun q => absurd rfl q⟩)⟩
set_option maxHeartbeats 4000000 in
set_option maxRecDepth 100000 in
theorem l_c13 (hI : ps_Inv L xs n H) (hn : n < 600) (hi : i + 6 ≤ L) (hL : L ≤ 3072) (hbc : 6 ≤ bc) (hbs : 1181 ≤ bs) (hk : ∀ H2 bc2 bs2, ps_Inv L xs (n + 1) H2 → bc ≤ bc2 + 6 → bs ≤ bs2 + 1181 → pw_J pm_L_law Q 883 [some (.inr 1), some (.inr 2), some (.inr 7), some (.inl (nI i))] [] H2 bc2 bs2) : pw_J pm_L_law Q 593 [some (.inr 1), some (.inr 2), some (.inr 7), some (.inl (nI i))] [] H bc bs := by
  obtain ⟨k1, n1, x1, k2, k7⟩ := hI.1
  have e1 : nI i + 1 = nI (i + 1) := pn_add i 1
  have e2 : nI i + 2 = nI (i + 2) := pn_add i 2
  have e3 : nI i + 3 = nI (i + 3) := pn_add i 3
  have e4 : nI i + 4 = nI (i + 4) := pn_add i 4
  have e5 : nI i + 5 = nI (i + 5) := pn_add i 5
  refine pw_sound pw_tok pk_L_c13 400 _ _ _ _ _ _ ?_
  simp only [pv_all, pv_stp, pe_L_c13, pv_st, Nat.reduceAdd, eq_self, true_and, and_true, true_or, or_true, k1, n1, x1, k2, k7, e1, e2, e3, e4, e5]
  simp (disch := omega) only [pn_at, pn_cl]
  refine ⟨by omega, ?_⟩
  refine tw_wait hn _ H _ hI (fun y H1 hm1 hc => ?_)
  obtain ⟨k1b, n1b, x1b, k2b, k7b⟩ := hm1
  simp (disch := omega) only [k1b, n1b, x1b, k7b, eq_self, true_and, or_true, pn_at, pn_cl]
  exact ⟨by omega, hc _ (fun H2 h2 => ⟨fun _ => hk H2 _ _ h2 (by omega) (by omega), fun q => absurd rfl q⟩)⟩
set_option maxHeartbeats 4000000 in
set_option maxRecDepth 100000 in
theorem l_c14 (hI : ps_Inv L xs n H) (hn : n < 600) (hi : i + 6 ≤ L) (hL : L ≤ 3072) (hbc : 6 ≤ bc) (hbs : 1181 ≤ bs) (hk : ∀ H2 bc2 bs2, ps_Inv L xs (n + 1) H2 → bc ≤ bc2 + 6 → bs ≤ bs2 + 1181 → pw_J pm_L_law Q 883 [some (.inr 1), some (.inr 2), some (.inr 7), some (.inl (nI i))] [] H2 bc2 bs2) : pw_J pm_L_law Q 616 [some (.inr 1), some (.inr 2), some (.inr 7), some (.inl (nI i))] [] H bc bs := by
  obtain ⟨k1, n1, x1, k2, k7⟩ := hI.1
  have e1 : nI i + 1 = nI (i + 1) := pn_add i 1
  have e2 : nI i + 2 = nI (i + 2) := pn_add i 2
  have e3 : nI i + 3 = nI (i + 3) := pn_add i 3
  have e4 : nI i + 4 = nI (i + 4) := pn_add i 4
  have e5 : nI i + 5 = nI (i + 5) := pn_add i 5
  refine pw_sound pw_tok pk_L_c14 400 _ _ _ _ _ _ ?_
  simp only [pv_all, pv_stp, pe_L_c14, pv_st, Nat.reduceAdd, eq_self, true_and, and_true, true_or, or_true, k1, n1, x1, k2, k7, e1, e2, e3, e4, e5]
  simp (disch := omega) only [pn_at, pn_cl]
  refine ⟨by omega, by omega, ?_⟩
  refine tw_free hn _ _ H _ hI (fun y H1 hm1 hc => ?_)
  obtain ⟨k1b, n1b, x1b, k2b, k7b⟩ := hm1
  simp (disch := omega) only [k1b, n1b, x1b, k7b, eq_self, true_and, or_true, pn_at, pn_cl]
  exact ⟨by omega, by omega, hc _ (fun H2 h2 => ⟨fun _ => hk H2 _ _ h2 (by omega) (by omega), fun q => absurd rfl q⟩)⟩
set_option maxHeartbeats 4000000 in
set_option maxRecDepth 100000 in
theorem l_c15 (hI : ps_Inv L xs n H) (hn : n < 600) (hi : i + 6 ≤ L) (hL : L ≤ 3072) (hbc : 6 ≤ bc) (hbs : 1181 ≤ bs) (hk : ∀ H2 bc2 bs2, ps_Inv L xs (n + 1) H2 → bc ≤ bc2 + 6 → bs ≤ bs2 + 1181 → pw_J pm_L_law Q 883 [some (.inr 1), some (.inr 2), some (.inr 7), some (.inl (nI i))] [] H2 bc2 bs2) : pw_J pm_L_law Q 649 [some (.inr 1), some (.inr 2), some (.inr 7), some (.inl (nI i))] [] H bc bs := by
  obtain ⟨k1, n1, x1, k2, k7⟩ := hI.1
  have e1 : nI i + 1 = nI (i + 1) := pn_add i 1
  have e2 : nI i + 2 = nI (i + 2) := pn_add i 2
  have e3 : nI i + 3 = nI (i + 3) := pn_add i 3
  have e4 : nI i + 4 = nI (i + 4) := pn_add i 4
  have e5 : nI i + 5 = nI (i + 5) := pn_add i 5
  refine pw_sound pw_tok pk_L_c15 400 _ _ _ _ _ _ ?_
  simp only [pv_all, pv_stp, pe_L_c15, pv_st, Nat.reduceAdd, eq_self, true_and, and_true, true_or, or_true, k1, n1, x1, k2, k7, e1, e2, e3, e4, e5]
  simp (disch := omega) only [pn_at, pn_cl]
  refine ⟨by omega, by omega, ?_⟩
  refine tw_groupOf hn _ _ H _ hI (fun y H1 hm1 hc => ?_)
  obtain ⟨k1b, n1b, x1b, k2b, k7b⟩ := hm1
  simp (disch := omega) only [k1b, n1b, x1b, k7b, eq_self, true_and, or_true, pn_at, pn_cl]
  exact ⟨by omega, by omega, hc _ (fun H2 h2 => ⟨fun _ => hk H2 _ _ h2 (by omega) (by omega), fun q => absurd rfl q⟩)⟩
set_option maxHeartbeats 4000000 in
set_option maxRecDepth 100000 in
theorem l_c16 (hI : ps_Inv L xs n H) (hn : n < 600) (hi : i + 6 ≤ L) (hL : L ≤ 3072) (hbc : 6 ≤ bc) (hbs : 1181 ≤ bs) (hk : ∀ H2 bc2 bs2, ps_Inv L xs (n + 1) H2 → bc ≤ bc2 + 6 → bs ≤ bs2 + 1181 → pw_J pm_L_law Q 883 [some (.inr 1), some (.inr 2), some (.inr 7), some (.inl (nI i))] [] H2 bc2 bs2) : pw_J pm_L_law Q 682 [some (.inr 1), some (.inr 2), some (.inr 7), some (.inl (nI i))] [] H bc bs := by
  obtain ⟨k1, n1, x1, k2, k7⟩ := hI.1
  have e1 : nI i + 1 = nI (i + 1) := pn_add i 1
  have e2 : nI i + 2 = nI (i + 2) := pn_add i 2
  have e3 : nI i + 3 = nI (i + 3) := pn_add i 3
  have e4 : nI i + 4 = nI (i + 4) := pn_add i 4
  have e5 : nI i + 5 = nI (i + 5) := pn_add i 5
  refine pw_sound pw_tok pk_L_c16 400 _ _ _ _ _ _ ?_
  simp only [pv_all, pv_stp, pe_L_c16, pv_st, Nat.reduceAdd, eq_self, true_and, and_true, true_or, or_true, k1, n1, x1, k2, k7, e1, e2, e3, e4, e5]
  simp (disch := omega) only [pn_at, pn_cl]
  refine ⟨by omega, by omega, by omega, ?_⟩
  refine tw_time hn _ _ _ H _ hI (fun y H1 hm1 hc => ?_)
  obtain ⟨k1b, n1b, x1b, k2b, k7b⟩ := hm1
  simp (disch := omega) only [k1b, n1b, x1b, k7b, eq_self, true_and, or_true, pn_at, pn_cl]
  exact ⟨by omega, by omega, by omega, hc _ (fun H2 h2 => ⟨fun _ => hk H2 _ _ h2 (by omega) (by omega), fun q => absurd rfl q⟩)⟩
set_option maxHeartbeats 4000000 in
set_option maxRecDepth 100000 in
theorem l_c17 (hI : ps_Inv L xs n H) (hn : n < 600) (hi : i + 6 ≤ L) (hL : L ≤ 3072) (hbc : 6 ≤ bc) (hbs : 1181 ≤ bs) (hk : ∀ H2 bc2 bs2, ps_Inv L xs (n + 1) H2 → bc ≤ bc2 + 6 → bs ≤ bs2 + 1181 → pw_J pm_L_law Q 883 [some (.inr 1), some (.inr 2), some (.inr 7), some (.inl (nI i))] [] H2 bc2 bs2) : pw_J pm_L_law Q 725 [some (.inr 1), some (.inr 2), some (.inr 7), some (.inl (nI i))] [] H bc bs := by
  obtain ⟨k1, n1, x1, k2, k7⟩ := hI.1
  have e1 : nI i + 1 = nI (i + 1) := pn_add i 1
  have e2 : nI i + 2 = nI (i + 2) := pn_add i 2
  have e3 : nI i + 3 = nI (i + 3) := pn_add i 3
  have e4 : nI i + 4 = nI (i + 4) := pn_add i 4
  have e5 : nI i + 5 = nI (i + 5) := pn_add i 5
  refine pw_sound pw_tok pk_L_c17 400 _ _ _ _ _ _ ?_
  simp only [pv_all, pv_stp, pe_L_c17, pv_st, Nat.reduceAdd, eq_self, true_and, and_true, true_or, or_true, k1, n1, x1, k2, k7, e1, e2, e3, e4, e5]
  simp (disch := omega) only [pn_at, pn_cl]
  refine ⟨by omega, by omega, ?_⟩
  refine tw_rideOf hn _ _ H _ hI (fun y H1 hm1 hc => ?_)
  obtain ⟨k1b, n1b, x1b, k2b, k7b⟩ := hm1
  simp (disch := omega) only [k1b, n1b, x1b, k7b, eq_self, true_and, or_true, pn_at, pn_cl]
  exact ⟨by omega, by omega, hc _ (fun H2 h2 => ⟨fun _ => hk H2 _ _ h2 (by omega) (by omega), fun q => absurd rfl q⟩)⟩
set_option maxHeartbeats 4000000 in
set_option maxRecDepth 100000 in
theorem l_c18 (hI : ps_Inv L xs n H) (hn : n < 600) (hi : i + 6 ≤ L) (hL : L ≤ 3072) (hbc : 6 ≤ bc) (hbs : 1181 ≤ bs) (hk : ∀ H2 bc2 bs2, ps_Inv L xs (n + 1) H2 → bc ≤ bc2 + 6 → bs ≤ bs2 + 1181 → pw_J pm_L_law Q 883 [some (.inr 1), some (.inr 2), some (.inr 7), some (.inl (nI i))] [] H2 bc2 bs2) : pw_J pm_L_law Q 758 [some (.inr 1), some (.inr 2), some (.inr 7), some (.inl (nI i))] [] H bc bs := by
  obtain ⟨k1, n1, x1, k2, k7⟩ := hI.1
  have e1 : nI i + 1 = nI (i + 1) := pn_add i 1
  have e2 : nI i + 2 = nI (i + 2) := pn_add i 2
  have e3 : nI i + 3 = nI (i + 3) := pn_add i 3
  have e4 : nI i + 4 = nI (i + 4) := pn_add i 4
  have e5 : nI i + 5 = nI (i + 5) := pn_add i 5
  refine pw_sound pw_tok pk_L_c18 400 _ _ _ _ _ _ ?_
  simp only [pv_all, pv_stp, pe_L_c18, pv_st, Nat.reduceAdd, eq_self, true_and, and_true, true_or, or_true, k1, n1, x1, k2, k7, e1, e2, e3, e4, e5]
  simp (disch := omega) only [pn_at, pn_cl]
  refine ⟨by omega, by omega, by omega, ?_⟩
  refine tw_window hn _ _ _ H _ hI (fun y H1 hm1 hc => ?_)
  obtain ⟨k1b, n1b, x1b, k2b, k7b⟩ := hm1
  simp (disch := omega) only [k1b, n1b, x1b, k7b, eq_self, true_and, or_true, pn_at, pn_cl]
  exact ⟨by omega, by omega, by omega, hc _ (fun H2 h2 => ⟨fun _ => hk H2 _ _ h2 (by omega) (by omega), fun q => absurd rfl q⟩)⟩
set_option maxHeartbeats 4000000 in
set_option maxRecDepth 100000 in
theorem l_c19 (hI : ps_Inv L xs n H) (hn : n < 600) (hi : i + 6 ≤ L) (hL : L ≤ 3072) (hbc : 6 ≤ bc) (hbs : 1181 ≤ bs) (hk : ∀ H2 bc2 bs2, ps_Inv L xs (n + 1) H2 → bc ≤ bc2 + 6 → bs ≤ bs2 + 1181 → pw_J pm_L_law Q 883 [some (.inr 1), some (.inr 2), some (.inr 7), some (.inl (nI i))] [] H2 bc2 bs2) : pw_J pm_L_law Q 801 [some (.inr 1), some (.inr 2), some (.inr 7), some (.inl (nI i))] [] H bc bs := by
  obtain ⟨k1, n1, x1, k2, k7⟩ := hI.1
  have e1 : nI i + 1 = nI (i + 1) := pn_add i 1
  have e2 : nI i + 2 = nI (i + 2) := pn_add i 2
  have e3 : nI i + 3 = nI (i + 3) := pn_add i 3
  have e4 : nI i + 4 = nI (i + 4) := pn_add i 4
  have e5 : nI i + 5 = nI (i + 5) := pn_add i 5
  refine pw_sound pw_tok pk_L_c19 400 _ _ _ _ _ _ ?_
  simp only [pv_all, pv_stp, pe_L_c19, pv_st, Nat.reduceAdd, eq_self, true_and, and_true, true_or, or_true, k1, n1, x1, k2, k7, e1, e2, e3, e4, e5]
  simp (disch := omega) only [pn_at, pn_cl]
  refine ⟨by omega, by omega, fun z => ⟨by omega, ?_⟩, fun z => ⟨by omega, ?_⟩⟩
  · refine tw_row hn _ 0 _ H _ hI (fun y H1 hm1 hc => ?_)
    obtain ⟨k1b, n1b, x1b, k2b, k7b⟩ := hm1
    simp (disch := omega) only [k1b, n1b, x1b, k7b, eq_self, true_and, or_true, pn_at, pn_cl]
    exact ⟨by omega, by omega, fun _ => ⟨by omega, hc _ (fun H2 h2 => ⟨fun _ => hk H2 _ _ h2 (by omega) (by omega), fun q => absurd rfl q⟩)⟩, fun q => absurd z q⟩
  · refine tw_row hn _ 1 _ H _ hI (fun y H1 hm1 hc => ?_)
    obtain ⟨k1b, n1b, x1b, k2b, k7b⟩ := hm1
    simp (disch := omega) only [k1b, n1b, x1b, k7b, eq_self, true_and, or_true, pn_at, pn_cl]
    exact ⟨by omega, by omega, fun q => absurd q z, fun _ => ⟨by omega, hc _ (fun H2 h2 => ⟨fun _ => hk H2 _ _ h2 (by omega) (by omega), fun q => absurd rfl q⟩)⟩⟩
set_option maxHeartbeats 4000000 in
set_option maxRecDepth 100000 in
theorem l_c20 (hI : ps_Inv L xs n H) (hn : n < 600) (hi : i + 6 ≤ L) (hL : L ≤ 3072) (hbc : 6 ≤ bc) (hbs : 1181 ≤ bs) (hk : ∀ H2 bc2 bs2, ps_Inv L xs (n + 1) H2 → bc ≤ bc2 + 6 → bs ≤ bs2 + 1181 → pw_J pm_L_law Q 883 [some (.inr 1), some (.inr 2), some (.inr 7), some (.inl (nI i))] [] H2 bc2 bs2) : pw_J pm_L_law Q 860 [some (.inr 1), some (.inr 2), some (.inr 7), some (.inl (nI i))] [] H bc bs := by
  obtain ⟨k1, n1, x1, k2, k7⟩ := hI.1
  have e1 : nI i + 1 = nI (i + 1) := pn_add i 1
  have e2 : nI i + 2 = nI (i + 2) := pn_add i 2
  have e3 : nI i + 3 = nI (i + 3) := pn_add i 3
  have e4 : nI i + 4 = nI (i + 4) := pn_add i 4
  have e5 : nI i + 5 = nI (i + 5) := pn_add i 5
  refine pw_sound pw_tok pk_L_c20 400 _ _ _ _ _ _ ?_
  simp only [pv_all, pv_stp, pe_L_c20, pv_st, Nat.reduceAdd, eq_self, true_and, and_true, true_or, or_true, k1, n1, x1, k2, k7, e1, e2, e3, e4, e5]
  simp (disch := omega) only [pn_at, pn_cl]
  refine ⟨by omega, ?_⟩
  refine tw_count hn _ H _ hI (fun y H1 hm1 hc => ?_)
  obtain ⟨k1b, n1b, x1b, k2b, k7b⟩ := hm1
  simp (disch := omega) only [k1b, n1b, x1b, k7b, eq_self, true_and, or_true, pn_at, pn_cl]
  exact ⟨by omega, hc _ (fun H2 h2 => ⟨fun _ => hk H2 _ _ h2 (by omega) (by omega), fun q => absurd rfl q⟩)⟩
theorem ps_Inv_n {n2 : Nat} (hI : ps_Inv L xs n H) (hn : n ≤ n2) : ps_Inv L xs n2 H := by
  obtain ⟨hm, h30, hM, R, G, aR, aG, Nw, μ, ρ, m, hC, hV, hD, hW, hmn⟩ := hI
  exact ⟨hm, h30, hM, R, G, aR, aG, Nw, μ, ρ, m, hC, hV, hD, ps_wf_n hW hn, by omega⟩
set_option maxHeartbeats 4000000 in
set_option maxRecDepth 100000 in
theorem l_loop (hQ : ∀ H, Q (some (.inl 1)) H) (hL : L ≤ 3072) : ∀ (c n bc bs : Nat) (H : pw_Hp), n + c = 513 → ps_Inv L xs n H → 6 * c ≤ bc → 1181 * c ≤ bs → pw_J pm_L_law Q 18 [some (.inr 1), some (.inr 2), some (.inr 7), some (.inl (nI (6 * n)))] [] H bc bs := by
  have e6 : (nI L - 6).toInt = (L : Int) - 6 := pk_sub_toInt (a := L) (b := 6) (by omega) (by omega)
  intro c
  induction c with
  | zero =>
    intro n bc bs H hc hI _ _
    obtain ⟨k1, n1, x1, k2, k7⟩ := hI.1
    refine pw_sound pw_tok pk_L_hd 400 _ _ _ _ _ _ ?_
    simp only [pv_all, pv_stp, pe_L_hd, pv_st, Nat.reduceAdd, eq_self, true_and, and_true, true_or, or_true, k1, n1, x1, k2, k7]
    refine ⟨fun _ => hQ H, fun q => absurd ?_ q⟩
    rw [fa_lt', e6, nI_toInt (by omega)]
    omega
  | succ c ih =>
    intro n bc bs H hc hI hbc hbs
    obtain ⟨k1, n1, x1, k2, k7⟩ := hI.1
    have nx : ∀ H2 bc2 bs2, ps_Inv L xs (n + 1) H2 → bc ≤ bc2 + 6 → bs ≤ bs2 + 1181 → pw_J pm_L_law Q 883 [some (.inr 1), some (.inr 2), some (.inr 7), some (.inl (nI (6 * n)))] [] H2 bc2 bs2 := fun H2 bc2 bs2 h2 a b => by
      have e : nI (6 * n) + 6 = nI (6 * (n + 1)) := pn_add (6 * n) 6
      have := ih (n + 1) bc2 bs2 H2 (by omega) h2 (by omega) (by omega)
      rw [← e] at this
      refine pw_sound pw_tok pk_L_hd 400 _ _ _ _ _ _ ?_
      simp only [pv_all, pv_stp, pe_L_hd, pv_st, Nat.reduceAdd, eq_self, true_and, and_true, true_or, or_true]
      exact this
    refine pw_sound pw_tok pk_L_hd 400 _ _ _ _ _ _ ?_
    simp only [pv_all, pv_stp, pe_L_hd, pv_st, Nat.reduceAdd, eq_self, true_and, and_true, true_or, or_true, k1, n1, x1, k2, k7]
    refine ⟨fun _ => hQ H, fun q => ?_⟩
    have hi : 6 * n + 6 ≤ L := by
      rw [fa_lt', e6, nI_toInt (by omega)] at q
      omega
    rw [pn_at (by omega)]
    have dn := nx H bc bs (ps_Inv_n hI (by omega)) (by omega) (by omega)
    exact ⟨by omega, ⟨fun _ => l_c0 hI (by omega) hi hL (by omega) (by omega) nx, fun _ => ⟨fun _ => l_c1 hI (by omega) hi hL (by omega) (by omega) nx, fun _ => ⟨fun _ => l_c2 hI (by omega) hi hL (by omega) (by omega) nx, fun _ => ⟨fun _ => l_c3 hI (by omega) hi hL (by omega) (by omega) nx, fun _ => ⟨fun _ => l_c4 hI (by omega) hi hL (by omega) (by omega) nx, fun _ => ⟨fun _ => l_c5 hI (by omega) hi hL (by omega) (by omega) nx, fun _ => ⟨fun _ => l_c6 hI (by omega) hi hL (by omega) (by omega) nx, fun _ => ⟨fun _ => l_c7 hI (by omega) hi hL (by omega) (by omega) nx, fun _ => ⟨fun _ => l_c8 hI (by omega) hi hL (by omega) (by omega) nx, fun _ => ⟨fun _ => l_c9 hI (by omega) hi hL (by omega) (by omega) nx, fun _ => ⟨fun _ => l_c10 hI (by omega) hi hL (by omega) (by omega) nx, fun _ => ⟨fun _ => l_c11 hI (by omega) hi hL (by omega) (by omega) nx, fun _ => ⟨fun _ => l_c12 hI (by omega) hi hL (by omega) (by omega) nx, fun _ => ⟨fun _ => l_c13 hI (by omega) hi hL (by omega) (by omega) nx, fun _ => ⟨fun _ => l_c14 hI (by omega) hi hL (by omega) (by omega) nx, fun _ => ⟨fun _ => l_c15 hI (by omega) hi hL (by omega) (by omega) nx, fun _ => ⟨fun _ => l_c16 hI (by omega) hi hL (by omega) (by omega) nx, fun _ => ⟨fun _ => l_c17 hI (by omega) hi hL (by omega) (by omega) nx, fun _ => ⟨fun _ => l_c18 hI (by omega) hi hL (by omega) (by omega) nx, fun _ => ⟨fun _ => l_c19 hI (by omega) hi hL (by omega) (by omega) nx, fun _ => ⟨fun _ => l_c20 hI (by omega) hi hL (by omega) (by omega) nx, fun _ => dn⟩⟩⟩⟩⟩⟩⟩⟩⟩⟩⟩⟩⟩⟩⟩⟩⟩⟩⟩⟩⟩⟩
end PLB
