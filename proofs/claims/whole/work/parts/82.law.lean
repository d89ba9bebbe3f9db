/-! The law, case by case. -/
section PLA
variable {L i n bc bs : Nat} {xs : Nat → Int32} {Q : Option pw_A → pw_Hp → Prop} {H : pw_Hp}
set_option maxHeartbeats 4000000 in
set_option maxRecDepth 100000 in
theorem l_c0 (hI : ps_Inv L xs n H) (hn : n < 600) (hi : i + 6 ≤ L) (hL : L ≤ 3072) (hbc : 6 ≤ bc) (hbs : 1181 ≤ bs) (hk : ∀ H2 bc2 bs2, ps_Inv L xs (n + 1) H2 → bc ≤ bc2 + 6 → bs ≤ bs2 + 1181 → pw_J pm_L_law Q 883 [some (.inr 1), some (.inr 2), some (.inr 7), some (.inl (nI i))] [] H2 bc2 bs2) : pw_J pm_L_law Q 132 [some (.inr 1), some (.inr 2), some (.inr 7), some (.inl (nI i))] [] H bc bs := by
  obtain ⟨k1, n1, x1, k2, k7⟩ := hI.1
  have e1 : nI i + 1 = nI (i + 1) := pn_add i 1
  have e2 : nI i + 2 = nI (i + 2) := pn_add i 2
  have e3 : nI i + 3 = nI (i + 3) := pn_add i 3
  have e4 : nI i + 4 = nI (i + 4) := pn_add i 4
  have e5 : nI i + 5 = nI (i + 5) := pn_add i 5
  refine pw_sound pw_tok pk_L_c0 400 _ _ _ _ _ _ ?_
  simp only [pv_all, pv_stp, pe_L_c0, pv_st, Nat.reduceAdd, eq_self, true_and, and_true, true_or, or_true, k1, n1, x1, k2, k7, e1, e2, e3, e4, e5]
  simp (disch := omega) only [pn_at, pn_cl]
  refine ⟨by omega, by omega, by omega, by omega, by omega, by omega, by omega, ?_⟩
  refine tw_ride hn _ _ _ _ _ H _ hI (fun y H1 hm1 hc => ?_)
  obtain ⟨k1b, n1b, x1b, k2b, k7b⟩ := hm1
  simp (disch := omega) only [k1b, n1b, x1b, k7b, eq_self, true_and, or_true, pn_at, pn_cl]
  exact ⟨by omega, by omega, by omega, by omega, by omega, hc _ (fun H2 h2 => ⟨fun _ => hk H2 _ _ h2 (by omega) (by omega), fun q => absurd rfl q⟩)⟩
set_option maxHeartbeats 4000000 in
set_option maxRecDepth 100000 in
theorem l_c1 (hI : ps_Inv L xs n H) (hn : n < 600) (hi : i + 6 ≤ L) (hL : L ≤ 3072) (hbc : 6 ≤ bc) (hbs : 1181 ≤ bs) (hk : ∀ H2 bc2 bs2, ps_Inv L xs (n + 1) H2 → bc ≤ bc2 + 6 → bs ≤ bs2 + 1181 → pw_J pm_L_law Q 883 [some (.inr 1), some (.inr 2), some (.inr 7), some (.inl (nI i))] [] H2 bc2 bs2) : pw_J pm_L_law Q 195 [some (.inr 1), some (.inr 2), some (.inr 7), some (.inl (nI i))] [] H bc bs := by
  obtain ⟨k1, n1, x1, k2, k7⟩ := hI.1
  have e1 : nI i + 1 = nI (i + 1) := pn_add i 1
  have e2 : nI i + 2 = nI (i + 2) := pn_add i 2
  have e3 : nI i + 3 = nI (i + 3) := pn_add i 3
  have e4 : nI i + 4 = nI (i + 4) := pn_add i 4
  have e5 : nI i + 5 = nI (i + 5) := pn_add i 5
  refine pw_sound pw_tok pk_L_c1 400 _ _ _ _ _ _ ?_
  simp only [pv_all, pv_stp, pe_L_c1, pv_st, Nat.reduceAdd, eq_self, true_and, and_true, true_or, or_true, k1, n1, x1, k2, k7, e1, e2, e3, e4, e5]
  simp (disch := omega) only [pn_at, pn_cl]
  refine ⟨by omega, by omega, by omega, ?_⟩
  refine tw_group hn _ H _ hI (fun y H1 hm1 hc => ?_)
  obtain ⟨k1b, n1b, x1b, k2b, k7b⟩ := hm1
  simp (disch := omega) only [k1b, n1b, x1b, k7b, eq_self, true_and, or_true, pn_at, pn_cl]
  exact ⟨by omega, hc _ (fun H2 h2 => ⟨fun _ => hk H2 _ _ h2 (by omega) (by omega), fun q => absurd rfl q⟩)⟩
set_option maxHeartbeats 4000000 in
set_option maxRecDepth 100000 in
theorem l_c2 (hI : ps_Inv L xs n H) (hn : n < 600) (hi : i + 6 ≤ L) (hL : L ≤ 3072) (hbc : 6 ≤ bc) (hbs : 1181 ≤ bs) (hk : ∀ H2 bc2 bs2, ps_Inv L xs (n + 1) H2 → bc ≤ bc2 + 6 → bs ≤ bs2 + 1181 → pw_J pm_L_law Q 883 [some (.inr 1), some (.inr 2), some (.inr 7), some (.inl (nI i))] [] H2 bc2 bs2) : pw_J pm_L_law Q 218 [some (.inr 1), some (.inr 2), some (.inr 7), some (.inl (nI i))] [] H bc bs := by
  obtain ⟨k1, n1, x1, k2, k7⟩ := hI.1
  have e1 : nI i + 1 = nI (i + 1) := pn_add i 1
  have e2 : nI i + 2 = nI (i + 2) := pn_add i 2
  have e3 : nI i + 3 = nI (i + 3) := pn_add i 3
  have e4 : nI i + 4 = nI (i + 4) := pn_add i 4
  have e5 : nI i + 5 = nI (i + 5) := pn_add i 5
  refine pw_sound pw_tok pk_L_c2 400 _ _ _ _ _ _ ?_
  simp only [pv_all, pv_stp, pe_L_c2, pv_st, Nat.reduceAdd, eq_self, true_and, and_true, true_or, or_true, k1, n1, x1, k2, k7, e1, e2, e3, e4, e5]
  simp (disch := omega) only [pn_at, pn_cl]
  refine ⟨by omega, by omega, by omega, ?_⟩
  refine tw_walk hn _ _ _ H _ hI (fun y H1 hm1 hc => ?_)
  obtain ⟨k1b, n1b, x1b, k2b, k7b⟩ := hm1
  simp (disch := omega) only [k1b, n1b, x1b, k7b, eq_self, true_and, or_true, pn_at, pn_cl]
  exact ⟨by omega, by omega, by omega, hc _ (fun H2 h2 => ⟨fun _ => hk H2 _ _ h2 (by omega) (by omega), fun q => absurd rfl q⟩)⟩
set_option maxHeartbeats 4000000 in
set_option maxRecDepth 100000 in
theorem l_c3 (hI : ps_Inv L xs n H) (hn : n < 600) (hi : i + 6 ≤ L) (hL : L ≤ 3072) (hbc : 6 ≤ bc) (hbs : 1181 ≤ bs) (hk : ∀ H2 bc2 bs2, ps_Inv L xs (n + 1) H2 → bc ≤ bc2 + 6 → bs ≤ bs2 + 1181 → pw_J pm_L_law Q 883 [some (.inr 1), some (.inr 2), some (.inr 7), some (.inl (nI i))] [] H2 bc2 bs2) : pw_J pm_L_law Q 261 [some (.inr 1), some (.inr 2), some (.inr 7), some (.inl (nI i))] [] H bc bs := by
  obtain ⟨k1, n1, x1, k2, k7⟩ := hI.1
  have e1 : nI i + 1 = nI (i + 1) := pn_add i 1
  have e2 : nI i + 2 = nI (i + 2) := pn_add i 2
  have e3 : nI i + 3 = nI (i + 3) := pn_add i 3
  have e4 : nI i + 4 = nI (i + 4) := pn_add i 4
  have e5 : nI i + 5 = nI (i + 5) := pn_add i 5
  refine pw_sound pw_tok pk_L_c3 400 _ _ _ _ _ _ ?_
  simp only [pv_all, pv_stp, pe_L_c3, pv_st, Nat.reduceAdd, eq_self, true_and, and_true, true_or, or_true, k1, n1, x1, k2, k7, e1, e2, e3, e4, e5]
  simp (disch := omega) only [pn_at, pn_cl]
  refine ⟨by omega, by omega, by omega, ?_⟩
  refine tw_part hn _ _ _ H _ hI (fun y H1 hm1 hc => ?_)
  obtain ⟨k1b, n1b, x1b, k2b, k7b⟩ := hm1
  simp (disch := omega) only [k1b, n1b, x1b, k7b, eq_self, true_and, or_true, pn_at, pn_cl]
  exact ⟨by omega, by omega, by omega, hc _ (fun H2 h2 => ⟨fun _ => hk H2 _ _ h2 (by omega) (by omega), fun q => absurd rfl q⟩)⟩
set_option maxHeartbeats 4000000 in
set_option maxRecDepth 100000 in
theorem l_c4 (hI : ps_Inv L xs n H) (hn : n < 600) (hi : i + 6 ≤ L) (hL : L ≤ 3072) (hbc : 6 ≤ bc) (hbs : 1181 ≤ bs) (hk : ∀ H2 bc2 bs2, ps_Inv L xs (n + 1) H2 → bc ≤ bc2 + 6 → bs ≤ bs2 + 1181 → pw_J pm_L_law Q 883 [some (.inr 1), some (.inr 2), some (.inr 7), some (.inl (nI i))] [] H2 bc2 bs2) : pw_J pm_L_law Q 304 [some (.inr 1), some (.inr 2), some (.inr 7), some (.inl (nI i))] [] H bc bs := by
  obtain ⟨k1, n1, x1, k2, k7⟩ := hI.1
  have e1 : nI i + 1 = nI (i + 1) := pn_add i 1
  have e2 : nI i + 2 = nI (i + 2) := pn_add i 2
  have e3 : nI i + 3 = nI (i + 3) := pn_add i 3
  have e4 : nI i + 4 = nI (i + 4) := pn_add i 4
  have e5 : nI i + 5 = nI (i + 5) := pn_add i 5
  refine pw_sound pw_tok pk_L_c4 400 _ _ _ _ _ _ ?_
  simp only [pv_all, pv_stp, pe_L_c4, pv_st, Nat.reduceAdd, eq_self, true_and, and_true, true_or, or_true, k1, n1, x1, k2, k7, e1, e2, e3, e4, e5]
  simp (disch := omega) only [pn_at, pn_cl]
  refine ⟨by omega, by omega, ?_⟩
  refine tw_take hn _ _ H _ hI (fun y H1 hm1 hc => ?_)
  obtain ⟨k1b, n1b, x1b, k2b, k7b⟩ := hm1
  simp (disch := omega) only [k1b, n1b, x1b, k7b, eq_self, true_and, or_true, pn_at, pn_cl]
  exact ⟨by omega, by omega, hc _ (fun H2 h2 => ⟨fun _ => hk H2 _ _ h2 (by omega) (by omega), fun q => absurd rfl q⟩)⟩
set_option maxHeartbeats 4000000 in
set_option maxRecDepth 100000 in
theorem l_c5 (hI : ps_Inv L xs n H) (hn : n < 600) (hi : i + 6 ≤ L) (hL : L ≤ 3072) (hbc : 6 ≤ bc) (hbs : 1181 ≤ bs) (hk : ∀ H2 bc2 bs2, ps_Inv L xs (n + 1) H2 → bc ≤ bc2 + 6 → bs ≤ bs2 + 1181 → pw_J pm_L_law Q 883 [some (.inr 1), some (.inr 2), some (.inr 7), some (.inl (nI i))] [] H2 bc2 bs2) : pw_J pm_L_law Q 337 [some (.inr 1), some (.inr 2), some (.inr 7), some (.inl (nI i))] [] H bc bs := by
  obtain ⟨k1, n1, x1, k2, k7⟩ := hI.1
  have e1 : nI i + 1 = nI (i + 1) := pn_add i 1
  have e2 : nI i + 2 = nI (i + 2) := pn_add i 2
  have e3 : nI i + 3 = nI (i + 3) := pn_add i 3
  have e4 : nI i + 4 = nI (i + 4) := pn_add i 4
  have e5 : nI i + 5 = nI (i + 5) := pn_add i 5
  refine pw_sound pw_tok pk_L_c5 400 _ _ _ _ _ _ ?_
  simp only [pv_all, pv_stp, pe_L_c5, pv_st, Nat.reduceAdd, eq_self, true_and, and_true, true_or, or_true, k1, n1, x1, k2, k7, e1, e2, e3, e4, e5]
  simp (disch := omega) only [pn_at, pn_cl]
  refine ⟨by omega, by omega, ?_⟩
  refine tw_give hn _ _ H _ hI (fun y H1 hm1 hc => ?_)
  obtain ⟨k1b, n1b, x1b, k2b, k7b⟩ := hm1
  simp (disch := omega) only [k1b, n1b, x1b, k7b, eq_self, true_and, or_true, pn_at, pn_cl]
  exact ⟨by omega, by omega, hc _ (fun H2 h2 => ⟨fun _ => hk H2 _ _ h2 (by omega) (by omega), fun q => absurd rfl q⟩)⟩
set_option maxHeartbeats 4000000 in
set_option maxRecDepth 100000 in
theorem l_c6 (hI : ps_Inv L xs n H) (hn : n < 600) (hi : i + 6 ≤ L) (hL : L ≤ 3072) (hbc : 6 ≤ bc) (hbs : 1181 ≤ bs) (hk : ∀ H2 bc2 bs2, ps_Inv L xs (n + 1) H2 → bc ≤ bc2 + 6 → bs ≤ bs2 + 1181 → pw_J pm_L_law Q 883 [some (.inr 1), some (.inr 2), some (.inr 7), some (.inl (nI i))] [] H2 bc2 bs2) : pw_J pm_L_law Q 370 [some (.inr 1), some (.inr 2), some (.inr 7), some (.inl (nI i))] [] H bc bs := by
  obtain ⟨k1, n1, x1, k2, k7⟩ := hI.1
  have e1 : nI i + 1 = nI (i + 1) := pn_add i 1
  have e2 : nI i + 2 = nI (i + 2) := pn_add i 2
  have e3 : nI i + 3 = nI (i + 3) := pn_add i 3
  have e4 : nI i + 4 = nI (i + 4) := pn_add i 4
  have e5 : nI i + 5 = nI (i + 5) := pn_add i 5
  refine pw_sound pw_tok pk_L_c6 400 _ _ _ _ _ _ ?_
  simp only [pv_all, pv_stp, pe_L_c6, pv_st, Nat.reduceAdd, eq_self, true_and, and_true, true_or, or_true, k1, n1, x1, k2, k7, e1, e2, e3, e4, e5]
  simp (disch := omega) only [pn_at, pn_cl]
  refine ⟨by omega, by omega, ?_⟩
  refine tw_come hn _ _ H _ hI (fun y H1 hm1 hc => ?_)
  obtain ⟨k1b, n1b, x1b, k2b, k7b⟩ := hm1
  simp (disch := omega) only [k1b, n1b, x1b, k7b, eq_self, true_and, or_true, pn_at, pn_cl]
  exact ⟨by omega, by omega, hc _ (fun H2 h2 => ⟨fun _ => hk H2 _ _ h2 (by omega) (by omega), fun q => absurd rfl q⟩)⟩
set_option maxHeartbeats 4000000 in
set_option maxRecDepth 100000 in
theorem l_c7 (hI : ps_Inv L xs n H) (hn : n < 600) (hi : i + 6 ≤ L) (hL : L ≤ 3072) (hbc : 6 ≤ bc) (hbs : 1181 ≤ bs) (hk : ∀ H2 bc2 bs2, ps_Inv L xs (n + 1) H2 → bc ≤ bc2 + 6 → bs ≤ bs2 + 1181 → pw_J pm_L_law Q 883 [some (.inr 1), some (.inr 2), some (.inr 7), some (.inl (nI i))] [] H2 bc2 bs2) : pw_J pm_L_law Q 403 [some (.inr 1), some (.inr 2), some (.inr 7), some (.inl (nI i))] [] H bc bs := by
  obtain ⟨k1, n1, x1, k2, k7⟩ := hI.1
  have e1 : nI i + 1 = nI (i + 1) := pn_add i 1
  have e2 : nI i + 2 = nI (i + 2) := pn_add i 2
  have e3 : nI i + 3 = nI (i + 3) := pn_add i 3
  have e4 : nI i + 4 = nI (i + 4) := pn_add i 4
  have e5 : nI i + 5 = nI (i + 5) := pn_add i 5
  refine pw_sound pw_tok pk_L_c7 400 _ _ _ _ _ _ ?_
  simp only [pv_all, pv_stp, pe_L_c7, pv_st, Nat.reduceAdd, eq_self, true_and, and_true, true_or, or_true, k1, n1, x1, k2, k7, e1, e2, e3, e4, e5]
  simp (disch := omega) only [pn_at, pn_cl]
  refine ⟨by omega, by omega, ?_⟩
  refine tw_stand hn _ _ H _ hI (fun y H1 hm1 hc => ?_)
  obtain ⟨k1b, n1b, x1b, k2b, k7b⟩ := hm1
  simp (disch := omega) only [k1b, n1b, x1b, k7b, eq_self, true_and, or_true, pn_at, pn_cl]
  exact ⟨by omega, by omega, hc _ (fun H2 h2 => ⟨fun _ => hk H2 _ _ h2 (by omega) (by omega), fun q => absurd rfl q⟩)⟩
set_option maxHeartbeats 4000000 in
set_option maxRecDepth 100000 in
theorem l_c8 (hI : ps_Inv L xs n H) (hn : n < 600) (hi : i + 6 ≤ L) (hL : L ≤ 3072) (hbc : 6 ≤ bc) (hbs : 1181 ≤ bs) (hk : ∀ H2 bc2 bs2, ps_Inv L xs (n + 1) H2 → bc ≤ bc2 + 6 → bs ≤ bs2 + 1181 → pw_J pm_L_law Q 883 [some (.inr 1), some (.inr 2), some (.inr 7), some (.inl (nI i))] [] H2 bc2 bs2) : pw_J pm_L_law Q 436 [some (.inr 1), some (.inr 2), some (.inr 7), some (.inl (nI i))] [] H bc bs := by
  obtain ⟨k1, n1, x1, k2, k7⟩ := hI.1
  have e1 : nI i + 1 = nI (i + 1) := pn_add i 1
  have e2 : nI i + 2 = nI (i + 2) := pn_add i 2
  have e3 : nI i + 3 = nI (i + 3) := pn_add i 3
  have e4 : nI i + 4 = nI (i + 4) := pn_add i 4
  have e5 : nI i + 5 = nI (i + 5) := pn_add i 5
  refine pw_sound pw_tok pk_L_c8 400 _ _ _ _ _ _ ?_
  simp only [pv_all, pv_stp, pe_L_c8, pv_st, Nat.reduceAdd, eq_self, true_and, and_true, true_or, or_true, k1, n1, x1, k2, k7, e1, e2, e3, e4, e5]
  simp (disch := omega) only [pn_at, pn_cl]
  refine ⟨by omega, ?_⟩
  refine tw_leave hn _ H _ hI (fun y H1 hm1 hc => ?_)
  obtain ⟨k1b, n1b, x1b, k2b, k7b⟩ := hm1
  simp (disch := omega) only [k1b, n1b, x1b, k7b, eq_self, true_and, or_true, pn_at, pn_cl]
  exact ⟨by omega, hc _ (fun H2 h2 => ⟨fun _ => hk H2 _ _ h2 (by omega) (by omega), fun q => absurd rfl q⟩)⟩
set_option maxHeartbeats 4000000 in
set_option maxRecDepth 100000 in
theorem l_c9 (hI : ps_Inv L xs n H) (hn : n < 600) (hi : i + 6 ≤ L) (hL : L ≤ 3072) (hbc : 6 ≤ bc) (hbs : 1181 ≤ bs) (hk : ∀ H2 bc2 bs2, ps_Inv L xs (n + 1) H2 → bc ≤ bc2 + 6 → bs ≤ bs2 + 1181 → pw_J pm_L_law Q 883 [some (.inr 1), some (.inr 2), some (.inr 7), some (.inl (nI i))] [] H2 bc2 bs2) : pw_J pm_L_law Q 459 [some (.inr 1), some (.inr 2), some (.inr 7), some (.inl (nI i))] [] H bc bs := by
  obtain ⟨k1, n1, x1, k2, k7⟩ := hI.1
  have e1 : nI i + 1 = nI (i + 1) := pn_add i 1
  have e2 : nI i + 2 = nI (i + 2) := pn_add i 2
  have e3 : nI i + 3 = nI (i + 3) := pn_add i 3
  have e4 : nI i + 4 = nI (i + 4) := pn_add i 4
  have e5 : nI i + 5 = nI (i + 5) := pn_add i 5
  refine pw_sound pw_tok pk_L_c9 400 _ _ _ _ _ _ ?_
  simp only [pv_all, pv_stp, pe_L_c9, pv_st, Nat.reduceAdd, eq_self, true_and, and_true, true_or, or_true, k1, n1, x1, k2, k7, e1, e2, e3, e4, e5]
  simp (disch := omega) only [pn_at, pn_cl]
  refine ⟨by omega, ?_⟩
  refine tw_go hn _ H _ hI (fun y H1 hm1 hc => ?_)
  obtain ⟨k1b, n1b, x1b, k2b, k7b⟩ := hm1
  simp (disch := omega) only [k1b, n1b, x1b, k7b, eq_self, true_and, or_true, pn_at, pn_cl]
  exact ⟨by omega, hc _ (fun H2 h2 => ⟨fun _ => hk H2 _ _ h2 (by omega) (by omega), fun q => absurd rfl q⟩)⟩
set_option maxHeartbeats 4000000 in
set_option maxRecDepth 100000 in
theorem l_c10 (hI : ps_Inv L xs n H) (hn : n < 600) (hi : i + 6 ≤ L) (hL : L ≤ 3072) (hbc : 6 ≤ bc) (hbs : 1181 ≤ bs) (hk : ∀ H2 bc2 bs2, ps_Inv L xs (n + 1) H2 → bc ≤ bc2 + 6 → bs ≤ bs2 + 1181 → pw_J pm_L_law Q 883 [some (.inr 1), some (.inr 2), some (.inr 7), some (.inl (nI i))] [] H2 bc2 bs2) : pw_J pm_L_law Q 482 [some (.inr 1), some (.inr 2), some (.inr 7), some (.inl (nI i))] [] H bc bs := by
  obtain ⟨k1, n1, x1, k2, k7⟩ := hI.1
  have e1 : nI i + 1 = nI (i + 1) := pn_add i 1
  have e2 : nI i + 2 = nI (i + 2) := pn_add i 2
  have e3 : nI i + 3 = nI (i + 3) := pn_add i 3
  have e4 : nI i + 4 = nI (i + 4) := pn_add i 4
  have e5 : nI i + 5 = nI (i + 5) := pn_add i 5
  refine pw_sound pw_tok pk_L_c10 400 _ _ _ _ _ _ ?_
  simp only [pv_all, pv_stp, pe_L_c10, pv_st, Nat.reduceAdd, eq_self, true_and, and_true, true_or, or_true, k1, n1, x1, k2, k7, e1, e2, e3, e4, e5]
  simp (disch := omega) only [pn_at, pn_cl]
  refine ⟨by omega, by omega, fun z => ?_, fun z => ?_⟩
  · refine tw_stop hn _ 0 (Or.inl rfl) H _ hI (fun y H1 hm1 hc => ?_)
    obtain ⟨k1b, n1b, x1b, k2b, k7b⟩ := hm1
    simp (disch := omega) only [k1b, n1b, x1b, k7b, eq_self, true_and, or_true, pn_at, pn_cl]
    exact ⟨by omega, by omega, fun _ => hc _ (fun H2 h2 => ⟨fun _ => hk H2 _ _ h2 (by omega) (by omega), fun q => absurd rfl q⟩), fun q => absurd z q⟩
  · refine tw_stop hn _ 1 (Or.inr rfl) H _ hI (fun y H1 hm1 hc => ?_)
    obtain ⟨k1b, n1b, x1b, k2b, k7b⟩ := hm1
    simp (disch := omega) only [k1b, n1b, x1b, k7b, eq_self, true_and, or_true, pn_at, pn_cl]
    exact ⟨by omega, by omega, fun q => absurd q z, fun _ => hc _ (fun H2 h2 => ⟨fun _ => hk H2 _ _ h2 (by omega) (by omega), fun q => absurd rfl q⟩)⟩
end PLA
