/-! The reference: group, ride, leave, go. -/
theorem ps_up_nn {σ : ps_S} {f i : Nat} {x : Int32} {a j : Nat} (h : a ≠ f) : ps_up σ f i x a j = σ a j := ps_up_n (Or.inl h)
section PMG
variable {h : pw_Hp} {R G m n : Nat} {Nw : Nat → Nat} {σ μ : ps_S} {ρ : ps_P}
theorem ps_So_le {m2 : Nat} {L : List Nat} (hs : ps_So σ m L) (hm : m ≤ m2) : ps_So σ m2 L := ⟨fun g hg => ⟨(hs.1 g hg).1, (hs.1 g hg).2.1, Nat.le_trans (hs.1 g hg).2.2 hm⟩, hs.2⟩
theorem ps_So_sub {L K : List Nat} (hs : ps_So σ m L) (hk : K.Sublist L) : ps_So σ m K := ⟨fun g hg => hs.1 g (hk.subset hg), hs.2.sublist hk⟩
theorem ps_So_nil : ps_So σ m [] := ⟨fun g hg => (by cases hg), List.Pairwise.nil⟩
theorem rm_rows {π : ps_P} (hD : ps_Md R G m σ μ ρ) (hp : ∀ c, c < 2 * R → ps_So σ m (π c)) : ps_Md R G m σ μ π := ⟨hD.1, hD.2.1, hp⟩
theorem rm_ur {c : Nat} {L : List Nat} (hD : ps_Md R G m σ μ ρ) (hl : ps_So σ m L) : ps_Md R G m σ μ (ps_ur ρ c L) := rm_rows hD (fun d hd => by
  by_cases q : d = c
  · rw [q, ps_ur_s]; exact hl
  · rw [ps_ur_n q]; exact hD.2.2 d hd)
theorem rm_grp {y : Int32} (hD : ps_Md R G m σ μ ρ) : ps_Md R (G + 1) m (ps_up σ 7 14 (nI (G + 1))) (ps_up μ 7 14 y) ρ := by
  obtain ⟨d1, ⟨a1, a2, a3, a4, a5⟩, d3⟩ := hD
  refine ⟨fun a b c d => (by rw [ps_up_f (by omega), ps_up_f (by omega)]; exact d1 a b c d), ⟨?_, ?_, ?_, ps_up_s _ _ _ _, ?_⟩, fun c hc => ps_So_22 (ps_up_f (by decide)) (d3 c hc)⟩
  · rw [ps_up_n (Or.inr (by decide)), ps_up_n (Or.inr (by decide))]; exact a1
  · rw [ps_up_n (Or.inr (by decide)), ps_up_n (Or.inr (by decide))]; exact a2
  · rw [ps_up_n (Or.inr (by decide))]; exact a3
  · rw [ps_up_n (Or.inr (by decide))]; exact a5
theorem rm_ride {y : Int32} (hD : ps_Md R G m σ μ ρ) : ps_Md (R + 1) G m (ps_up σ 7 2 (nI (R + 1))) (ps_up μ 7 2 y) (ps_nrow ρ R) := by
  obtain ⟨d1, ⟨a1, a2, a3, a4, a5⟩, d3⟩ := hD
  refine ⟨fun a b c d => (by rw [ps_up_f (by omega), ps_up_f (by omega)]; exact d1 a b c d), ⟨?_, ?_, ps_up_s _ _ _ _, ?_, ?_⟩, fun c hc => ps_So_22 (ps_up_f (by decide)) ?_⟩
  · rw [ps_up_n (Or.inr (by decide)), ps_up_n (Or.inr (by decide))]; exact a1
  · rw [ps_up_n (Or.inr (by decide)), ps_up_n (Or.inr (by decide))]; exact a2
  · rw [ps_up_n (Or.inr (by decide))]; exact a4
  · rw [ps_up_n (Or.inr (by decide))]; exact a5
  · unfold ps_nrow
    by_cases q1 : c = 2 * R + 1
    · rw [q1, ps_ur_s]; exact ps_So_nil
    · rw [ps_ur_n q1]
      by_cases q2 : c = 2 * R
      · rw [q2, ps_ur_s]; exact ps_So_nil
      · rw [ps_ur_n q2]; exact d3 c (by omega)
set_option maxHeartbeats 4000000 in
set_option maxRecDepth 100000 in
theorem c_M_group_l {x : Int32} {k : Int32 → pw_Hp → Prop} (hM : ps_MS h) (hD : ps_Md R G m σ μ ρ) (hx : ¬ 1 ≤ x) (hk : ∀ τ, ps_Md R G m τ (ps_ref μ 4) ρ → ps_Ofm σ τ → k (-4) (pw_st h τ)) : pw_Ci 57 [.inr 7, .inl x] (pw_st h σ) k := by
  have hM' := hM
  unfold ps_MS at hM
  refine pw_intro (M := pm_M_group) rfl (by decide) (Nat.le_of_ble_eq_true rfl) (ls := [some (.inr 7), some (.inl x)]) rfl ?_
  refine pw_sound pw_tok pk_M_group 400 _ _ _ _ _ _ ?_
  simp only [pv_all, pv_stp, pe_M_group, pv_st, Nat.reduceAdd, eq_self, true_and, and_true, true_or, or_true, hM]
  exact ⟨fun q => absurd q hx, fun _ => c_M_ref hM' hD (c := 4) (by decide) (by decide) hk⟩
set_option maxHeartbeats 4000000 in
set_option maxRecDepth 100000 in
theorem c_M_group_b {x : Int32} {k : Int32 → pw_Hp → Prop} (hM : ps_MS h) (hD : ps_Md R G m σ μ ρ) (hx1 : 1 ≤ x) (hx : 8 < x ∨ G = 60) (hk : ∀ τ, ps_Md R G m τ (ps_ref μ 6) ρ → ps_Ofm σ τ → k (-6) (pw_st h τ)) : pw_Ci 57 [.inr 7, .inl x] (pw_st h σ) k := by
  have hM' := hM
  have v := hD.2.1.2.2.2.1
  unfold ps_MS at hM
  have fin : pw_Ci 20 [.inr 7, .inl (-6)] (pw_st h σ) fun x h' => k x h' := c_M_ref hM' hD (c := 6) (by decide) (by decide) hk
  refine pw_intro (M := pm_M_group) rfl (by decide) (Nat.le_of_ble_eq_true rfl) (ls := [some (.inr 7), some (.inl x)]) rfl ?_
  refine pw_sound pw_tok pk_M_group 400 _ _ _ _ _ _ ?_
  simp only [pv_all, pv_stp, pe_M_group, pv_st, Nat.reduceAdd, eq_self, true_and, and_true, true_or, or_true, hM]
  refine ⟨fun _ => ⟨fun _ => fin, fun q => ⟨fun q2 => ?_, fun _ => fin⟩⟩, fun q => absurd hx1 q⟩
  exfalso
  rcases hx with hx | hx
  · exact q hx
  · apply q2; rw [v, hx]; rfl
set_option maxHeartbeats 4000000 in
set_option maxRecDepth 100000 in
theorem c_M_group {x : Int32} {k : Int32 → pw_Hp → Prop} (hM : ps_MS h) (hD : ps_Md R G m σ μ ρ) (hx1 : 1 ≤ x) (hx8 : ¬ 8 < x) (hG : G < 60) (hk : ∀ τ, ps_Md R (G + 1) m τ (ps_ng μ G x) ρ → ps_Ofm σ τ → k (nI G) (pw_st h τ)) : pw_Ci 57 [.inr 7, .inl x] (pw_st h σ) k := by
  have hM' := hM
  have v := hD.2.1.2.2.2.1
  unfold ps_MS at hM
  refine pw_intro (M := pm_M_group) rfl (by decide) (Nat.le_of_ble_eq_true rfl) (ls := [some (.inr 7), some (.inl x)]) rfl ?_
  refine pw_sound pw_tok pk_M_group 400 _ _ _ _ _ _ ?_
  simp only [pv_all, pv_stp, pe_M_group, pv_st, Nat.reduceAdd, eq_self, true_and, and_true, true_or, or_true, hM]
  refine ⟨fun _ => ⟨fun q => absurd q hx8, fun _ => ⟨fun _ => ?_, fun q => ?_⟩⟩, fun q => absurd hx1 q⟩
  · simp (disch := omega) only [ps_up_nn, ps_up_s, v, pn_at, pn_cl, nI_1]
    refine ⟨by omega, by omega, ?_⟩
    rw [show (1 : Int32) = nI 1 from rfl, pn_sub (by omega), show G + 1 - 1 = G by omega]
    refine hk _ ?_ ?_
    · exact rm_grp (rm_up (rm_up hD (by decide) (by decide) (by decide)) (by decide) (by decide) (by decide))
    · exact ps_Ofm_tr (ps_Ofm_tr (ps_Ofm_up (by decide) (by decide)) (ps_Ofm_up (by decide) (by decide))) (ps_Ofm_up (by decide) (by decide))
  · exfalso
    rw [v, show (60 : Int32) = nI 60 from rfl, pn_eq (by omega) (by omega)] at q
    omega
set_option maxHeartbeats 4000000 in
set_option maxRecDepth 100000 in
theorem c_M_ride_b {s ro p sp kd : Int32} {k : Int32 → pw_Hp → Prop} (hM : ps_MS h) (hD : ps_Md R G m σ μ ρ) (hR : R ≤ 8) (h4 : ps_rbl s ro p sp kd → ∀ τ, ps_Md R G m τ (ps_ref μ 4) ρ → ps_Ofm σ τ → k (-4) (pw_st h τ)) (h6 : ¬ ps_rbl s ro p sp kd → ps_rab s ro p sp kd R → ∀ τ, ps_Md R G m τ (ps_ref μ 6) ρ → ps_Ofm σ τ → k (-6) (pw_st h τ)) (hk : ¬ ps_rbl s ro p sp kd → ¬ ps_rab s ro p sp kd R → ∀ τ, ps_Md (R + 1) G m τ (ps_nr μ R s ro p sp kd) (ps_nrow ρ R) → ps_Ofm σ τ → k (nI R) (pw_st h τ)) : pw_Ci 56 [.inr 7, .inl s, .inl ro, .inl p, .inl sp, .inl kd] (pw_st h σ) k := by
  have hM' := hM
  have v := hD.2.1.2.2.1
  unfold ps_MS at hM
  have f4 : ps_rbl s ro p sp kd → pw_Ci 20 [.inr 7, .inl (-4)] (pw_st h σ) fun x h' => k x h' := fun q => c_M_ref hM' hD (c := 4) (by decide) (by decide) (h4 q)
  have f6 : ¬ ps_rbl s ro p sp kd → ps_rab s ro p sp kd R → pw_Ci 20 [.inr 7, .inl (-6)] (pw_st h σ) fun x h' => k x h' := fun q q' => c_M_ref hM' hD (c := 6) (by decide) (by decide) (h6 q q')
  refine pw_intro (M := pm_M_ride) rfl (by decide) (Nat.le_of_ble_eq_true rfl) (ls := [some (.inr 7), some (.inl s), some (.inl ro), some (.inl p), some (.inl sp), some (.inl kd)]) rfl ?_
  refine pw_sound pw_tok pk_M_ride 400 _ _ _ _ _ _ ?_
  simp only [pv_all, pv_stp, pe_M_ride, pv_st, Nat.reduceAdd, eq_self, true_and, and_true, true_or, or_true, hM]
  refine ⟨fun q => f4 (Or.inl q), fun q1 => ⟨fun q => f4 (Or.inr (Or.inl q)), fun q2 => ⟨fun q => f4 (Or.inr (Or.inr (Or.inl q))), fun q3 => ⟨fun q => f4 (Or.inr (Or.inr (Or.inr (Or.inl q)))), fun q4 => ⟨fun q5 => ?_, fun q => f4 (Or.inr (Or.inr (Or.inr (Or.inr (by rw [fa_lt']; rw [fa_le'] at q; omega)))))⟩⟩⟩⟩⟩
  have nb : ¬ ps_rbl s ro p sp kd := by
    rintro (z | z | z | z | z)
    · exact q1 z
    · exact q2 z
    · exact q3 z
    · exact q4 z
    · exact fa_nlt' q5 z
  refine ⟨fun q => f6 nb (Or.inl q), fun w1 => ⟨fun q => f6 nb (Or.inr (Or.inl q)), fun w2 => ⟨fun q => f6 nb (Or.inr (Or.inr (Or.inl q))), fun w3 => ⟨fun q => f6 nb (Or.inr (Or.inr (Or.inr (Or.inl q)))), fun w4 => ⟨fun q => f6 nb (Or.inr (Or.inr (Or.inr (Or.inr (Or.inl q))))), fun w5 => ⟨fun w6 => ?_, fun q => f6 nb (Or.inr (Or.inr (Or.inr (Or.inr (Or.inr (by rw [v, show (8 : Int32) = nI 8 from rfl, pn_eq (by omega) (by omega)] at q; exact q))))))⟩⟩⟩⟩⟩⟩
  have hR8 : R ≠ 8 := fun z => w6 (by rw [v, z]; rfl)
  have na : ¬ ps_rab s ro p sp kd R := by
    rintro (z | z | z | z | z | z)
    · exact w1 z
    · exact w2 z
    · exact w3 z
    · exact w4 z
    · exact w5 z
    · exact hR8 z
  simp (disch := omega) only [ps_up_nn, ps_up_s, v, pn_at, pn_cl, nI_1]
  refine ⟨by omega, by omega, by omega, by omega, by omega, ?_⟩
  rw [show (1 : Int32) = nI 1 from rfl, pn_sub (by omega), show R + 1 - 1 = R by omega]
  refine hk nb na _ ?_ ?_
  · unfold ps_nr
    exact rm_ride (rm_up (rm_up (rm_up (rm_up (rm_up hD (by decide) (by decide) (by decide)) (by decide) (by decide) (by decide)) (by decide) (by decide) (by decide)) (by decide) (by decide) (by decide)) (by decide) (by decide) (by decide))
  · exact ps_Ofm_tr (ps_Ofm_tr (ps_Ofm_tr (ps_Ofm_tr (ps_Ofm_tr (ps_Ofm_up (by decide) (by decide)) (ps_Ofm_up (by decide) (by decide))) (ps_Ofm_up (by decide) (by decide))) (ps_Ofm_up (by decide) (by decide))) (ps_Ofm_up (by decide) (by decide))) (ps_Ofm_up (by decide) (by decide))
set_option maxHeartbeats 4000000 in
set_option maxRecDepth 100000 in
theorem c_M_leave_b {x : Int32} {k : Int32 → pw_Hp → Prop} (hM : ps_MS h) (hD : ps_Md R G m σ μ ρ) (hG : G ≤ 60) (hb : x < 0 ∨ nI G ≤ x) (hk : ∀ τ, ps_Md R G m τ (ps_ref μ 1) ρ → ps_Ofm σ τ → k (-1) (pw_st h τ)) : pw_Ci 83 [.inr 7, .inl x] (pw_st h σ) k := by
  have hM' := hM
  unfold ps_MS at hM
  refine pw_intro (M := pm_M_leave) rfl (by decide) (Nat.le_of_ble_eq_true rfl) (ls := [some (.inr 7), some (.inl x), none]) rfl ?_
  refine pw_sound pw_tok pk_M_leave 400 _ _ _ _ _ _ ?_
  simp only [pv_all, pv_stp, pe_M_leave, pv_st, Nat.reduceAdd, eq_self, true_and, and_true, true_or, or_true, hM]
  refine c_M_isGroup_o hM' hD hG hb ⟨fun q => absurd rfl q, fun _ => ?_⟩
  simp only [pv_st, hM, eq_self, true_and]
  exact c_M_ref hM' hD (c := 1) (by decide) (by decide) hk
set_option maxHeartbeats 4000000 in
set_option maxRecDepth 100000 in
theorem c_M_leave {g : Nat} {k : Int32 → pw_Hp → Prop} (hM : ps_MS h) (hD : ps_Md R G m σ μ ρ) (hW : ps_Wf R G Nw μ ρ n) (hg : g < G) (hk : ∀ τ, ps_Md R G m τ (ps_leave μ ρ g).2.1 (ps_leave μ ρ g).2.2 → ps_Ofm σ τ → k (ps_leave μ ρ g).1 (pw_st h τ)) : pw_Ci 83 [.inr 7, .inl (nI g)] (pw_st h σ) k := by
  have hM' := hM
  have e := (ps_Md_e hD).2
  have hG := hW.1.2.1
  obtain ⟨-, -, -, w4, w5, -, -, -, -, -, -, w12, -⟩ := hW.2.2.1 g hg
  unfold ps_MS at hM
  refine pw_intro (M := pm_M_leave) rfl (by decide) (Nat.le_of_ble_eq_true rfl) (ls := [some (.inr 7), some (.inl (nI g)), none]) rfl ?_
  refine pw_sound pw_tok pk_M_leave 400 _ _ _ _ _ _ ?_
  simp only [pv_all, pv_stp, pe_M_leave, pv_st, Nat.reduceAdd, eq_self, true_and, and_true, true_or, or_true, hM]
  refine c_M_isGroup hM' hD hG hg ⟨fun _ => ?_, fun q => absurd q (by decide)⟩
  have gd : (ps_N μ 20 g = 1 ∨ ps_N μ 20 g = 2) → k (μ 21 g) (pw_st h (ps_up (ps_up σ 20 g 0) 21 g (-9))) := fun z => by
    obtain ⟨u1, u2⟩ := w12 (by omega) (by omega)
    unfold ps_leave ps_lv at hk
    rw [if_pos z] at hk
    refine hk _ ?_ ?_
    · unfold ps_sr
      refine rm_ur (rm_up (rm_up hD (by decide) (by decide) (by decide)) (by decide) (by decide) (by decide)) ?_
      refine ps_So_sub (L := ρ (2 * ps_N μ 21 g + (ps_N μ 20 g - 1))) ?_ List.erase_sublist
      exact ps_So_22 (by rw [ps_up_f (by decide), ps_up_f (by decide)]) (hD.2.2 _ (by omega))
    · exact ps_Ofm_tr (ps_Ofm_up (by decide) (by decide)) (ps_Ofm_up (by decide) (by decide))
  simp (disch := omega) only [pv_st, hM, eq_self, true_and, true_or, pn_at, pn_cl, e, w4, pn_c, pn_eq]
  refine ⟨by omega, fun q => ⟨by omega, by omega, by omega, gd (Or.inl q)⟩, fun q => ⟨by omega, fun q2 => ⟨by omega, by omega, by omega, gd (Or.inr q2)⟩, fun q2 => ?_⟩⟩
  unfold ps_leave at hk
  rw [if_neg (fun z => z.elim q q2)] at hk
  exact c_M_ref hM' hD (c := 2) (by decide) (by decide) hk
set_option maxHeartbeats 4000000 in
set_option maxRecDepth 100000 in
theorem c_M_go_41 {g : Nat} {k : Int32 → pw_Hp → Prop} (hM : ps_MS h) (hW : ps_Wf R G Nw μ ρ n) (hg : g < G) :
    ∀ (c i : Nat) (σ : ps_S), i + c = ps_N μ 24 g → ps_Md R G m σ (ps_gg μ g i) ρ → (∀ τ, ps_Md R G m τ (ps_go μ g) ρ → ps_Ofm σ τ → k (μ 24 g) (pw_st h τ)) → pw_J pm_M_go (pw_qi k) 41 [some (.inr 7), some (.inl (nI g)), some (.inl (μ 24 g)), some (.inl (nI (2 * g + i)))] [] (pw_st h σ) 0 0 := by
  have hM' := hM
  have hG := hW.1.2.1
  have hR := hW.1.1
  obtain ⟨-, -, -, -, -, w6, w7, -, -, -, -, -, -, w8⟩ := hW.2.2.1 g hg
  unfold ps_MS at hM
  have e2 : (2 : Int32) * nI g + nI (ps_N μ 24 g) = nI (2 * g + ps_N μ 24 g) := by rw [show (2 : Int32) = nI 2 from rfl, pn_mul, pn_add]
  intro c
  induction c with
  | zero =>
    intro i σ hi hD hk
    refine pw_sound pw_tok pk_M_go 400 _ _ _ _ _ _ ?_
    simp only [pv_all, pv_stp, pe_M_go, pv_st, Nat.reduceAdd, eq_self, true_and, and_true, true_or, or_true, hM, w6, e2]
    simp (disch := omega) only [pn_le, pn_at, pn_cl]
    refine ⟨fun _ => ⟨by omega, by omega, ?_⟩, fun q => absurd q (by omega)⟩
    rw [← w6]
    refine hk _ ?_ ?_
    · unfold ps_go
      rw [show ps_N μ 24 g = i by omega]
      exact rm_up (rm_up hD (by decide) (by decide) (by decide)) (by decide) (by decide) (by decide)
    · exact ps_Ofm_tr (ps_Ofm_up (by decide) (by decide)) (ps_Ofm_up (by decide) (by decide))
  | succ c ih =>
    intro i σ hi hD hk
    have e := ps_Md_e hD
    obtain ⟨t1, t2, t3, t4⟩ := w8 i (by omega)
    have hN := ps_Nw_le (hW.2.1 _ t2).1
    have g25 : ps_gg μ g i 25 = μ 25 := ps_gg_f (by decide) i
    have g26 : ps_gg μ g i 26 = μ 26 := ps_gg_f (by decide) i
    have e1 : (1100 : Int32) * nI (ps_N μ 25 (2 * g + i)) + nI (ps_N μ 26 (2 * g + i)) = nI (1100 * ps_N μ 25 (2 * g + i) + ps_N μ 26 (2 * g + i)) := by rw [show (1100 : Int32) = nI 1100 from rfl, pn_mul, pn_add]
    have gi : ps_gi (ps_gg μ g i) g i = 1100 * ps_N μ 25 (2 * g + i) + ps_N μ 26 (2 * g + i) := by unfold ps_gi ps_N; rw [g25, g26]
    have nx := ih (i + 1) (ps_up σ 18 (1100 * ps_N μ 25 (2 * g + i) + ps_N μ 26 (2 * g + i)) (ps_gg μ g i 18 (1100 * ps_N μ 25 (2 * g + i) + ps_N μ 26 (2 * g + i)) - ps_gg μ g i 19 g)) (by omega) (by
      show ps_Md R G m _ (ps_gw (ps_gg μ g i) g i) ρ
      unfold ps_gw
      rw [gi]
      exact rm_up hD (by decide) (by decide) (by decide)) (fun τ t1 t2 => hk τ t1 (ps_Ofm_tr (ps_Ofm_up (by decide) (by decide)) t2))
    rw [w6] at nx
    refine pw_sound pw_tok pk_M_go 400 _ _ _ _ _ _ ?_
    simp only [pv_all, pv_stp, pe_M_go, pv_st, Nat.reduceAdd, eq_self, true_and, and_true, true_or, or_true, hM, w6, e2]
    simp (disch := omega) only [pn_le, pn_at, pn_cl, e, g25, g26, t1, t3, e1, nI_1]
    refine ⟨fun q => absurd q (by omega), fun _ => ⟨by omega, by omega, by omega, by omega, by omega, ?_⟩⟩
    exact nx
set_option maxHeartbeats 4000000 in
set_option maxRecDepth 100000 in
theorem c_M_go_b {x : Int32} {k : Int32 → pw_Hp → Prop} (hM : ps_MS h) (hD : ps_Md R G m σ μ ρ) (hG : G ≤ 60) (hb : x < 0 ∨ nI G ≤ x) (hk : ∀ τ, ps_Md R G m τ (ps_ref μ 1) ρ → ps_Ofm σ τ → k (-1) (pw_st h τ)) : pw_Ci 84 [.inr 7, .inl x] (pw_st h σ) k := by
  have hM' := hM
  unfold ps_MS at hM
  refine pw_intro (M := pm_M_go) rfl (by decide) (Nat.le_of_ble_eq_true rfl) (ls := [some (.inr 7), some (.inl x), none, none]) rfl ?_
  refine pw_sound pw_tok pk_M_go 400 _ _ _ _ _ _ ?_
  simp only [pv_all, pv_stp, pe_M_go, pv_st, Nat.reduceAdd, eq_self, true_and, and_true, true_or, or_true, hM]
  refine c_M_isGroup_o hM' hD hG hb ⟨fun q => absurd rfl q, fun _ => ?_⟩
  simp only [pv_st, hM, eq_self, true_and]
  exact c_M_ref hM' hD (c := 1) (by decide) (by decide) hk
set_option maxHeartbeats 4000000 in
set_option maxRecDepth 100000 in
theorem c_M_go {g : Nat} {k : Int32 → pw_Hp → Prop} (hM : ps_MS h) (hD : ps_Md R G m σ μ ρ) (hW : ps_Wf R G Nw μ ρ n) (hg : g < G) (hk : ∀ τ, ps_Md R G m τ (ps_goS μ g).2 ρ → ps_Ofm σ τ → k (ps_goS μ g).1 (pw_st h τ)) : pw_Ci 84 [.inr 7, .inl (nI g)] (pw_st h σ) k := by
  have hM' := hM
  have e := (ps_Md_e hD).2
  have hG := hW.1.2.1
  obtain ⟨-, -, -, w4, w5, -⟩ := hW.2.2.1 g hg
  unfold ps_MS at hM
  have e2 : (2 : Int32) * nI g = nI (2 * g) := pn_mul 2 g
  unfold ps_goS at hk
  refine pw_intro (M := pm_M_go) rfl (by decide) (Nat.le_of_ble_eq_true rfl) (ls := [some (.inr 7), some (.inl (nI g)), none, none]) rfl ?_
  refine pw_sound pw_tok pk_M_go 400 _ _ _ _ _ _ ?_
  simp only [pv_all, pv_stp, pe_M_go, pv_st, Nat.reduceAdd, eq_self, true_and, and_true, true_or, or_true, hM, e2]
  refine c_M_isGroup hM' hD hG hg ⟨fun _ => ?_, fun q => absurd q (by decide)⟩
  simp (disch := omega) only [pv_st, hM, eq_self, true_and, true_or, pn_at, pn_cl, e, w4, pn_c, pn_eq]
  refine ⟨by omega, fun q => ⟨by omega, ?_⟩, fun q => ?_⟩
  · rw [if_pos q] at hk
    exact c_M_go_41 hM' hW hg _ 0 σ (Nat.zero_add _) hD hk
  · rw [if_neg q] at hk
    exact c_M_ref hM' hD (c := 2) (by decide) (by decide) hk
end PMG
