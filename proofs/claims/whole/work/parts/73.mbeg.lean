/-! The reference: a round begins. -/
def ps_fin (z : Nat → Int32) (ν : ps_S) (r lf : Nat) : ps_S := ps_up (ps_up (ps_up (ps_14 z ν) 14 r (z r + (ν 8 r - nI lf))) 15 r (ν 15 r + nI lf)) 16 r (ν 16 r + 1)
section PMI
variable {h : pw_Hp} {R G m n : Nat} {Nw : Nat → Nat} {σ μ : ps_S} {ρ : ps_P} {z : Nat → Int32}
set_option maxHeartbeats 4000000 in
set_option maxRecDepth 100000 in
theorem c_M_begin_67 {r : Nat} {k : pw_Hp → Prop} (hM : ps_MS h) (hm : m < 100000) (hr : r < R) :
    ∀ (B A : List Nat) (σ μ : ps_S) (ρ : ps_P) (lf : Nat) (y2 y4 : Option pw_A), ps_Md R G m σ (ps_14 z μ) ρ → ps_Wf R G Nw μ ρ n → ρ (2 * r) = A ++ B → σ 7 29 = nI lf → lf ≤ 40 → (∀ τ, ps_Md R G m τ (ps_fin z (ps_sing r B μ lf).1 r (lf - (ps_sing r B μ lf).2.2)) (ps_ur ρ (2 * r) (A ++ (ps_sing r B μ lf).2.1)) → ps_Ofm σ τ → τ 7 29 = nI (lf - (ps_sing r B μ lf).2.2) → k (pw_st h τ)) → pw_J pm_M_begin (pw_qv k) 67 [some (.inr 7), some (.inl (nI r)), y2, some (.inl (ps_hd B)), y4] [] (pw_st h σ) 0 0 := by
  have hM' := hM
  unfold ps_MS at hM
  intro B
  have ex : ∀ (σ μ : ps_S) (ρ : ps_P) (lf : Nat), r < 8 → ps_Md R G m σ (ps_14 z μ) ρ → σ 7 29 = nI lf → (∀ τ, ps_Md R G m τ (ps_fin z μ r lf) ρ → ps_Ofm σ τ → τ 7 29 = nI lf → k (pw_st h τ)) → k (pw_st h (ps_up (ps_up (ps_up σ 14 r (σ 14 r + (σ 8 r - σ 7 29))) 15 r (σ 15 r + σ 7 29)) 16 r (σ 16 r + 1))) := fun σ μ ρ lf hr8 hD hl hk => by
    have e := (ps_Md_e hD).1
    refine hk _ ?_ ?_ ?_
    · rw [hl, e.1, e.2.2.2.2.2.2.1, e.2.2.2.2.2.2.2.1, e.2.2.2.2.2.2.2.2.1, ps_14_s, ps_14_n (by decide), ps_14_n (by decide), ps_14_n (by decide)]
      exact rm_up (rm_up (rm_up hD (by decide) (by decide) (by decide)) (by decide) (by decide) (by decide)) (by decide) (by decide) (by decide)
    · exact ps_Ofm_tr (ps_Ofm_tr (ps_Ofm_up (by decide) (by decide)) (ps_Ofm_up (by decide) (by decide))) (ps_Ofm_up (by decide) (by decide))
    · rw [ps_up_nn (by decide), ps_up_nn (by decide), ps_up_nn (by decide)]; exact hl
  induction B with
  | nil =>
    intro A σ μ ρ lf y2 y4 hD hW hL hl hlf hk
    have hR := hW.1.1
    have fin := ex σ μ ρ lf (by omega) hD hl (fun τ t1 t2 t3 => hk τ (by
      show ps_Md R G m τ (ps_fin z μ r lf) (ps_ur ρ (2 * r) (A ++ []))
      rw [← hL, ps_ur_id]; exact t1) t2 t3)
    have hd : ps_hd [] < 0 := by decide
    refine pw_sound pw_tok pk_M_begin 400 _ _ _ _ _ _ ?_
    simp only [pv_all, pv_stp, pe_M_begin_0, pe_M_begin_1, pv_st, Nat.reduceAdd, eq_self, true_and, and_true, true_or, or_true, hM]
    simp (disch := omega) only [ps_up_nn, pn_at, pn_cl]
    exact ⟨fun _ => ⟨by omega, by omega, by omega, by omega, by omega, by omega, by omega, fin⟩, fun q => absurd hd q⟩
  | cons g B ih =>
    intro A σ μ ρ lf y2 y4 hD hW hL hl hlf hk
    have hG := hW.1.2.1
    have hR := hW.1.1
    have hmem : g ∈ ρ (2 * r + 0) := by rw [Nat.add_zero, hL]; exact List.mem_append.mpr (Or.inr (List.mem_cons_self ..))
    obtain ⟨l1, l2⟩ := hW.2.2.2.1 r 0 hr (by decide)
    obtain ⟨hgG, hg20, hg21⟩ := (l2 g).mp hmem
    obtain ⟨u1, u2, u3, -⟩ := hW.2.2.1 g hgG
    have e19 : σ 19 g = nI (ps_N μ 19 g) := by rw [(ps_Md_e hD).1.2.2.2.2.2.2.2.2.2.2.2, ps_14_n (by decide)]; exact u1
    have hd0 : ¬ ps_hd (g :: B) < 0 := nI_pos (by omega)
    have hdg : ps_hd (g :: B) = nI g := rfl
    have ro := ps_Ro_of14 hD hW hr (b := 0) (by decide)
    rw [show ρ (2 * r + 0) = A ++ g :: B from hL] at ro
    refine pw_sound pw_tok pk_M_begin 400 _ _ _ _ _ _ ?_
    simp only [pv_all, pv_stp, pe_M_begin_0, pe_M_begin_1, pv_st, Nat.reduceAdd, eq_self, true_and, and_true, true_or, or_true, hM]
    refine ⟨fun q => absurd q hd0, fun _ => ⟨fun q => ?_, fun q => ?_⟩⟩
    · have hlf0 : lf = 0 := by rw [hl, show (0 : Int32) = nI 0 from rfl, pn_le (by omega) (by omega)] at q; omega
      have fin := ex σ μ ρ lf (by omega) hD hl (fun τ t1 t2 t3 => by
        have e0 : ps_sing r (g :: B) μ lf = (μ, g :: B, 0) := by unfold ps_sing; rw [if_pos hlf0]
        rw [e0] at hk
        exact hk τ (by
          show ps_Md R G m τ (ps_fin z μ r lf) (ps_ur ρ (2 * r) (A ++ g :: B))
          rw [← hL, ps_ur_id]; exact t1) t2 t3)
      simp (disch := omega) only [ps_up_nn, pn_at, pn_cl]
      exact ⟨by omega, by omega, by omega, by omega, by omega, by omega, by omega, fin⟩
    · have hlf0 : lf ≠ 0 := fun w => q (by rw [hl, w]; decide)
      simp (disch := omega) only [hdg, pn_at, pn_cl]
      refine ⟨by omega, c_M_nextg (b := 0) hM' hG hD.2.1.2.2.2.1 hm ro ?_⟩
      simp (disch := omega) only [pv_st, hM, eq_self, true_and, true_or, pn_at, pn_cl, e19]
      rw [show (1 : Int32) = nI 1 from rfl, pn_eq (by omega) (by omega)]
      refine ⟨by omega, fun q1 => ?_, fun q1 => ?_⟩
      · have e0 : ps_sing r (g :: B) μ lf = ((ps_sing r B μ lf).1, g :: (ps_sing r B μ lf).2.1, (ps_sing r B μ lf).2.2) := by rw [ps_sing, if_neg hlf0, if_neg q1]
        rw [e0] at hk
        refine ih (A ++ [g]) σ μ ρ lf _ _ hD hW (by rw [hL, List.append_assoc]; rfl) hl hlf (fun τ t1 t2 t3 => hk τ ?_ t2 t3)
        rw [List.append_assoc] at t1
        exact t1
      · have e0 : ps_sing r (g :: B) μ lf = ((ps_sing r B (ps_bd μ g r) (lf - 1)).1, (ps_sing r B (ps_bd μ g r) (lf - 1)).2.1, (ps_sing r B (ps_bd μ g r) (lf - 1)).2.2 + 1) := by rw [ps_sing, if_neg hlf0, if_pos q1]
        rw [e0] at hk
        refine c_M_board hM' (by omega) ?_
        have hW2 := ps_wf_board hW hr (b := 0) (by decide) hmem
        have nd : (A ++ g :: B).Nodup := by rw [← hL]; exact l1
        have gA : g ∉ A := fun w => (List.nodup_append.mp nd).2.2 g w g (List.mem_cons_self ..) rfl
        have her : (ρ (2 * r + 0)).erase g = A ++ B := by
          rw [show ρ (2 * r + 0) = A ++ g :: B from hL, List.erase_append_right _ gA, List.erase_cons_head]
        rw [her] at hW2
        have hsub : (A ++ B).Sublist (A ++ g :: B) := List.Sublist.append (List.Sublist.refl A) (List.sublist_cons_self g B)
        have hD2 : ps_Md R G m (ps_bm σ g) (ps_14 z (ps_bd μ g r)) (ps_ur ρ (2 * r + 0) (A ++ B)) := rm_board hD hg21 (rm_ur hD (ps_So_sub (by have := hD.2.2 (2 * r + 0) (by omega); rw [show ρ (2 * r + 0) = A ++ g :: B from hL] at this; exact this) hsub)).2.2
        have b29 : ps_bm σ g 7 29 = nI (lf - 1) := by unfold ps_bm; rw [ps_up_s, hl, e19, q1, pn_sub (by omega)]
        refine ih A (ps_bm σ g) (ps_bd μ g r) (ps_ur ρ (2 * r + 0) (A ++ B)) (lf - 1) _ _ hD2 hW2 (ps_ur_s _ _ _) b29 (by omega) (fun τ t1 t2 t3 => hk τ ?_ (ps_Ofm_tr ps_Ofm_bm t2) ?_)
        · rw [Nat.add_zero, ps_ur_ur] at t1
          show ps_Md R G m τ (ps_fin z (ps_sing r B (ps_bd μ g r) (lf - 1)).1 r (lf - ((ps_sing r B (ps_bd μ g r) (lf - 1)).2.2 + 1))) _
          rw [show lf - ((ps_sing r B (ps_bd μ g r) (lf - 1)).2.2 + 1) = lf - 1 - (ps_sing r B (ps_bd μ g r) (lf - 1)).2.2 by omega]
          exact t1
        · show τ 7 29 = nI (lf - ((ps_sing r B (ps_bd μ g r) (lf - 1)).2.2 + 1))
          rw [show lf - ((ps_sing r B (ps_bd μ g r) (lf - 1)).2.2 + 1) = lf - 1 - (ps_sing r B (ps_bd μ g r) (lf - 1)).2.2 by omega]
          exact t3
theorem ps_f14 (hW : ps_Wf R G Nw μ ρ n) {r : Nat} (hr : r < R) : ps_P14 r μ (ps_f4 μ ρ r).1 (ps_N μ 8 r - ps_left μ ρ r) ∧ ps_left μ ρ r ≤ ps_N μ 8 r := by
  have k19 : ∀ f, ¬ ps_dyn f → (ps_f1 μ ρ r).1 f = μ f ∧ (ps_f2 μ ρ r).1 f = μ f ∧ (ps_f3 μ ρ r).1 f = μ f ∧ (ps_f4 μ ρ r).1 f = μ f := fun f hf => ps_f4_f μ ρ r hf
  obtain ⟨q1, q2, q3, q4⟩ := k19 19 (by unfold ps_dyn; omega)
  have mem : ∀ (π : ps_P) (ν : ps_S) (b : Nat), b < 2 → ps_Wf R G Nw ν π n → ∀ g, g ∈ π (2 * r + b) → ν 19 g = nI (ps_N ν 19 g) := fun π ν b hb hw g hg => (hw.2.2.1 g (((hw.2.2.2.1 r b hr hb).2 g).mp hg).1).1
  have w1 := ps_wf_f1 hW hr
  have w2 := ps_wf_f2 hW hr
  have w3 := ps_wf_f3 hW hr
  have p1 : ps_P14 r μ (ps_f1 μ ρ r).1 (ps_f1 μ ρ r).2.2 := ps_P14_fill _ _ _ (mem ρ μ 1 (by decide) hW)
  have p2 : ps_P14 r (ps_f1 μ ρ r).1 (ps_f2 μ ρ r).1 (ps_f2 μ ρ r).2.2 := by
    have a := mem _ _ 0 (by decide) w1
    rw [show ps_r1 μ ρ r (2 * r + 0) = ρ (2 * r) from ps_ur_n (by omega)] at a
    exact ps_P14_fill _ _ _ a
  have p3 : ps_P14 r (ps_f2 μ ρ r).1 (ps_f3 μ ρ r).1 (ps_f3 μ ρ r).2.2 := by
    have a := mem _ _ 1 (by decide) w2
    rw [show ps_r2 μ ρ r (2 * r + 1) = (ps_f1 μ ρ r).2.1 from by unfold ps_r2 ps_r1; rw [ps_ur_n (by omega), ps_ur_s]] at a
    exact ps_P14_fill _ _ _ a
  have p4 : ps_P14 r (ps_f3 μ ρ r).1 (ps_f4 μ ρ r).1 (ps_f4 μ ρ r).2.2 := by
    unfold ps_f4
    by_cases q : μ 12 r = 1
    · rw [if_pos q]
      have a := mem _ _ 0 (by decide) w3
      rw [show ps_r3 μ ρ r (2 * r + 0) = (ps_f2 μ ρ r).2.1 from by unfold ps_r3 ps_r2; rw [ps_ur_n (by omega)]; exact ps_ur_s _ _ _] at a
      exact ps_P14_sing _ _ _ a
    · rw [if_neg q]
      exact ps_P14_rf _
  have i1 : (ps_f1 μ ρ r).2.2 ≤ ps_N μ 10 r := (ps_fill_le _ _ _).1
  have i2 : (ps_f2 μ ρ r).2.2 ≤ ps_N μ 8 r - (ps_f1 μ ρ r).2.2 := (ps_fill_le _ _ _).1
  have i3 : (ps_f3 μ ρ r).2.2 ≤ ps_N μ 8 r - (ps_f1 μ ρ r).2.2 - (ps_f2 μ ρ r).2.2 := (ps_fill_le _ _ _).1
  have i4 : (ps_f4 μ ρ r).2.2 ≤ ps_N μ 8 r - (ps_f1 μ ρ r).2.2 - (ps_f2 μ ρ r).2.2 - (ps_f3 μ ρ r).2.2 := by
    unfold ps_f4
    by_cases q : μ 12 r = 1
    · rw [if_pos q]; exact ps_sing_le _ _ _
    · rw [if_neg q]; exact Nat.zero_le _
  have s8 := (hW.2.1 r hr).1.2.2.2.2.2.2.2.1
  have all := ps_P14_tr (ps_P14_tr (ps_P14_tr p1 p2) p3) p4
  unfold ps_left
  refine ⟨?_, by omega⟩
  rw [show ps_N μ 8 r - (ps_N μ 8 r - (ps_f1 μ ρ r).2.2 - (ps_f2 μ ρ r).2.2 - (ps_f3 μ ρ r).2.2 - (ps_f4 μ ρ r).2.2) = (ps_f1 μ ρ r).2.2 + (ps_f2 μ ρ r).2.2 + (ps_f3 μ ρ r).2.2 + (ps_f4 μ ρ r).2.2 by omega]
  exact all
theorem rm_fin {τ : ps_S} {π : ps_P} (hW : ps_Wf R G Nw μ ρ n) {r : Nat} (hr : r < R) (hD : ps_Md R G m τ (ps_fin (μ 14) (ps_f4 μ ρ r).1 r (ps_left μ ρ r)) π) : ps_Md R G m τ (ps_beg μ ρ r) π := by
  obtain ⟨p, hle⟩ := ps_f14 hW hr
  obtain ⟨s1, s2, s3, -⟩ := (hW.2.1 r hr).1
  have k8 : (ps_f4 μ ρ r).1 8 = μ 8 := (ps_f4_f μ ρ r (by unfold ps_dyn; omega)).2.2.2
  refine rm_eq hD (fun f f1 f2 f3 => ?_) ?_ ?_
  · unfold ps_fin ps_beg
    by_cases q14 : f = 14
    · subst q14
      rw [ps_up_f (show 14 ≠ 16 by decide), ps_up_f (show 14 ≠ 15 by decide), ps_up_f (show 14 ≠ 15 by decide), ps_up_f (show 14 ≠ 16 by decide), p, k8, s1, pn_sub hle]
      funext j
      rw [ps_up_at, ps_up_at, ps_14_s]
    by_cases q15 : f = 15
    · subst q15
      rw [ps_up_f (show 15 ≠ 16 by decide)]
      exact ps_up_cg2 (by rw [ps_up_f (by decide), ps_14_n (by decide), ps_up_f (by decide)])
    by_cases q16 : f = 16
    · subst q16
      rw [ps_up_f (show 16 ≠ 15 by decide)]
      exact ps_up_cg2 (by rw [ps_up_f (by decide), ps_up_f (by decide), ps_14_n (by decide)])
    rw [ps_up_f q16, ps_up_f q15, ps_up_f q14, ps_14_n q14, ps_up_f q15, ps_up_f q16]
  · unfold ps_fin ps_beg
    rw [ps_up_nn (by decide), ps_up_nn (by decide), ps_up_nn (by decide), ps_14_n (by decide), ps_up_nn (by decide), ps_up_nn (by decide)]
  · unfold ps_fin ps_beg
    rw [ps_up_nn (by decide), ps_up_nn (by decide), ps_up_nn (by decide), ps_14_n (by decide), ps_up_nn (by decide), ps_up_nn (by decide)]
set_option maxHeartbeats 4000000 in
set_option maxRecDepth 100000 in
theorem c_M_begin {r : Nat} {k : pw_Hp → Prop} (hM : ps_MS h) (hm : m < 100000) (hr : r < R) (hD : ps_Md R G m σ μ ρ) (hW : ps_Wf R G Nw μ ρ n) (hk : ∀ τ, ps_Md R G m τ (ps_beg μ ρ r) (ps_r4 μ ρ r) → ps_Ofm σ τ → τ 7 29 = nI (ps_left μ ρ r) → k (pw_st h τ)) : pw_Cv 86 [.inr 7, .inl (nI r)] (pw_st h σ) k := by
  have hM' := hM
  have e := ps_Md_e hD
  have hR := hW.1.1
  have hG := hW.1.2.1
  obtain ⟨s1, s2, s3, -, -, -, s7, s8, -⟩ := (hW.2.1 r hr).1
  have hD0 : ps_Md R G m (ps_up σ 7 29 (nI (ps_N μ 8 r))) (ps_14 (μ 14) μ) ρ := by rw [ps_14_id]; exact rm_left hD
  have w1 := ps_wf_f1 hW hr
  have w2 := ps_wf_f2 hW hr
  have w3 := ps_wf_f3 hW hr
  have o0 : ps_Ofm σ (ps_up σ 7 29 (nI (ps_N μ 8 r))) := ps_Ofm_up (by decide) (by decide)
  unfold ps_MS at hM
  refine pw_intro (M := pm_M_begin) rfl (by decide) (Nat.le_of_ble_eq_true rfl) (ls := [some (.inr 7), some (.inl (nI r)), none, none, none]) rfl ?_
  refine pw_sound pw_tok pk_M_begin 400 _ _ _ _ _ _ ?_
  simp only [pv_all, pv_stp, pe_M_begin_0, pe_M_begin_1, pv_st, Nat.reduceAdd, eq_self, true_and, and_true, true_or, or_true, hM]
  simp (disch := omega) only [ps_up_nn, pn_at, pn_cl, e, s1, s7]
  refine ⟨by omega, by omega, ?_⟩
  refine c_M_fill (b := 1) (lf := ps_N μ 8 r) hM' hm hr (by decide) (by omega) hD0 hW (ps_up_s _ _ _ _) s8 (fun τ1 d1 o1 l1 => ?_)
  have l1 : τ1 7 29 = nI (ps_N μ 8 r - (ps_f1 μ ρ r).2.2) := l1
  simp only [pv_st, hM, eq_self, true_and, l1]
  refine c_M_fill (b := 0) (lf := ps_N μ 8 r - (ps_f1 μ ρ r).2.2) hM' hm hr (by decide) (by omega) d1 w1 l1 (Nat.le_refl _) (fun τ2 d2 o2 l2 => ?_)
  rw [show (ps_ur ρ (2 * r + 1) (ps_fill r (ρ (2 * r + 1)) μ (ps_N μ 10 r)).2.1) (2 * r + 0) = ρ (2 * r) from ps_ur_n (by omega)] at d2 l2
  have d2 : ps_Md R G m τ2 (ps_14 (μ 14) (ps_f2 μ ρ r).1) (ps_r2 μ ρ r) := d2
  have l2 : τ2 7 29 = nI (ps_N μ 8 r - (ps_f1 μ ρ r).2.2 - (ps_f2 μ ρ r).2.2) := l2
  simp only [pv_st, hM, eq_self, true_and, l2]
  refine c_M_fill (b := 1) (lf := ps_N μ 8 r - (ps_f1 μ ρ r).2.2 - (ps_f2 μ ρ r).2.2) hM' hm hr (by decide) (by omega) d2 w2 l2 (Nat.le_refl _) (fun τ3 d3 o3 l3 => ?_)
  rw [show ps_r2 μ ρ r (2 * r + 1) = (ps_f1 μ ρ r).2.1 from by unfold ps_r2 ps_r1; rw [ps_ur_n (by omega), ps_ur_s]] at d3 l3
  have d3 : ps_Md R G m τ3 (ps_14 (μ 14) (ps_f3 μ ρ r).1) (ps_r3 μ ρ r) := d3
  have l3 : τ3 7 29 = nI (ps_N μ 8 r - (ps_f1 μ ρ r).2.2 - (ps_f2 μ ρ r).2.2 - (ps_f3 μ ρ r).2.2) := l3
  have e12 : τ3 12 r = μ 12 r := by rw [(ps_Md_e d3).1.2.2.2.2.1, ps_14_n (by decide), (ps_f4_f μ ρ r (f := 12) (by unfold ps_dyn; omega)).2.2.1]
  have hrow : ps_r3 μ ρ r (2 * r) = (ps_f2 μ ρ r).2.1 := by unfold ps_r3 ps_r2; rw [ps_ur_n (by omega), ps_ur_s]
  have oo : ps_Ofm σ τ3 := ps_Ofm_tr o0 (ps_Ofm_tr o1 (ps_Ofm_tr o2 o3))
  simp (disch := omega) only [pv_st, hM, eq_self, true_and, true_or, pn_at, pn_cl, e12]
  refine ⟨by omega, fun q => ?_, fun q => ?_⟩
  · refine c_M_begin_67 (n := n) (Nw := Nw) (G := G) hM' hm hr [] (ps_r3 μ ρ r (2 * r)) τ3 _ _ _ _ _ d3 w3 (List.append_nil _).symm l3 (by omega) (fun τ t1 t2 t3 => ?_)
    have e4 : ps_f4 μ ρ r = ((ps_f3 μ ρ r).1, (ps_f2 μ ρ r).2.1, 0) := by unfold ps_f4; rw [if_neg q]
    refine hk τ (rm_fin hW hr ?_) (ps_Ofm_tr oo t2) ?_
    · unfold ps_left ps_r4
      rw [e4, ← hrow]
      rw [show ps_r3 μ ρ r (2 * r) ++ (ps_sing r [] (ps_f3 μ ρ r).1 (ps_N μ 8 r - (ps_f1 μ ρ r).2.2 - (ps_f2 μ ρ r).2.2 - (ps_f3 μ ρ r).2.2)).2.1 = ps_r3 μ ρ r (2 * r) from List.append_nil _] at t1
      exact t1
    · unfold ps_left
      rw [e4]
      exact t3
  · have ro := ps_Ro_of14 d3 w3 hr (b := 0) (by decide)
    refine c_M_next0 (b := 0) hM' hG d3.2.1.2.2.2.1 hm ro ?_
    refine c_M_begin_67 (n := n) (Nw := Nw) (G := G) hM' hm hr (ps_r3 μ ρ r (2 * r + 0)) [] τ3 _ _ _ _ _ d3 w3 rfl l3 (by omega) (fun τ t1 t2 t3 => ?_)
    have e4 : ps_f4 μ ρ r = ps_sing r (ps_f2 μ ρ r).2.1 (ps_f3 μ ρ r).1 (ps_N μ 8 r - (ps_f1 μ ρ r).2.2 - (ps_f2 μ ρ r).2.2 - (ps_f3 μ ρ r).2.2) := by unfold ps_f4; rw [if_pos q]
    rw [show ps_r3 μ ρ r (2 * r + 0) = (ps_f2 μ ρ r).2.1 from hrow, ← e4] at t1 t3
    exact hk τ (rm_fin hW hr t1) (ps_Ofm_tr oo t2) t3
end PMI
