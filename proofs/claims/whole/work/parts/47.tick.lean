/-! ParkRows: a tick passes. -/
section PTC
variable {h : pw_Hp} {R G : Nat} {aR aG Nw : Nat → Nat} {σ μ : ps_S} {ρ : ps_P} {n : Nat}
set_option maxHeartbeats 4000000 in
set_option maxRecDepth 100000 in
theorem c_P_endTimes_6 {runs : Bool} {r w g : Nat} {k : pw_Hp → Prop} (hC : ps_CS h R G aR aG Nw) (hn : n < 100000) (hg : g < G) (hr : r < R) :
    ∀ (m i j : Nat) (σ μ : ps_S), j + m = 2 → i ≤ 2 → ps_Rv R G aR aG Nw σ μ ρ → ps_Wf R G Nw μ ρ n → w + 1 ≤ 5000 / ps_wd μ r → (∀ τ, ps_Rv R G aR aG Nw τ (ps_et runs r w g m i μ) ρ → ps_Off σ τ → k (pw_st h τ)) → pw_J pm_P_endTimes (pw_qv k) 6 [some (.inr 2), some (.inr (aG g)), some (.inr (aR r)), some (.inl (nI w)), some (.inl (if runs = true then 1 else 0)), some (.inl (nI i)), some (.inl (nI j))] [] (pw_st h σ) 0 0 := by
  have hT := hC.1.1
  obtain ⟨-, s2, a40, -⟩ := hC.2.2.2.2.1 g hg
  obtain ⟨-, d2, -, -, N11, b40, -⟩ := hC.2.2.2.1 r hr
  have hR8 := hC.2.1
  have e9 : ¬ ps_tdyn 9 := by unfold ps_tdyn; omega
  have e12 : ¬ ps_tdyn 12 := by unfold ps_tdyn; omega
  intro m
  induction m with
  | zero =>
    intro i j σ μ hj hi hV hW hw hk
    refine pw_sound pw_tok pk_P_endTimes 400 _ _ _ _ _ _ ?_
    simp only [pv_all, pv_stp, pe_P_endTimes, pv_st, Nat.reduceAdd, eq_self, true_and, and_true, true_or, or_true, hT, s2.1]
    simp (disch := omega) only [pn_c, pn_le]
    exact ⟨fun _ => hk σ hV (ps_Off_rf σ), fun q => absurd q (by omega)⟩
  | succ m ih =>
    intro i j σ μ hj hi hV hW hw hk
    obtain ⟨-, -, -, -, -, w6, w7, -, -, -, -, -, -, w14⟩ := hW.2.2.1 g hg
    obtain ⟨wr, wN⟩ := hW.2.1 r hr
    have hNle := ps_Nw_le wr
    obtain ⟨-, em, e4, -, -, -, -, -, -, -, e12'⟩ := hV.2.2 g hg
    have u0 := (hV.2.1 r hr).1.1
    rw [w6] at e4
    unfold ps_et at hk
    refine pw_sound pw_tok pk_P_endTimes 400 _ _ _ _ _ _ ?_
    simp only [pv_all, pv_stp, pe_P_endTimes, pv_st, Nat.reduceAdd, eq_self, true_and, and_true, true_or, or_true, hT, s2.1, e4]
    simp (disch := omega) only [pn_c, pn_le]
    refine ⟨fun q => absurd q (by omega), fun _ => ⟨fun q => ?_, fun q => ?_⟩⟩
    · rw [if_pos q] at hk
      exact hk σ hV (ps_Off_rf σ)
    rw [if_neg q] at hk
    have hi' : i < ps_N μ 24 g := by omega
    have e2 := e12' i hi'
    refine c_G_rideOfTime s2 e4 w7 hi' ⟨d2.1, ?_⟩
    simp only [pv_st, u0]
    rw [e2.1]
    have nx : ∀ σ2 μ2, ps_Rv R G aR aG Nw σ2 μ2 ρ → ps_Wf R G Nw μ2 ρ n → w + 1 ≤ 5000 / ps_wd μ2 r → ps_Off σ σ2 → (∀ τ, ps_Rv R G aR aG Nw τ (ps_et runs r w g m (i + 1) μ2) ρ → ps_Off σ τ → k (pw_st h τ)) → pw_J pm_P_endTimes (pw_qv k) 6 [some (.inr 2), some (.inr (aG g)), some (.inr (aR r)), some (.inl (nI w)), some (.inl (if runs = true then 1 else 0)), some (.inl (nI i + nI 1)), some (.inl (nI j + nI 1))] [] (pw_st h σ2) 0 0 := fun σ2 μ2 a b c d e => by
      rw [pn_add, pn_add]
      exact ih (i + 1) (j + 1) σ2 μ2 (by omega) (by omega) a b c (fun τ t1 t2 => e τ t1 (ps_Off_tr d t2))
    have ny : ∀ σ2 μ2, ps_Rv R G aR aG Nw σ2 μ2 ρ → ps_Wf R G Nw μ2 ρ n → w + 1 ≤ 5000 / ps_wd μ2 r → ps_Off σ σ2 → (∀ τ, ps_Rv R G aR aG Nw τ (ps_et runs r w g m i μ2) ρ → ps_Off σ τ → k (pw_st h τ)) → pw_J pm_P_endTimes (pw_qv k) 6 [some (.inr 2), some (.inr (aG g)), some (.inr (aR r)), some (.inl (nI w)), some (.inl (if runs = true then 1 else 0)), some (.inl (nI i)), some (.inl (nI j + nI 1))] [] (pw_st h σ2) 0 0 := fun σ2 μ2 a b c d e => by
      rw [pn_add]
      exact ih i (j + 1) σ2 μ2 (by omega) (by omega) a b c (fun τ t1 t2 => e τ t1 (ps_Off_tr d t2))
    refine ⟨fun q1 => ?_, fun q1 => ⟨s2.1, ?_⟩⟩
    · rw [if_neg (fun z => q1 z.1)] at hk
      exact nx σ μ hV hW hw (ps_Off_rf σ) hk
    refine c_G_windowOfTime s2 e4 w7 hi' ?_
    rw [e2.2]
    refine ⟨fun q2 => ?_, fun q2 => ?_⟩
    · rw [if_pos ⟨q1, q2⟩] at hk
      cases runs with
      | true =>
        rw [if_pos rfl] at hk
        refine ⟨fun q3 => absurd q3 (by decide), fun _ => ⟨s2.1, ?_⟩⟩
        refine c_G_dropTime s2 e4 w7 hi' ?_
        have hVd := ru_drop hC hV hg (ps_t2 hW) w6 w7 hi'
        have q10 := (hVd.2.2 g hg).2.2.2.2.2.2.2.2.1
        rw [ps_drop_f (by decide)] at q10
        simp only [pv_st, s2.1, true_and]
        rw [q10]
        have hVe := ru_G10 (x := μ 29 g + 1) hC hVd hg
        rw [ps_drop_up (by decide) (by decide) (by decide)] at hVe
        refine ny _ _ hVe (ps_wf_miss hW hn hg hi') ?_ (fun f f1 f2 => ?_) hk
        · rw [ps_wd_same (μ := μ) (by rw [ps_drop_f (by decide), ps_up_f (by decide)]) (by rw [ps_drop_f (by decide), ps_up_f (by decide)])]
          exact hw
        · unfold ps_gdrop
          split
          · rw [ps_up_f (by omega), ps_up_f (by omega), ps_up_f (by omega), ps_up_f (by omega)]
          · rw [ps_up_f (by omega), ps_up_f (by omega)]
      | false =>
        rw [if_neg (by decide)] at hk
        refine ⟨fun _ => ⟨hT, ?_⟩, fun q3 => absurd rfl q3⟩
        refine c_P_moveTime hC hV hW hg hr hi' hw (fun τ t1 t2 => ?_)
        have hWm := ps_wf_mv hW hn hg hr (i := i) hi' q1 hw
        have hw2 : w + 1 ≤ 5000 / ps_wd (ps_mv μ g i r w).1 r := by rw [ps_wd_same (μ := μ) (ps_mv_f e9) (ps_mv_f e12)]; exact hw
        cases hb : (ps_mv μ g i r w).2 with
        | true =>
          rw [hb, if_pos rfl] at hk
          exact ⟨fun z => absurd z (by decide), fun _ => nx τ _ t1 hWm hw2 t2 hk⟩
        | false =>
          rw [hb, if_neg (by decide)] at hk
          exact ⟨fun _ => ny τ _ t1 hWm hw2 t2 hk, fun z => absurd rfl z⟩
    · rw [if_neg (fun z => q2 z.2)] at hk
      exact nx σ μ hV hW hw (ps_Off_rf σ) hk
set_option maxHeartbeats 4000000 in
set_option maxRecDepth 100000 in
theorem c_P_endTimes {runs : Bool} {r w g : Nat} {k : pw_Hp → Prop} (hC : ps_CS h R G aR aG Nw) (hV : ps_Rv R G aR aG Nw σ μ ρ) (hW : ps_Wf R G Nw μ ρ n) (hn : n < 100000) (hg : g < G) (hr : r < R) (hw : w + 1 ≤ 5000 / ps_wd μ r) (hk : ∀ τ, ps_Rv R G aR aG Nw τ (ps_et runs r w g 2 0 μ) ρ → ps_Off σ τ → k (pw_st h τ)) : pw_Cv 105 [.inr 2, .inr (aG g), .inr (aR r), .inl (nI w), .inl (if runs = true then 1 else 0)] (pw_st h σ) k := by
  refine pw_intro (M := pm_P_endTimes) rfl (by decide) (Nat.le_of_ble_eq_true rfl) (ls := [some (.inr 2), some (.inr (aG g)), some (.inr (aR r)), some (.inl (nI w)), some (.inl (if runs = true then 1 else 0)), none, none]) rfl ?_
  refine pw_sound pw_tok pk_P_endTimes 400 _ _ _ _ _ _ ?_
  simp only [pv_all, pv_stp, pe_P_endTimes, pv_st, Nat.reduceAdd, eq_self, true_and, and_true, true_or, or_true]
  exact c_P_endTimes_6 hC hn hg hr 2 0 0 σ μ (by omega) (by omega) hV hW hw hk
set_option maxHeartbeats 4000000 in
set_option maxRecDepth 100000 in
theorem c_P_endWindow_12 {runs : Bool} {r w : Nat} {k : pw_Hp → Prop} (hC : ps_CS h R G aR aG Nw) (hW : ps_Wf R G Nw μ ρ n) (hn : n < 100000) (hr : r < R) (hw : w + 1 ≤ 5000 / ps_wd μ r) (hk : ∀ τ, ps_Rv R G aR aG Nw τ (ps_ew runs r w μ G) ρ → ps_Off σ τ → k (pw_st h τ)) :
    ∀ (m g : Nat) (σ1 : ps_S) (y : Option pw_A), g + m = G → ps_Rv R G aR aG Nw σ1 (ps_ew runs r w μ g) ρ → ps_Off σ σ1 → pw_J pm_P_endWindow (pw_qv k) 12 [some (.inr 2), some (.inr (aR r)), some (.inl (nI w)), some (.inl (if runs = true then 1 else 0)), some (.inl (nI g)), y] [] (pw_st h σ1) 0 0 := by
  have hT := hC.1.1
  have hG60 := hC.2.2.1
  have e9 : ¬ ps_tdyn 9 := by unfold ps_tdyn; omega
  have e12 : ¬ ps_tdyn 12 := by unfold ps_tdyn; omega
  intro m
  induction m with
  | zero =>
    intro g σ1 y hm hV ho
    have v := hV.1.2.1
    refine pw_sound pw_tok pk_P_endWindow 400 _ _ _ _ _ _ ?_
    simp only [pv_all, pv_stp, pe_P_endWindow, pv_st, Nat.reduceAdd, eq_self, true_and, and_true, true_or, or_true, hT, v]
    simp (disch := omega) only [pn_le]
    exact ⟨fun _ => hk σ1 (by rw [show G = g by omega]; rw [show G = g by omega] at hV; exact hV) ho, fun q => absurd q (by omega)⟩
  | succ m ih =>
    intro g σ1 y hm hV ho
    have hg : g < G := by omega
    have v := hV.1.2.1
    have a40 := (hC.2.2.2.2.1 g hg).2.2.1
    refine pw_sound pw_tok pk_P_endWindow 400 _ _ _ _ _ _ ?_
    simp only [pv_all, pv_stp, pe_P_endWindow, pv_st, Nat.reduceAdd, eq_self, true_and, and_true, true_or, or_true, hT, v]
    simp (disch := omega) only [pn_le]
    refine ⟨fun q => absurd q (by omega), fun _ => ?_⟩
    refine c_P_groupAt hC hV hg ⟨fun q => absurd q (by omega), fun _ => ⟨hT, ?_⟩⟩
    refine c_P_endTimes hC hV (ps_wf_ew hW hn hr hw g (by omega)) hn hg hr ?_ (fun τ t1 t2 => ?_)
    · rw [ps_wd_same (μ := μ) (ps_ew_f e9 g) (ps_ew_f e12 g)]; exact hw
    · rw [nI_1]
      exact ih (g + 1) τ _ (by omega) t1 (ps_Off_tr ho t2)
set_option maxHeartbeats 4000000 in
set_option maxRecDepth 100000 in
theorem c_P_endWindow {r w : Nat} {k : pw_Hp → Prop} (hC : ps_CS h R G aR aG Nw) (hV : ps_Rv R G aR aG Nw σ μ ρ) (hW : ps_Wf R G Nw μ ρ n) (hn : n < 100000) (hr : r < R) (hw : w + 1 ≤ 5000 / ps_wd μ r) (hk : ∀ τ, ps_Rv R G aR aG Nw τ (ps_ew (ps_runs (μ 13 r) (μ 12 r) (μ 7 1)) r w μ G) ρ → ps_Off σ τ → k (pw_st h τ)) : pw_Cv 111 [.inr 2, .inr (aR r), .inl (nI w)] (pw_st h σ) k := by
  have hT := hC.1.1
  obtain ⟨-, d2, -, -, N11, b40, -⟩ := hC.2.2.2.1 r hr
  obtain ⟨-, -, -, u3, -, -, -, -, u11, -⟩ := (hV.2.1 r hr).1
  have v7 := hV.1.2.2.2.2.2.1
  refine pw_intro (M := pm_P_endWindow) rfl (by decide) (Nat.le_of_ble_eq_true rfl) (ls := [some (.inr 2), some (.inr (aR r)), some (.inl (nI w)), none, none, none]) rfl ?_
  refine pw_sound pw_tok pk_P_endWindow 400 _ _ _ _ _ _ ?_
  simp only [pv_all, pv_stp, pe_P_endWindow, pv_st, Nat.reduceAdd, eq_self, true_and, and_true, true_or, or_true, hT, d2.1, v7]
  refine c_D_runs d2 ?_
  rw [u11, u3]
  exact c_P_endWindow_12 hC hW hn hr hw hk G 0 σ _ (by omega) hV (ps_Off_rf σ)
end PTC
