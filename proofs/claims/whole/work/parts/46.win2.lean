/-! ParkRows: times are moved, or end. -/
theorem ps_drop_up {ν : ps_S} {g i f a : Nat} {x : Int32} (h1 : f ≠ 24) (h2 : f ≠ 25) (h3 : f ≠ 26) : ps_up (ps_drop ν g i) f a x = ps_drop (ps_up ν f a x) g i := by
  unfold ps_drop
  rw [ps_up_f (a := 24) (Ne.symm h1), ps_up_f (a := 25) (Ne.symm h2), ps_up_f (a := 26) (Ne.symm h3), ps_up_comm (f := 24) (f' := f) (Ne.symm h1)]
  split
  · rw [ps_up_comm (f := 26) (f' := f) (Ne.symm h3), ps_up_comm (f := 25) (f' := f) (Ne.symm h2)]
  · rfl
theorem ps_mvr_f {μ ν : ps_S} {g i r f : Nat} (h : ¬ ps_tdyn f) : ∀ o, (ps_mvr μ ν g i r o).1 f = ν f := by
  intro o
  unfold ps_tdyn at h
  cases o with
  | some v =>
    show ps_up (ps_up (ps_up ν 18 _ _) 26 _ _) 30 _ _ f = ν f
    rw [ps_up_f (by omega), ps_up_f (by omega), ps_up_f (by omega)]
  | none =>
    show ps_drop (ps_up ν 27 _ _) g i f = ν f
    rw [ps_drop_f (by omega), ps_up_f (by omega)]
theorem ps_mv_f {μ : ps_S} {g i r w f : Nat} (h : ¬ ps_tdyn f) : (ps_mv μ g i r w).1 f = μ f := by
  unfold ps_mv
  rw [ps_mvr_f h]
  unfold ps_g1
  exact ps_up_f (by unfold ps_tdyn at h; omega)
theorem ps_wd_same {μ ν : ps_S} (h9 : ν 9 = μ 9) (h12 : ν 12 = μ 12) (r : Nat) : ps_wd ν r = ps_wd μ r := by unfold ps_wd ps_turn ps_N; rw [h9, h12]
def ps_et (runs : Bool) (r w g : Nat) : Nat → Nat → ps_S → ps_S
  | 0, _, μ => μ
  | m + 1, i, μ =>
    if ps_N μ 24 g ≤ i then μ else
    if μ 25 (2 * g + i) = nI r ∧ μ 26 (2 * g + i) = nI w then
      (if runs = true then ps_et runs r w g m i (ps_drop (ps_up μ 29 g (μ 29 g + 1)) g i)
       else if (ps_mv μ g i r w).2 = true then ps_et runs r w g m (i + 1) (ps_mv μ g i r w).1 else ps_et runs r w g m i (ps_mv μ g i r w).1)
    else ps_et runs r w g m (i + 1) μ
theorem ps_et_f {runs : Bool} {r w g f : Nat} (h : ¬ ps_tdyn f) : ∀ (m i : Nat) (μ : ps_S), ps_et runs r w g m i μ f = μ f := by
  intro m
  induction m with
  | zero => intro i μ; rfl
  | succ m ih =>
    intro i μ
    unfold ps_et
    split
    · rfl
    split
    · split
      · rw [ih, ps_drop_f (by unfold ps_tdyn at h; omega), ps_up_f (by unfold ps_tdyn at h; omega)]
      · split
        · rw [ih, ps_mv_f h]
        · rw [ih, ps_mv_f h]
    · exact ih _ _
def ps_ew (runs : Bool) (r w : Nat) (μ : ps_S) : Nat → ps_S
  | 0 => μ
  | g + 1 => ps_et runs r w g 2 0 (ps_ew runs r w μ g)
theorem ps_ew_f {runs : Bool} {r w f : Nat} {μ : ps_S} (h : ¬ ps_tdyn f) : ∀ k, ps_ew runs r w μ k f = μ f := by
  intro k
  induction k with
  | zero => rfl
  | succ k ih =>
    show ps_et runs r w k 2 0 (ps_ew runs r w μ k) f = μ f
    rw [ps_et_f h, ih]
section PWM
variable {h : pw_Hp} {R G : Nat} {aR aG Nw : Nat → Nat} {σ μ : ps_S} {ρ : ps_P} {n : Nat}
theorem ps_wf_miss (hW : ps_Wf R G Nw μ ρ n) (hn : n < 100000) {g i : Nat} (hg : g < G) (hi : i < ps_N μ 24 g) : ps_Wf R G Nw (ps_drop (ps_up μ 29 g (μ 29 g + 1)) g i) ρ n := by
  obtain ⟨-, -, -, -, -, a6, a7, a8, a9, -, -, -, -, a14⟩ := hW.2.2.1 g hg
  refine ps_wf_drop hW hg (Nat.le_refl n) hn hi (m := ps_N μ 27 g) (fun f q1 q2 q3 q4 => ps_up_f q3) (fun j hj => ?_) ?_ (by omega) (fun s v h1 h2 h3 => ?_)
  · exact ⟨ps_up_n (Or.inr hj), ps_up_n (Or.inr hj), ps_up_n (Or.inr hj)⟩
  · rw [ps_up_f (show 27 ≠ 29 by decide)]; exact a8
  · rw [ps_up_f (show 18 ≠ 29 by decide)]
    exact hW.2.2.2.2.2.2.1 s v h1 h2 h3
theorem ps_wf_et {runs : Bool} {r w g : Nat} (hn : n < 100000) (hg : g < G) (hr : r < R) : ∀ (m i : Nat) (μ : ps_S), ps_Wf R G Nw μ ρ n → w + 1 ≤ 5000 / ps_wd μ r → ps_Wf R G Nw (ps_et runs r w g m i μ) ρ n := by
  intro m
  have e9 : ¬ ps_tdyn 9 := by unfold ps_tdyn; omega
  have e12 : ¬ ps_tdyn 12 := by unfold ps_tdyn; omega
  induction m with
  | zero => intro i μ hW _; exact hW
  | succ m ih =>
    intro i μ hW hw
    unfold ps_et
    split
    · exact hW
    rename_i z
    split
    · rename_i q
      split
      · refine ih _ _ (ps_wf_miss hW hn hg (by omega)) ?_
        rw [ps_wd_same (μ := μ) (by rw [ps_drop_f (by decide), ps_up_f (by decide)]) (by rw [ps_drop_f (by decide), ps_up_f (by decide)])]
        exact hw
      · have hm := ps_wf_mv hW hn hg hr (i := i) (by omega) q.1 hw
        have hw2 : w + 1 ≤ 5000 / ps_wd (ps_mv μ g i r w).1 r := by rw [ps_wd_same (μ := μ) (ps_mv_f e9) (ps_mv_f e12)]; exact hw
        split
        · exact ih _ _ hm hw2
        · exact ih _ _ hm hw2
    · exact ih _ _ hW hw
theorem ps_wf_ew {runs : Bool} {r w : Nat} (hW : ps_Wf R G Nw μ ρ n) (hn : n < 100000) (hr : r < R) (hw : w + 1 ≤ 5000 / ps_wd μ r) : ∀ k, k ≤ G → ps_Wf R G Nw (ps_ew runs r w μ k) ρ n := by
  intro k
  have e9 : ¬ ps_tdyn 9 := by unfold ps_tdyn; omega
  have e12 : ¬ ps_tdyn 12 := by unfold ps_tdyn; omega
  induction k with
  | zero => intro _; exact hW
  | succ k ih =>
    intro hk
    refine ps_wf_et hn (by omega) hr _ _ _ (ih (by omega)) ?_
    rw [ps_wd_same (μ := μ) (ps_ew_f e9 k) (ps_ew_f e12 k)]
    exact hw
set_option maxHeartbeats 4000000 in
set_option maxRecDepth 100000 in
theorem c_P_moveTime_17 {g i r w : Nat} {ν : ps_S} {k : Int32 → pw_Hp → Prop} (hC : ps_CS h R G aR aG Nw) (hV : ps_Rv R G aR aG Nw σ ν ρ) (hW : ps_Wf R G Nw ν ρ n) (hg : g < G) (hr : r < R) (hi : i < ps_N ν 24 g) (hw : w + 1 ≤ 5000 / ps_wd ν r) (h19 : ν 19 g = μ 19 g) (h27 : ν 27 g = μ 27 g) (h30 : ν 30 g = μ 30 g) :
    ∀ (m v : Nat), v + m = w + 41 → (∀ τ, ps_Rv R G aR aG Nw τ (ps_mvr μ ν g i r (ps_fm ν g r v m)).1 ρ → ps_Off σ τ → k (if (ps_mvr μ ν g i r (ps_fm ν g r v m)).2 = true then 1 else 0) (pw_st h τ)) → pw_J pm_P_moveTime (pw_qi k) 17 [some (.inr 2), some (.inr (aG g)), some (.inl (nI i)), some (.inr (aR r)), some (.inl (nI w)), some (.inl (nI v))] [] (pw_st h σ) 0 0 := by
  have hT := hC.1.1
  obtain ⟨-, s2, a40, -⟩ := hC.2.2.2.2.1 g hg
  obtain ⟨-, d2, -, -, N11, b40, -⟩ := hC.2.2.2.1 r hr
  obtain ⟨wr, wN⟩ := hW.2.1 r hr
  have hNle := ps_Nw_le wr
  obtain ⟨-, -, -, -, -, w6, w7, -⟩ := hW.2.2.1 g hg
  obtain ⟨-, em, e4, -, -, -, e8, -, -, e11, -⟩ := hV.2.2 g hg
  have egv := (hV.2.1 r hr).2.2.2
  obtain ⟨-, -, -, -, -, -, u9, u10, -⟩ := (hV.2.1 r hr).1
  obtain ⟨-, -, x0, -, -, -, x1, x2, x3, x4, -⟩ := id wr
  have hlay := hC.2.2.2.2.2.2.2 r g hr hg
  rw [x1] at u9
  rw [x3] at u10
  rw [w6] at e4
  intro m
  induction m with
  | zero =>
    intro v hv hk
    refine pw_sound pw_tok pk_P_moveTime 400 _ _ _ _ _ _ ?_
    simp only [pv_all, pv_stp, pe_P_moveTime, pv_st, Nat.reduceAdd, eq_self, true_and, and_true, true_or, or_true, s2.1]
    simp (disch := omega) only [pn_c, pn_add, pn_lt]
    refine ⟨fun _ => ?_, fun z => absurd z (by omega)⟩
    refine c_G_dropTime s2 e4 w7 hi ?_
    have hVd := ru_drop hC hV hg (ps_t2 hW) w6 w7 hi
    have q8 := (hVd.2.2 g hg).2.2.2.2.2.2.1
    rw [ps_drop_f (by decide), h27] at q8
    simp only [pv_st, s2.1, true_and, true_or]
    rw [q8]
    have hVe := ru_G8 (x := μ 27 g + 1) hC hVd hg
    rw [ps_drop_up (by decide) (by decide) (by decide)] at hVe
    refine hk _ hVe (fun f f1 f2 => ?_)
    unfold ps_gdrop
    split
    · rw [ps_up_f (by omega), ps_up_f (by omega), ps_up_f (by omega), ps_up_f (by omega)]
    · rw [ps_up_f (by omega), ps_up_f (by omega)]
  | succ m ih =>
    intro v hv hk
    have hlen : v < Nw r := by omega
    refine pw_sound pw_tok pk_P_moveTime 400 _ _ _ _ _ _ ?_
    simp only [pv_all, pv_stp, pe_P_moveTime, pv_st, Nat.reduceAdd, eq_self, true_and, and_true, true_or, or_true, s2.1, d2.1, em]
    simp (disch := omega) only [pn_c, pn_add, pn_lt]
    refine ⟨fun z => absurd z (by omega), fun _ => ?_⟩
    refine c_D_hasRoom d2 (by omega) hlen u9 u10 (by omega) x4 ?_
    rw [egv v hlen]
    unfold ps_fm at hk
    have hfit : ps_fits ν g r v = decide (ν 18 (1100 * r + v) + ν 19 g ≤ nI (5 * ps_N ν 10 r - ps_N ν 11 r)) := rfl
    by_cases z : ν 18 (1100 * r + v) + ν 19 g ≤ nI (5 * ps_N ν 10 r - ps_N ν 11 r)
    · rw [if_pos z]
      rw [hfit, decide_eq_true z, if_pos rfl] at hk
      refine ⟨fun q => absurd q (by decide), fun _ => ⟨s2.1, d2.1, ?_⟩⟩
      simp only [pv_st]
      rw [em]
      refine c_D_addGiven d2 (by omega) hlen ⟨s2.1, ?_⟩
      rw [egv v hlen]
      have hV1 := ru_given (x := ν 18 (1100 * r + v) + ν 19 g) hC hV hr hlen
      have e4' : ps_up σ (aR r + 5) v (ν 18 (1100 * r + v) + ν 19 g) (aG g) 4 = nI (ps_N ν 24 g) := by rw [ps_up_n (Or.inl (by omega))]; exact e4
      refine c_G_moveTimeTo s2 e4' w7 hi ?_
      have hV2 := ru_movt (x := nI v) (j := i) hC hV1 hg (fun i hi => by unfold ps_N; rw [ps_up_n (Or.inl (by decide))]; exact ps_t2 hW i hi) (t := ps_N ν 24 g) (by rw [ps_up_n (Or.inl (by decide))]; exact w6) w7 hi
      have q11 := (hV2.2.2 g hg).2.2.2.2.2.2.2.2.2.1
      rw [ps_up_f (show 30 ≠ 26 by decide), ps_up_f (show 30 ≠ 18 by decide), h30] at q11
      simp only [pv_st, s2.1, true_and, or_true]
      rw [q11]
      rw [h19] at hV2 ⊢
      exact hk _ (ru_G11 (x := μ 30 g + 1) hC hV2 hg) (ps_Off_tr (ps_Off_up (by omega)) (ps_Off_tr (ps_Off_up (by omega)) (ps_Off_up (by omega))))
    · rw [if_neg z]
      rw [hfit, decide_eq_false z, if_neg (by decide)] at hk
      refine ⟨fun _ => ?_, fun q => absurd rfl q⟩
      exact ih (v + 1) (by omega) hk
set_option maxHeartbeats 4000000 in
set_option maxRecDepth 100000 in
theorem c_P_moveTime {g i r w : Nat} {k : Int32 → pw_Hp → Prop} (hC : ps_CS h R G aR aG Nw) (hV : ps_Rv R G aR aG Nw σ μ ρ) (hW : ps_Wf R G Nw μ ρ n) (hg : g < G) (hr : r < R) (hi : i < ps_N μ 24 g) (hw : w + 1 ≤ 5000 / ps_wd μ r) (hk : ∀ τ, ps_Rv R G aR aG Nw τ (ps_mv μ g i r w).1 ρ → ps_Off σ τ → k (if (ps_mv μ g i r w).2 = true then 1 else 0) (pw_st h τ)) : pw_Ci 101 [.inr 2, .inr (aG g), .inl (nI i), .inr (aR r), .inl (nI w)] (pw_st h σ) k := by
  obtain ⟨-, s2, a40, -⟩ := hC.2.2.2.2.1 g hg
  obtain ⟨-, d2, -, -, N11, b40, -⟩ := hC.2.2.2.1 r hr
  obtain ⟨wr, wN⟩ := hW.2.1 r hr
  have hNle := ps_Nw_le wr
  have em := (hV.2.2 g hg).2.1
  have hlen : w < Nw r := by omega
  have egv := (hV.2.1 r hr).2.2.2 w hlen
  refine pw_intro (M := pm_P_moveTime) rfl (by decide) (Nat.le_of_ble_eq_true rfl) (ls := [some (.inr 2), some (.inr (aG g)), some (.inl (nI i)), some (.inr (aR r)), some (.inl (nI w)), none]) rfl ?_
  refine pw_sound pw_tok pk_P_moveTime 400 _ _ _ _ _ _ ?_
  simp only [pv_all, pv_stp, pe_P_moveTime, pv_st, Nat.reduceAdd, eq_self, true_and, and_true, true_or, or_true, s2.1, d2.1, em]
  refine c_D_addGiven d2 (by omega) hlen ?_
  rw [egv, show μ 18 (1100 * r + w) + -μ 19 g = μ 18 (1100 * r + w) - μ 19 g from (Int32.sub_eq_add_neg _ _).symm, nI_1]
  have hV1 := ru_given (x := μ 18 (1100 * r + w) - μ 19 g) hC hV hr hlen
  have hW1 := ps_wf_g1 hW (g := g) (x := μ 18 (1100 * r + w) - μ 19 g) hr (w := w) (by omega)
  have e1 : ∀ f, f ≠ 18 → ps_g1 μ g r w f = μ f := fun f q => ps_up_f q
  refine c_P_moveTime_17 (μ := μ) hC hV1 hW1 hg hr (i := i) (by unfold ps_N; rw [ps_up_f (show 24 ≠ 18 by decide)]; exact hi) ?_ (by rw [ps_up_f (by decide)]) (by rw [ps_up_f (by decide)]) (by rw [ps_up_f (by decide)]) 40 (w + 1) (by omega) (fun τ a b => hk τ a (ps_Off_tr (ps_Off_up (by omega)) b))
  rw [ps_wd_same (μ := μ) (ps_up_f (by decide)) (ps_up_f (by decide))]
  exact hw
end PWM
