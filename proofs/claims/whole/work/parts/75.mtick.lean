/-! The reference: ticks. -/
section PMX
variable {h : pw_Hp} {R G m n : Nat} {Nw : Nat → Nat} {σ μ : ps_S} {ρ : ps_P}
theorem rm_off1 {g r : Nat} (hD : ps_Md R G m σ μ ρ) : ps_Md R G m (ps_up (ps_up σ 20 g 0) 21 g (-9)) (ps_off1 μ g r) ρ := by
  have d := rm_up (f := 21) (i := g) (x := -9) (rm_up (f := 20) (i := g) (x := 0) hD (by decide) (by decide) (by decide)) (by decide) (by decide) (by decide)
  refine rm_eq d (fun f f1 f2 f3 => ?_) ?_ ?_
  · unfold ps_off1 ps_sr
    exact ps_up_cg2 (ps_up_cg2 (ps_up_f (by omega)).symm)
  · unfold ps_off1 ps_sr
    rw [ps_up_nn (by decide), ps_up_nn (by decide), ps_up_nn (by decide), ps_up_nn (by decide), ps_up_nn (by decide)]
  · unfold ps_off1 ps_sr
    rw [ps_up_nn (by decide), ps_up_nn (by decide), ps_up_nn (by decide), ps_up_nn (by decide), ps_up_nn (by decide)]
set_option maxHeartbeats 4000000 in
set_option maxRecDepth 100000 in
theorem c_M_tick_24 {r s : Nat} {k : Int32 → pw_Hp → Prop} (hM : ps_MS h) (hm : m < 100000) (hW : ps_Wf R G Nw μ ρ n) (hr : r < R)
    (c1 : ps_N (ps_er μ r G) 7 0 % ps_turn (ps_er μ r G) r = 0 ∧ ps_runs (ps_er μ r G 13 r) (ps_er μ r G 12 r) (ps_er μ r G 7 1) = true → ∀ τ y, ps_Md R G m τ (ps_beg (ps_er μ r G) ρ r) (ps_r4 (ps_er μ r G) ρ r) → ps_Ofm σ τ → pw_J pm_M_tickOne (pw_qi k) 14 [some (.inr 7), some (.inl (nI (s + (ps_N (ps_er μ r G) 8 r - ps_left (ps_er μ r G) ρ r)))), some (.inl (nI (r + 1))), y] [] (pw_st h τ) 0 0)
    (c0 : ¬ (ps_N (ps_er μ r G) 7 0 % ps_turn (ps_er μ r G) r = 0 ∧ ps_runs (ps_er μ r G 13 r) (ps_er μ r G 12 r) (ps_er μ r G 7 1) = true) → ∀ τ y, ps_Md R G m τ (ps_er μ r G) ρ → ps_Ofm σ τ → pw_J pm_M_tickOne (pw_qi k) 14 [some (.inr 7), some (.inl (nI s)), some (.inl (nI (r + 1))), y] [] (pw_st h τ) 0 0) :
    ∀ (c g : Nat) (σ1 : ps_S), g + c = G → ps_Md R G m σ1 (ps_er μ r g) ρ → ps_Ofm σ σ1 → pw_J pm_M_tickOne (pw_qi k) 24 [some (.inr 7), some (.inl (nI s)), some (.inl (nI r)), some (.inl (nI g))] [] (pw_st h σ1) 0 0 := by
  have hM' := hM
  have hG := hW.1.2.1
  have hR := hW.1.1
  unfold ps_MS at hM
  intro c
  induction c with
  | zero =>
    intro g σ1 hc hD ho
    have v := hD.2.1.2.2.2.1
    have eg : g = G := by omega
    subst eg
    have hWe := ps_wf_er hW hr g (Nat.le_refl g)
    have wr := (hWe.2.1 r hr).1
    have p := ps_wd_pos wr
    have tb := hWe.1.2.2.2.1
    have et := hD.2.1.1
    rw [hWe.1.2.2.1] at et
    have hmod : ps_N (ps_er μ r g) 7 0 % ps_turn (ps_er μ r g) r < ps_turn (ps_er μ r g) r := Nat.mod_lt _ (by omega)
    have hd0 : ¬ nI (ps_turn (ps_er μ r g) r) = 0 := by rw [show (0 : Int32) = nI 0 from rfl, pn_eq (by omega) (by omega)]; omega
    refine pw_sound pw_tok pk_M_tickOne 400 _ _ _ _ _ _ ?_
    simp only [pv_all, pv_stp, pe_M_tickOne_0, pe_M_tickOne_1, pv_st, Nat.reduceAdd, eq_self, true_and, and_true, true_or, or_true, hM, v, et, nI_1]
    rw [pn_le (by omega) (by omega)]
    refine ⟨fun _ => ?_, fun q => absurd (by omega) q⟩
    refine c_M_turn hM' hD hR hr wr ⟨hd0, ?_⟩
    rw [pn_rem (by omega) (by omega) (by omega), show (0 : Int32) = nI 0 from rfl, pn_eq (by omega) (by omega)]
    refine ⟨fun q => c0 (fun w => q w.1) σ1 _ hD ho, fun q => ?_⟩
    simp only [pv_st, hM, eq_self, true_and]
    refine c_M_runs hM' hD hR hr ?_
    by_cases z : ps_runs (ps_er μ r g 13 r) (ps_er μ r g 12 r) (ps_er μ r g 7 1) = true
    · rw [if_pos z]
      refine ⟨fun q => absurd q (by decide), fun _ => ?_⟩
      simp only [pv_st, hM, eq_self, true_and]
      refine c_M_begin hM' hm hr hD hWe (fun τ t1 t2 t3 => ?_)
      obtain ⟨p14, hle⟩ := ps_f14 hWe hr
      have hWb := ps_wf_beg hWe hr
      obtain ⟨s1, s2, s3, -⟩ := wr
      have e8 : τ 8 r = nI (ps_N (ps_er μ r g) 8 r) := by
        rw [(ps_Md_e t1).1.1, ps_beg_f (by unfold ps_dyn; omega)]; exact s1
      simp (disch := omega) only [pv_st, hM, eq_self, true_and, true_or, pn_at, pn_cl, e8, t3, pn_sub, pn_add]
      exact ⟨by omega, c1 ⟨q, z⟩ τ _ t1 (ps_Ofm_tr ho t2)⟩
    · rw [if_neg z]
      exact ⟨fun _ => c0 (fun w => z w.2) σ1 _ hD ho, fun q => absurd rfl q⟩
  | succ c ih =>
    intro g σ1 hc hD ho
    have v := hD.2.1.2.2.2.1
    have e := ps_Md_e hD
    have hWe := ps_wf_er hW hr g (by omega)
    obtain ⟨-, -, -, -, -, -, -, -, -, w10, w11, -⟩ := hWe.2.2.1 g (by omega)
    have wr := (hWe.2.1 r hr).1
    have w9 := wr.2.2.2.1
    have b9 := wr.2.2.2.2.2.1
    have et := hD.2.1.1
    have tb := hWe.1.2.2.2.1
    rw [hWe.1.2.2.1] at et
    have nx : ∀ τ, ps_Md R G m τ (ps_er μ r (g + 1)) ρ → ps_Ofm σ τ → pw_J pm_M_tickOne (pw_qi k) 24 [some (.inr 7), some (.inl (nI s)), some (.inl (nI r)), some (.inl (nI (g + 1)))] [] (pw_st h τ) 0 0 := fun τ t1 t2 => ih (g + 1) τ (by omega) t1 t2
    have no : ¬ (ps_er μ r g 20 g = 3 ∧ ps_er μ r g 21 g = nI r ∧ ps_N (ps_er μ r g) 9 r + ps_N (ps_er μ r g) 23 g ≤ ps_N (ps_er μ r g) 7 0) → pw_J pm_M_tickOne (pw_qi k) 24 [some (.inr 7), some (.inl (nI s)), some (.inl (nI r)), some (.inl (nI (g + 1)))] [] (pw_st h σ1) 0 0 := fun z => nx σ1 (by
      show ps_Md R G m σ1 (ps_er1 (ps_er μ r g) r g) ρ
      unfold ps_er1
      rw [if_neg z]
      exact hD) ho
    refine pw_sound pw_tok pk_M_tickOne 400 _ _ _ _ _ _ ?_
    simp only [pv_all, pv_stp, pe_M_tickOne_0, pe_M_tickOne_1, pv_st, Nat.reduceAdd, eq_self, true_and, and_true, true_or, or_true, hM, v, et, nI_1]
    simp (disch := omega) only [pn_le, pn_at, pn_cl, e, w10, w9, pn_sub, pn_lt]
    refine ⟨fun q => absurd q (by omega), fun _ => ⟨by omega, fun q => no (fun w => q w.1), fun q1 => ⟨by omega, fun q => no (fun w => q w.2.1), fun q2 => ⟨by omega, by omega, fun q => no (fun w => by omega), fun q => ⟨by omega, by omega, ?_⟩⟩⟩⟩⟩
    refine nx _ ?_ (ps_Ofm_tr ho (ps_Ofm_tr (ps_Ofm_up (by decide) (by decide)) (ps_Ofm_up (by decide) (by decide))))
    show ps_Md R G m _ (ps_er1 (ps_er μ r g) r g) ρ
    unfold ps_er1
    rw [if_pos ⟨q1, q2, by omega⟩]
    exact rm_off1 hD
set_option maxHeartbeats 4000000 in
set_option maxRecDepth 100000 in
theorem c_M_tick_141 {s : Nat} {k : Int32 → pw_Hp → Prop} (hM : ps_MS h) (hW : ps_Wf R G Nw μ ρ n) (hn : n < 100000) (ht : 1 ≤ ps_N μ 7 0) (hk : ∀ τ, ps_Md R G m τ (ps_wn G μ R) ρ → ps_Ofm σ τ → k (nI s) (pw_st h τ)) :
    ∀ (c r : Nat) (σ1 : ps_S) (y : Option pw_A), r + c = R → ps_Md R G m σ1 (ps_wn G μ r) ρ → ps_Ofm σ σ1 → pw_J pm_M_tickOne (pw_qi k) 141 [some (.inr 7), some (.inl (nI s)), some (.inl (nI r)), y] [] (pw_st h σ1) 0 0 := by
  have hM' := hM
  have hR := hW.1.1
  unfold ps_MS at hM
  intro c
  induction c with
  | zero =>
    intro r σ1 y hc hD ho
    have v := hD.2.1.2.2.1
    refine pw_sound pw_tok pk_M_tickOne 400 _ _ _ _ _ _ ?_
    simp only [pv_all, pv_stp, pe_M_tickOne_0, pe_M_tickOne_1, pv_st, Nat.reduceAdd, eq_self, true_and, and_true, true_or, or_true, hM, v]
    rw [pn_le (by omega) (by omega)]
    exact ⟨fun _ => hk σ1 (by rw [show R = r by omega]; rw [show R = r by omega] at hD; exact hD) ho, fun q => absurd (by omega) q⟩
  | succ c ih =>
    intro r σ1 y hc hD ho
    have hr : r < R := by omega
    have v := hD.2.1.2.2.1
    obtain ⟨hWr, htr⟩ := ps_wf_wn hW hn ht r (by omega)
    have wr := (hWr.2.1 r hr).1
    have p := ps_wd_pos wr
    have tb := hWr.1.2.2.2.1
    have et := hD.2.1.1
    rw [hWr.1.2.2.1] at et
    have hmod : ps_N (ps_wn G μ r) 7 0 % ps_wd (ps_wn G μ r) r < ps_wd (ps_wn G μ r) r := Nat.mod_lt _ (by omega)
    have hd0 : ¬ nI (ps_wd (ps_wn G μ r) r) = 0 := by rw [show (0 : Int32) = nI 0 from rfl, pn_eq (by omega) (by omega)]; omega
    have nx : ∀ σ2 ν, ps_Md R G m σ2 ν ρ → ps_Ofm σ σ2 → ν = ps_wn G μ (r + 1) → ∀ y, pw_J pm_M_tickOne (pw_qi k) 141 [some (.inr 7), some (.inl (nI s)), some (.inl (nI (r + 1))), y] [] (pw_st h σ2) 0 0 := fun σ2 ν a b c y => by rw [c] at a; exact ih (r + 1) σ2 y (by omega) a b
    refine pw_sound pw_tok pk_M_tickOne 400 _ _ _ _ _ _ ?_
    simp only [pv_all, pv_stp, pe_M_tickOne_0, pe_M_tickOne_1, pv_st, Nat.reduceAdd, eq_self, true_and, and_true, true_or, or_true, hM, v, et, nI_1]
    rw [pn_le (by omega) (by omega)]
    refine ⟨fun q => absurd q (by omega), fun _ => ?_⟩
    refine c_M_width hM' hD hR hr wr ⟨hd0, ?_⟩
    rw [pn_rem (by omega) (by omega) (by omega), show (0 : Int32) = nI 0 from rfl, pn_eq (by omega) (by omega)]
    refine ⟨fun q => nx σ1 _ hD ho ?_ _, fun q => ?_⟩
    · conv => rhs; unfold ps_wn
      rw [if_neg q]
    · simp only [pv_st, hM, eq_self, true_and, et]
      refine c_M_width hM' hD hR hr wr ⟨hd0, ?_⟩
      simp only [pv_st, hM, eq_self, true_and]
      obtain ⟨z1, z2⟩ := ps_wn_w hWr hr htr q
      rw [pn_div (by omega) (by omega) (by omega), ← z1, show (1 : Int32) = nI 1 from rfl, pn_sub (by omega), Nat.add_sub_cancel]
      refine c_M_windowEnded hM' hD hWr hn hr z2 (fun τ t1 t2 => nx τ _ t1 (ps_Ofm_tr ho t2) ?_ _)
      conv => rhs; unfold ps_wn
      rw [if_pos q]
set_option maxHeartbeats 4000000 in
set_option maxRecDepth 100000 in
theorem c_M_tick_14 {k : Int32 → pw_Hp → Prop} (hM : ps_MS h) (hm : m < 100000) (hW : ps_Wf R G Nw μ ρ n) (hn : n < 100000) (ht : 1 ≤ ps_N μ 7 0) (hk : ∀ τ, ps_Md R G m τ (ps_wn G (ps_rd μ ρ G R).1 R) (ps_rd μ ρ G R).2.1 → ps_Ofm σ τ → k (nI (ps_rd μ ρ G R).2.2) (pw_st h τ)) :
    ∀ (c r : Nat) (σ1 : ps_S) (y : Option pw_A), r + c = R → ps_Md R G m σ1 (ps_rd μ ρ G r).1 (ps_rd μ ρ G r).2.1 → ps_Ofm σ σ1 → pw_J pm_M_tickOne (pw_qi k) 14 [some (.inr 7), some (.inl (nI (ps_rd μ ρ G r).2.2)), some (.inl (nI r)), y] [] (pw_st h σ1) 0 0 := by
  have hM' := hM
  have hR := hW.1.1
  have d7 : ¬ ps_dyn 7 := by unfold ps_dyn; omega
  unfold ps_MS at hM
  intro c
  induction c with
  | zero =>
    intro r σ1 y hc hD ho
    have v := hD.2.1.2.2.1
    have er : r = R := by omega
    subst er
    refine pw_sound pw_tok pk_M_tickOne 400 _ _ _ _ _ _ ?_
    simp only [pv_all, pv_stp, pe_M_tickOne_0, pe_M_tickOne_1, pv_st, Nat.reduceAdd, eq_self, true_and, and_true, true_or, or_true, hM, v]
    rw [pn_le (by omega) (by omega)]
    refine ⟨fun _ => ?_, fun q => absurd (by omega) q⟩
    exact c_M_tick_141 hM' (ps_wf_rd hW r (Nat.le_refl r)) hn (by unfold ps_N; rw [ps_rd_f d7]; exact ht) hk r 0 σ1 _ (by omega) hD ho
  | succ c ih =>
    intro r σ1 y hc hD ho
    have hr : r < R := by omega
    have v := hD.2.1.2.2.1
    have hWr := ps_wf_rd hW r (by omega)
    refine pw_sound pw_tok pk_M_tickOne 400 _ _ _ _ _ _ ?_
    simp only [pv_all, pv_stp, pe_M_tickOne_0, pe_M_tickOne_1, pv_st, Nat.reduceAdd, eq_self, true_and, and_true, true_or, or_true, hM, v]
    rw [pn_le (by omega) (by omega)]
    refine ⟨fun q => absurd q (by omega), fun _ => ?_⟩
    refine c_M_tick_24 (σ := σ) (s := (ps_rd μ ρ G r).2.2) hM' hm hWr hr (fun z τ y t1 t2 => ?_) (fun z τ y t1 t2 => ?_) G 0 σ1 (Nat.zero_add G) hD ho
    · have e : ps_rd μ ρ G (r + 1) = (ps_beg (ps_er (ps_rd μ ρ G r).1 r G) (ps_rd μ ρ G r).2.1 r, ps_r4 (ps_er (ps_rd μ ρ G r).1 r G) (ps_rd μ ρ G r).2.1 r, (ps_rd μ ρ G r).2.2 + (ps_N (ps_er (ps_rd μ ρ G r).1 r G) 8 r - ps_left (ps_er (ps_rd μ ρ G r).1 r G) (ps_rd μ ρ G r).2.1 r)) := by
        conv => lhs; unfold ps_rd
        rw [if_pos z]
      have := ih (r + 1) τ y (by omega) (by rw [e]; exact t1) t2
      rw [e] at this
      exact this
    · have e : ps_rd μ ρ G (r + 1) = (ps_er (ps_rd μ ρ G r).1 r G, (ps_rd μ ρ G r).2.1, (ps_rd μ ρ G r).2.2) := by
        conv => lhs; unfold ps_rd
        rw [if_neg z]
      have := ih (r + 1) τ y (by omega) (by rw [e]; exact t1) t2
      rw [e] at this
      exact this
set_option maxHeartbeats 4000000 in
set_option maxRecDepth 100000 in
theorem c_M_tickOne {s : Nat} {k : Int32 → pw_Hp → Prop} (hM : ps_MS h) (hm : m < 100000) (hD : ps_Md R G m σ μ ρ) (hW : ps_Wf R G Nw μ ρ n) (hn : n < 100000) (ht : ps_N μ 7 0 + 1 ≤ 5000) (hk : ∀ τ x, ps_Md R G m τ (ps_pt R G (μ, ρ, s)).1 (ps_pt R G (μ, ρ, s)).2.1 → ps_Ofm σ τ → nI s + x = nI (ps_pt R G (μ, ρ, s)).2.2 → k x (pw_st h τ)) : pw_Ci 108 [.inr 7] (pw_st h σ) k := by
  have hM' := hM
  have et := hD.2.1.1
  have hD1 := rm_7 (i := 0) (x := μ 7 0 + 1) hD (Or.inl rfl)
  unfold ps_MS at hM
  refine pw_intro (M := pm_M_tickOne) rfl (by decide) (Nat.le_of_ble_eq_true rfl) (ls := [some (.inr 7), none, none, none]) rfl ?_
  refine pw_sound pw_tok pk_M_tickOne 400 _ _ _ _ _ _ ?_
  simp only [pv_all, pv_stp, pe_M_tickOne_0, pe_M_tickOne_1, pv_st, Nat.reduceAdd, eq_self, true_and, and_true, true_or, or_true, hM, et]
  exact c_M_tick_14 (μ := ps_t1 μ) (σ := σ) hM' hm (ps_wf_t1 hW ht) hn (by rw [(ps_N_t1 hW).2]; omega) (fun τ t1 t2 => hk τ _ t1 t2 (pn_add _ _)) R 0 _ _ (by omega) hD1 (ps_Ofm_up (by decide) (by decide))
set_option maxHeartbeats 4000000 in
set_option maxRecDepth 100000 in
theorem c_M_ticks_35 {N : Nat} {k : Int32 → pw_Hp → Prop} (hM : ps_MS h) (hm : m < 100000) (hW : ps_Wf R G Nw μ ρ n) (hn : n < 100000) (hN : ps_N μ 7 0 + N ≤ 5000) (hk : ∀ τ, ps_Md R G m τ (ps_tks R G (μ, ρ, 0) N).1 (ps_tks R G (μ, ρ, 0) N).2.1 → ps_Ofm σ τ → k (nI (ps_tks R G (μ, ρ, 0) N).2.2) (pw_st h τ)) :
    ∀ (c i : Nat) (σ1 : ps_S), i + c = N → ps_Md R G m σ1 (ps_tks R G (μ, ρ, 0) i).1 (ps_tks R G (μ, ρ, 0) i).2.1 → ps_Ofm σ σ1 → pw_J pm_M_ticks (pw_qi k) 35 [some (.inr 7), some (.inl (nI N)), some (.inl (nI (ps_tks R G (μ, ρ, 0) i).2.2)), some (.inl (nI i))] [] (pw_st h σ1) 0 0 := by
  have hM' := hM
  unfold ps_MS at hM
  intro c
  induction c with
  | zero =>
    intro i σ1 hc hD ho
    have er : i = N := by omega
    subst er
    refine pw_sound pw_tok pk_M_ticks 400 _ _ _ _ _ _ ?_
    simp only [pv_all, pv_stp, pe_M_ticks, pv_st, Nat.reduceAdd, eq_self, true_and, and_true, true_or, or_true, hM]
    rw [pn_le (by omega) (by omega)]
    exact ⟨fun _ => hk σ1 hD ho, fun q => absurd (by omega) q⟩
  | succ c ih =>
    intro i σ1 hc hD ho
    obtain ⟨h1, h2⟩ := ps_wf_tks hW hn i (by omega)
    refine pw_sound pw_tok pk_M_ticks 400 _ _ _ _ _ _ ?_
    simp only [pv_all, pv_stp, pe_M_ticks, pv_st, Nat.reduceAdd, eq_self, true_and, and_true, true_or, or_true, hM]
    rw [pn_le (by omega) (by omega)]
    refine ⟨fun q => absurd q (by omega), fun _ => ?_⟩
    refine c_M_tickOne (s := (ps_tks R G (μ, ρ, 0) i).2.2) hM' hm hD h1 hn (by omega) (fun τ x t1 t2 t3 => ?_)
    rw [t3, nI_1]
    exact ih (i + 1) τ (by omega) t1 (ps_Ofm_tr ho t2)
set_option maxHeartbeats 4000000 in
set_option maxRecDepth 100000 in
theorem c_M_ticks {x : Int32} {k : Int32 → pw_Hp → Prop} (hM : ps_MS h) (hm : m < 100000) (hD : ps_Md R G m σ μ ρ) (hW : ps_Wf R G Nw μ ρ n) (hn : n < 100000) (hk : ∀ τ, ps_Md R G m τ (ps_ticks μ ρ R G x).2.1 (ps_ticks μ ρ R G x).2.2 → ps_Ofm σ τ → k (ps_ticks μ ρ R G x).1 (pw_st h τ)) : pw_Ci 112 [.inr 7, .inl x] (pw_st h σ) k := by
  have hM' := hM
  have et := hD.2.1.1
  unfold ps_MS at hM
  unfold ps_ticks at hk
  refine pw_intro (M := pm_M_ticks) rfl (by decide) (Nat.le_of_ble_eq_true rfl) (ls := [some (.inr 7), some (.inl x), none, none]) rfl ?_
  refine pw_sound pw_tok pk_M_ticks 400 _ _ _ _ _ _ ?_
  simp only [pv_all, pv_stp, pe_M_ticks, pv_st, Nat.reduceAdd, eq_self, true_and, and_true, true_or, or_true, hM, et]
  refine ⟨fun q => ⟨fun q2 => ?_, fun q2 => ?_⟩, fun q => ?_⟩
  · rw [if_pos q, if_pos q2] at hk
    obtain ⟨N, e1, e2, e3⟩ := ps_tks_c hW q q2
    rw [e3] at hk
    rw [e1]
    exact c_M_ticks_35 hM' hm hW hn e2 hk N 0 σ (by omega) hD (ps_Ofm_rf σ)
  · rw [if_pos q, if_neg q2] at hk
    exact c_M_ref hM' hD (c := 6) (by decide) (by decide) hk
  · rw [if_neg q] at hk
    exact c_M_ref hM' hD (c := 4) (by decide) (by decide) hk
end PMX
