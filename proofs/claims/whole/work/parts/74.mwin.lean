/-! The reference: windows end. -/
section PMW
variable {h : pw_Hp} {R G m n : Nat} {Nw : Nat → Nat} {σ μ : ps_S} {ρ : ps_P}
set_option maxHeartbeats 4000000 in
set_option maxRecDepth 100000 in
theorem c_M_move_39 {g i r w : Nat} {ν : ps_S} {k : Int32 → pw_Hp → Prop} (hM : ps_MS h) (hD : ps_Md R G m σ ν ρ) (hW : ps_Wf R G Nw ν ρ n) (hg : g < G) (hr : r < R) (hi : i < 2) (hw : w + 1 ≤ 5000 / ps_wd ν r) (h19 : ν 19 g = μ 19 g) (h30 : ν 30 g = μ 30 g) :
    ∀ (c v : Nat), v + c = w + 41 → (ps_fm ν g r v c = none → k 0 (pw_st h σ)) → (∀ u, ps_fm ν g r v c = some u → ∀ τ, ps_Md R G m τ (ps_mvr μ ν g i r (some u)).1 ρ → ps_Ofm σ τ → k 1 (pw_st h τ)) → pw_J pm_M_move (pw_qi k) 39 [some (.inr 7), some (.inl (nI g)), some (.inl (nI i)), some (.inl (nI w)), some (.inl (nI r)), some (.inl (nI v))] [] (pw_st h σ) 0 0 := by
  have hM' := hM
  have e := ps_Md_e hD
  have hR := hW.1.1
  have hG := hW.1.2.1
  have wr := (hW.2.1 r hr).1
  have hN := ps_Nw_le wr
  unfold ps_MS at hM
  have e40 : nI w + (40 : Int32) = nI (w + 40) := pn_add _ 40
  have e2 : (2 : Int32) * nI g + nI i = nI (2 * g + i) := by rw [show (2 : Int32) = nI 2 from rfl, pn_mul, pn_add]
  intro c
  induction c with
  | zero =>
    intro v hv h0 h1
    refine pw_sound pw_tok pk_M_move 400 _ _ _ _ _ _ ?_
    simp only [pv_all, pv_stp, pe_M_move, pv_st, Nat.reduceAdd, eq_self, true_and, and_true, true_or, or_true, hM, e40]
    simp (disch := omega) only [pn_lt]
    exact ⟨fun _ => h0 rfl, fun q => absurd q (by omega)⟩
  | succ c ih =>
    intro v hv h0 h1
    unfold ps_fm at h0 h1
    have e1 : (1100 : Int32) * nI r + nI v = nI (1100 * r + v) := by rw [show (1100 : Int32) = nI 1100 from rfl, pn_mul, pn_add]
    refine pw_sound pw_tok pk_M_move 400 _ _ _ _ _ _ ?_
    simp only [pv_all, pv_stp, pe_M_move, pv_st, Nat.reduceAdd, eq_self, true_and, and_true, true_or, or_true, hM, e40]
    simp (disch := omega) only [pn_lt]
    refine ⟨fun q => absurd q (by omega), fun _ => ?_⟩
    refine c_M_fits hM' hD hR hG hg hr wr (by omega) ?_
    by_cases hf : ps_fits ν g r v = true
    · rw [if_pos hf] at h0 h1 ⊢
      refine ⟨fun q => absurd q (by decide), fun _ => ?_⟩
      have u30 : ∀ a b x y, ps_up (ps_up σ 18 a x) 26 b y 30 g = ν 30 g := fun a b x y => by rw [ps_up_nn (by decide), ps_up_nn (by decide), e.2.2.2.2.2.2.2.2.2.2.1]
      simp (disch := omega) only [pv_st, hM, eq_self, true_and, true_or, pn_at, pn_cl, e1, e2, e, u30]
      refine ⟨by omega, by omega, by omega, by omega, by omega, by omega, ?_⟩
      refine h1 v rfl _ ?_ ?_
      · unfold ps_mvr
        rw [← h19, ← h30]
        exact rm_up (rm_up (rm_up hD (by decide) (by decide) (by decide)) (by decide) (by decide) (by decide)) (by decide) (by decide) (by decide)
      · exact ps_Ofm_tr (ps_Ofm_tr (ps_Ofm_up (by decide) (by decide)) (ps_Ofm_up (by decide) (by decide))) (ps_Ofm_up (by decide) (by decide))
    · rw [if_neg hf] at h0 h1 ⊢
      refine ⟨fun _ => ?_, fun q => absurd rfl q⟩
      rw [nI_1]
      exact ih (v + 1) (by omega) h0 h1
set_option maxHeartbeats 4000000 in
set_option maxRecDepth 100000 in
theorem c_M_move {g i r w : Nat} {k : Int32 → pw_Hp → Prop} (hM : ps_MS h) (hD : ps_Md R G m σ μ ρ) (hW : ps_Wf R G Nw μ ρ n) (hg : g < G) (hr : r < R) (hi : i < ps_N μ 24 g) (h25 : μ 25 (2 * g + i) = nI r) (hw : w + 1 ≤ 5000 / ps_wd μ r) (h0 : ps_fm (ps_g1 μ g r w) g r (w + 1) 40 = none → ∀ τ, ps_Md R G m τ (ps_g1 μ g r w) ρ → ps_Ofm σ τ → k 0 (pw_st h τ)) (h1 : ∀ u, ps_fm (ps_g1 μ g r w) g r (w + 1) 40 = some u → ∀ τ, ps_Md R G m τ (ps_mv μ g i r w).1 ρ → ps_Ofm σ τ → k 1 (pw_st h τ)) : pw_Ci 87 [.inr 7, .inl (nI g), .inl (nI i), .inl (nI w)] (pw_st h σ) k := by
  have hM' := hM
  have e := ps_Md_e hD
  have hR := hW.1.1
  have hG := hW.1.2.1
  have w7 := (hW.2.2.1 g hg).2.2.2.2.2.2.1
  have wr := (hW.2.1 r hr).1
  have hN := ps_Nw_le wr
  unfold ps_MS at hM
  have e2 : (2 : Int32) * nI g + nI i = nI (2 * g + i) := by rw [show (2 : Int32) = nI 2 from rfl, pn_mul, pn_add]
  have e1 : (1100 : Int32) * nI r + nI w = nI (1100 * r + w) := by rw [show (1100 : Int32) = nI 1100 from rfl, pn_mul, pn_add]
  have hD1 : ps_Md R G m (ps_up σ 18 (1100 * r + w) (μ 18 (1100 * r + w) - μ 19 g)) (ps_g1 μ g r w) ρ := rm_up hD (by decide) (by decide) (by decide)
  have hW1 : ps_Wf R G Nw (ps_g1 μ g r w) ρ n := ps_wf_g1 (g := g) hW hr (by omega)
  have hw1 : w + 1 ≤ 5000 / ps_wd (ps_g1 μ g r w) r := by
    rw [ps_wd_same (μ := μ) (by unfold ps_g1; rw [ps_up_f (by decide)]) (by unfold ps_g1; rw [ps_up_f (by decide)])]
    exact hw
  have o1 : ps_Ofm σ (ps_up σ 18 (1100 * r + w) (μ 18 (1100 * r + w) - μ 19 g)) := ps_Ofm_up (by decide) (by decide)
  refine pw_intro (M := pm_M_move) rfl (by decide) (Nat.le_of_ble_eq_true rfl) (ls := [some (.inr 7), some (.inl (nI g)), some (.inl (nI i)), some (.inl (nI w)), none, none]) rfl ?_
  refine pw_sound pw_tok pk_M_move 400 _ _ _ _ _ _ ?_
  simp only [pv_all, pv_stp, pe_M_move, pv_st, Nat.reduceAdd, eq_self, true_and, and_true, true_or, or_true, hM, e2]
  simp (disch := omega) only [pn_at, pn_cl, e, h25, e1, nI_1]
  refine ⟨by omega, by omega, by omega, by omega, ?_⟩
  refine c_M_move_39 (μ := μ) hM' hD1 hW1 hg hr (by omega) hw1 (by unfold ps_g1; rw [ps_up_nn (by decide)]) (by unfold ps_g1; rw [ps_up_nn (by decide)]) 40 (w + 1) (by omega) (fun q => h0 q _ hD1 o1) (fun u q τ t1 t2 => h1 u q τ ?_ (ps_Ofm_tr o1 t2))
  unfold ps_mv
  rw [q]
  exact t1
set_option maxHeartbeats 4000000 in
set_option maxRecDepth 100000 in
theorem c_M_we_13 {runs : Bool} {r w g : Nat} {k : pw_Hp → Prop} (hM : ps_MS h) (hn : n < 100000) (hg : g < G) (hr : r < R) :
    ∀ (f i : Nat) (σ μ : ps_S), ps_Md R G m σ μ ρ → ps_Wf R G Nw μ ρ n → w + 1 ≤ 5000 / ps_wd μ r → ps_N μ 24 g ≤ i + f → i ≤ 2 → ps_runs (μ 13 r) (μ 12 r) (μ 7 1) = runs → (∀ τ y, ps_Md R G m τ (ps_et runs r w g f i μ) ρ → ps_Ofm σ τ → pw_J pm_M_windowEnded (pw_qv k) 2 [some (.inr 7), some (.inl (nI r)), some (.inl (nI w)), some (.inl (nI (g + 1))), y] [] (pw_st h τ) 0 0) → pw_J pm_M_windowEnded (pw_qv k) 13 [some (.inr 7), some (.inl (nI r)), some (.inl (nI w)), some (.inl (nI g)), some (.inl (nI i))] [] (pw_st h σ) 0 0 := by
  have hM' := hM
  unfold ps_MS at hM
  have t7 : ¬ ps_tdyn 7 := by unfold ps_tdyn; omega
  have t9 : ¬ ps_tdyn 9 := by unfold ps_tdyn; omega
  have t12 : ¬ ps_tdyn 12 := by unfold ps_tdyn; omega
  have t13 : ¬ ps_tdyn 13 := by unfold ps_tdyn; omega
  have e3 : ∀ a : Int32, a + -1 + 1 = a := fun a => by rw [Int32.add_assoc, show (-1 : Int32) + 1 = 0 from rfl, Int32.add_zero]
  intro f
  induction f with
  | zero =>
    intro i σ μ hD hW hw hf hi hru hk
    have e := ps_Md_e hD
    have hG := hW.1.2.1
    obtain ⟨-, -, -, -, -, w6, w7, -⟩ := hW.2.2.1 g hg
    refine pw_sound pw_tok pk_M_windowEnded 400 _ _ _ _ _ _ ?_
    simp only [pv_all, pv_stp, pe_M_windowEnded, pv_st, Nat.reduceAdd, eq_self, true_and, and_true, true_or, or_true, hM]
    simp (disch := omega) only [pn_at, pn_cl, e, w6, pn_le, nI_1]
    exact ⟨by omega, fun _ => hk σ _ hD (ps_Ofm_rf σ), fun q => absurd q (by omega)⟩
  | succ f ih =>
    intro i σ μ hD hW hw hf hi hru hk
    have e := ps_Md_e hD
    have hR := hW.1.1
    have hG := hW.1.2.1
    obtain ⟨-, -, -, -, -, w6, w7, w8, w9, -⟩ := hW.2.2.1 g hg
    unfold ps_et at hk
    have e2 : (2 : Int32) * nI g + nI i = nI (2 * g + i) := by rw [show (2 : Int32) = nI 2 from rfl, pn_mul, pn_add]
    refine pw_sound pw_tok pk_M_windowEnded 400 _ _ _ _ _ _ ?_
    simp only [pv_all, pv_stp, pe_M_windowEnded, pv_st, Nat.reduceAdd, eq_self, true_and, and_true, true_or, or_true, hM, e2]
    simp (disch := omega) only [pn_at, pn_cl, e, w6, pn_le, nI_1, e3]
    refine ⟨by omega, fun q => ?_, fun q => ?_⟩
    · rw [if_pos q] at hk
      exact hk σ _ hD (ps_Ofm_rf σ)
    rw [if_neg q] at hk
    have hi' : i < ps_N μ 24 g := by omega
    have nx : ¬ (μ 25 (2 * g + i) = nI r ∧ μ 26 (2 * g + i) = nI w) → pw_J pm_M_windowEnded (pw_qv k) 13 [some (.inr 7), some (.inl (nI r)), some (.inl (nI w)), some (.inl (nI g)), some (.inl (nI (i + 1)))] [] (pw_st h σ) 0 0 := fun z => by
      rw [if_neg z] at hk
      exact ih (i + 1) σ μ hD hW hw (by omega) (by omega) hru hk
    refine ⟨by omega, fun z => nx (fun y => z y.1), fun z1 => ⟨by omega, fun z2 => ?_, fun z => nx (fun y => z y.2)⟩⟩
    rw [if_pos ⟨z1, z2⟩] at hk
    refine c_M_runs hM' hD hR hr ?_
    rw [hru]
    cases hrr : runs with
    | true =>
      rw [hrr] at hk ih hru
      rw [if_pos rfl] at hk
      refine ⟨fun z => absurd z (by decide), fun _ => ?_⟩
      simp (disch := omega) only [pv_st, hM, eq_self, true_and, true_or, pn_at, pn_cl, e]
      refine ⟨by omega, by omega, ?_⟩
      refine c_M_dropTime hM' (by omega) (by omega) ?_
      have dn : ps_N (ps_drop (ps_up μ 29 g (μ 29 g + 1)) g i) 24 g = ps_N μ 24 g - 1 := by
        show (ps_drop (ps_up μ 29 g (μ 29 g + 1)) g i 24 g).toNatClampNeg = ps_N μ 24 g - 1
        rw [ps_drop_o.2.2, ps_up_nn (by decide), w6, show (1 : Int32) = nI 1 from rfl, pn_sub (by omega), nI_clamp (by omega)]
      refine ih i (ps_drop (ps_up σ 29 g (μ 29 g + 1)) g i) (ps_drop (ps_up μ 29 g (μ 29 g + 1)) g i) (rm_drop (rm_up hD (by decide) (by decide) (by decide))) (ps_wf_miss hW hn hg hi') ?_ (by omega) hi ?_ (fun τ y t1 t2 => hk τ y t1 (ps_Ofm_tr (ps_Ofm_tr (ps_Ofm_up (by decide) (by decide)) ps_Ofm_drop) t2))
      · rw [ps_wd_same (μ := μ) (by rw [ps_drop_f (by decide), ps_up_f (by decide)]) (by rw [ps_drop_f (by decide), ps_up_f (by decide)])]
        exact hw
      · rw [ps_drop_f (f := 13) (by decide), ps_drop_f (f := 12) (by decide), ps_drop_f (f := 7) (by decide), ps_up_f (show 13 ≠ 29 by decide), ps_up_f (show 12 ≠ 29 by decide), ps_up_f (show 7 ≠ 29 by decide)]
        exact hru
    | false =>
      rw [hrr] at hk ih hru
      rw [if_neg (by decide)] at hk
      refine ⟨fun _ => ?_, fun z => absurd rfl z⟩
      simp only [pv_st, hM, eq_self, true_and]
      have hWm := ps_wf_mv hW hn hg hr hi' z1 hw
      have hwm : w + 1 ≤ 5000 / ps_wd (ps_mv μ g i r w).1 r := by rw [ps_wd_same (μ := μ) (ps_mv_f t9) (ps_mv_f t12)]; exact hw
      have hrm : ps_runs ((ps_mv μ g i r w).1 13 r) ((ps_mv μ g i r w).1 12 r) ((ps_mv μ g i r w).1 7 1) = false := by rw [ps_mv_f t13, ps_mv_f t12, ps_mv_f t7]; exact hru
      refine c_M_move hM' hD hW hg hr hi' z1 hw (fun z τ t1 t2 => ?_) (fun u z τ t1 t2 => ?_)
      · have em : ps_mv μ g i r w = (ps_drop (ps_up (ps_g1 μ g r w) 27 g (μ 27 g + 1)) g i, false) := by unfold ps_mv; rw [z]; rfl
        rw [em] at hk hWm hwm hrm
        rw [if_neg (show ¬ false = true from by decide)] at hk
        refine ⟨fun y => absurd rfl y, fun _ => ?_⟩
        have e27 : τ 27 g = μ 27 g := by rw [(ps_Md_e t1).2.2.2.2.2.2.2.1]; unfold ps_g1; rw [ps_up_nn (by decide)]
        simp (disch := omega) only [pv_st, hM, eq_self, true_and, true_or, pn_at, pn_cl, e27]
        refine ⟨by omega, by omega, ?_⟩
        refine c_M_dropTime hM' (by omega) (by omega) ?_
        have dn : ps_N (ps_drop (ps_up (ps_g1 μ g r w) 27 g (μ 27 g + 1)) g i) 24 g = ps_N μ 24 g - 1 := by
          show (ps_drop (ps_up (ps_g1 μ g r w) 27 g (μ 27 g + 1)) g i 24 g).toNatClampNeg = ps_N μ 24 g - 1
          unfold ps_g1
          rw [ps_drop_o.2.2, ps_up_nn (by decide), ps_up_nn (by decide), w6, show (1 : Int32) = nI 1 from rfl, pn_sub (by omega), nI_clamp (by omega)]
        exact ih i _ _ (rm_drop (rm_up t1 (by decide) (by decide) (by decide))) hWm hwm (by show ps_N (ps_drop (ps_up (ps_g1 μ g r w) 27 g (μ 27 g + 1)) g i) 24 g ≤ _; omega) hi hrm (fun υ y s1 s2 => hk υ y s1 (ps_Ofm_tr (ps_Ofm_tr t2 (ps_Ofm_tr (ps_Ofm_up (by decide) (by decide)) ps_Ofm_drop)) s2))
      · have em : (ps_mv μ g i r w).2 = true := by unfold ps_mv; rw [z]; rfl
        rw [em, if_pos rfl] at hk
        refine ⟨fun _ => ?_, fun y => absurd y (by decide)⟩
        have d24 : (ps_mv μ g i r w).1 24 = μ 24 := by
          unfold ps_mv
          rw [z]
          unfold ps_mvr ps_g1
          dsimp only
          rw [ps_up_f (by decide), ps_up_f (by decide), ps_up_f (by decide), ps_up_f (by decide)]
        have dn : ps_N (ps_mv μ g i r w).1 24 g = ps_N μ 24 g := by
          unfold ps_N
          rw [d24]
        exact ih (i + 1) τ _ t1 hWm hwm (by omega) (by omega) hrm (fun υ y s1 s2 => hk υ y s1 (ps_Ofm_tr t2 s2))
set_option maxHeartbeats 4000000 in
set_option maxRecDepth 100000 in
theorem c_M_we_2 {runs : Bool} {r w : Nat} {k : pw_Hp → Prop} (hM : ps_MS h) (hW : ps_Wf R G Nw μ ρ n) (hn : n < 100000) (hr : r < R) (hw : w + 1 ≤ 5000 / ps_wd μ r) (hru : ps_runs (μ 13 r) (μ 12 r) (μ 7 1) = runs) :
    ∀ (c g : Nat) (σ : ps_S) (y : Option pw_A), g + c = G → ps_Md R G m σ (ps_ew runs r w μ g) ρ → (∀ τ, ps_Md R G m τ (ps_ew runs r w μ G) ρ → ps_Ofm σ τ → k (pw_st h τ)) → pw_J pm_M_windowEnded (pw_qv k) 2 [some (.inr 7), some (.inl (nI r)), some (.inl (nI w)), some (.inl (nI g)), y] [] (pw_st h σ) 0 0 := by
  have hM' := hM
  have hG := hW.1.2.1
  unfold ps_MS at hM
  have t7 : ¬ ps_tdyn 7 := by unfold ps_tdyn; omega
  have t9 : ¬ ps_tdyn 9 := by unfold ps_tdyn; omega
  have t12 : ¬ ps_tdyn 12 := by unfold ps_tdyn; omega
  have t13 : ¬ ps_tdyn 13 := by unfold ps_tdyn; omega
  intro c
  induction c with
  | zero =>
    intro g σ y hc hD hk
    have v := hD.2.1.2.2.2.1
    refine pw_sound pw_tok pk_M_windowEnded 400 _ _ _ _ _ _ ?_
    simp only [pv_all, pv_stp, pe_M_windowEnded, pv_st, Nat.reduceAdd, eq_self, true_and, and_true, true_or, or_true, hM, v]
    rw [pn_le (by omega) (by omega)]
    exact ⟨fun _ => hk σ (by rw [← show g = G by omega]; rw [← show g = G by omega] at hD; exact hD) (ps_Ofm_rf σ), fun q => absurd (by omega) q⟩
  | succ c ih =>
    intro g σ y hc hD hk
    have v := hD.2.1.2.2.2.1
    have hWg := ps_wf_ew (runs := runs) hW hn hr hw g (by omega)
    refine pw_sound pw_tok pk_M_windowEnded 400 _ _ _ _ _ _ ?_
    simp only [pv_all, pv_stp, pe_M_windowEnded, pv_st, Nat.reduceAdd, eq_self, true_and, and_true, true_or, or_true, hM, v]
    rw [pn_le (by omega) (by omega)]
    refine ⟨fun q => absurd q (by omega), fun _ => ?_⟩
    have w7 := (hWg.2.2.1 g (by omega)).2.2.2.2.2.2.1
    refine c_M_we_13 (runs := runs) (n := n) (Nw := Nw) (G := G) (ρ := ρ) hM' hn (by omega) hr 2 0 σ (ps_ew runs r w μ g) hD hWg ?_ (by omega) (by omega) ?_ (fun τ y t1 t2 => ?_)
    · rw [ps_wd_same (μ := μ) (ps_ew_f t9 g) (ps_ew_f t12 g)]; exact hw
    · rw [ps_ew_f t13, ps_ew_f t12, ps_ew_f t7]; exact hru
    · exact ih (g + 1) τ y (by omega) t1 (fun υ s1 s2 => hk υ s1 (ps_Ofm_tr t2 s2))
set_option maxHeartbeats 4000000 in
set_option maxRecDepth 100000 in
theorem c_M_windowEnded {r w : Nat} {k : pw_Hp → Prop} (hM : ps_MS h) (hD : ps_Md R G m σ μ ρ) (hW : ps_Wf R G Nw μ ρ n) (hn : n < 100000) (hr : r < R) (hw : w + 1 ≤ 5000 / ps_wd μ r) (hk : ∀ τ, ps_Md R G m τ (ps_ew (ps_runs (μ 13 r) (μ 12 r) (μ 7 1)) r w μ G) ρ → ps_Ofm σ τ → k (pw_st h τ)) : pw_Cv 103 [.inr 7, .inl (nI r), .inl (nI w)] (pw_st h σ) k := by
  have hM' := hM
  unfold ps_MS at hM
  refine pw_intro (M := pm_M_windowEnded) rfl (by decide) (Nat.le_of_ble_eq_true rfl) (ls := [some (.inr 7), some (.inl (nI r)), some (.inl (nI w)), none, none]) rfl ?_
  refine pw_sound pw_tok pk_M_windowEnded 400 _ _ _ _ _ _ ?_
  simp only [pv_all, pv_stp, pe_M_windowEnded, pv_st, Nat.reduceAdd, eq_self, true_and, and_true, true_or, or_true, hM]
  exact c_M_we_2 hM' hW hn hr hw rfl G 0 σ none (Nat.zero_add G) hD hk
end PMW
