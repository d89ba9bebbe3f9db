/-! The reference: come. -/
def ps_fc (μ : ps_S) (g r : Nat) : Nat → Int32 → Int32
  | 0, f => f
  | c + 1, f => ps_fc μ g r c (if ps_mt μ g r c = true then nI c else f)
section PMC
variable {h : pw_Hp} {R G m n : Nat} {Nw : Nat → Nat} {σ μ : ps_S} {ρ : ps_P}
theorem ps_hzs (hW : ps_Wf R G Nw μ ρ n) : ∀ r w, r < 8 → w < 1100 → (R ≤ r ∨ 5000 / ps_wd μ r + 41 ≤ w) → μ 18 (1100 * r + w) = 0 := hW.2.2.2.2.2.2.1
theorem ps_wf_d1 (hW : ps_Wf R G Nw μ ρ n) (hn : n < 100000) {g j : Nat} (hg : g < G) (hj : j < ps_N μ 24 g) : ps_Wf R G Nw (ps_drop μ g j) ρ n := by
  obtain ⟨-, -, -, -, -, a6, a7, a8, a9, -⟩ := hW.2.2.1 g hg
  exact ps_wf_drop hW hg (Nat.le_refl n) hn hj (m := ps_N μ 27 g) (fun f _ _ _ _ => rfl) (fun i hi => ⟨rfl, rfl, rfl⟩) a8 (by omega) (ps_hzs hW)
theorem ps_wf_a1 (hW : ps_Wf R G Nw μ ρ n) (hn : n < 100000) {g : Nat} (hg : g < G) (h1 : 1 ≤ ps_N μ 27 g) : ps_Wf R G Nw (ps_up μ 27 g (μ 27 g - 1)) ρ n := by
  obtain ⟨-, -, -, -, -, a6, a7, a8, a9, -, -, -, -, a14⟩ := hW.2.2.1 g hg
  refine ps_wf_tg hW hg (Nat.le_refl n) (fun f hf => ps_up_f (by unfold ps_tdyn at hf; omega)) (fun i hi => ⟨ps_up_nn (by decide), ps_up_n (Or.inr hi), ps_up_nn (by decide), ps_up_nn (by decide)⟩) (fun i hi => ⟨ps_up_nn (by decide), ps_up_nn (by decide)⟩) (ps_N μ 24 g) (ps_N μ 27 g - 1) ?_ a7 ?_ (by omega) hn (fun i hi => ?_) (fun r w h1 h2 h3 => ?_)
  · rw [ps_up_nn (by decide)]; exact a6
  · rw [ps_up_s, a8, show (1 : Int32) = nI 1 from rfl, pn_sub (by omega)]
  · have := a14 i hi
    unfold ps_WT ps_N at this
    unfold ps_N
    rw [ps_up_f (show 25 ≠ 27 by decide), ps_up_f (show 26 ≠ 27 by decide)]
    exact this
  · rw [ps_up_nn (by decide)]; exact ps_hzs hW r w h1 h2 h3
theorem ps_fc_in {g r : Nat} : ∀ (c : Nat) (f : Int32) (t : Nat), c ≤ t → (f = -1 ∨ ∃ j, j < t ∧ f = nI j) → (ps_fc μ g r c f = -1 ∨ ∃ j, j < t ∧ ps_fc μ g r c f = nI j) := by
  intro c
  induction c with
  | zero => intro f t _ hf; exact hf
  | succ c ih =>
    intro f t hc hf
    unfold ps_fc
    refine ih _ t (by omega) ?_
    by_cases q : ps_mt μ g r c = true
    · rw [if_pos q]; exact Or.inr ⟨c, by omega, rfl⟩
    · rw [if_neg q]; exact hf
theorem ps_come_n {g r : Nat} (hW : ps_Wf R G Nw μ ρ n) (hg : g < G) (h0 : ps_N μ 20 g = 0) (hf : ps_fc μ g r (ps_N μ 24 g) (-1) = -1) : ps_come μ ρ g r = if ps_N μ 27 g = 0 then (-3, ps_ref μ 3, ρ) else ps_cm μ ρ g r (ps_up μ 27 g (μ 27 g - 1)) := by
  obtain ⟨-, -, -, -, -, a6, a7, -⟩ := hW.2.2.1 g hg
  have n0 : ¬ ps_mt μ g r 0 = true ∨ ps_N μ 24 g = 0 := by
    rcases (show ps_N μ 24 g = 0 ∨ ps_N μ 24 g = 1 ∨ ps_N μ 24 g = 2 by omega) with q | q | q
    · exact Or.inr q
    · left; intro z; rw [q] at hf; unfold ps_fc ps_fc at hf; rw [if_pos z] at hf; exact absurd hf (by decide)
    · left; intro z; rw [q] at hf; unfold ps_fc ps_fc ps_fc at hf; rw [if_pos z] at hf; exact absurd hf (by decide)
  have n1 : ¬ ps_mt μ g r 1 = true ∨ ps_N μ 24 g ≤ 1 := by
    rcases (show ps_N μ 24 g ≤ 1 ∨ ps_N μ 24 g = 2 by omega) with q | q
    · exact Or.inr q
    · left; intro z; rw [q] at hf; unfold ps_fc ps_fc ps_fc at hf
      rw [if_pos z, if_neg (fun w => n0.elim (fun v => v w) (fun v => by omega))] at hf; exact absurd hf (by decide)
  unfold ps_come
  rw [if_neg (fun z => z h0), if_neg (fun z => n0.elim (fun v => v z.2) (fun v => by omega)), if_neg (fun z => n1.elim (fun v => v z.2) (fun v => by omega))]
theorem ps_come_j {g r j : Nat} (hW : ps_Wf R G Nw μ ρ n) (hg : g < G) (h0 : ps_N μ 20 g = 0) (hj : j < ps_N μ 24 g) (hf : ps_fc μ g r (ps_N μ 24 g) (-1) = nI j) : ps_come μ ρ g r = ps_cm μ ρ g r (ps_drop μ g j) := by
  obtain ⟨-, -, -, -, -, a6, a7, -⟩ := hW.2.2.1 g hg
  have h9 : ∀ j : Nat, j < 2 → ¬ (-1 : Int32) = nI j := fun j hj z => by
    rcases (show j = 0 ∨ j = 1 by omega) with rfl | rfl
    · exact absurd z (by decide)
    · exact absurd z (by decide)
  unfold ps_come
  rw [if_neg (fun z => z h0)]
  by_cases z0 : ps_mt μ g r 0 = true
  · have : j = 0 := by
      rcases (show ps_N μ 24 g = 1 ∨ ps_N μ 24 g = 2 by omega) with q | q
      · omega
      · rw [q] at hf; unfold ps_fc ps_fc ps_fc at hf; rw [if_pos z0] at hf; exact (Eq.mp (pn_eq (a := 0) (b := j) (by decide) (by omega)) hf).symm
    rw [if_pos ⟨by omega, z0⟩, this]
  · rw [if_neg (fun z => z0 z.2)]
    rcases (show ps_N μ 24 g = 1 ∨ ps_N μ 24 g = 2 by omega) with q | q
    · rw [q] at hf; unfold ps_fc ps_fc at hf; rw [if_neg z0] at hf
      exact absurd hf (h9 j (by omega))
    · rw [q] at hf; unfold ps_fc ps_fc ps_fc at hf; rw [if_neg z0] at hf
      by_cases z1 : ps_mt μ g r 1 = true
      · rw [if_pos z1] at hf
        have hj1 : 1 = j := Eq.mp (pn_eq (a := 1) (b := j) (by decide) (by omega)) hf
        rw [if_pos ⟨by omega, z1⟩]
        subst hj1
        rfl
      · rw [if_neg z1] at hf
        exact absurd hf (h9 j (by omega))
set_option maxHeartbeats 4000000 in
set_option maxRecDepth 100000 in
theorem c_M_come_b {x y : Int32} {k : Int32 → pw_Hp → Prop} (hM : ps_MS h) (hD : ps_Md R G m σ μ ρ) (hR : R ≤ 8) (hG : G ≤ 60) (hb : ps_bad2 G R x y) (hk : ∀ τ, ps_Md R G m τ (ps_ref μ 1) ρ → ps_Ofm σ τ → k (-1) (pw_st h τ)) : pw_Ci 81 [.inr 7, .inl x, .inl y] (pw_st h σ) k := by
  have hM' := hM
  unfold ps_MS at hM
  have fin : pw_Ci 20 [.inr 7, .inl (-1)] (pw_st h σ) fun x h' => k x h' := c_M_ref hM' hD (c := 1) (by decide) (by decide) hk
  refine pw_intro (M := pm_M_come) rfl (by decide) (Nat.le_of_ble_eq_true rfl) (ls := [some (.inr 7), some (.inl x), some (.inl y), none, none]) rfl ?_
  refine pw_sound pw_tok pk_M_come 400 _ _ _ _ _ _ ?_
  simp only [pv_all, pv_stp, pe_M_come, pv_st, Nat.reduceAdd, eq_self, true_and, and_true, true_or, or_true, hM]
  rcases ps_cases x G (by omega) with z | ⟨g, hg, rfl⟩
  · refine c_M_isGroup_o hM' hD hG z ⟨fun _ => ?_, fun q => absurd rfl q⟩
    simp only [pv_st, hM, eq_self, true_and]
    exact fin
  · refine c_M_isGroup hM' hD hG hg ⟨fun q => absurd q (by decide), fun _ => ?_⟩
    simp only [pv_st, hM, eq_self, true_and]
    rcases hb with hb | hb
    · exact absurd hb (fun z => absurd rfl (pn_out z (by omega) g hg))
    · refine c_M_isRide_o hM' hD hR hb ⟨fun q => absurd rfl q, fun _ => ?_⟩
      simp only [pv_st, hM, eq_self, true_and]
      exact fin
set_option maxHeartbeats 4000000 in
set_option maxRecDepth 100000 in
theorem c_M_come_50 {g r : Nat} {k : Int32 → pw_Hp → Prop} (hM : ps_MS h) (hD : ps_Md R G m σ μ ρ) (hW : ps_Wf R G Nw μ ρ n) (hn : n < 100000) (hm : m < 99999) (hg : g < G) (hr : r < R) (h0 : ps_N μ 20 g = 0) (hk : ∀ τ m2, m2 ≤ m + 1 → ps_Md R G m2 τ (ps_come μ ρ g r).2.1 (ps_come μ ρ g r).2.2 → ps_Ofm σ τ → k (ps_come μ ρ g r).1 (pw_st h τ)) :
    ∀ (c : Nat) (f : Int32), c ≤ ps_N μ 24 g → ps_fc μ g r c f = ps_fc μ g r (ps_N μ 24 g) (-1) → pw_J pm_M_come (pw_qi k) 50 [some (.inr 7), some (.inl (nI g)), some (.inl (nI r)), some (.inl f), some (.inl (nI c - 1))] [] (pw_st h σ) 0 0 := by
  have hM' := hM
  have e := ps_Md_e hD
  have hR := hW.1.1
  have hG := hW.1.2.1
  obtain ⟨-, -, -, w4, -, w6, w7, w8, w9, -, -, -, -, w14⟩ := hW.2.2.1 g hg
  have wr := (hW.2.1 r hr).1
  have p := ps_wd_pos wr
  have et := hD.2.1.1
  have tb := hW.1.2.2.2.1
  have h20 : μ 20 g = 0 := by rw [w4, h0]; rfl
  rw [hW.1.2.2.1] at et
  unfold ps_MS at hM
  intro c
  induction c with
  | zero =>
    intro f hc hf
    have hf : f = ps_fc μ g r (ps_N μ 24 g) (-1) := hf
    refine pw_sound pw_tok pk_M_come 400 _ _ _ _ _ _ ?_
    simp only [pv_all, pv_stp, pe_M_come, pv_st, Nat.reduceAdd, eq_self, true_and, and_true, true_or, or_true, hM]
    refine ⟨fun _ => ?_, fun q => absurd (by decide) q⟩
    rcases ps_fc_in (μ := μ) (g := g) (r := r) (ps_N μ 24 g) (-1) (ps_N μ 24 g) (Nat.le_refl _) (Or.inl rfl) with q | ⟨j, hj, q⟩
    · rw [ps_come_n hW hg h0 q] at hk
      rw [hf, q]
      simp (disch := omega) only [pn_at, pn_cl, e, w8]
      refine ⟨fun q => absurd q (by decide), fun _ => ⟨by omega, fun q2 => ⟨fun _ => ⟨by omega, by omega, ?_⟩, fun q => absurd (by decide) q⟩, fun q2 => ?_⟩⟩
      · have hne : ps_N μ 27 g ≠ 0 := fun z => q2 (by rw [z]; rfl)
        rw [if_neg hne] at hk
        rw [← w8]
        refine c_M_into (b := 1) (n := n) (Nw := Nw) hM' (rm_up (f := 27) (i := g) (x := μ 27 g - 1) hD (by decide) (by decide) (by decide)) (ps_wf_a1 hW hn hg (by omega)) hm hg hr (by decide) (by rw [ps_up_nn (by decide)]; exact h20) (fun τ t1 t2 => ?_)
        exact hk τ (m + 1) (Nat.le_refl _) t1 (ps_Ofm_tr (ps_Ofm_up (by decide) (by decide)) t2)
      · have hz : ps_N μ 27 g = 0 := by rw [show (0 : Int32) = nI 0 from rfl, pn_eq (by omega) (by omega)] at q2; exact q2
        rw [if_pos hz] at hk
        exact c_M_ref hM' hD (c := 3) (by decide) (by decide) (fun τ t1 t2 => hk τ m (by omega) t1 t2)
    · rw [ps_come_j hW hg h0 hj q] at hk
      rw [hf, q]
      have hj0 : ¬ nI j < 0 := nI_pos (by omega)
      refine ⟨fun _ => ⟨fun q => absurd q hj0, fun _ => ?_⟩, fun q => absurd (fa_of_nlt' hj0) q⟩
      refine c_M_dropTime hM' (by omega) (by omega) ?_
      simp only [pv_st, hM, eq_self, true_and]
      refine c_M_into (b := 1) (n := n) (Nw := Nw) hM' (rm_drop (g := g) (j := j) hD) (ps_wf_d1 hW hn hg hj) hm hg hr (by decide) (by rw [ps_drop_f (by decide)]; exact h20) (fun τ t1 t2 => ?_)
      exact hk τ (m + 1) (Nat.le_refl _) t1 (ps_Ofm_tr ps_Ofm_drop t2)
  | succ c ih =>
    intro f hc hf
    obtain ⟨t1, t2, t3, t4⟩ := w14 c (by omega)
    have hf : ps_fc μ g r c (if ps_mt μ g r c = true then nI c else f) = ps_fc μ g r (ps_N μ 24 g) (-1) := hf
    have e1 : nI (c + 1) - 1 = nI c := by rw [show (1 : Int32) = nI 1 from rfl, pn_sub (by omega)]; rfl
    have e2 : (2 : Int32) * nI g + nI c = nI (2 * g + c) := by rw [show (2 : Int32) = nI 2 from rfl, pn_mul, pn_add]
    have e3 : nI c + -1 = nI c - 1 := (Int32.sub_eq_add_neg _ _).symm
    have hd0 : ¬ nI (ps_wd μ r) = 0 := by rw [show (0 : Int32) = nI 0 from rfl, pn_eq (by omega) (by omega)]; omega
    have no : ¬ (μ 25 (2 * g + c) = nI r ∧ μ 26 (2 * g + c) = nI (ps_N μ 7 0 / ps_wd μ r)) → pw_J pm_M_come (pw_qi k) 50 [some (.inr 7), some (.inl (nI g)), some (.inl (nI r)), some (.inl f), some (.inl (nI c - 1))] [] (pw_st h σ) 0 0 := fun z => by
      rw [if_neg (fun w => z (ps_mt_iff.mp w))] at hf
      exact ih f (by omega) hf
    have hc0 : ¬ nI c < 0 := nI_pos (by omega)
    rw [e1]
    refine pw_sound pw_tok pk_M_come 400 _ _ _ _ _ _ ?_
    simp only [pv_all, pv_stp, pe_M_come, pv_st, Nat.reduceAdd, eq_self, true_and, and_true, true_or, or_true, hM, e2, et, e3]
    simp (disch := omega) only [pn_at, pn_cl, e]
    refine ⟨fun q => absurd q hc0, fun _ => ⟨by omega, fun q => no (fun z => q z.1), fun q1 => ⟨by omega, ?_⟩⟩⟩
    refine c_M_width hM' hD hR hr wr ⟨hd0, ?_⟩
    rw [pn_div (by omega) (by omega) (by omega)]
    refine ⟨fun q => no (fun z => q z.2), fun q2 => ?_⟩
    rw [if_pos (ps_mt_iff.mpr ⟨q1, q2⟩)] at hf
    exact ih (nI c) (by omega) hf
set_option maxHeartbeats 4000000 in
set_option maxRecDepth 100000 in
theorem c_M_come {g r : Nat} {k : Int32 → pw_Hp → Prop} (hM : ps_MS h) (hD : ps_Md R G m σ μ ρ) (hW : ps_Wf R G Nw μ ρ n) (hn : n < 100000) (hm : m < 99999) (hg : g < G) (hr : r < R) (hk : ∀ τ m2, m2 ≤ m + 1 → ps_Md R G m2 τ (ps_come μ ρ g r).2.1 (ps_come μ ρ g r).2.2 → ps_Ofm σ τ → k (ps_come μ ρ g r).1 (pw_st h τ)) : pw_Ci 81 [.inr 7, .inl (nI g), .inl (nI r)] (pw_st h σ) k := by
  have hM' := hM
  have e := ps_Md_e hD
  have hR := hW.1.1
  have hG := hW.1.2.1
  obtain ⟨-, -, -, w4, w5, w6, -⟩ := hW.2.2.1 g hg
  unfold ps_MS at hM
  refine pw_intro (M := pm_M_come) rfl (by decide) (Nat.le_of_ble_eq_true rfl) (ls := [some (.inr 7), some (.inl (nI g)), some (.inl (nI r)), none, none]) rfl ?_
  refine pw_sound pw_tok pk_M_come 400 _ _ _ _ _ _ ?_
  simp only [pv_all, pv_stp, pe_M_come, pv_st, Nat.reduceAdd, eq_self, true_and, and_true, true_or, or_true, hM]
  refine c_M_isGroup hM' hD hG hg ⟨fun q => absurd q (by decide), fun _ => ?_⟩
  simp only [pv_st, hM, eq_self, true_and]
  refine c_M_isRide hM' hD hR hr ⟨fun _ => ?_, fun q => absurd q (by decide)⟩
  simp (disch := omega) only [pv_st, hM, eq_self, true_and, true_or, pn_at, pn_cl, e, w4, w6]
  rw [show (0 : Int32) = nI 0 from rfl, pn_eq (by omega) (by omega)]
  refine ⟨by omega, fun q => ⟨by omega, ?_⟩, fun q => ?_⟩
  · exact c_M_come_50 hM' hD hW hn hm hg hr q hk _ (-1) (Nat.le_refl _) rfl
  · unfold ps_come at hk
    rw [if_pos q] at hk
    exact c_M_ref hM' hD (c := 2) (by decide) (by decide) (fun τ t1 t2 => hk τ m (by omega) t1 t2)
end PMC
