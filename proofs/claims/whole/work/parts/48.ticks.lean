/-! ParkRows: ticks. -/
def ps_t1 (μ : ps_S) : ps_S := ps_up μ 7 0 (μ 7 0 + 1)
def ps_rd (μ : ps_S) (ρ : ps_P) (G : Nat) : Nat → ps_S × ps_P × Nat
  | 0 => (μ, ρ, 0)
  | r + 1 =>
    if ps_N (ps_er (ps_rd μ ρ G r).1 r G) 7 0 % ps_turn (ps_er (ps_rd μ ρ G r).1 r G) r = 0 ∧ ps_runs (ps_er (ps_rd μ ρ G r).1 r G 13 r) (ps_er (ps_rd μ ρ G r).1 r G 12 r) (ps_er (ps_rd μ ρ G r).1 r G 7 1) = true
    then (ps_beg (ps_er (ps_rd μ ρ G r).1 r G) (ps_rd μ ρ G r).2.1 r, ps_r4 (ps_er (ps_rd μ ρ G r).1 r G) (ps_rd μ ρ G r).2.1 r, (ps_rd μ ρ G r).2.2 + (ps_N (ps_er (ps_rd μ ρ G r).1 r G) 8 r - ps_left (ps_er (ps_rd μ ρ G r).1 r G) (ps_rd μ ρ G r).2.1 r))
    else (ps_er (ps_rd μ ρ G r).1 r G, (ps_rd μ ρ G r).2.1, (ps_rd μ ρ G r).2.2)
def ps_wn (G : Nat) (μ : ps_S) : Nat → ps_S
  | 0 => μ
  | r + 1 => if ps_N (ps_wn G μ r) 7 0 % ps_wd (ps_wn G μ r) r = 0 then ps_ew (ps_runs (ps_wn G μ r 13 r) (ps_wn G μ r 12 r) (ps_wn G μ r 7 1)) r (ps_N (ps_wn G μ r) 7 0 / ps_wd (ps_wn G μ r) r - 1) (ps_wn G μ r) G else ps_wn G μ r
def ps_pt (R G : Nat) (s : ps_S × ps_P × Nat) : ps_S × ps_P × Nat := (ps_wn G (ps_rd (ps_t1 s.1) s.2.1 G R).1 R, (ps_rd (ps_t1 s.1) s.2.1 G R).2.1, s.2.2 + (ps_rd (ps_t1 s.1) s.2.1 G R).2.2)
def ps_tks (R G : Nat) (s : ps_S × ps_P × Nat) : Nat → ps_S × ps_P × Nat
  | 0 => s
  | m + 1 => ps_pt R G (ps_tks R G s m)
def ps_ticks (μ : ps_S) (ρ : ps_P) (R G : Nat) (x : Int32) : Int32 × ps_S × ps_P := if 1 ≤ x then (if x ≤ 5000 - μ 7 0 then (nI (ps_tks R G (μ, ρ, 0) x.toNatClampNeg).2.2, (ps_tks R G (μ, ρ, 0) x.toNatClampNeg).1, (ps_tks R G (μ, ρ, 0) x.toNatClampNeg).2.1) else (-6, ps_ref μ 6, ρ)) else (-4, ps_ref μ 4, ρ)
theorem ps_er_f {μ : ps_S} {r f : Nat} (h : ¬ ps_dyn f) : ∀ k, ps_er μ r k f = μ f := by
  unfold ps_dyn at h
  intro k
  induction k with
  | zero => rfl
  | succ k ih =>
    show ps_er1 (ps_er μ r k) r k f = μ f
    unfold ps_er1
    split
    · unfold ps_off1 ps_sr
      rw [ps_up_f (by omega), ps_up_f (by omega), ps_up_f (by omega), ih]
    · exact ih
theorem ps_beg_f {μ : ps_S} {ρ : ps_P} {r f : Nat} (h : ¬ ps_dyn f) : ps_beg μ ρ r f = μ f := by
  unfold ps_beg
  rw [ps_up_f (by unfold ps_dyn at h; omega), ps_up_f (by unfold ps_dyn at h; omega)]
  exact (ps_f4_f μ ρ r h).2.2.2
theorem ps_rd_f {μ : ps_S} {ρ : ps_P} {G f : Nat} (h : ¬ ps_dyn f) : ∀ k, (ps_rd μ ρ G k).1 f = μ f := by
  intro k
  induction k with
  | zero => rfl
  | succ k ih =>
    unfold ps_rd
    split
    · show ps_beg _ _ _ f = μ f
      rw [ps_beg_f h, ps_er_f h, ih]
    · show ps_er _ _ _ f = μ f
      rw [ps_er_f h, ih]
theorem ps_wn_f {G f : Nat} {μ : ps_S} (h : ¬ ps_tdyn f) : ∀ k, ps_wn G μ k f = μ f := by
  intro k
  induction k with
  | zero => rfl
  | succ k ih =>
    unfold ps_wn
    split
    · rw [ps_ew_f h, ih]
    · exact ih
section PTI
variable {h : pw_Hp} {R G : Nat} {aR aG Nw : Nat → Nat} {σ μ : ps_S} {ρ : ps_P} {n : Nat}
theorem ps_wf_7 {ν : ps_S} {n2 : Nat} (hW : ps_Wf R G Nw μ ρ n) (hn : n ≤ n2) (hf : ∀ f, f ≠ 7 → f ≠ 31 → ν f = μ f) (h0 : ps_W0 R G ν) (ht : ps_N μ 7 0 ≤ ps_N ν 7 0) : ps_Wf R G Nw ν ρ n2 := by
  obtain ⟨w0, w1, w2, w3, w4, w5, w6⟩ := hW
  have k8 : ν 8 = μ 8 := hf 8 (by decide) (by decide)
  have k9 : ν 9 = μ 9 := hf 9 (by decide) (by decide)
  have k10 : ν 10 = μ 10 := hf 10 (by decide) (by decide)
  have k11 : ν 11 = μ 11 := hf 11 (by decide) (by decide)
  have k12 : ν 12 = μ 12 := hf 12 (by decide) (by decide)
  have k13 : ν 13 = μ 13 := hf 13 (by decide) (by decide)
  have k14 : ν 14 = μ 14 := hf 14 (by decide) (by decide)
  have k15 : ν 15 = μ 15 := hf 15 (by decide) (by decide)
  have k16 : ν 16 = μ 16 := hf 16 (by decide) (by decide)
  have k17 : ν 17 = μ 17 := hf 17 (by decide) (by decide)
  have k18 : ν 18 = μ 18 := hf 18 (by decide) (by decide)
  have k19 : ν 19 = μ 19 := hf 19 (by decide) (by decide)
  have k20 : ν 20 = μ 20 := hf 20 (by decide) (by decide)
  have k21 : ν 21 = μ 21 := hf 21 (by decide) (by decide)
  have k23 : ν 23 = μ 23 := hf 23 (by decide) (by decide)
  have k24 : ν 24 = μ 24 := hf 24 (by decide) (by decide)
  have k25 : ν 25 = μ 25 := hf 25 (by decide) (by decide)
  have k26 : ν 26 = μ 26 := hf 26 (by decide) (by decide)
  have k27 : ν 27 = μ 27 := hf 27 (by decide) (by decide)
  have k28 : ν 28 = μ 28 := hf 28 (by decide) (by decide)
  have k29 : ν 29 = μ 29 := hf 29 (by decide) (by decide)
  have k30 : ν 30 = μ 30 := hf 30 (by decide) (by decide)
  have k32 : ν 32 = μ 32 := hf 32 (by decide) (by decide)
  have kw : ∀ r, ps_wd ν r = ps_wd μ r := ps_wd_same k9 k12
  refine ⟨h0, fun r hr => ?_, fun g hg => ?_, fun r b hr hb => ?_, fun r hr => ?_, ?_, ?_⟩
  · rw [kw]
    have := w1 r hr
    unfold ps_WR ps_N at this ⊢
    rw [k8, k9, k10, k11, k12, k13]
    exact this
  · obtain ⟨a1, a2, a3, a4, a5, a6, a7, a8, a9, a10, a11, a12, a13, a14⟩ := w2 g hg
    unfold ps_WG
    rw [show ps_N ν 19 g = ps_N μ 19 g from by unfold ps_N; rw [k19], show ps_N ν 20 g = ps_N μ 20 g from by unfold ps_N; rw [k20], show ps_N ν 21 g = ps_N μ 21 g from by unfold ps_N; rw [k21], show ps_N ν 23 g = ps_N μ 23 g from by unfold ps_N; rw [k23], show ps_N ν 24 g = ps_N μ 24 g from by unfold ps_N; rw [k24], show ps_N ν 27 g = ps_N μ 27 g from by unfold ps_N; rw [k27], k19, k20, k21, k23, k24, k27]
    refine ⟨a1, a2, a3, a4, a5, a6, a7, a8, by omega, a10, by omega, a12, a13, fun i hi => ?_⟩
    have := a14 i hi
    unfold ps_WT at this ⊢
    rw [kw, show ps_N ν 25 (2 * g + i) = ps_N μ 25 (2 * g + i) from by unfold ps_N; rw [k25], show ps_N ν 26 (2 * g + i) = ps_N μ 26 (2 * g + i) from by unfold ps_N; rw [k26], k25, k26]
    exact this
  · unfold ps_WL
    rw [k20, k21]
    exact w3 r b hr hb
  · rw [k32, ps_sumOn_same G (fun i _ => by unfold ps_onc; rw [k19, k20, k21])]
    exact w4 r hr
  · unfold ps_WK ps_N at w5 ⊢
    rw [k17]; exact w5
  · obtain ⟨z1, z2, z3⟩ := w6
    refine ⟨fun r w h1 h2 h3 => ?_, fun r h1 h2 => ?_, fun g h1 h2 => ?_⟩
    · rw [kw] at h3
      rw [k18]
      exact z1 r w h1 h2 h3
    · rw [k13, k14, k15, k16, k32]; exact z2 r h1 h2
    · rw [k20, k23, k24, k27, k28, k29, k30]; exact z3 g h1 h2
theorem ps_wf_ref {c n2 : Nat} (hW : ps_Wf R G Nw μ ρ n) (hn : n ≤ n2) : ps_Wf R G Nw (ps_ref μ c) ρ n2 := by
  have e : ∀ f, f ≠ 31 → ps_ref μ c f = μ f := fun f q => ps_up_f q
  refine ps_wf_7 hW hn (fun f _ q => e f q) ?_ ?_
  · have := hW.1
    unfold ps_W0 ps_N at this ⊢
    rw [e 7 (by decide)]
    exact this
  · unfold ps_N
    rw [e 7 (by decide)]
    exact Nat.le_refl _
theorem ps_wf_n {n2 : Nat} (hW : ps_Wf R G Nw μ ρ n) (hn : n ≤ n2) : ps_Wf R G Nw μ ρ n2 := ps_wf_7 hW hn (fun _ _ _ => rfl) hW.1 (Nat.le_refl _)
theorem ps_N_t1 (hW : ps_Wf R G Nw μ ρ n) : ps_t1 μ 7 0 = nI (ps_N μ 7 0 + 1) ∧ ps_N (ps_t1 μ) 7 0 = ps_N μ 7 0 + 1 := by
  have h1 := hW.1.2.2.1
  have h2 := hW.1.2.2.2.1
  have e : ps_t1 μ 7 0 = nI (ps_N μ 7 0 + 1) := by
    unfold ps_t1
    rw [ps_up_s, h1, nI_1]
  refine ⟨e, ?_⟩
  show (ps_t1 μ 7 0).toNatClampNeg = _
  rw [e]
  exact nI_clamp (by omega)
theorem ps_wf_t1 (hW : ps_Wf R G Nw μ ρ n) (ht : ps_N μ 7 0 + 1 ≤ 5000) : ps_Wf R G Nw (ps_t1 μ) ρ n := by
  obtain ⟨e1, e2⟩ := ps_N_t1 hW
  refine ps_wf_7 hW (Nat.le_refl n) (fun f q _ => ps_up_f q) ?_ (by omega)
  obtain ⟨a1, a2, a3, a4, a5, a6, a7⟩ := hW.1
  refine ⟨a1, a2, ?_, by omega, ?_, ?_, ?_⟩
  · rw [e1, e2]
  · unfold ps_t1; rw [ps_up_n (Or.inr (by decide))]; exact a5
  · unfold ps_t1; rw [ps_up_n (Or.inr (by decide))]; exact a6
  · unfold ps_t1; rw [ps_up_n (Or.inr (by decide))]; exact a7
theorem ps_wf_rd (hW : ps_Wf R G Nw μ ρ n) : ∀ k, k ≤ R → ps_Wf R G Nw (ps_rd μ ρ G k).1 (ps_rd μ ρ G k).2.1 n := by
  intro k
  induction k with
  | zero => intro _; exact hW
  | succ k ih =>
    intro hk
    have h1 := ps_wf_er (ih (by omega)) (r := k) (by omega) G (Nat.le_refl G)
    unfold ps_rd
    split
    · exact ps_wf_beg h1 (by omega)
    · exact h1
theorem ps_wn_w (hW : ps_Wf R G Nw μ ρ n) {r : Nat} (hr : r < R) (ht : 1 ≤ ps_N μ 7 0) (hm : ps_N μ 7 0 % ps_wd μ r = 0) : ps_N μ 7 0 / ps_wd μ r - 1 + 1 = ps_N μ 7 0 / ps_wd μ r ∧ ps_N μ 7 0 / ps_wd μ r - 1 + 1 ≤ 5000 / ps_wd μ r := by
  have p2 := ps_wd_pos (hW.2.1 r hr).1
  have tb := hW.1.2.2.2.1
  have hle : ps_N μ 7 0 / ps_wd μ r ≤ 5000 / ps_wd μ r := Nat.div_le_div_right tb
  have hd := Nat.div_add_mod (ps_N μ 7 0) (ps_wd μ r)
  have : 1 ≤ ps_N μ 7 0 / ps_wd μ r := by
    rcases Nat.eq_zero_or_pos (ps_N μ 7 0 / ps_wd μ r) with z | z
    · rw [z, hm] at hd; omega
    · exact z
  omega
theorem ps_wf_wn (hW : ps_Wf R G Nw μ ρ n) (hn : n < 100000) (ht : 1 ≤ ps_N μ 7 0) : ∀ k, k ≤ R → ps_Wf R G Nw (ps_wn G μ k) ρ n ∧ 1 ≤ ps_N (ps_wn G μ k) 7 0 := by
  intro k
  have e7 : ¬ ps_tdyn 7 := by unfold ps_tdyn; omega
  induction k with
  | zero => intro _; exact ⟨hW, ht⟩
  | succ k ih =>
    intro hk
    have h1 := ih (by omega)
    refine ⟨?_, by unfold ps_N; rw [ps_wn_f e7]; exact ht⟩
    unfold ps_wn
    split
    · rename_i z
      exact ps_wf_ew h1.1 hn (by omega) (ps_wn_w h1.1 (by omega) h1.2 z).2 G (Nat.le_refl G)
    · exact h1.1
theorem ps_wf_pt {m : Nat} (hW : ps_Wf R G Nw μ ρ n) (hn : n < 100000) (ht : ps_N μ 7 0 + 1 ≤ 5000) : ps_Wf R G Nw (ps_pt R G (μ, ρ, m)).1 (ps_pt R G (μ, ρ, m)).2.1 n ∧ ps_N (ps_pt R G (μ, ρ, m)).1 7 0 = ps_N μ 7 0 + 1 := by
  have h1 := ps_wf_t1 hW ht
  have e7 : ¬ ps_tdyn 7 := by unfold ps_tdyn; omega
  have d7 : ¬ ps_dyn 7 := by unfold ps_dyn; omega
  have h2 := ps_wf_rd h1 R (Nat.le_refl R)
  have e := (ps_N_t1 hW).2
  have h3 : ps_N (ps_rd (ps_t1 μ) ρ G R).1 7 0 = ps_N μ 7 0 + 1 := by
    unfold ps_N
    rw [ps_rd_f d7]
    exact e
  refine ⟨(ps_wf_wn h2 hn (by omega) R (Nat.le_refl R)).1, ?_⟩
  show ps_N (ps_wn G (ps_rd (ps_t1 μ) ρ G R).1 R) 7 0 = _
  unfold ps_N
  rw [ps_wn_f e7]
  exact h3
theorem ps_wf_tks (hW : ps_Wf R G Nw μ ρ n) (hn : n < 100000) : ∀ m, ps_N μ 7 0 + m ≤ 5000 → ps_Wf R G Nw (ps_tks R G (μ, ρ, 0) m).1 (ps_tks R G (μ, ρ, 0) m).2.1 n ∧ ps_N (ps_tks R G (μ, ρ, 0) m).1 7 0 = ps_N μ 7 0 + m := by
  intro m
  induction m with
  | zero => intro _; exact ⟨hW, rfl⟩
  | succ m ih =>
    intro hm
    obtain ⟨h1, h2⟩ := ih (by omega)
    have h3 := ps_wf_pt (m := (ps_tks R G (μ, ρ, 0) m).2.2) h1 hn (by omega)
    refine ⟨h3.1, ?_⟩
    have := h3.2
    show ps_N (ps_pt R G (ps_tks R G (μ, ρ, 0) m)).1 7 0 = _
    rw [show ps_tks R G (μ, ρ, 0) m = ((ps_tks R G (μ, ρ, 0) m).1, (ps_tks R G (μ, ρ, 0) m).2.1, (ps_tks R G (μ, ρ, 0) m).2.2) from rfl, this, h2]
    omega
set_option maxHeartbeats 4000000 in
set_option maxRecDepth 100000 in
theorem c_P_passTick_72 {s : Nat} {k : Int32 → pw_Hp → Prop} (hC : ps_CS h R G aR aG Nw) (hW : ps_Wf R G Nw μ ρ n) (hn : n < 100000) (ht : 1 ≤ ps_N μ 7 0) (hk : ∀ τ, ps_Rv R G aR aG Nw τ (ps_wn G μ R) ρ → ps_Off σ τ → k (nI s) (pw_st h τ)) :
    ∀ (m r : Nat) (σ1 : ps_S) (y : Option pw_A), r + m = R → ps_Rv R G aR aG Nw σ1 (ps_wn G μ r) ρ → ps_Off σ σ1 → pw_J pm_P_passTick (pw_qi k) 72 [some (.inr 2), some (.inl (nI s)), some (.inl (nI r)), y] [] (pw_st h σ1) 0 0 := by
  have hT := hC.1.1
  have hR8 := hC.2.1
  intro m
  induction m with
  | zero =>
    intro r σ1 y hm hV ho
    have v := hV.1.1
    refine pw_sound pw_tok pk_P_passTick 400 _ _ _ _ _ _ ?_
    simp only [pv_all, pv_stp, pe_P_passTick, pv_st, Nat.reduceAdd, eq_self, true_and, and_true, true_or, or_true, hT, v]
    simp (disch := omega) only [pn_le]
    exact ⟨fun _ => hk σ1 (by rw [show R = r by omega]; rw [show R = r by omega] at hV; exact hV) ho, fun q => absurd q (by omega)⟩
  | succ m ih =>
    intro r σ1 y hm hV ho
    have hr : r < R := by omega
    have v := hV.1.1
    obtain ⟨-, d2, -, -, N11, b40, -⟩ := hC.2.2.2.1 r hr
    obtain ⟨hWr, htr⟩ := ps_wf_wn hW hn ht r (by omega)
    have p2 := ps_wd_pos (hWr.2.1 r hr).1
    have tb := hWr.1.2.2.2.1
    obtain ⟨-, -, -, -, -, u5, -⟩ := (hV.2.1 r hr).1
    have et := hV.1.2.2.2.2.1
    rw [hWr.1.2.2.1] at et
    have nx : ∀ σ2 ν, ps_Rv R G aR aG Nw σ2 ν ρ → ps_Off σ σ2 → ν = ps_wn G μ (r + 1) → ∀ y, pw_J pm_P_passTick (pw_qi k) 72 [some (.inr 2), some (.inl (nI s)), some (.inl (nI r + 1)), y] [] (pw_st h σ2) 0 0 := fun σ2 ν a b c y => by rw [nI_1]; rw [c] at a; exact ih (r + 1) σ2 y (by omega) a b
    refine pw_sound pw_tok pk_P_passTick 400 _ _ _ _ _ _ ?_
    simp only [pv_all, pv_stp, pe_P_passTick, pv_st, Nat.reduceAdd, eq_self, true_and, and_true, true_or, or_true, hT, v]
    simp (disch := omega) only [pn_le]
    refine ⟨fun q => absurd q (by omega), fun _ => ?_⟩
    refine c_P_rideAt hC hV hr ⟨fun q => absurd q (by omega), fun _ => ⟨hT, d2.1, ?_⟩⟩
    simp only [pv_st]
    rw [et]
    refine c_D_beginsWindow d2 u5 (by omega) (by omega) tb ?_
    by_cases z : ps_N (ps_wn G μ r) 7 0 % ps_wd (ps_wn G μ r) r = 0
    · rw [if_pos z]
      refine ⟨fun q => absurd q (by decide), fun _ => ⟨hT, d2.1, ?_⟩⟩
      simp only [pv_st]
      rw [et]
      refine c_D_windowAt d2 u5 (by omega) (by omega) tb ⟨hT, ?_⟩
      obtain ⟨z1, z2⟩ := ps_wn_w hWr hr htr z
      rw [← z1, show (1 : Int32) = nI 1 from rfl, pn_sub (by omega), Nat.add_sub_cancel]
      refine c_P_endWindow hC hV hWr hn hr z2 (fun τ t1 t2 => nx τ _ t1 (ps_Off_tr ho t2) ?_ _)
      show _ = ps_wn G μ (r + 1)
      conv => rhs; unfold ps_wn
      rw [if_pos z]
    · rw [if_neg z]
      refine ⟨fun _ => nx σ1 _ hV ho ?_ _, fun q => absurd rfl q⟩
      conv => rhs; unfold ps_wn
      rw [if_neg z]
set_option maxHeartbeats 4000000 in
set_option maxRecDepth 100000 in
theorem c_P_passTick_14 {k : Int32 → pw_Hp → Prop} (hC : ps_CS h R G aR aG Nw) (hW : ps_Wf R G Nw μ ρ n) (hn : n < 100000) (ht : 1 ≤ ps_N μ 7 0) (hk : ∀ τ, ps_Rv R G aR aG Nw τ (ps_wn G (ps_rd μ ρ G R).1 R) (ps_rd μ ρ G R).2.1 → ps_Off σ τ → k (nI (ps_rd μ ρ G R).2.2) (pw_st h τ)) :
    ∀ (m r : Nat) (σ1 : ps_S) (y : Option pw_A), r + m = R → ps_Rv R G aR aG Nw σ1 (ps_rd μ ρ G r).1 (ps_rd μ ρ G r).2.1 → ps_Off σ σ1 → pw_J pm_P_passTick (pw_qi k) 14 [some (.inr 2), some (.inl (nI (ps_rd μ ρ G r).2.2)), some (.inl (nI r)), y] [] (pw_st h σ1) 0 0 := by
  have hT := hC.1.1
  have hR8 := hC.2.1
  have d7 : ¬ ps_dyn 7 := by unfold ps_dyn; omega
  intro m
  induction m with
  | zero =>
    intro r σ1 y hm hV ho
    have v := hV.1.1
    have er : r = R := by omega
    subst er
    refine pw_sound pw_tok pk_P_passTick 400 _ _ _ _ _ _ ?_
    simp only [pv_all, pv_stp, pe_P_passTick, pv_st, Nat.reduceAdd, eq_self, true_and, and_true, true_or, or_true, hT, v]
    simp (disch := omega) only [pn_le]
    refine ⟨fun _ => ?_, fun q => absurd q (by omega)⟩
    exact c_P_passTick_72 hC (ps_wf_rd hW r (Nat.le_refl r)) hn (by unfold ps_N; rw [ps_rd_f d7]; exact ht) hk r 0 σ1 _ (by omega) hV ho
  | succ m ih =>
    intro r σ1 y hm hV ho
    have hr : r < R := by omega
    have v := hV.1.1
    obtain ⟨-, d2, -, -, N11, b40, -⟩ := hC.2.2.2.1 r hr
    have hWr := ps_wf_rd hW r (by omega)
    have nx : ∀ σ2 s, ps_Rv R G aR aG Nw σ2 s.1 s.2.1 → ps_Off σ σ2 → s = ps_rd μ ρ G (r + 1) → ∀ y, pw_J pm_P_passTick (pw_qi k) 14 [some (.inr 2), some (.inl (nI s.2.2)), some (.inl (nI r + 1)), y] [] (pw_st h σ2) 0 0 := fun σ2 s a b c y => by rw [nI_1]; rw [c] at a ⊢; exact ih (r + 1) σ2 y (by omega) a b
    refine pw_sound pw_tok pk_P_passTick 400 _ _ _ _ _ _ ?_
    simp only [pv_all, pv_stp, pe_P_passTick, pv_st, Nat.reduceAdd, eq_self, true_and, and_true, true_or, or_true, hT, v]
    simp (disch := omega) only [pn_le]
    refine ⟨fun q => absurd q (by omega), fun _ => ?_⟩
    refine c_P_rideAt hC hV hr ⟨fun q => absurd q (by omega), fun _ => ⟨hT, ?_⟩⟩
    refine c_P_endRound hC hV hWr hr (fun τ t1 t2 => ⟨hT, hT, d2.1, ?_⟩)
    have hWe := ps_wf_er hWr hr G (Nat.le_refl G)
    have p2 := ps_wd_pos (hWe.2.1 r hr).1
    have tb := hWe.1.2.2.2.1
    obtain ⟨-, -, -, u3, u4, -, -, -, u11, -⟩ := (t1.2.1 r hr).1
    have et := t1.1.2.2.2.2.1
    have er7 := t1.1.2.2.2.2.2.1
    rw [hWe.1.2.2.1] at et
    simp only [pv_st]
    rw [et, er7]
    refine c_D_beginsRound d2 u4 (by omega) (by omega) tb ?_
    rw [u11, u3]
    by_cases z : ps_N (ps_er (ps_rd μ ρ G r).1 r G) 7 0 % ps_turn (ps_er (ps_rd μ ρ G r).1 r G) r = 0 ∧ ps_runs (ps_er (ps_rd μ ρ G r).1 r G 13 r) (ps_er (ps_rd μ ρ G r).1 r G 12 r) (ps_er (ps_rd μ ρ G r).1 r G 7 1) = true
    · rw [if_pos z]
      refine ⟨fun q => absurd q (by decide), fun _ => ⟨hT, ?_⟩⟩
      refine c_P_beginRound hC t1 hWe hr (fun τ2 s1 s2 => ?_)
      rw [pn_add]
      refine nx τ2 (ps_beg (ps_er (ps_rd μ ρ G r).1 r G) (ps_rd μ ρ G r).2.1 r, ps_r4 (ps_er (ps_rd μ ρ G r).1 r G) (ps_rd μ ρ G r).2.1 r, (ps_rd μ ρ G r).2.2 + (ps_N (ps_er (ps_rd μ ρ G r).1 r G) 8 r - ps_left (ps_er (ps_rd μ ρ G r).1 r G) (ps_rd μ ρ G r).2.1 r)) s1 (ps_Off_tr ho (ps_Off_tr t2 s2)) ?_ _
      conv => rhs; unfold ps_rd
      rw [if_pos z]
    · rw [if_neg z]
      refine ⟨fun _ => ?_, fun q => absurd rfl q⟩
      rw [Int32.add_zero]
      refine nx τ (ps_er (ps_rd μ ρ G r).1 r G, (ps_rd μ ρ G r).2.1, (ps_rd μ ρ G r).2.2) t1 (ps_Off_tr ho t2) ?_ _
      conv => rhs; unfold ps_rd
      rw [if_neg z]
set_option maxHeartbeats 4000000 in
set_option maxRecDepth 100000 in
theorem c_P_passTick {m : Nat} {k : Int32 → pw_Hp → Prop} (hC : ps_CS h R G aR aG Nw) (hV : ps_Rv R G aR aG Nw σ μ ρ) (hW : ps_Wf R G Nw μ ρ n) (hn : n < 100000) (ht : ps_N μ 7 0 + 1 ≤ 5000) (hk : ∀ τ x, ps_Rv R G aR aG Nw τ (ps_pt R G (μ, ρ, m)).1 (ps_pt R G (μ, ρ, m)).2.1 → ps_Off σ τ → nI m + x = nI (ps_pt R G (μ, ρ, m)).2.2 → k x (pw_st h τ)) : pw_Ci 113 [.inr 2] (pw_st h σ) k := by
  have hT := hC.1.1
  have et := hV.1.2.2.2.2.1
  have hV1 := ru_tick (x := μ 7 0 + 1) hC hV
  refine pw_intro (M := pm_P_passTick) rfl (by decide) (Nat.le_of_ble_eq_true rfl) (ls := [some (.inr 2), none, none, none]) rfl ?_
  refine pw_sound pw_tok pk_P_passTick 400 _ _ _ _ _ _ ?_
  simp only [pv_all, pv_stp, pe_P_passTick, pv_st, Nat.reduceAdd, eq_self, true_and, and_true, true_or, or_true, hT, et]
  refine c_P_passTick_14 (μ := ps_t1 μ) (σ := σ) hC (ps_wf_t1 hW ht) hn (by rw [(ps_N_t1 hW).2]; omega) (fun τ t1 t2 => hk τ _ t1 t2 (pn_add _ _)) R 0 _ _ (by omega) hV1 (ps_Off_up (by omega))
set_option maxHeartbeats 4000000 in
set_option maxRecDepth 100000 in
theorem c_P_ticks_35 {N : Nat} {k : Int32 → pw_Hp → Prop} (hC : ps_CS h R G aR aG Nw) (hW : ps_Wf R G Nw μ ρ n) (hn : n < 100000) (hN : ps_N μ 7 0 + N ≤ 5000) (hk : ∀ τ, ps_Rv R G aR aG Nw τ (ps_tks R G (μ, ρ, 0) N).1 (ps_tks R G (μ, ρ, 0) N).2.1 → ps_Off σ τ → k (nI (ps_tks R G (μ, ρ, 0) N).2.2) (pw_st h τ)) :
    ∀ (m i : Nat) (σ1 : ps_S), i + m = N → ps_Rv R G aR aG Nw σ1 (ps_tks R G (μ, ρ, 0) i).1 (ps_tks R G (μ, ρ, 0) i).2.1 → ps_Off σ σ1 → pw_J pm_P_ticks (pw_qi k) 35 [some (.inr 2), some (.inl (nI N)), some (.inl (nI (ps_tks R G (μ, ρ, 0) i).2.2)), some (.inl (nI i))] [] (pw_st h σ1) 0 0 := by
  have hT := hC.1.1
  intro m
  induction m with
  | zero =>
    intro i σ1 hm hV ho
    have er : i = N := by omega
    subst er
    refine pw_sound pw_tok pk_P_ticks 400 _ _ _ _ _ _ ?_
    simp only [pv_all, pv_stp, pe_P_ticks, pv_st, Nat.reduceAdd, eq_self, true_and, and_true, true_or, or_true, hT]
    simp (disch := omega) only [pn_le]
    exact ⟨fun _ => hk σ1 hV ho, fun q => absurd q (by omega)⟩
  | succ m ih =>
    intro i σ1 hm hV ho
    obtain ⟨h1, h2⟩ := ps_wf_tks hW hn i (by omega)
    refine pw_sound pw_tok pk_P_ticks 400 _ _ _ _ _ _ ?_
    simp only [pv_all, pv_stp, pe_P_ticks, pv_st, Nat.reduceAdd, eq_self, true_and, and_true, true_or, or_true, hT]
    simp (disch := omega) only [pn_le]
    refine ⟨fun q => absurd q (by omega), fun _ => ?_⟩
    refine c_P_passTick (m := (ps_tks R G (μ, ρ, 0) i).2.2) hC hV h1 hn (by omega) (fun τ x t1 t2 t3 => ?_)
    rw [t3, nI_1]
    exact ih (i + 1) τ (by omega) t1 (ps_Off_tr ho t2)
theorem ps_tks_c (hW : ps_Wf R G Nw μ ρ n) {x : Int32} (h1 : 1 ≤ x) (h2 : x ≤ 5000 - μ 7 0) : ∃ N, x = nI N ∧ ps_N μ 7 0 + N ≤ 5000 ∧ x.toNatClampNeg = N := by
  have a := hW.1.2.2.1
  have b := hW.1.2.2.2.1
  rw [a, show (5000 : Int32) = nI 5000 from rfl, pn_sub b] at h2
  rcases ps_cases x 5001 (by omega) with q | ⟨N, hN, rfl⟩
  · exfalso
    rw [fa_le'] at h1 h2
    rw [nI_toInt (by omega)] at h2
    rw [show (1 : Int32).toInt = 1 from rfl] at h1
    rcases q with q | q
    · rw [fa_lt', show (0 : Int32).toInt = 0 from rfl] at q; omega
    · rw [fa_le', nI_toInt (by omega)] at q; omega
  · rw [pn_le (by omega) (by omega)] at h2
    exact ⟨N, rfl, by omega, nI_clamp (by omega)⟩
set_option maxHeartbeats 4000000 in
set_option maxRecDepth 100000 in
theorem c_P_ticks {x : Int32} {k : Int32 → pw_Hp → Prop} (hC : ps_CS h R G aR aG Nw) (hV : ps_Rv R G aR aG Nw σ μ ρ) (hW : ps_Wf R G Nw μ ρ n) (hn : n < 100000) (hk : ∀ τ, ps_Rv R G aR aG Nw τ (ps_ticks μ ρ R G x).2.1 (ps_ticks μ ρ R G x).2.2 → ps_Off σ τ → k (ps_ticks μ ρ R G x).1 (pw_st h τ)) : pw_Ci 114 [.inr 2, .inl x] (pw_st h σ) k := by
  have hT := hC.1.1
  have et := hV.1.2.2.2.2.1
  unfold ps_ticks at hk
  refine pw_intro (M := pm_P_ticks) rfl (by decide) (Nat.le_of_ble_eq_true rfl) (ls := [some (.inr 2), some (.inl x), none, none]) rfl ?_
  refine pw_sound pw_tok pk_P_ticks 400 _ _ _ _ _ _ ?_
  simp only [pv_all, pv_stp, pe_P_ticks, pv_st, Nat.reduceAdd, eq_self, true_and, and_true, true_or, or_true, hT, et]
  refine ⟨fun q => ⟨fun q2 => ?_, fun q2 => ?_⟩, fun q => ?_⟩
  · rw [if_pos q, if_pos q2] at hk
    obtain ⟨N, e1, e2, e3⟩ := ps_tks_c hW q q2
    rw [e3] at hk
    rw [e1]
    exact c_P_ticks_35 hC hW hn e2 hk N 0 σ (by omega) hV (ps_Off_rf σ)
  · rw [if_pos q, if_neg q2] at hk
    exact c_P_ref hC hV (c := 5) (by decide) (by decide) hk
  · rw [if_neg q] at hk
    exact c_P_ref hC hV (c := 3) (by decide) (by decide) hk
end PTI
