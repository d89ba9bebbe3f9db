/-! ParkRows: a round ends. -/
def ps_er1 (ν : ps_S) (r g : Nat) : ps_S := if ν 20 g = 3 ∧ ν 21 g = nI r ∧ ps_N ν 9 r + ps_N ν 23 g ≤ ps_N ν 7 0 then ps_off1 ν g r else ν
def ps_er (μ : ps_S) (r : Nat) : Nat → ps_S
  | 0 => μ
  | g + 1 => ps_er1 (ps_er μ r g) r g
theorem ps_wf_er1 {R G n r g : Nat} {Nw : Nat → Nat} {μ : ps_S} {ρ : ps_P} (hW : ps_Wf R G Nw μ ρ n) (hr : r < R) (hg : g < G) : ps_Wf R G Nw (ps_er1 μ r g) ρ n := by
  unfold ps_er1
  split
  · rename_i q
    exact ps_wf_off1 hW hr hg q.1 q.2.1
  · exact hW
theorem ps_wf_er {R G n r : Nat} {Nw : Nat → Nat} {μ : ps_S} {ρ : ps_P} (hW : ps_Wf R G Nw μ ρ n) (hr : r < R) : ∀ k, k ≤ G → ps_Wf R G Nw (ps_er μ r k) ρ n := by
  intro k
  induction k with
  | zero => intro _; exact hW
  | succ k ih => intro hk; exact ps_wf_er1 (ih (by omega)) hr (by omega)
-- people on, counted
def ps_sumN (μ : ps_S) (r : Nat) : Nat → Nat
  | 0 => 0
  | g + 1 => ps_sumN μ r g + (if μ 20 g = 3 ∧ μ 21 g = nI r then ps_N μ 19 g else 0)
theorem ps_sumN_eq {μ : ps_S} {r : Nat} : ∀ k, (∀ g, g < k → μ 19 g = nI (ps_N μ 19 g)) → ps_sumOn μ r k = nI (ps_sumN μ r k) := by
  intro k
  induction k with
  | zero => intro _; rfl
  | succ k ih =>
    intro h
    rw [ps_sumOn_s, ih (fun g hg => h g (by omega)), show ps_sumN μ r (k + 1) = ps_sumN μ r k + (if μ 20 k = 3 ∧ μ 21 k = nI r then ps_N μ 19 k else 0) from rfl]
    unfold ps_onc
    by_cases z : μ 20 k = 3 ∧ μ 21 k = nI r
    · rw [if_pos z, if_pos z, ← pn_add, ← h k (by omega)]
    · rw [if_neg z, if_neg z, Nat.add_zero, Int32.add_zero]
theorem ps_sumN_le {μ : ps_S} {r : Nat} : ∀ k, (∀ g, g < k → ps_N μ 19 g ≤ 8) → ps_sumN μ r k ≤ 8 * k := by
  intro k
  induction k with
  | zero => intro _; exact Nat.le_refl 0
  | succ k ih =>
    intro h
    have h1 := ih (fun g hg => h g (by omega))
    have h2 := h k (by omega)
    unfold ps_sumN
    split <;> omega
theorem ps_sumN_0 {μ : ps_S} {r : Nat} : ∀ k, (∀ g, g < k → 1 ≤ ps_N μ 19 g) → ps_sumN μ r k = 0 → ∀ g, g < k → ¬ (μ 20 g = 3 ∧ μ 21 g = nI r) := by
  intro k
  induction k with
  | zero => intro _ _ g hg; omega
  | succ k ih =>
    intro h h0 g hg q
    unfold ps_sumN at h0
    have hk := h k (by omega)
    by_cases z : g = k
    · subst z
      rw [if_pos q] at h0
      omega
    · exact ih (fun i hi => h i (by omega)) (by omega) g (by omega) q
theorem ps_er_id {R G n r : Nat} {Nw : Nat → Nat} {μ : ps_S} {ρ : ps_P} (hW : ps_Wf R G Nw μ ρ n) (hr : r < R) (h0 : μ 32 r = 0) : ps_er μ r G = μ := by
  have hG := hW.1.2.1
  have h19 := fun g hg => hW.2.2.1 g hg
  have e1 := ps_sumN_eq (μ := μ) (r := r) G (fun g hg => (h19 g hg).1)
  have e2 := ps_sumN_le (μ := μ) (r := r) G (fun g hg => (h19 g hg).2.2.1)
  have e3 : ps_sumN μ r G = 0 := by
    have q : nI (ps_sumN μ r G) = nI 0 := by rw [← e1, ← hW.2.2.2.2.1 r hr, h0]; rfl
    rw [pn_eq (by omega) (by omega)] at q
    exact q
  have e4 := ps_sumN_0 (μ := μ) (r := r) G (fun g hg => (h19 g hg).2.1) e3
  have key : ∀ k, k ≤ G → ps_er μ r k = μ := by
    intro k
    induction k with
    | zero => intro _; rfl
    | succ k ih =>
      intro hk
      show ps_er1 (ps_er μ r k) r k = μ
      rw [ih (by omega)]
      unfold ps_er1
      rw [if_neg (fun q => e4 k (by omega) ⟨q.1, q.2.1⟩)]
  exact key G (Nat.le_refl _)
section PER
variable {h : pw_Hp} {R G : Nat} {aR aG Nw : Nat → Nat} {σ μ : ps_S} {ρ : ps_P} {n : Nat}
set_option maxHeartbeats 4000000 in
set_option maxRecDepth 100000 in
theorem c_P_endRound_10 {r : Nat} {k : pw_Hp → Prop} (hC : ps_CS h R G aR aG Nw) (hr : r < R) (hW : ps_Wf R G Nw μ ρ n) (hk : ∀ τ, ps_Rv R G aR aG Nw τ (ps_er μ r G) ρ → ps_Off σ τ → k (pw_st h τ)) :
    ∀ (m g : Nat) (σ1 : ps_S) (y : Option pw_A), g + m = G → ps_Rv R G aR aG Nw σ1 (ps_er μ r g) ρ → ps_Off σ σ1 → pw_J pm_P_endRound (pw_qv k) 10 [some (.inr 2), some (.inr (aR r)), some (.inl (nI g)), y] [] (pw_st h σ1) 0 0 := by
  have hT := hC.1.1
  have hG60 := hC.2.2.1
  have hR8 := hC.2.1
  obtain ⟨-, d2, -, -, -, b40, -⟩ := hC.2.2.2.1 r hr
  intro m
  induction m with
  | zero =>
    intro g σ1 y hm hV ho
    have v := hV.1.2.1
    refine pw_sound pw_tok pk_P_endRound 400 _ _ _ _ _ _ ?_
    simp only [pv_all, pv_stp, pe_P_endRound, pv_st, Nat.reduceAdd, eq_self, true_and, and_true, true_or, or_true, hT, v]
    simp (disch := omega) only [pn_le]
    exact ⟨fun _ => hk σ1 (by rw [show G = g by omega]; rw [show G = g by omega] at hV; exact hV) ho, fun q => absurd q (by omega)⟩
  | succ m ih =>
    intro g σ1 y hm hV ho
    have hg : g < G := by omega
    have hWg := ps_wf_er hW hr g (by omega)
    have v := hV.1.2.1
    obtain ⟨-, s2, a40, -⟩ := hC.2.2.2.2.1 g hg
    obtain ⟨m1, m2, m3, w4, w5, -, -, -, -, w10, w11, w12, w13, -⟩ := hWg.2.2.1 g hg
    obtain ⟨x1, x2, x3, x4, x5, x6, -⟩ := (hWg.2.1 r hr).1
    obtain ⟨e0, e1, e4, e5, e6, e7, -⟩ := hV.2.2 g hg
    obtain ⟨u0, u1, u2, -, -, -, -, -, -, u12, -⟩ := (hV.2.1 r hr).1
    have et := hV.1.2.2.2.2.1
    have tb := hWg.1.2.2.2.1
    rw [hWg.1.2.2.1] at et
    rw [w10] at e7
    rw [x4] at u2
    have nx : ∀ σ2, ps_Rv R G aR aG Nw σ2 (ps_er μ r (g + 1)) ρ → ps_Off σ σ2 → ∀ y, pw_J pm_P_endRound (pw_qv k) 10 [some (.inr 2), some (.inr (aR r)), some (.inl (nI g + 1)), y] [] (pw_st h σ2) 0 0 := fun σ2 a b y => by rw [nI_1]; exact ih (g + 1) σ2 y (by omega) a b
    have stay : ¬ (ps_er μ r g 20 g = 3 ∧ ps_er μ r g 21 g = nI r ∧ ps_N (ps_er μ r g) 9 r + ps_N (ps_er μ r g) 23 g ≤ ps_N (ps_er μ r g) 7 0) → ps_Rv R G aR aG Nw σ1 (ps_er μ r (g + 1)) ρ := fun q => by
      show ps_Rv R G aR aG Nw σ1 (ps_er1 (ps_er μ r g) r g) ρ
      unfold ps_er1
      rw [if_neg q]
      exact hV
    refine pw_sound pw_tok pk_P_endRound 400 _ _ _ _ _ _ ?_
    simp only [pv_all, pv_stp, pe_P_endRound, pv_st, Nat.reduceAdd, eq_self, true_and, and_true, true_or, or_true, hT, v]
    simp (disch := omega) only [pn_le]
    refine ⟨fun q => absurd q (by omega), fun _ => ?_⟩
    refine c_P_groupAt hC hV hg ⟨fun q => absurd q (by omega), fun _ => ⟨s2.1, ?_⟩⟩
    simp only [pv_st, s2.1, d2.1, hT, e5, e6, u0, et, u2, e7, u12, e1, true_and]
    refine ⟨fun q => nx _ (stay (fun z => q z.1)) ho _, fun q => ⟨fun q2 => nx _ (stay (fun z => q2 z.2.1)) ho _, fun q2 => ?_⟩⟩
    rw [show (nI (ps_N (ps_er μ r g) 7 0) - nI (ps_N (ps_er μ r g) 9 r) < nI (ps_N (ps_er μ r g) 23 g)) = ¬ (ps_N (ps_er μ r g) 9 r + ps_N (ps_er μ r g) 23 g ≤ ps_N (ps_er μ r g) 7 0) from propext (by
      rw [fa_lt', pk_sub_toInt (by omega) (by omega), nI_toInt (by omega)]
      omega)]
    refine ⟨fun q3 => nx _ (stay (fun z => q3 z.2.2)) ho _, fun q3 => ?_⟩
    have q3 := Classical.not_not.mp q3
    have hV1 := ru_D12 (x := ps_er μ r g 32 r - ps_er μ r g 19 g) hC hV hr
    refine c_G_turnTo s2 (nx _ ?_ ?_ _)
    · show ps_Rv R G aR aG Nw _ (ps_er1 (ps_er μ r g) r g) ρ
      unfold ps_er1
      rw [if_pos ⟨q, q2, q3⟩]
      exact ru_G6 hC (ru_G5 hC hV1 hg) hg
    · exact ps_Off_tr ho (ps_Off_tr (ps_Off_up (by omega)) (ps_Off_tr (ps_Off_up (by omega)) (ps_Off_up (by omega))))
set_option maxHeartbeats 4000000 in
set_option maxRecDepth 100000 in
theorem c_P_endRound {r : Nat} {k : pw_Hp → Prop} (hC : ps_CS h R G aR aG Nw) (hV : ps_Rv R G aR aG Nw σ μ ρ) (hW : ps_Wf R G Nw μ ρ n) (hr : r < R) (hk : ∀ τ, ps_Rv R G aR aG Nw τ (ps_er μ r G) ρ → ps_Off σ τ → k (pw_st h τ)) : pw_Cv 51 [.inr 2, .inr (aR r)] (pw_st h σ) k := by
  obtain ⟨-, d2, -, -, -, b40, -⟩ := hC.2.2.2.1 r hr
  have u12 := (hV.2.1 r hr).1.2.2.2.2.2.2.2.2.2.1
  refine pw_intro (M := pm_P_endRound) rfl (by decide) (Nat.le_of_ble_eq_true rfl) (ls := [some (.inr 2), some (.inr (aR r)), none, none]) rfl ?_
  refine pw_sound pw_tok pk_P_endRound 400 _ _ _ _ _ _ ?_
  simp only [pv_all, pv_stp, pe_P_endRound, pv_st, Nat.reduceAdd, eq_self, true_and, and_true, true_or, or_true, d2.1, u12]
  refine ⟨fun _ => ?_, fun q => ?_⟩
  · exact c_P_endRound_10 hC hr hW hk G 0 σ none (by omega) hV (ps_Off_rf σ)
  · exact hk σ (by rw [ps_er_id hW hr q]; exact hV) (ps_Off_rf σ)
end PER
