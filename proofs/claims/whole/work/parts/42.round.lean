/-! ParkRows: a round begins, a round ends. -/
def ps_f1 (μ : ps_S) (ρ : ps_P) (r : Nat) : ps_S × List Nat × Nat := ps_fill r (ρ (2 * r + 1)) μ (ps_N μ 10 r)
def ps_f2 (μ : ps_S) (ρ : ps_P) (r : Nat) : ps_S × List Nat × Nat := ps_fill r (ρ (2 * r)) (ps_f1 μ ρ r).1 (ps_N μ 8 r - (ps_f1 μ ρ r).2.2)
def ps_f3 (μ : ps_S) (ρ : ps_P) (r : Nat) : ps_S × List Nat × Nat := ps_fill r (ps_f1 μ ρ r).2.1 (ps_f2 μ ρ r).1 (ps_N μ 8 r - (ps_f1 μ ρ r).2.2 - (ps_f2 μ ρ r).2.2)
def ps_f4 (μ : ps_S) (ρ : ps_P) (r : Nat) : ps_S × List Nat × Nat := if μ 12 r = 1 then ps_sing r (ps_f2 μ ρ r).2.1 (ps_f3 μ ρ r).1 (ps_N μ 8 r - (ps_f1 μ ρ r).2.2 - (ps_f2 μ ρ r).2.2 - (ps_f3 μ ρ r).2.2) else ((ps_f3 μ ρ r).1, (ps_f2 μ ρ r).2.1, 0)
def ps_left (μ : ps_S) (ρ : ps_P) (r : Nat) : Nat := ps_N μ 8 r - (ps_f1 μ ρ r).2.2 - (ps_f2 μ ρ r).2.2 - (ps_f3 μ ρ r).2.2 - (ps_f4 μ ρ r).2.2
def ps_r1 (μ : ps_S) (ρ : ps_P) (r : Nat) : ps_P := ps_ur ρ (2 * r + 1) (ps_f1 μ ρ r).2.1
def ps_r2 (μ : ps_S) (ρ : ps_P) (r : Nat) : ps_P := ps_ur (ps_r1 μ ρ r) (2 * r) (ps_f2 μ ρ r).2.1
def ps_r3 (μ : ps_S) (ρ : ps_P) (r : Nat) : ps_P := ps_ur (ps_r2 μ ρ r) (2 * r + 1) (ps_f3 μ ρ r).2.1
def ps_r4 (μ : ps_S) (ρ : ps_P) (r : Nat) : ps_P := ps_ur (ps_r3 μ ρ r) (2 * r) (ps_f4 μ ρ r).2.1
def ps_beg (μ : ps_S) (ρ : ps_P) (r : Nat) : ps_S := ps_up (ps_up (ps_f4 μ ρ r).1 16 r ((ps_f4 μ ρ r).1 16 r + 1)) 15 r ((ps_f4 μ ρ r).1 15 r + nI (ps_left μ ρ r))
theorem ps_wf_fill {R G n r b : Nat} {Nw : Nat → Nat} (hr : r < R) (hb : b < 2) : ∀ (L : List Nat) (μ : ps_S) (ρ : ps_P) (m : Nat), ps_Wf R G Nw μ ρ n → ρ (2 * r + b) = L → ps_Wf R G Nw (ps_fill r L μ m).1 (ps_ur ρ (2 * r + b) (ps_fill r L μ m).2.1) n := by
  intro L
  induction L with
  | nil =>
    intro μ ρ m hW hL
    show ps_Wf R G Nw μ (ps_ur ρ (2 * r + b) []) n
    rw [← hL, ps_ur_id]
    exact hW
  | cons g L ih =>
    intro μ ρ m hW hL
    have hmem : g ∈ ρ (2 * r + b) := by rw [hL]; exact List.mem_cons_self
    unfold ps_fill
    split
    · have hW2 := ps_wf_board hW hr hb hmem
      rw [show (ρ (2 * r + b)).erase g = L by rw [hL]; simp] at hW2
      have := ih (ps_bd μ g r) _ (m - ps_N μ 19 g) hW2 (ps_ur_s _ _ _)
      rw [ps_ur_ur] at this
      exact this
    · show ps_Wf R G Nw μ (ps_ur ρ (2 * r + b) (g :: L)) n
      rw [← hL, ps_ur_id]
      exact hW
theorem ps_wf_sing {R G n r : Nat} {Nw : Nat → Nat} (hr : r < R) : ∀ (L P : List Nat) (μ : ps_S) (ρ : ps_P) (m : Nat), ps_Wf R G Nw μ ρ n → ρ (2 * r) = P ++ L → ps_Wf R G Nw (ps_sing r L μ m).1 (ps_ur ρ (2 * r) (P ++ (ps_sing r L μ m).2.1)) n := by
  intro L
  induction L with
  | nil =>
    intro P μ ρ m hW hL
    show ps_Wf R G Nw μ (ps_ur ρ (2 * r) (P ++ [])) n
    rw [← hL, ps_ur_id]
    exact hW
  | cons g L ih =>
    intro P μ ρ m hW hL
    have hmem : g ∈ ρ (2 * r) := by rw [hL]; simp
    unfold ps_sing
    split
    · show ps_Wf R G Nw μ (ps_ur ρ (2 * r) (P ++ (g :: L))) n
      rw [← hL, ps_ur_id]
      exact hW
    · split
      · have hW2 := ps_wf_board hW hr (b := 0) (by decide) hmem
        have l1 := (hW.2.2.2.1 r 0 hr (by decide)).1
        rw [Nat.add_zero] at l1 hW2
        have hgP : g ∉ P := by
          rw [hL] at l1
          have := List.nodup_append.mp l1
          exact fun q => (this.2.2 g q g List.mem_cons_self) rfl
        rw [show (ρ (2 * r)).erase g = P ++ L by rw [hL, List.erase_append_right _ hgP]; simp] at hW2
        have := ih P (ps_bd μ g r) _ (m - 1) hW2 (ps_ur_s _ _ _)
        rw [ps_ur_ur] at this
        exact this
      · have := ih (P ++ [g]) μ ρ m hW (by rw [hL]; simp)
        rw [List.append_assoc] at this
        exact this
theorem ps_fill_f {r f : Nat} (hf : ¬ ps_dyn f) : ∀ (L : List Nat) (μ : ps_S) (m : Nat), (ps_fill r L μ m).1 f = μ f := by
  intro L
  induction L with
  | nil => intro μ m; rfl
  | cons g L ih =>
    intro μ m
    unfold ps_fill
    split
    · show (ps_fill r L (ps_bd μ g r) (m - ps_N μ 19 g)).1 f = μ f
      rw [ih, ps_bd_f hf]
    · rfl
theorem ps_sing_f {r f : Nat} (hf : ¬ ps_dyn f) : ∀ (L : List Nat) (μ : ps_S) (m : Nat), (ps_sing r L μ m).1 f = μ f := by
  intro L
  induction L with
  | nil => intro μ m; rfl
  | cons g L ih =>
    intro μ m
    unfold ps_sing
    split
    · rfl
    · split
      · show (ps_sing r L (ps_bd μ g r) (m - 1)).1 f = μ f
        rw [ih, ps_bd_f hf]
      · exact ih μ m
section PRD
variable {h : pw_Hp} {R G : Nat} {aR aG Nw : Nat → Nat} {σ μ : ps_S} {ρ : ps_P} {n : Nat}
theorem ps_wf_f1 (hW : ps_Wf R G Nw μ ρ n) {r : Nat} (hr : r < R) : ps_Wf R G Nw (ps_f1 μ ρ r).1 (ps_r1 μ ρ r) n := ps_wf_fill hr (by decide) _ μ ρ _ hW rfl
theorem ps_wf_f2 (hW : ps_Wf R G Nw μ ρ n) {r : Nat} (hr : r < R) : ps_Wf R G Nw (ps_f2 μ ρ r).1 (ps_r2 μ ρ r) n := ps_wf_fill hr (b := 0) (by decide) _ _ _ _ (ps_wf_f1 hW hr) (by unfold ps_r1; rw [ps_ur_n (by omega)]; rfl)
theorem ps_wf_f3 (hW : ps_Wf R G Nw μ ρ n) {r : Nat} (hr : r < R) : ps_Wf R G Nw (ps_f3 μ ρ r).1 (ps_r3 μ ρ r) n := ps_wf_fill hr (b := 1) (by decide) _ _ _ _ (ps_wf_f2 hW hr) (by unfold ps_r2 ps_r1; rw [ps_ur_n (by omega), ps_ur_s])
theorem ps_wf_f4 (hW : ps_Wf R G Nw μ ρ n) {r : Nat} (hr : r < R) : ps_Wf R G Nw (ps_f4 μ ρ r).1 (ps_r4 μ ρ r) n := by
  have h3 := ps_wf_f3 hW hr
  have e : ps_r3 μ ρ r (2 * r) = (ps_f2 μ ρ r).2.1 := by unfold ps_r3 ps_r2; rw [ps_ur_n (by omega), ps_ur_s]
  unfold ps_r4 ps_f4
  split
  · exact ps_wf_sing hr _ [] _ _ _ h3 e
  · show ps_Wf R G Nw (ps_f3 μ ρ r).1 (ps_ur (ps_r3 μ ρ r) (2 * r) (ps_f2 μ ρ r).2.1) n
    rw [← e, ps_ur_id]
    exact h3
theorem ps_f4_f (μ : ps_S) (ρ : ps_P) (r : Nat) {f : Nat} (hf : ¬ ps_dyn f) : (ps_f1 μ ρ r).1 f = μ f ∧ (ps_f2 μ ρ r).1 f = μ f ∧ (ps_f3 μ ρ r).1 f = μ f ∧ (ps_f4 μ ρ r).1 f = μ f := by
  have h1 : (ps_f1 μ ρ r).1 f = μ f := ps_fill_f hf _ _ _
  have h2 : (ps_f2 μ ρ r).1 f = μ f := (ps_fill_f hf _ _ _).trans h1
  have h3 : (ps_f3 μ ρ r).1 f = μ f := (ps_fill_f hf _ _ _).trans h2
  refine ⟨h1, h2, h3, ?_⟩
  unfold ps_f4
  split
  · exact (ps_sing_f hf _ _ _).trans h3
  · exact h3
theorem ps_wf_beg (hW : ps_Wf R G Nw μ ρ n) {r : Nat} (hr : r < R) : ps_Wf R G Nw (ps_beg μ ρ r) (ps_r4 μ ρ r) n := by
  have h4 := ps_wf_f4 hW hr
  have ef : ∀ f, f ≠ 15 → f ≠ 16 → ps_beg μ ρ r f = (ps_f4 μ ρ r).1 f := fun f f1 f2 => by unfold ps_beg; rw [ps_up_f f1, ps_up_f f2]
  have eo : ∀ s i, ps_onc (ps_beg μ ρ r) s i = ps_onc (ps_f4 μ ρ r).1 s i := fun s i => by unfold ps_onc; rw [ef 19 (by decide) (by decide), ef 20 (by decide) (by decide), ef 21 (by decide) (by decide)]
  refine ps_wf_dyn h4 (fun f hf => ef f (by unfold ps_dyn at hf; omega) (by unfold ps_dyn at hf; omega)) (fun i hi => ?_) (fun s c hs hc => ?_) (fun s hs => ?_) (fun s h1 h2 => ?_) (fun i h1 h2 => ?_)
  · obtain ⟨-, -, -, a4, a5, -, -, -, -, a10, a11, a12, a13, -⟩ := h4.2.2.1 i hi
    unfold ps_N at a4 a5 a10 a11 a12 a13 ⊢
    rw [ef 20 (by decide) (by decide), ef 21 (by decide) (by decide), ef 23 (by decide) (by decide)]
    exact ⟨a4, a5, a10, a11, a12, a13⟩
  · unfold ps_WL
    rw [ef 20 (by decide) (by decide), ef 21 (by decide) (by decide)]
    exact h4.2.2.2.1 s c hs hc
  · rw [ef 32 (by decide) (by decide), ps_sumOn_same G (fun i _ => eo s i)]
    exact h4.2.2.2.2.1 s hs
  · have q := h4.2.2.2.2.2.2.2.1 s h1 h2
    rw [ef 14 (by decide) (by decide), ef 32 (by decide) (by decide)]
    unfold ps_beg
    rw [ps_up_n (f := 15) (i := r) (Or.inr (by omega)), ps_up_n (f := 16) (i := r) (Or.inl (by decide)), ps_up_n (f := 15) (i := r) (Or.inl (by decide)), ps_up_n (f := 16) (i := r) (Or.inr (by omega))]
    exact ⟨q.2.1, q.2.2.1, q.2.2.2.1, q.2.2.2.2⟩
  · have q := h4.2.2.2.2.2.2.2.2 i h1 h2
    rw [ef 20 (by decide) (by decide), ef 23 (by decide) (by decide), ef 28 (by decide) (by decide)]
    exact ⟨q.1, q.2.1, q.2.2.2.2.1⟩
set_option maxHeartbeats 4000000 in
set_option maxRecDepth 100000 in
theorem c_P_beginRound {r : Nat} {k : Int32 → pw_Hp → Prop} (hC : ps_CS h R G aR aG Nw) (hV : ps_Rv R G aR aG Nw σ μ ρ) (hW : ps_Wf R G Nw μ ρ n) (hr : r < R) (hk : ∀ τ, ps_Rv R G aR aG Nw τ (ps_beg μ ρ r) (ps_r4 μ ρ r) → ps_Off σ τ → k (nI (ps_N μ 8 r - ps_left μ ρ r)) (pw_st h τ)) : pw_Ci 100 [.inr 2, .inr (aR r)] (pw_st h σ) k := by
  have hT := hC.1.1
  obtain ⟨-, d2, w1, w3, -, b40, -⟩ := hC.2.2.2.1 r hr
  obtain ⟨-, d6, d7, -⟩ := id d2
  obtain ⟨wr, -⟩ := hW.2.1 r hr
  obtain ⟨x1, x2, x3, -, -, -, x7, x8, -⟩ := id wr
  obtain ⟨u0, u1, -, u3, -, -, u9, -⟩ := (hV.2.1 r hr).1
  rw [x1] at u1
  rw [x7] at u9
  have n1 := (ps_fill_le (r := r) (ρ (2 * r + 1)) μ (ps_N μ 10 r)).1
  have n2 := (ps_fill_le (r := r) (ρ (2 * r)) (ps_f1 μ ρ r).1 (ps_N μ 8 r - (ps_f1 μ ρ r).2.2)).1
  have n3 := (ps_fill_le (r := r) (ps_f1 μ ρ r).2.1 (ps_f2 μ ρ r).1 (ps_N μ 8 r - (ps_f1 μ ρ r).2.2 - (ps_f2 μ ρ r).2.2)).1
  have hW1 := ps_wf_f1 hW hr
  have hW2 := ps_wf_f2 hW hr
  have hW3 := ps_wf_f3 hW hr
  have e12 : ¬ ps_dyn 12 := by unfold ps_dyn; omega
  have e8 : ¬ ps_dyn 8 := by unfold ps_dyn; omega
  obtain ⟨-, -, g3, g4⟩ := ps_f4_f μ ρ r e12
  have fin : ∀ τ4, ps_Rv R G aR aG Nw τ4 (ps_f4 μ ρ r).1 (ps_r4 μ ρ r) → ps_Off σ τ4 → (τ4 (aR r) 15 = (ps_f4 μ ρ r).1 16 r ∧ (ps_up τ4 (aR r) 15 ((ps_f4 μ ρ r).1 16 r + 1)) (aR r) 14 = (ps_f4 μ ρ r).1 15 r ∧ (ps_up (ps_up τ4 (aR r) 15 ((ps_f4 μ ρ r).1 16 r + 1)) (aR r) 14 ((ps_f4 μ ρ r).1 15 r + nI (ps_left μ ρ r))) (aR r) 1 = nI (ps_N μ 8 r)) ∧ k (nI (ps_N μ 8 r - ps_left μ ρ r)) (pw_st h (ps_up (ps_up τ4 (aR r) 15 ((ps_f4 μ ρ r).1 16 r + 1)) (aR r) 14 ((ps_f4 μ ρ r).1 15 r + nI (ps_left μ ρ r)))) := by
    intro τ4 hV4 ho
    have q1 := (hV4.2.1 r hr).1
    have hV5 := ru_D15 (x := (ps_f4 μ ρ r).1 16 r + 1) hC hV4 hr
    have q2 := (hV5.2.1 r hr).1.2.2.2.2.2.2.2.2.2.2.2.1
    rw [ps_up_n (f := 16) (Or.inl (by decide))] at q2
    have hV6 := ru_D14 (x := (ps_f4 μ ρ r).1 15 r + nI (ps_left μ ρ r)) hC hV5 hr
    have q3 := (hV6.2.1 r hr).1.2.1
    rw [ps_up_n (f := 15) (Or.inl (by decide)), ps_up_n (f := 16) (Or.inl (by decide)), (ps_f4_f μ ρ r e8).2.2.2, x1] at q3
    exact ⟨⟨q1.2.2.2.2.2.2.2.2.2.2.2.2, q2, q3⟩, hk _ hV6 (ps_Off_tr ho (ps_Off_tr (ps_Off_up (by omega)) (ps_Off_up (by omega))))⟩
  refine pw_intro (M := pm_P_beginRound) rfl (by decide) (Nat.le_of_ble_eq_true rfl) (ls := [some (.inr 2), some (.inr (aR r)), none]) rfl ?_
  refine pw_sound pw_tok pk_P_beginRound 400 _ _ _ _ _ _ ?_
  simp only [pv_all, pv_stp, pe_P_beginRound, pv_st, Nat.reduceAdd, eq_self, true_and, and_true, true_or, or_true, d2.1, hT, d6, d7, u1, u9]
  refine c_P_boardInOrder (b := 1) hC hV hW hr (by decide) (by omega) (fun τ1 hV1 ho1 => ⟨d2.1, hT, ?_⟩)
  simp only [pv_st, d6]
  rw [show nI (ps_fill r (ρ (2 * r + 1)) μ (ps_N μ 10 r)).2.2 = nI (ps_f1 μ ρ r).2.2 from rfl, pn_sub (by unfold ps_f1; omega)]
  have er1 : ps_r1 μ ρ r (2 * r) = ρ (2 * r) := by unfold ps_r1; rw [ps_ur_n (by omega)]
  refine c_P_boardInOrder (b := 0) (μ := (ps_f1 μ ρ r).1) (ρ := ps_r1 μ ρ r) hC hV1 hW1 hr (by decide) (by omega) (fun τ2 hV2 ho2 => ⟨d2.1, hT, ?_⟩)
  rw [Nat.add_zero, er1] at hV2 ⊢
  simp only [pv_st, d7]
  rw [show nI (ps_fill r (ρ (2 * r)) (ps_f1 μ ρ r).1 (ps_N μ 8 r - (ps_f1 μ ρ r).2.2)).2.2 = nI (ps_f2 μ ρ r).2.2 from rfl, pn_sub (by unfold ps_f2; omega)]
  have er2 : ps_r2 μ ρ r (2 * r + 1) = (ps_f1 μ ρ r).2.1 := by unfold ps_r2 ps_r1; rw [ps_ur_n (by omega), ps_ur_s]
  refine c_P_boardInOrder (b := 1) (μ := (ps_f2 μ ρ r).1) (ρ := ps_r2 μ ρ r) hC hV2 hW2 hr (by decide) (by omega) (fun τ3 hV3 ho3 => ⟨d2.1, ?_⟩)
  rw [er2] at hV3 ⊢
  rw [show nI (ps_fill r (ps_f1 μ ρ r).2.1 (ps_f2 μ ρ r).1 (ps_N μ 8 r - (ps_f1 μ ρ r).2.2 - (ps_f2 μ ρ r).2.2)).2.2 = nI (ps_f3 μ ρ r).2.2 from rfl, pn_sub (by unfold ps_f3; omega)]
  have u3' := (hV3.2.1 r hr).1.2.2.2.1
  rw [show (ps_fill r (ps_f1 μ ρ r).2.1 (ps_f2 μ ρ r).1 (ps_N μ 8 r - (ps_f1 μ ρ r).2.2 - (ps_f2 μ ρ r).2.2)).1 12 = μ 12 from g3] at u3'
  simp only [pv_st, u3', d2.1, hT, true_and]
  have o3 : ps_Off σ τ3 := ps_Off_tr ho1 (ps_Off_tr ho2 ho3)
  have er3 : ps_r3 μ ρ r (2 * r) = (ps_f2 μ ρ r).2.1 := by unfold ps_r3 ps_r2; rw [ps_ur_n (by omega), ps_ur_s]
  refine ⟨fun q => ?_, fun q => ?_⟩
  · have e4 : ps_f4 μ ρ r = ((ps_f3 μ ρ r).1, (ps_f2 μ ρ r).2.1, 0) := by unfold ps_f4; rw [if_neg q]
    have el : ps_N μ 8 r - (ps_f1 μ ρ r).2.2 - (ps_f2 μ ρ r).2.2 - (ps_f3 μ ρ r).2.2 = ps_left μ ρ r := by unfold ps_left; rw [e4]; rfl
    have hV4 : ps_Rv R G aR aG Nw τ3 (ps_f4 μ ρ r).1 (ps_r4 μ ρ r) := by
      unfold ps_r4
      rw [e4, show ((ps_f3 μ ρ r).1, (ps_f2 μ ρ r).2.1, 0).2.1 = ps_r3 μ ρ r (2 * r) from er3.symm, ps_ur_id]
      exact hV3
    obtain ⟨⟨f1, f2, f3⟩, f4⟩ := fin τ3 hV4 o3
    rw [el, f1, f2, f3, pn_sub (by unfold ps_left; omega)]
    exact f4
  · refine c_P_boardSingles (μ := (ps_f3 μ ρ r).1) (ρ := ps_r3 μ ρ r) hC hV3 hW3 hr (by omega) (fun τ4 hV4 ho4 => ?_)
    rw [er3] at hV4 ⊢
    have e4 : ps_f4 μ ρ r = ps_sing r (ps_f2 μ ρ r).2.1 (ps_f3 μ ρ r).1 (ps_N μ 8 r - (ps_f1 μ ρ r).2.2 - (ps_f2 μ ρ r).2.2 - (ps_f3 μ ρ r).2.2) := by unfold ps_f4; rw [if_pos q]
    have n4 := ps_sing_le (r := r) (ps_f2 μ ρ r).2.1 (ps_f3 μ ρ r).1 (ps_N μ 8 r - (ps_f1 μ ρ r).2.2 - (ps_f2 μ ρ r).2.2 - (ps_f3 μ ρ r).2.2)
    have hV5 : ps_Rv R G aR aG Nw τ4 (ps_f4 μ ρ r).1 (ps_r4 μ ρ r) := by unfold ps_r4; rw [e4]; exact hV4
    rw [← e4]
    rw [← e4] at n4
    obtain ⟨⟨f1, f2, f3⟩, f4⟩ := fin τ4 hV5 (ps_Off_tr o3 ho4)
    simp only [pv_st, d2.1, true_and]
    rw [pn_sub n4, show ps_N μ 8 r - (ps_f1 μ ρ r).2.2 - (ps_f2 μ ρ r).2.2 - (ps_f3 μ ρ r).2.2 - (ps_f4 μ ρ r).2.2 = ps_left μ ρ r from rfl, f1, f2, f3, pn_sub (by unfold ps_left; omega)]
    exact f4
end PRD
