/-! What holds is kept by boarding, by the end of a round. -/
def ps_onc (μ : ps_S) (r g : Nat) : Int32 := if μ 20 g = 3 ∧ μ 21 g = nI r then μ 19 g else 0
theorem ps_sumOn_s (μ : ps_S) (r g : Nat) : ps_sumOn μ r (g + 1) = ps_sumOn μ r g + ps_onc μ r g := rfl
theorem ps_sumOn_same {μ ν : ps_S} {r : Nat} : ∀ k, (∀ g, g < k → ps_onc ν r g = ps_onc μ r g) → ps_sumOn ν r k = ps_sumOn μ r k := by
  intro k
  induction k with
  | zero => intro _; rfl
  | succ k ih =>
    intro h
    rw [ps_sumOn_s, ps_sumOn_s, ih (fun g hg => h g (by omega)), h k (by omega)]
theorem ps_sumOn_one {μ ν : ps_S} {r g : Nat} : ∀ k, g < k → (∀ i, i ≠ g → ps_onc ν r i = ps_onc μ r i) → ps_sumOn ν r k = ps_sumOn μ r k - ps_onc μ r g + ps_onc ν r g := by
  intro k
  induction k with
  | zero => intro h; omega
  | succ k ih =>
    intro hg h
    rw [ps_sumOn_s, ps_sumOn_s]
    by_cases z : g = k
    · subst z
      rw [ps_sumOn_same g (fun i hi => h i (by omega))]
      grind
    · rw [ih (by omega) h, h k (by omega)]
      grind
-- the changing fields of rides' rounds
def ps_dyn (f : Nat) : Prop := f = 14 ∨ f = 15 ∨ f = 16 ∨ f = 20 ∨ f = 21 ∨ f = 23 ∨ f = 28 ∨ f = 32
theorem ps_wf_dyn {R G n : Nat} {Nw : Nat → Nat} {μ ν : ps_S} {ρ π : ps_P} (hW : ps_Wf R G Nw μ ρ n) (hf : ∀ f, ¬ ps_dyn f → ν f = μ f)
    (hg : ∀ g, g < G → ν 20 g = nI (ps_N ν 20 g) ∧ ps_N ν 20 g ≤ 4 ∧ ν 23 g = nI (ps_N ν 23 g) ∧ ps_N ν 23 g ≤ ps_N μ 7 0 ∧ (1 ≤ ps_N ν 20 g → ps_N ν 20 g ≤ 3 → ν 21 g = nI (ps_N ν 21 g) ∧ ps_N ν 21 g < R) ∧ ((ps_N ν 20 g = 0 ∨ ps_N ν 20 g = 4) → ν 21 g = -9))
    (hl : ∀ r b, r < R → b < 2 → ps_WL G ν (π (2 * r + b)) r b) (hs : ∀ r, r < R → ν 32 r = ps_sumOn ν r G)
    (hz : ∀ r, R ≤ r → r < 8 → ν 14 r = 0 ∧ ν 15 r = 0 ∧ ν 16 r = 0 ∧ ν 32 r = 0) (hz2 : ∀ g, G ≤ g → g < 60 → ν 20 g = 0 ∧ ν 23 g = 0 ∧ ν 28 g = 0) : ps_Wf R G Nw ν π n := by
  obtain ⟨w0, w1, w2, w3, w4, w5, w6⟩ := hW
  have k7 : ν 7 = μ 7 := hf 7 (by unfold ps_dyn; omega)
  have k8 : ν 8 = μ 8 := hf 8 (by unfold ps_dyn; omega)
  have k9 : ν 9 = μ 9 := hf 9 (by unfold ps_dyn; omega)
  have k10 : ν 10 = μ 10 := hf 10 (by unfold ps_dyn; omega)
  have k11 : ν 11 = μ 11 := hf 11 (by unfold ps_dyn; omega)
  have k12 : ν 12 = μ 12 := hf 12 (by unfold ps_dyn; omega)
  have k13 : ν 13 = μ 13 := hf 13 (by unfold ps_dyn; omega)
  have k17 : ν 17 = μ 17 := hf 17 (by unfold ps_dyn; omega)
  have k18 : ν 18 = μ 18 := hf 18 (by unfold ps_dyn; omega)
  have k19 : ν 19 = μ 19 := hf 19 (by unfold ps_dyn; omega)
  have k24 : ν 24 = μ 24 := hf 24 (by unfold ps_dyn; omega)
  have k25 : ν 25 = μ 25 := hf 25 (by unfold ps_dyn; omega)
  have k26 : ν 26 = μ 26 := hf 26 (by unfold ps_dyn; omega)
  have k27 : ν 27 = μ 27 := hf 27 (by unfold ps_dyn; omega)
  have k29 : ν 29 = μ 29 := hf 29 (by unfold ps_dyn; omega)
  have k30 : ν 30 = μ 30 := hf 30 (by unfold ps_dyn; omega)
  have kw : ∀ r, ps_wd ν r = ps_wd μ r := fun r => by unfold ps_wd ps_turn ps_N; rw [k9, k12]
  refine ⟨?_, fun r hr => ?_, fun g hg' => ?_, hl, hs, ?_, ?_⟩
  · unfold ps_W0 ps_N at w0 ⊢
    rw [k7]; exact w0
  · rw [kw]
    have := w1 r hr
    unfold ps_WR ps_N at this ⊢
    rw [k8, k9, k10, k11, k12, k13]
    exact this
  · obtain ⟨a1, a2, a3, -, -, a6, a7, a8, a9, -, -, -, -, a14⟩ := w2 g hg'
    obtain ⟨b1, b2, b3, b4, b5, b6⟩ := hg g hg'
    unfold ps_WG
    rw [show ps_N ν 7 0 = ps_N μ 7 0 from by unfold ps_N; rw [k7], show ps_N ν 19 g = ps_N μ 19 g from by unfold ps_N; rw [k19], show ps_N ν 24 g = ps_N μ 24 g from by unfold ps_N; rw [k24], show ps_N ν 27 g = ps_N μ 27 g from by unfold ps_N; rw [k27], k19, k24, k27]
    refine ⟨a1, a2, a3, b1, b2, a6, a7, a8, a9, b3, b4, b5, b6, fun i hi => ?_⟩
    have := a14 i hi
    unfold ps_WT at this ⊢
    rw [kw]
    unfold ps_N at this ⊢
    rw [k25, k26]
    exact this
  · unfold ps_WK ps_N at w5 ⊢
    rw [k17]; exact w5
  · obtain ⟨z1, z2, z3⟩ := w6
    refine ⟨fun r w h1 h2 h3 => ?_, fun r h1 h2 => ?_, fun g h1 h2 => ?_⟩
    · rw [k18]; rw [kw] at h3; exact z1 r w h1 h2 h3
    · have := hz r h1 h2
      rw [k13]
      exact ⟨(z2 r h1 h2).1, this⟩
    · have := hz2 g h1 h2
      have q := z3 g h1 h2
      rw [k24, k27, k29, k30]
      exact ⟨this.1, this.2.1, q.2.2.1, q.2.2.2.1, this.2.2, q.2.2.2.2.2⟩
-- g, in row (r, b), gets on
def ps_bd (μ : ps_S) (g r : Nat) : ps_S := ps_up (ps_up (ps_up (ps_up (ps_sr μ g 3 (nI r)) 23 g (μ 7 0)) 28 g (μ 28 g + 1)) 32 r (μ 32 r + μ 19 g)) 14 r (μ 14 r + μ 19 g)
theorem ps_bd_f {μ : ps_S} {g r f : Nat} (h : ¬ ps_dyn f) : ps_bd μ g r f = μ f := by
  unfold ps_dyn at h
  unfold ps_bd ps_sr
  rw [ps_up_f (by omega), ps_up_f (by omega), ps_up_f (by omega), ps_up_f (by omega), ps_up_f (by omega), ps_up_f (by omega)]
theorem ps_bd_v (μ : ps_S) (g r : Nat) : ps_bd μ g r 20 = ps_up μ 20 g 3 20 ∧ ps_bd μ g r 21 = ps_up μ 21 g (nI r) 21 ∧ ps_bd μ g r 23 = ps_up μ 23 g (μ 7 0) 23 ∧ ps_bd μ g r 28 = ps_up μ 28 g (μ 28 g + 1) 28 ∧ ps_bd μ g r 32 = ps_up μ 32 r (μ 32 r + μ 19 g) 32 ∧ ps_bd μ g r 14 = ps_up μ 14 r (μ 14 r + μ 19 g) 14 ∧ ps_bd μ g r 15 = μ 15 ∧ ps_bd μ g r 16 = μ 16 := by
  unfold ps_bd ps_sr
  refine ⟨?_, ?_, ?_, ?_, ?_, ?_, ?_, ?_⟩ <;> funext j <;> simp [ps_up]
theorem ps_wf_board {R G n r b g : Nat} {Nw : Nat → Nat} {μ : ps_S} {ρ : ps_P} (hW : ps_Wf R G Nw μ ρ n) (hr : r < R) (hb : b < 2) (hg : g ∈ ρ (2 * r + b)) : ps_Wf R G Nw (ps_bd μ g r) (ps_ur ρ (2 * r + b) ((ρ (2 * r + b)).erase g)) n := by
  obtain ⟨l1, l2⟩ := hW.2.2.2.1 r b hr hb
  obtain ⟨hgG, hg20, hg21⟩ := (l2 g).mp hg
  obtain ⟨v20, v21, v23, v28, v32, v14, v15, v16⟩ := ps_bd_v μ g r
  have hR8 := hW.1.1
  have hG60 := hW.1.2.1
  have n3 : ¬ nI (b + 1) = (3 : Int32) := by rcases (show b = 0 ∨ b = 1 by omega) with rfl | rfl <;> decide
  refine ps_wf_dyn hW (fun f hf => ps_bd_f hf) (fun i hi => ?_) (fun s c hs hc => ?_) (fun s hs => ?_) (fun s h1 h2 => ?_) (fun i h1 h2 => ?_)
  · obtain ⟨-, -, -, a4, a5, -, -, -, -, a10, a11, a12, a13, -⟩ := hW.2.2.1 i hi
    unfold ps_N at a4 a5 a10 a11 a12 a13 ⊢
    rw [v20, v21, v23]
    by_cases z : i = g
    · subst z
      rw [ps_up_s, ps_up_s, ps_up_s]
      refine ⟨by decide, by decide, hW.1.2.2.1, Nat.le_refl _, fun _ _ => ?_, fun q => absurd q (by decide)⟩
      rw [nI_clamp (by omega)]
      exact ⟨rfl, hr⟩
    · rw [ps_up_n (Or.inr z), ps_up_n (Or.inr z), ps_up_n (Or.inr z)]
      exact ⟨a4, a5, a10, a11, a12, a13⟩
  · obtain ⟨k1, k2⟩ := hW.2.2.2.1 s c hs hc
    unfold ps_WL
    rw [v20, v21]
    by_cases z : 2 * s + c = 2 * r + b
    · have e1 : s = r := by omega
      have e2 : c = b := by omega
      subst e1; subst e2
      rw [ps_ur_s]
      refine ⟨l1.erase g, fun i => ?_⟩
      by_cases zi : i = g
      · subst zi
        rw [ps_up_s]
        exact ⟨fun q => absurd q (List.Nodup.not_mem_erase l1), fun q => absurd q.2.1 (fun w => n3 w.symm)⟩
      · rw [ps_up_n (Or.inr zi), ps_up_n (Or.inr zi), List.mem_erase_of_ne zi]
        exact l2 i
    · rw [ps_ur_n z]
      refine ⟨k1, fun i => ?_⟩
      by_cases zi : i = g
      · subst zi
        rw [ps_up_s, ps_up_s]
        refine ⟨fun q => ?_, fun q => ?_⟩
        · have q2 := (k2 i).mp q
          exfalso
          have q3 : nI (c + 1) = nI (b + 1) := q2.2.1.symm.trans hg20
          have q4 : nI s = nI r := q2.2.2.symm.trans hg21
          rw [pn_eq (by omega) (by omega)] at q3 q4
          omega
        · have q1 : nI (c + 1) = 3 := q.2.1.symm
          rcases (show c = 0 ∨ c = 1 by omega) with rfl | rfl
          · exact absurd q1 (by decide)
          · exact absurd q1 (by decide)
      · rw [ps_up_n (Or.inr zi), ps_up_n (Or.inr zi)]
        exact k2 i
  · rw [v32]
    have h19 : ps_bd μ g r 19 = μ 19 := ps_bd_f (by unfold ps_dyn; omega)
    have hoth : ∀ i, i ≠ g → ps_onc (ps_bd μ g r) s i = ps_onc μ s i := by
      intro i zi
      unfold ps_onc
      rw [v20, v21, h19, ps_up_n (Or.inr zi), ps_up_n (Or.inr zi)]
    rw [ps_sumOn_one G hgG hoth, ← hW.2.2.2.2.1 s hs]
    have o1 : ps_onc μ s g = 0 := by
      unfold ps_onc
      rw [hg20, if_neg (fun q => n3 q.1)]
    rw [o1]
    unfold ps_onc
    rw [v20, v21, h19, ps_up_s, ps_up_s]
    by_cases z : s = r
    · subst z
      rw [ps_up_s, if_pos ⟨rfl, rfl⟩]
      grind
    · rw [ps_up_n (Or.inr z), if_neg (fun q => by have q2 := q.2; rw [pn_eq (by omega) (by omega)] at q2; exact z q2.symm)]
      grind
  · have q := hW.2.2.2.2.2.2.2.1 s h1 h2
    rw [v14, v15, v16, v32, ps_up_n (Or.inr (by omega)), ps_up_n (Or.inr (by omega))]
    exact ⟨q.2.1, q.2.2.1, q.2.2.2.1, q.2.2.2.2⟩
  · have q := hW.2.2.2.2.2.2.2.2 i h1 h2
    rw [v20, v23, v28, ps_up_n (Or.inr (by omega)), ps_up_n (Or.inr (by omega)), ps_up_n (Or.inr (by omega))]
    exact ⟨q.1, q.2.1, q.2.2.2.2.1⟩
-- g, on at ride r, walks
def ps_off1 (μ : ps_S) (g r : Nat) : ps_S := ps_sr (ps_up μ 32 r (μ 32 r - μ 19 g)) g 0 (-9)
theorem ps_off1_f {μ : ps_S} {g r f : Nat} (h : f ≠ 20 ∧ f ≠ 21 ∧ f ≠ 32) : ps_off1 μ g r f = μ f := by
  unfold ps_off1 ps_sr
  rw [ps_up_f h.2.1, ps_up_f h.1, ps_up_f h.2.2]
theorem ps_off1_v (μ : ps_S) (g r : Nat) : ps_off1 μ g r 20 = ps_up μ 20 g 0 20 ∧ ps_off1 μ g r 21 = ps_up μ 21 g (-9) 21 ∧ ps_off1 μ g r 32 = ps_up μ 32 r (μ 32 r - μ 19 g) 32 := by
  unfold ps_off1 ps_sr
  refine ⟨?_, ?_, ?_⟩ <;> funext j <;> simp [ps_up]
theorem ps_wf_off1 {R G n r g : Nat} {Nw : Nat → Nat} {μ : ps_S} {ρ : ps_P} (hW : ps_Wf R G Nw μ ρ n) (hr : r < R) (hgG : g < G) (hg20 : μ 20 g = 3) (hg21 : μ 21 g = nI r) : ps_Wf R G Nw (ps_off1 μ g r) ρ n := by
  obtain ⟨v20, v21, v32⟩ := ps_off1_v μ g r
  have hR8 := hW.1.1
  have hG60 := hW.1.2.1
  refine ps_wf_dyn hW (fun f hf => ps_off1_f (by unfold ps_dyn at hf; omega)) (fun i hi => ?_) (fun s c hs hc => ?_) (fun s hs => ?_) (fun s h1 h2 => ?_) (fun i h1 h2 => ?_)
  · obtain ⟨-, -, -, a4, a5, -, -, -, -, a10, a11, a12, a13, -⟩ := hW.2.2.1 i hi
    unfold ps_N at a4 a5 a10 a11 a12 a13 ⊢
    rw [v20, v21, ps_off1_f (show (23 : Nat) ≠ 20 ∧ (23 : Nat) ≠ 21 ∧ (23 : Nat) ≠ 32 by decide)]
    by_cases z : i = g
    · subst z
      rw [ps_up_s, ps_up_s]
      exact ⟨by decide, by decide, a10, a11, fun q => absurd q (by decide), fun _ => rfl⟩
    · rw [ps_up_n (Or.inr z), ps_up_n (Or.inr z)]
      exact ⟨a4, a5, a10, a11, a12, a13⟩
  · obtain ⟨k1, k2⟩ := hW.2.2.2.1 s c hs hc
    unfold ps_WL
    rw [v20, v21]
    refine ⟨k1, fun i => ?_⟩
    have n3 : ¬ (3 : Int32) = nI (c + 1) := by rcases (show c = 0 ∨ c = 1 by omega) with rfl | rfl <;> decide
    have n0 : ¬ (0 : Int32) = nI (c + 1) := by rcases (show c = 0 ∨ c = 1 by omega) with rfl | rfl <;> decide
    by_cases zi : i = g
    · subst zi
      rw [ps_up_s]
      refine ⟨fun q => ?_, fun q => absurd q.2.1 n0⟩
      have q2 := (k2 i).mp q
      exact absurd (hg20.symm.trans q2.2.1) n3
    · rw [ps_up_n (Or.inr zi), ps_up_n (Or.inr zi)]
      exact k2 i
  · rw [v32]
    have h19 : ps_off1 μ g r 19 = μ 19 := ps_off1_f (by decide)
    have hoth : ∀ i, i ≠ g → ps_onc (ps_off1 μ g r) s i = ps_onc μ s i := by
      intro i zi
      unfold ps_onc
      rw [v20, v21, h19, ps_up_n (Or.inr zi), ps_up_n (Or.inr zi)]
    rw [ps_sumOn_one G hgG hoth, ← hW.2.2.2.2.1 s hs]
    have o1 : ps_onc (ps_off1 μ g r) s g = 0 := by
      unfold ps_onc
      rw [v20, ps_up_s, if_neg (fun q => absurd q.1 (by decide))]
    rw [o1]
    unfold ps_onc
    rw [hg20, hg21]
    by_cases z : s = r
    · subst z
      rw [ps_up_s, if_pos ⟨rfl, rfl⟩]
      grind
    · rw [ps_up_n (Or.inr z), if_neg (fun q => by have q2 := q.2; rw [pn_eq (by omega) (by omega)] at q2; exact z q2.symm)]
      grind
  · have q := hW.2.2.2.2.2.2.2.1 s h1 h2
    rw [v32, ps_up_n (Or.inr (by omega)), ps_off1_f (show (14 : Nat) ≠ 20 ∧ (14 : Nat) ≠ 21 ∧ (14 : Nat) ≠ 32 by decide), ps_off1_f (show (15 : Nat) ≠ 20 ∧ (15 : Nat) ≠ 21 ∧ (15 : Nat) ≠ 32 by decide), ps_off1_f (show (16 : Nat) ≠ 20 ∧ (16 : Nat) ≠ 21 ∧ (16 : Nat) ≠ 32 by decide)]
    exact ⟨q.2.1, q.2.2.1, q.2.2.2.1, q.2.2.2.2⟩
  · have q := hW.2.2.2.2.2.2.2.2 i h1 h2
    rw [v20, ps_up_n (Or.inr (by omega)), ps_off1_f (show (23 : Nat) ≠ 20 ∧ (23 : Nat) ≠ 21 ∧ (23 : Nat) ≠ 32 by decide), ps_off1_f (show (28 : Nat) ≠ 20 ∧ (28 : Nat) ≠ 21 ∧ (28 : Nat) ≠ 32 by decide)]
    exact ⟨q.1, q.2.1, q.2.2.2.2.1⟩
