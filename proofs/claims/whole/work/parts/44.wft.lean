/-! What holds is kept when times change. -/
def ps_tdyn (f : Nat) : Prop := f = 18 ∨ f = 24 ∨ f = 25 ∨ f = 26 ∨ f = 27 ∨ f = 29 ∨ f = 30
theorem ps_wf_tdyn {R G n n2 : Nat} {Nw : Nat → Nat} {μ ν : ps_S} {ρ : ps_P} (hW : ps_Wf R G Nw μ ρ n) (hf : ∀ f, ¬ ps_tdyn f → ν f = μ f)
    (hg : ∀ g, g < G → ν 24 g = nI (ps_N ν 24 g) ∧ ps_N ν 24 g ≤ 2 ∧ ν 27 g = nI (ps_N ν 27 g) ∧ ps_N ν 27 g + ps_N ν 24 g ≤ n2 ∧ ∀ i, i < ps_N ν 24 g → ν 25 (2 * g + i) = nI (ps_N ν 25 (2 * g + i)) ∧ ps_N ν 25 (2 * g + i) < R ∧ ν 26 (2 * g + i) = nI (ps_N ν 26 (2 * g + i)) ∧ ps_N ν 26 (2 * g + i) < 5000 / ps_wd μ (ps_N ν 25 (2 * g + i)) + 41)
    (hz : ∀ r w, r < 8 → w < 1100 → (R ≤ r ∨ 5000 / ps_wd μ r + 41 ≤ w) → ν 18 (1100 * r + w) = 0) (hz2 : ∀ g, G ≤ g → g < 60 → ν 24 g = 0 ∧ ν 27 g = 0 ∧ ν 29 g = 0 ∧ ν 30 g = 0) : ps_Wf R G Nw ν ρ n2 := by
  obtain ⟨w0, w1, w2, w3, w4, w5, w6⟩ := hW
  have k7 : ν 7 = μ 7 := hf 7 (by unfold ps_tdyn; omega)
  have k8 : ν 8 = μ 8 := hf 8 (by unfold ps_tdyn; omega)
  have k9 : ν 9 = μ 9 := hf 9 (by unfold ps_tdyn; omega)
  have k10 : ν 10 = μ 10 := hf 10 (by unfold ps_tdyn; omega)
  have k11 : ν 11 = μ 11 := hf 11 (by unfold ps_tdyn; omega)
  have k12 : ν 12 = μ 12 := hf 12 (by unfold ps_tdyn; omega)
  have k13 : ν 13 = μ 13 := hf 13 (by unfold ps_tdyn; omega)
  have k14 : ν 14 = μ 14 := hf 14 (by unfold ps_tdyn; omega)
  have k15 : ν 15 = μ 15 := hf 15 (by unfold ps_tdyn; omega)
  have k16 : ν 16 = μ 16 := hf 16 (by unfold ps_tdyn; omega)
  have k17 : ν 17 = μ 17 := hf 17 (by unfold ps_tdyn; omega)
  have k19 : ν 19 = μ 19 := hf 19 (by unfold ps_tdyn; omega)
  have k20 : ν 20 = μ 20 := hf 20 (by unfold ps_tdyn; omega)
  have k21 : ν 21 = μ 21 := hf 21 (by unfold ps_tdyn; omega)
  have k23 : ν 23 = μ 23 := hf 23 (by unfold ps_tdyn; omega)
  have k28 : ν 28 = μ 28 := hf 28 (by unfold ps_tdyn; omega)
  have k32 : ν 32 = μ 32 := hf 32 (by unfold ps_tdyn; omega)
  have kw : ∀ r, ps_wd ν r = ps_wd μ r := fun r => by unfold ps_wd ps_turn ps_N; rw [k9, k12]
  refine ⟨?_, fun r hr => ?_, fun g hg' => ?_, fun r b hr hb => ?_, fun r hr => ?_, ?_, ?_⟩
  · unfold ps_W0 ps_N at w0 ⊢
    rw [k7]; exact w0
  · rw [kw]
    have := w1 r hr
    unfold ps_WR ps_N at this ⊢
    rw [k8, k9, k10, k11, k12, k13]
    exact this
  · obtain ⟨a1, a2, a3, a4, a5, -, -, -, -, a10, a11, a12, a13, -⟩ := w2 g hg'
    obtain ⟨b1, b2, b3, b4, b5⟩ := hg g hg'
    unfold ps_WG
    rw [show ps_N ν 7 0 = ps_N μ 7 0 from by unfold ps_N; rw [k7], show ps_N ν 19 g = ps_N μ 19 g from by unfold ps_N; rw [k19], show ps_N ν 20 g = ps_N μ 20 g from by unfold ps_N; rw [k20], show ps_N ν 21 g = ps_N μ 21 g from by unfold ps_N; rw [k21], show ps_N ν 23 g = ps_N μ 23 g from by unfold ps_N; rw [k23], k19, k20, k21, k23]
    refine ⟨a1, a2, a3, a4, a5, b1, b2, b3, b4, a10, a11, a12, a13, fun i hi => ?_⟩
    unfold ps_WT
    rw [kw]
    exact b5 i hi
  · unfold ps_WL
    rw [k20, k21]
    exact w3 r b hr hb
  · rw [k32, ps_sumOn_same G (fun i _ => by unfold ps_onc; rw [k19, k20, k21])]
    exact w4 r hr
  · unfold ps_WK ps_N at w5 ⊢
    rw [k17]; exact w5
  · obtain ⟨z1, z2, z3⟩ := w6
    refine ⟨fun r w h1 h2 h3 => ?_, fun r h1 h2 => ?_, fun g h1 h2 => ?_⟩
    · rw [kw] at h3; exact hz r w h1 h2 h3
    · rw [k13, k14, k15, k16, k32]; exact z2 r h1 h2
    · have q := z3 g h1 h2
      have q2 := hz2 g h1 h2
      rw [k20, k23, k28]
      exact ⟨q.1, q.2.1, q2.1, q2.2.1, q.2.2.2.2.1, q2.2.2.1, q2.2.2.2⟩
-- one group's times and anys, and given
theorem ps_wf_tg {R G n n2 g : Nat} {Nw : Nat → Nat} {μ ν : ps_S} {ρ : ps_P} (hW : ps_Wf R G Nw μ ρ n) (hg : g < G) (hn : n ≤ n2) (hf : ∀ f, ¬ ps_tdyn f → ν f = μ f)
    (ho : ∀ i, i ≠ g → ν 24 i = μ 24 i ∧ ν 27 i = μ 27 i ∧ ν 29 i = μ 29 i ∧ ν 30 i = μ 30 i) (ho2 : ∀ i, (i < 2 * g ∨ 2 * g + 2 ≤ i) → ν 25 i = μ 25 i ∧ ν 26 i = μ 26 i)
    (t m : Nat) (ht : ν 24 g = nI t) (ht2 : t ≤ 2) (hm : ν 27 g = nI m) (hmt : m + t ≤ n2) (hn2 : n2 < 100000) (hT : ∀ i, i < t → ν 25 (2 * g + i) = nI (ps_N ν 25 (2 * g + i)) ∧ ps_N ν 25 (2 * g + i) < R ∧ ν 26 (2 * g + i) = nI (ps_N ν 26 (2 * g + i)) ∧ ps_N ν 26 (2 * g + i) < 5000 / ps_wd μ (ps_N ν 25 (2 * g + i)) + 41)
    (hz : ∀ r w, r < 8 → w < 1100 → (R ≤ r ∨ 5000 / ps_wd μ r + 41 ≤ w) → ν 18 (1100 * r + w) = 0) : ps_Wf R G Nw ν ρ n2 := by
  refine ps_wf_tdyn hW hf (fun i hi => ?_) hz (fun i h1 h2 => ?_)
  · by_cases z : i = g
    · subst z
      have e1 : ps_N ν 24 i = t := by unfold ps_N; rw [ht]; exact nI_clamp (by omega)
      have e2 : ps_N ν 27 i = m := by unfold ps_N; rw [hm]; exact nI_clamp (by omega)
      rw [e1, e2]
      exact ⟨ht, ht2, hm, hmt, hT⟩
    · obtain ⟨-, -, -, -, -, a6, a7, a8, a9, -, -, -, -, a14⟩ := hW.2.2.1 i hi
      obtain ⟨o1, o2, -⟩ := ho i z
      rw [show ps_N ν 24 i = ps_N μ 24 i from by unfold ps_N; rw [o1], show ps_N ν 27 i = ps_N μ 27 i from by unfold ps_N; rw [o2], o1, o2]
      refine ⟨a6, a7, a8, by omega, fun j hj => ?_⟩
      have q := ho2 (2 * i + j) (by omega)
      have := a14 j hj
      unfold ps_WT ps_N at this
      unfold ps_N
      rw [q.1, q.2]
      exact this
  · have q := hW.2.2.2.2.2.2.2.2 i h1 h2
    obtain ⟨o1, o2, o3, o4⟩ := ho i (by omega)
    rw [o1, o2, o3, o4]
    exact ⟨q.2.2.1, q.2.2.2.1, q.2.2.2.2.2.1, q.2.2.2.2.2.2⟩
theorem ps_drop_f {μ : ps_S} {g j f : Nat} (h : f ≠ 24 ∧ f ≠ 25 ∧ f ≠ 26) : ps_drop μ g j f = μ f := by
  unfold ps_drop
  rw [ps_up_f h.1]
  split
  · rw [ps_up_f h.2.2, ps_up_f h.2.1]
  · rfl
theorem ps_drop_o {μ : ps_S} {g j : Nat} : (∀ i, i ≠ g → ps_drop μ g j 24 i = μ 24 i) ∧ (∀ i, (i < 2 * g ∨ 2 * g + 2 ≤ i) → ps_drop μ g j 25 i = μ 25 i ∧ ps_drop μ g j 26 i = μ 26 i) ∧ ps_drop μ g j 24 g = μ 24 g - 1 := by
  unfold ps_drop
  refine ⟨fun i hi => ?_, fun i hi => ?_, ps_up_s _ _ _ _⟩
  · rw [ps_up_n (Or.inr hi)]
    split
    · rw [ps_up_n (Or.inl (by decide)), ps_up_n (Or.inl (by decide))]
    · rfl
  · rw [ps_up_f (show 25 ≠ 24 by decide), ps_up_f (show 26 ≠ 24 by decide)]
    split
    · rw [ps_up_n (f := 26) (a := 25) (Or.inl (by decide)), ps_up_n (f := 25) (Or.inr (by omega)), ps_up_n (f := 26) (Or.inr (by omega)), ps_up_n (f := 25) (a := 26) (Or.inl (by decide))]
      exact ⟨rfl, rfl⟩
    · exact ⟨rfl, rfl⟩
-- the times that are left behind a dropped one are times that were there
theorem ps_drop_t {μ : ps_S} {g j t i : Nat} (hj : j < t) (ht : t ≤ 2) (hi : i < t - 1) : ∃ i', i' < t ∧ ps_drop μ g j 25 (2 * g + i) = μ 25 (2 * g + i') ∧ ps_drop μ g j 26 (2 * g + i) = μ 26 (2 * g + i') := by
  have i0 : i = 0 := by omega
  have t2 : t = 2 := by omega
  subst i0; subst t2
  unfold ps_drop
  rw [ps_up_f (show 25 ≠ 24 by decide), ps_up_f (show 26 ≠ 24 by decide)]
  by_cases z : j = 0
  · rw [if_pos z]
    refine ⟨1, by decide, ?_, ?_⟩
    · rw [ps_up_n (f := 26) (a := 25) (Or.inl (by decide))]
      exact ps_up_s _ _ _ _
    · exact ps_up_s _ _ _ _
  · rw [if_neg z]
    exact ⟨0, by decide, rfl, rfl⟩
-- a time goes; anys become m
theorem ps_wf_drop {R G n n2 g j m : Nat} {Nw : Nat → Nat} {μ ν : ps_S} {ρ : ps_P} (hW : ps_Wf R G Nw μ ρ n) (hg : g < G) (hn : n ≤ n2) (hn2 : n2 < 100000) (hj : j < ps_N μ 24 g)
    (hf : ∀ f, f ≠ 18 → f ≠ 27 → f ≠ 29 → f ≠ 30 → ν f = μ f) (h27 : ∀ i, i ≠ g → ν 27 i = μ 27 i ∧ ν 29 i = μ 29 i ∧ ν 30 i = μ 30 i) (hm : ν 27 g = nI m) (hmt : m + (ps_N μ 24 g - 1) ≤ n2)
    (hz : ∀ r w, r < 8 → w < 1100 → (R ≤ r ∨ 5000 / ps_wd μ r + 41 ≤ w) → ν 18 (1100 * r + w) = 0) : ps_Wf R G Nw (ps_drop ν g j) ρ n2 := by
  obtain ⟨-, -, -, -, -, a6, a7, a8, a9, -, -, -, -, a14⟩ := hW.2.2.1 g hg
  obtain ⟨o1, o2, o3⟩ := ps_drop_o (μ := ν) (g := g) (j := j)
  have k24 : ν 24 = μ 24 := hf 24 (by decide) (by decide) (by decide) (by decide)
  have k25 : ν 25 = μ 25 := hf 25 (by decide) (by decide) (by decide) (by decide)
  have k26 : ν 26 = μ 26 := hf 26 (by decide) (by decide) (by decide) (by decide)
  refine ps_wf_tg hW hg hn (fun f q => ?_) (fun i hi => ?_) (fun i hi => ?_) (ps_N μ 24 g - 1) m ?_ (by omega) ?_ hmt hn2 (fun i hi => ?_) (fun r w h1 h2 h3 => ?_)
  · unfold ps_tdyn at q
    rw [ps_drop_f (by omega)]
    exact hf f (by omega) (by omega) (by omega) (by omega)
  · rw [o1 i hi, ps_drop_f (by decide), ps_drop_f (by decide), ps_drop_f (by decide), k24]
    exact ⟨rfl, h27 i hi⟩
  · have := o2 i hi
    rw [k25, k26] at this
    exact this
  · rw [o3, k24, a6, show (1 : Int32) = nI 1 from rfl, pn_sub (by omega)]
  · rw [ps_drop_f (by decide)]; exact hm
  · obtain ⟨i', h1, h2, h3⟩ := ps_drop_t (μ := ν) (g := g) hj a7 hi
    have := a14 i' h1
    unfold ps_WT ps_N at this
    unfold ps_N
    rw [h2, h3, k25, k26]
    exact this
  · rw [ps_drop_f (by decide)]; exact hz r w h1 h2 h3
