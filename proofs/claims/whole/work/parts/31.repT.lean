/-! The times of a group change. -/
theorem ps_up_comm {μ : ps_S} {f i f' i' : Nat} {x y : Int32} (h : f ≠ f') : ps_up (ps_up μ f i x) f' i' y = ps_up (ps_up μ f' i' y) f i x := by
  funext a j
  unfold ps_up
  by_cases h1 : a = f'
  · subst h1
    have : ¬ (a = f ∧ j = i) := fun z => h z.1.symm
    by_cases h2 : j = i'
    · simp [h2, Ne.symm h]
    · simp [h2, Ne.symm h]
  · simp [h1]
def ps_drop (μ : ps_S) (g j : Nat) : ps_S := ps_up (if j = 0 then ps_up (ps_up μ 25 (2 * g) (μ 25 (2 * g + 1))) 26 (2 * g) (μ 26 (2 * g + 1)) else μ) 24 g (μ 24 g - 1)
def ps_addt (μ : ps_S) (g t : Nat) (x y : Int32) : ps_S := ps_up (ps_up (ps_up μ 25 (2 * g + t) x) 26 (2 * g + t) y) 24 g (μ 24 g + 1)
section PST
variable {h : pw_Hp} {R G : Nat} {aR aG Nw : Nat → Nat} {σ μ : ps_S} {ρ : ps_P}
-- what a change of a group's own cells leaves
theorem ru_gt {τ ν : ps_S} {g : Nat} (hC : ps_CS h R G aR aG Nw) (hV : ps_Rv R G aR aG Nw σ μ ρ) (hg : g < G) (h2 : ∀ i, i < G → ps_N μ 24 i ≤ 2)
    (hτ : ∀ f, f ≠ aG g → f ≠ aG g + 1 → f ≠ aG g + 2 → τ f = σ f) (hν : ∀ f, f ≠ 24 → f ≠ 25 → f ≠ 26 → ν f = μ f) (h24 : ∀ i, i ≠ g → ν 24 i = μ 24 i) (h25 : ∀ i, (i < 2 * g ∨ 2 * g + 2 ≤ i) → ν 25 i = μ 25 i ∧ ν 26 i = μ 26 i)
    (hG : ps_Gv τ (aG g) ν g) : ps_Rv R G aR aG Nw τ ν ρ := by
  obtain ⟨-, -, -, c4, c5, c6, c7, c8⟩ := hC
  obtain ⟨v0, vr, vg⟩ := hV
  have q := c5 g hg
  refine ⟨?_, fun s hs => ?_, fun i hi => ?_⟩
  · rw [hτ 2 (by omega) (by omega) (by omega), hτ 5 (by omega) (by omega) (by omega), hτ 6 (by omega) (by omega) (by omega), hν 7 (by decide) (by decide) (by decide), hν 17 (by decide) (by decide) (by decide), hν 31 (by decide) (by decide) (by decide)]
    exact v0
  · have w := c8 s g hs hg
    obtain ⟨d1, d2, d3, d4⟩ := vr s hs
    refine ⟨?_, (ps_Rw_f (hτ _ (by omega) (by omega) (by omega)) (hτ _ (by omega) (by omega) (by omega))).mpr d2, (ps_Rw_f (hτ _ (by omega) (by omega) (by omega)) (hτ _ (by omega) (by omega) (by omega))).mpr d3, ?_⟩
    · unfold ps_Dv ps_wd ps_turn ps_N at d1 ⊢
      rw [hτ (aR s) (by omega) (by omega) (by omega), hν 8 (by decide) (by decide) (by decide), hν 9 (by decide) (by decide) (by decide), hν 12 (by decide) (by decide) (by decide), hν 10 (by decide) (by decide) (by decide), hν 11 (by decide) (by decide) (by decide), hν 13 (by decide) (by decide) (by decide), hν 32 (by decide) (by decide) (by decide), hν 14 (by decide) (by decide) (by decide), hν 15 (by decide) (by decide) (by decide), hν 16 (by decide) (by decide) (by decide)]
      exact d1
    · rw [hτ (aR s + 5) (by omega) (by omega) (by omega), hν 18 (by decide) (by decide) (by decide)]
      exact d4
  · by_cases z : i = g
    · subst z; exact hG
    · have w := c7 i g hi hg z
      have e := vg i hi
      have t2 := h2 i hi
      unfold ps_Gv at e ⊢
      rw [hτ (aG i) (by omega) (by omega) (by omega), hτ (aG i + 1) (by omega) (by omega) (by omega), hτ (aG i + 2) (by omega) (by omega) (by omega), hν 19 (by decide) (by decide) (by decide), hν 20 (by decide) (by decide) (by decide), hν 21 (by decide) (by decide) (by decide), hν 23 (by decide) (by decide) (by decide), hν 27 (by decide) (by decide) (by decide), hν 28 (by decide) (by decide) (by decide), hν 29 (by decide) (by decide) (by decide), hν 30 (by decide) (by decide) (by decide), h24 i z, show ps_N ν 24 i = ps_N μ 24 i from by unfold ps_N; rw [h24 i z]]
      obtain ⟨e0, e1, e4, e5, e6, e7, e8, e9, e10, e11, e12⟩ := e
      refine ⟨e0, e1, e4, e5, e6, e7, e8, e9, e10, e11, fun j hj => ?_⟩
      have hq := h25 (2 * i + j) (by omega)
      rw [hq.1, hq.2]
      exact e12 j hj
theorem ru_drop {g t j : Nat} (hC : ps_CS h R G aR aG Nw) (hV : ps_Rv R G aR aG Nw σ μ ρ) (hg : g < G) (h2 : ∀ i, i < G → ps_N μ 24 i ≤ 2) (ht : μ 24 g = nI t) (ht2 : t ≤ 2) (hj : j < t) : ps_Rv R G aR aG Nw (ps_gdrop σ (aG g) t j) (ps_drop μ g j) ρ := by
  have e := hV.2.2 g hg
  obtain ⟨e0, e1, e4, e5, e6, e7, e8, e9, e10, e11, e12⟩ := e
  have t2 := h2 g hg
  · have hN' : ps_N μ 24 g = t := by unfold ps_N; rw [ht]; exact nI_clamp (by omega)
    rw [hN'] at t2 e12
    have hm : μ 24 g - 1 = nI (t - 1) := by rw [ht, show (1 : Int32) = nI 1 from rfl, pn_sub (by omega)]
    refine ru_gt hC hV hg h2 (fun f f1 f2 f3 => ?_) (fun f f1 f2 f3 => ?_) (fun i hi => ?_) (fun i hi => ?_) ?_
    · unfold ps_gdrop
      split
      · rw [ps_up_f f1, ps_up_f f3, ps_up_f f2]
      · rw [ps_up_f f1]
    · unfold ps_drop
      rw [ps_up_f f1]
      split
      · rw [ps_up_f f3, ps_up_f f2]
      · rfl
    · unfold ps_drop
      rw [ps_up_n (Or.inr hi)]
      split
      · rw [ps_up_n (Or.inl (by decide)), ps_up_n (Or.inl (by decide))]
      · rfl
    · unfold ps_drop
      rw [ps_up_f (show 25 ≠ 24 by decide), ps_up_f (show 26 ≠ 24 by decide)]
      split
      · rw [ps_up_n (Or.inl (by decide)), ps_up_n (Or.inr (by omega)), ps_up_n (Or.inr (by omega)), ps_up_n (Or.inl (by decide))]
        exact ⟨rfl, rfl⟩
      · exact ⟨rfl, rfl⟩
    · have hNd : ps_N (ps_drop μ g j) 24 g = t - 1 := by
        unfold ps_N ps_drop
        rw [ps_up_s, hm, nI_clamp (by omega)]
      have hdr : ∀ f, f ≠ 24 → f ≠ 25 → f ≠ 26 → ps_drop μ g j f = μ f := by
        intro f f1 f2 f3
        unfold ps_drop
        rw [ps_up_f f1]
        split
        · rw [ps_up_f f3, ps_up_f f2]
        · rfl
      have h24 : ps_drop μ g j 24 g = nI (t - 1) := by unfold ps_drop; rw [ps_up_s, hm]
      unfold ps_Gv
      rw [hNd, hdr 19 (by decide) (by decide) (by decide), hdr 20 (by decide) (by decide) (by decide), hdr 21 (by decide) (by decide) (by decide), hdr 23 (by decide) (by decide) (by decide), hdr 27 (by decide) (by decide) (by decide), hdr 28 (by decide) (by decide) (by decide), hdr 29 (by decide) (by decide) (by decide), hdr 30 (by decide) (by decide) (by decide), h24]
      unfold ps_gdrop
      by_cases hq : j + 1 < t
      · have j0 : j = 0 := by omega
        have tt : t = 2 := by omega
        subst j0; subst tt
        rw [if_pos (by decide), ps_up_s]
        rw [ps_up_n (a := aG g) (j := 0) (Or.inr (by decide)), ps_up_n (a := aG g) (j := 1) (Or.inr (by decide)), ps_up_n (a := aG g) (j := 5) (Or.inr (by decide)), ps_up_n (a := aG g) (j := 6) (Or.inr (by decide)), ps_up_n (a := aG g) (j := 7) (Or.inr (by decide)), ps_up_n (a := aG g) (j := 8) (Or.inr (by decide)), ps_up_n (a := aG g) (j := 9) (Or.inr (by decide)), ps_up_n (a := aG g) (j := 10) (Or.inr (by decide)), ps_up_n (a := aG g) (j := 11) (Or.inr (by decide))]
        rw [ps_up_f (show aG g ≠ aG g + 2 by omega), ps_up_f (show aG g ≠ aG g + 1 by omega)]
        refine ⟨e0, e1, rfl, e5, e6, e7, e8, e9, e10, e11, fun i hi => ?_⟩
        have i0 : i = 0 := by omega
        subst i0
        have e2 := e12 1 (by omega)
        unfold ps_drop
        rw [if_pos rfl, ps_up_f (show aG g + 1 ≠ aG g by omega), ps_up_f (show aG g + 2 ≠ aG g by omega), ps_up_f (show aG g + 1 ≠ aG g + 2 by omega), ps_up_s, ps_up_s, ps_up_f (show 25 ≠ 24 by decide), ps_up_f (show 26 ≠ 24 by decide), ps_up_f (show 25 ≠ 26 by decide)]
        exact ⟨e2.1.trans (ps_up_s _ _ _ _).symm, e2.2.trans (ps_up_s _ _ _ _).symm⟩
      · rw [if_neg hq, ps_up_s]
        rw [ps_up_n (a := aG g) (j := 0) (Or.inr (by decide)), ps_up_n (a := aG g) (j := 1) (Or.inr (by decide)), ps_up_n (a := aG g) (j := 5) (Or.inr (by decide)), ps_up_n (a := aG g) (j := 6) (Or.inr (by decide)), ps_up_n (a := aG g) (j := 7) (Or.inr (by decide)), ps_up_n (a := aG g) (j := 8) (Or.inr (by decide)), ps_up_n (a := aG g) (j := 9) (Or.inr (by decide)), ps_up_n (a := aG g) (j := 10) (Or.inr (by decide)), ps_up_n (a := aG g) (j := 11) (Or.inr (by decide))]
        refine ⟨e0, e1, rfl, e5, e6, e7, e8, e9, e10, e11, fun i hi => ?_⟩
        have e2 := e12 i (by omega)
        unfold ps_drop
        rw [ps_up_f (show aG g + 1 ≠ aG g by omega), ps_up_f (show aG g + 2 ≠ aG g by omega), ps_up_f (show 25 ≠ 24 by decide), ps_up_f (show 26 ≠ 24 by decide), if_neg (by omega)]
        exact e2
theorem ru_addt {g t : Nat} {x y : Int32} (hC : ps_CS h R G aR aG Nw) (hV : ps_Rv R G aR aG Nw σ μ ρ) (hg : g < G) (h2 : ∀ i, i < G → ps_N μ 24 i ≤ 2) (ht : μ 24 g = nI t) (hj : t < 2) : ps_Rv R G aR aG Nw (ps_up (ps_up (ps_up σ (aG g + 1) t x) (aG g + 2) t y) (aG g) 4 (nI (t + 1))) (ps_addt μ g t x y) ρ := by
  obtain ⟨e0, e1, e4, e5, e6, e7, e8, e9, e10, e11, e12⟩ := hV.2.2 g hg
  have hN' : ps_N μ 24 g = t := by unfold ps_N; rw [ht]; exact nI_clamp (by omega)
  rw [hN'] at e12
  have hm : μ 24 g + 1 = nI (t + 1) := by rw [ht, nI_1]
  refine ru_gt hC hV hg h2 (fun f f1 f2 f3 => ?_) (fun f f1 f2 f3 => ?_) (fun i hi => ?_) (fun i hi => ?_) ?_
  · rw [ps_up_f f1, ps_up_f f3, ps_up_f f2]
  · unfold ps_addt
    rw [ps_up_f f1, ps_up_f f3, ps_up_f f2]
  · unfold ps_addt
    rw [ps_up_n (Or.inr hi), ps_up_n (Or.inl (by decide)), ps_up_n (Or.inl (by decide))]
  · unfold ps_addt
    rw [ps_up_f (show 25 ≠ 24 by decide), ps_up_f (show 26 ≠ 24 by decide), ps_up_n (Or.inl (by decide)), ps_up_n (Or.inr (by omega)), ps_up_n (Or.inr (by omega)), ps_up_n (Or.inl (by decide))]
    exact ⟨rfl, rfl⟩
  · have hNd : ps_N (ps_addt μ g t x y) 24 g = t + 1 := by
      unfold ps_N ps_addt
      rw [ps_up_s, hm, nI_clamp (by omega)]
    have hdr : ∀ f, f ≠ 24 → f ≠ 25 → f ≠ 26 → ps_addt μ g t x y f = μ f := by
      intro f f1 f2 f3
      unfold ps_addt
      rw [ps_up_f f1, ps_up_f f3, ps_up_f f2]
    have h24 : ps_addt μ g t x y 24 g = nI (t + 1) := by unfold ps_addt; rw [ps_up_s, hm]
    unfold ps_Gv
    rw [hNd, hdr 19 (by decide) (by decide) (by decide), hdr 20 (by decide) (by decide) (by decide), hdr 21 (by decide) (by decide) (by decide), hdr 23 (by decide) (by decide) (by decide), hdr 27 (by decide) (by decide) (by decide), hdr 28 (by decide) (by decide) (by decide), hdr 29 (by decide) (by decide) (by decide), hdr 30 (by decide) (by decide) (by decide), h24, ps_up_s]
    rw [ps_up_n (a := aG g) (j := 0) (Or.inr (by decide)), ps_up_n (a := aG g) (j := 1) (Or.inr (by decide)), ps_up_n (a := aG g) (j := 5) (Or.inr (by decide)), ps_up_n (a := aG g) (j := 6) (Or.inr (by decide)), ps_up_n (a := aG g) (j := 7) (Or.inr (by decide)), ps_up_n (a := aG g) (j := 8) (Or.inr (by decide)), ps_up_n (a := aG g) (j := 9) (Or.inr (by decide)), ps_up_n (a := aG g) (j := 10) (Or.inr (by decide)), ps_up_n (a := aG g) (j := 11) (Or.inr (by decide))]
    rw [ps_up_f (show aG g ≠ aG g + 2 by omega), ps_up_f (show aG g ≠ aG g + 1 by omega)]
    refine ⟨e0, e1, rfl, e5, e6, e7, e8, e9, e10, e11, fun i hi => ?_⟩
    unfold ps_addt
    rw [ps_up_f (show aG g + 1 ≠ aG g by omega), ps_up_f (show aG g + 2 ≠ aG g by omega), ps_up_f (show aG g + 1 ≠ aG g + 2 by omega), ps_up_f (show 25 ≠ 24 by decide), ps_up_f (show 26 ≠ 24 by decide), ps_up_f (show 25 ≠ 26 by decide)]
    by_cases z : i = t
    · subst z
      rw [ps_up_s, ps_up_s, ps_up_s, ps_up_s]
      exact ⟨rfl, rfl⟩
    · have e2 := e12 i (by omega)
      refine ⟨?_, ?_⟩
      · rw [ps_up_n (i := t) (Or.inr z), ps_up_n (i := 2 * g + t) (Or.inr (by omega))]
        exact e2.1
      · rw [ps_up_n (i := t) (Or.inr z), ps_up_n (f := aG g + 1) (Or.inl (by omega)), ps_up_n (f := 26) (Or.inr (by omega)), ps_up_n (f := 25) (Or.inl (by decide))]
        exact e2.2
theorem ru_movt {g t j : Nat} {x : Int32} (hC : ps_CS h R G aR aG Nw) (hV : ps_Rv R G aR aG Nw σ μ ρ) (hg : g < G) (h2 : ∀ i, i < G → ps_N μ 24 i ≤ 2) (ht : μ 24 g = nI t) (ht2 : t ≤ 2) (hj : j < t) : ps_Rv R G aR aG Nw (ps_up σ (aG g + 2) j x) (ps_up μ 26 (2 * g + j) x) ρ := by
  obtain ⟨e0, e1, e4, e5, e6, e7, e8, e9, e10, e11, e12⟩ := hV.2.2 g hg
  refine ru_gt hC hV hg h2 (fun f f1 f2 f3 => ps_up_f f3) (fun f f1 f2 f3 => ps_up_f f3) (fun i hi => ps_up_n (Or.inl (by decide))) (fun i hi => ?_) ?_
  · rw [ps_up_n (Or.inl (by decide)), ps_up_n (Or.inr (by omega))]
    exact ⟨rfl, rfl⟩
  · unfold ps_Gv ps_N at *
    rw [ps_up_f (show aG g ≠ aG g + 2 by omega), ps_up_f (show 19 ≠ 26 by decide), ps_up_f (show 24 ≠ 26 by decide), ps_up_f (show 20 ≠ 26 by decide), ps_up_f (show 21 ≠ 26 by decide), ps_up_f (show 23 ≠ 26 by decide), ps_up_f (show 27 ≠ 26 by decide), ps_up_f (show 28 ≠ 26 by decide), ps_up_f (show 29 ≠ 26 by decide), ps_up_f (show 30 ≠ 26 by decide), ps_up_f (show 25 ≠ 26 by decide), ps_up_f (show aG g + 1 ≠ aG g + 2 by omega)]
    refine ⟨e0, e1, e4, e5, e6, e7, e8, e9, e10, e11, fun i hi => ?_⟩
    have e2 := e12 i hi
    by_cases z : i = j
    · subst z
      rw [ps_up_s, ps_up_s]
      exact ⟨e2.1, rfl⟩
    · rw [ps_up_n (Or.inr z), ps_up_n (Or.inr (by omega))]
      exact e2
end PST
