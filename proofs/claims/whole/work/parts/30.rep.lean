/-! The state: numbers by field and index (the fields as the reference numbers its arrays), rows as lists; how the class's cells hold it. -/
def ps_N (μ : ps_S) (f i : Nat) : Nat := (μ f i).toNatClampNeg
def ps_turn (μ : ps_S) (r : Nat) : Nat := if μ 12 r = 2 then 3 * ps_N μ 9 r else ps_N μ 9 r
def ps_wd (μ : ps_S) (r : Nat) : Nat := 5 * ps_turn μ r
abbrev ps_P : Type := Nat → List Nat
def ps_ur (ρ : ps_P) (c : Nat) (L : List Nat) : ps_P := fun d => if d = c then L else ρ d
theorem ps_ur_s (ρ : ps_P) (c : Nat) (L : List Nat) : ps_ur ρ c L c = L := by unfold ps_ur; rw [if_pos rfl]
theorem ps_ur_n {ρ : ps_P} {c d : Nat} {L : List Nat} (h : d ≠ c) : ps_ur ρ c L d = ρ d := by unfold ps_ur; rw [if_neg h]
-- how a group's cell, a ride's cell hold it
def ps_Gv (σ : ps_S) (a : Nat) (μ : ps_S) (g : Nat) : Prop := σ a 0 = nI g ∧ σ a 1 = μ 19 g ∧ σ a 4 = μ 24 g ∧ σ a 5 = μ 20 g ∧ σ a 6 = μ 21 g ∧ σ a 7 = μ 23 g ∧ σ a 8 = μ 27 g ∧ σ a 9 = μ 28 g ∧ σ a 10 = μ 29 g ∧ σ a 11 = μ 30 g ∧ ∀ i, i < ps_N μ 24 g → σ (a + 1) i = μ 25 (2 * g + i) ∧ σ (a + 2) i = μ 26 (2 * g + i)
def ps_Dv (σ : ps_S) (a : Nat) (μ : ps_S) (r : Nat) : Prop := σ a 0 = nI r ∧ σ a 1 = μ 8 r ∧ σ a 2 = μ 9 r ∧ σ a 3 = μ 12 r ∧ σ a 4 = nI (ps_turn μ r) ∧ σ a 5 = nI (ps_wd μ r) ∧ σ a 9 = μ 10 r ∧ σ a 10 = μ 11 r ∧ σ a 11 = μ 13 r ∧ σ a 12 = μ 32 r ∧ σ a 13 = μ 14 r ∧ σ a 14 = μ 15 r ∧ σ a 15 = μ 16 r
-- shape: (h; how many rides, groups; where they lie; how long the given rows are)
def ps_TS (h : pw_Hp) : Prop := pw_k h 2 = 13 ∧ pw_r h 2 0 = 3 ∧ pw_r h 2 1 = 4 ∧ pw_r h 2 2 = 5 ∧ pw_r h 2 3 = 6 ∧ pw_k h 3 = 3 ∧ pw_n h 3 = 8 ∧ pw_k h 4 = 4 ∧ pw_n h 4 = 60 ∧ pw_k h 5 = 1 ∧ pw_n h 5 = 64 ∧ pw_k h 6 = 1 ∧ pw_n h 6 = 6
def ps_CS (h : pw_Hp) (R G : Nat) (aR aG Nw : Nat → Nat) : Prop :=
  ps_TS h ∧ R ≤ 8 ∧ G ≤ 60 ∧
  (∀ r, r < R → pw_r h 3 r = aR r ∧ ps_DS h (aR r) (Nw r) ∧ ps_WS h (aR r + 1) ∧ ps_WS h (aR r + 3) ∧ Nw r ≤ 1100 ∧ 32 ≤ aR r ∧ aR r + 6 ≤ h.1 + 2) ∧
  (∀ g, g < G → pw_r h 4 g = aG g ∧ ps_GS h (aG g) ∧ 32 ≤ aG g ∧ aG g + 3 ≤ h.1 + 2) ∧
  (∀ r s, r < R → s < R → r ≠ s → aR r + 6 ≤ aR s ∨ aR s + 6 ≤ aR r) ∧
  (∀ g i, g < G → i < G → g ≠ i → aG g + 3 ≤ aG i ∨ aG i + 3 ≤ aG g) ∧
  (∀ r g, r < R → g < G → aR r + 6 ≤ aG g ∨ aG g + 3 ≤ aR r)
def ps_Rv (R G : Nat) (aR aG Nw : Nat → Nat) (σ μ : ps_S) (ρ : ps_P) : Prop :=
  (σ 2 4 = nI R ∧ σ 2 5 = nI G ∧ μ 7 2 = nI R ∧ μ 7 14 = nI G ∧ σ 2 6 = μ 7 0 ∧ σ 2 7 = μ 7 1 ∧ (∀ i, i < 64 → σ 5 i = μ 17 i) ∧ ∀ i, i < 6 → σ 6 i = μ 31 (i + 1)) ∧
  (∀ r, r < R → ps_Dv σ (aR r) μ r ∧ ps_Rw σ (aR r + 1) (ρ (2 * r)) ∧ ps_Rw σ (aR r + 3) (ρ (2 * r + 1)) ∧ ∀ w, w < Nw r → σ (aR r + 5) w = μ 18 (1100 * r + w)) ∧
  (∀ g, g < G → ps_Gv σ (aG g) μ g)
theorem ps_Rw_f {σ τ : ps_S} {a : Nat} {L : List Nat} (h1 : τ a = σ a) (h2 : τ (a + 1) = σ (a + 1)) : ps_Rw τ a L ↔ ps_Rw σ a L := by unfold ps_Rw; rw [h1, h2]
section PSR
variable {h : pw_Hp} {R G : Nat} {aR aG Nw : Nat → Nat} {σ μ : ps_S} {ρ : ps_P}
theorem ru_G5 {g : Nat} {x : Int32} (hC : ps_CS h R G aR aG Nw) (hV : ps_Rv R G aR aG Nw σ μ ρ) (hg : g < G) : ps_Rv R G aR aG Nw (ps_up σ (aG g) 5 x) (ps_up μ 20 g x) ρ := by
  obtain ⟨-, -, -, c4, c5, c6, c7, c8⟩ := hC
  obtain ⟨v0, vr, vg⟩ := hV
  have q := c5 g hg
  refine ⟨?_, fun s hs => ?_, fun i hi => ?_⟩
  · rw [ps_up_f (show 2 ≠ aG g by omega), ps_up_f (show 5 ≠ aG g by omega), ps_up_f (show 6 ≠ aG g by omega), ps_up_f (show 7 ≠ 20 by decide), ps_up_f (show 17 ≠ 20 by decide), ps_up_f (show 31 ≠ 20 by decide)]; exact v0
  · have w := c8 s g hs hg
    obtain ⟨d1, d2, d3, d4⟩ := vr s hs
    refine ⟨?_, (ps_Rw_f (ps_up_f (by omega)) (ps_up_f (by omega))).mpr d2, (ps_Rw_f (ps_up_f (by omega)) (ps_up_f (by omega))).mpr d3, ?_⟩
    · unfold ps_Dv ps_wd ps_turn ps_N at d1 ⊢
      rw [ps_up_f (show aR s ≠ aG g by omega), ps_up_f (show 8 ≠ 20 by decide), ps_up_f (show 9 ≠ 20 by decide), ps_up_f (show 12 ≠ 20 by decide), ps_up_f (show 10 ≠ 20 by decide), ps_up_f (show 11 ≠ 20 by decide), ps_up_f (show 13 ≠ 20 by decide), ps_up_f (show 32 ≠ 20 by decide), ps_up_f (show 14 ≠ 20 by decide), ps_up_f (show 15 ≠ 20 by decide), ps_up_f (show 16 ≠ 20 by decide)]
      exact d1
    · rw [ps_up_f (show aR s + 5 ≠ aG g by omega), ps_up_f (show 18 ≠ 20 by decide)]
      exact d4
  · have e := vg i hi
    by_cases z : i = g
    · subst z
      unfold ps_Gv ps_N at e ⊢
      rw [ps_up_f (show aG i + 1 ≠ aG i by omega), ps_up_f (show aG i + 2 ≠ aG i by omega), ps_up_f (show 19 ≠ 20 by decide), ps_up_f (show 24 ≠ 20 by decide), ps_up_f (show 21 ≠ 20 by decide), ps_up_f (show 23 ≠ 20 by decide), ps_up_f (show 27 ≠ 20 by decide), ps_up_f (show 28 ≠ 20 by decide), ps_up_f (show 29 ≠ 20 by decide), ps_up_f (show 30 ≠ 20 by decide), ps_up_f (show 25 ≠ 20 by decide), ps_up_f (show 26 ≠ 20 by decide), ps_up_s, ps_up_s]
      repeat rw [ps_up_n (Or.inr (by decide))]
      obtain ⟨e0, e1, e4, e5, e6, e7, e8, e9, e10, e11, e12⟩ := e
      exact ⟨e0, e1, e4, rfl, e6, e7, e8, e9, e10, e11, e12⟩
    · have w := c7 i g hi hg z
      unfold ps_Gv ps_N at e ⊢
      rw [ps_up_f (show aG i ≠ aG g by omega), ps_up_f (show aG i + 1 ≠ aG g by omega), ps_up_f (show aG i + 2 ≠ aG g by omega), ps_up_f (show 19 ≠ 20 by decide), ps_up_f (show 24 ≠ 20 by decide), ps_up_f (show 21 ≠ 20 by decide), ps_up_f (show 23 ≠ 20 by decide), ps_up_f (show 27 ≠ 20 by decide), ps_up_f (show 28 ≠ 20 by decide), ps_up_f (show 29 ≠ 20 by decide), ps_up_f (show 30 ≠ 20 by decide), ps_up_f (show 25 ≠ 20 by decide), ps_up_f (show 26 ≠ 20 by decide), ps_up_n (Or.inr z)]
      exact e
theorem ru_G6 {g : Nat} {x : Int32} (hC : ps_CS h R G aR aG Nw) (hV : ps_Rv R G aR aG Nw σ μ ρ) (hg : g < G) : ps_Rv R G aR aG Nw (ps_up σ (aG g) 6 x) (ps_up μ 21 g x) ρ := by
  obtain ⟨-, -, -, c4, c5, c6, c7, c8⟩ := hC
  obtain ⟨v0, vr, vg⟩ := hV
  have q := c5 g hg
  refine ⟨?_, fun s hs => ?_, fun i hi => ?_⟩
  · rw [ps_up_f (show 2 ≠ aG g by omega), ps_up_f (show 5 ≠ aG g by omega), ps_up_f (show 6 ≠ aG g by omega), ps_up_f (show 7 ≠ 21 by decide), ps_up_f (show 17 ≠ 21 by decide), ps_up_f (show 31 ≠ 21 by decide)]; exact v0
  · have w := c8 s g hs hg
    obtain ⟨d1, d2, d3, d4⟩ := vr s hs
    refine ⟨?_, (ps_Rw_f (ps_up_f (by omega)) (ps_up_f (by omega))).mpr d2, (ps_Rw_f (ps_up_f (by omega)) (ps_up_f (by omega))).mpr d3, ?_⟩
    · unfold ps_Dv ps_wd ps_turn ps_N at d1 ⊢
      rw [ps_up_f (show aR s ≠ aG g by omega), ps_up_f (show 8 ≠ 21 by decide), ps_up_f (show 9 ≠ 21 by decide), ps_up_f (show 12 ≠ 21 by decide), ps_up_f (show 10 ≠ 21 by decide), ps_up_f (show 11 ≠ 21 by decide), ps_up_f (show 13 ≠ 21 by decide), ps_up_f (show 32 ≠ 21 by decide), ps_up_f (show 14 ≠ 21 by decide), ps_up_f (show 15 ≠ 21 by decide), ps_up_f (show 16 ≠ 21 by decide)]
      exact d1
    · rw [ps_up_f (show aR s + 5 ≠ aG g by omega), ps_up_f (show 18 ≠ 21 by decide)]
      exact d4
  · have e := vg i hi
    by_cases z : i = g
    · subst z
      unfold ps_Gv ps_N at e ⊢
      rw [ps_up_f (show aG i + 1 ≠ aG i by omega), ps_up_f (show aG i + 2 ≠ aG i by omega), ps_up_f (show 19 ≠ 21 by decide), ps_up_f (show 24 ≠ 21 by decide), ps_up_f (show 20 ≠ 21 by decide), ps_up_f (show 23 ≠ 21 by decide), ps_up_f (show 27 ≠ 21 by decide), ps_up_f (show 28 ≠ 21 by decide), ps_up_f (show 29 ≠ 21 by decide), ps_up_f (show 30 ≠ 21 by decide), ps_up_f (show 25 ≠ 21 by decide), ps_up_f (show 26 ≠ 21 by decide), ps_up_s, ps_up_s]
      repeat rw [ps_up_n (Or.inr (by decide))]
      obtain ⟨e0, e1, e4, e5, e6, e7, e8, e9, e10, e11, e12⟩ := e
      exact ⟨e0, e1, e4, e5, rfl, e7, e8, e9, e10, e11, e12⟩
    · have w := c7 i g hi hg z
      unfold ps_Gv ps_N at e ⊢
      rw [ps_up_f (show aG i ≠ aG g by omega), ps_up_f (show aG i + 1 ≠ aG g by omega), ps_up_f (show aG i + 2 ≠ aG g by omega), ps_up_f (show 19 ≠ 21 by decide), ps_up_f (show 24 ≠ 21 by decide), ps_up_f (show 20 ≠ 21 by decide), ps_up_f (show 23 ≠ 21 by decide), ps_up_f (show 27 ≠ 21 by decide), ps_up_f (show 28 ≠ 21 by decide), ps_up_f (show 29 ≠ 21 by decide), ps_up_f (show 30 ≠ 21 by decide), ps_up_f (show 25 ≠ 21 by decide), ps_up_f (show 26 ≠ 21 by decide), ps_up_n (Or.inr z)]
      exact e
theorem ru_G7 {g : Nat} {x : Int32} (hC : ps_CS h R G aR aG Nw) (hV : ps_Rv R G aR aG Nw σ μ ρ) (hg : g < G) : ps_Rv R G aR aG Nw (ps_up σ (aG g) 7 x) (ps_up μ 23 g x) ρ := by
  obtain ⟨-, -, -, c4, c5, c6, c7, c8⟩ := hC
  obtain ⟨v0, vr, vg⟩ := hV
  have q := c5 g hg
  refine ⟨?_, fun s hs => ?_, fun i hi => ?_⟩
  · rw [ps_up_f (show 2 ≠ aG g by omega), ps_up_f (show 5 ≠ aG g by omega), ps_up_f (show 6 ≠ aG g by omega), ps_up_f (show 7 ≠ 23 by decide), ps_up_f (show 17 ≠ 23 by decide), ps_up_f (show 31 ≠ 23 by decide)]; exact v0
  · have w := c8 s g hs hg
    obtain ⟨d1, d2, d3, d4⟩ := vr s hs
    refine ⟨?_, (ps_Rw_f (ps_up_f (by omega)) (ps_up_f (by omega))).mpr d2, (ps_Rw_f (ps_up_f (by omega)) (ps_up_f (by omega))).mpr d3, ?_⟩
    · unfold ps_Dv ps_wd ps_turn ps_N at d1 ⊢
      rw [ps_up_f (show aR s ≠ aG g by omega), ps_up_f (show 8 ≠ 23 by decide), ps_up_f (show 9 ≠ 23 by decide), ps_up_f (show 12 ≠ 23 by decide), ps_up_f (show 10 ≠ 23 by decide), ps_up_f (show 11 ≠ 23 by decide), ps_up_f (show 13 ≠ 23 by decide), ps_up_f (show 32 ≠ 23 by decide), ps_up_f (show 14 ≠ 23 by decide), ps_up_f (show 15 ≠ 23 by decide), ps_up_f (show 16 ≠ 23 by decide)]
      exact d1
    · rw [ps_up_f (show aR s + 5 ≠ aG g by omega), ps_up_f (show 18 ≠ 23 by decide)]
      exact d4
  · have e := vg i hi
    by_cases z : i = g
    · subst z
      unfold ps_Gv ps_N at e ⊢
      rw [ps_up_f (show aG i + 1 ≠ aG i by omega), ps_up_f (show aG i + 2 ≠ aG i by omega), ps_up_f (show 19 ≠ 23 by decide), ps_up_f (show 24 ≠ 23 by decide), ps_up_f (show 20 ≠ 23 by decide), ps_up_f (show 21 ≠ 23 by decide), ps_up_f (show 27 ≠ 23 by decide), ps_up_f (show 28 ≠ 23 by decide), ps_up_f (show 29 ≠ 23 by decide), ps_up_f (show 30 ≠ 23 by decide), ps_up_f (show 25 ≠ 23 by decide), ps_up_f (show 26 ≠ 23 by decide), ps_up_s, ps_up_s]
      repeat rw [ps_up_n (Or.inr (by decide))]
      obtain ⟨e0, e1, e4, e5, e6, e7, e8, e9, e10, e11, e12⟩ := e
      exact ⟨e0, e1, e4, e5, e6, rfl, e8, e9, e10, e11, e12⟩
    · have w := c7 i g hi hg z
      unfold ps_Gv ps_N at e ⊢
      rw [ps_up_f (show aG i ≠ aG g by omega), ps_up_f (show aG i + 1 ≠ aG g by omega), ps_up_f (show aG i + 2 ≠ aG g by omega), ps_up_f (show 19 ≠ 23 by decide), ps_up_f (show 24 ≠ 23 by decide), ps_up_f (show 20 ≠ 23 by decide), ps_up_f (show 21 ≠ 23 by decide), ps_up_f (show 27 ≠ 23 by decide), ps_up_f (show 28 ≠ 23 by decide), ps_up_f (show 29 ≠ 23 by decide), ps_up_f (show 30 ≠ 23 by decide), ps_up_f (show 25 ≠ 23 by decide), ps_up_f (show 26 ≠ 23 by decide), ps_up_n (Or.inr z)]
      exact e
theorem ru_G8 {g : Nat} {x : Int32} (hC : ps_CS h R G aR aG Nw) (hV : ps_Rv R G aR aG Nw σ μ ρ) (hg : g < G) : ps_Rv R G aR aG Nw (ps_up σ (aG g) 8 x) (ps_up μ 27 g x) ρ := by
  obtain ⟨-, -, -, c4, c5, c6, c7, c8⟩ := hC
  obtain ⟨v0, vr, vg⟩ := hV
  have q := c5 g hg
  refine ⟨?_, fun s hs => ?_, fun i hi => ?_⟩
  · rw [ps_up_f (show 2 ≠ aG g by omega), ps_up_f (show 5 ≠ aG g by omega), ps_up_f (show 6 ≠ aG g by omega), ps_up_f (show 7 ≠ 27 by decide), ps_up_f (show 17 ≠ 27 by decide), ps_up_f (show 31 ≠ 27 by decide)]; exact v0
  · have w := c8 s g hs hg
    obtain ⟨d1, d2, d3, d4⟩ := vr s hs
    refine ⟨?_, (ps_Rw_f (ps_up_f (by omega)) (ps_up_f (by omega))).mpr d2, (ps_Rw_f (ps_up_f (by omega)) (ps_up_f (by omega))).mpr d3, ?_⟩
    · unfold ps_Dv ps_wd ps_turn ps_N at d1 ⊢
      rw [ps_up_f (show aR s ≠ aG g by omega), ps_up_f (show 8 ≠ 27 by decide), ps_up_f (show 9 ≠ 27 by decide), ps_up_f (show 12 ≠ 27 by decide), ps_up_f (show 10 ≠ 27 by decide), ps_up_f (show 11 ≠ 27 by decide), ps_up_f (show 13 ≠ 27 by decide), ps_up_f (show 32 ≠ 27 by decide), ps_up_f (show 14 ≠ 27 by decide), ps_up_f (show 15 ≠ 27 by decide), ps_up_f (show 16 ≠ 27 by decide)]
      exact d1
    · rw [ps_up_f (show aR s + 5 ≠ aG g by omega), ps_up_f (show 18 ≠ 27 by decide)]
      exact d4
  · have e := vg i hi
    by_cases z : i = g
    · subst z
      unfold ps_Gv ps_N at e ⊢
      rw [ps_up_f (show aG i + 1 ≠ aG i by omega), ps_up_f (show aG i + 2 ≠ aG i by omega), ps_up_f (show 19 ≠ 27 by decide), ps_up_f (show 24 ≠ 27 by decide), ps_up_f (show 20 ≠ 27 by decide), ps_up_f (show 21 ≠ 27 by decide), ps_up_f (show 23 ≠ 27 by decide), ps_up_f (show 28 ≠ 27 by decide), ps_up_f (show 29 ≠ 27 by decide), ps_up_f (show 30 ≠ 27 by decide), ps_up_f (show 25 ≠ 27 by decide), ps_up_f (show 26 ≠ 27 by decide), ps_up_s, ps_up_s]
      repeat rw [ps_up_n (Or.inr (by decide))]
      obtain ⟨e0, e1, e4, e5, e6, e7, e8, e9, e10, e11, e12⟩ := e
      exact ⟨e0, e1, e4, e5, e6, e7, rfl, e9, e10, e11, e12⟩
    · have w := c7 i g hi hg z
      unfold ps_Gv ps_N at e ⊢
      rw [ps_up_f (show aG i ≠ aG g by omega), ps_up_f (show aG i + 1 ≠ aG g by omega), ps_up_f (show aG i + 2 ≠ aG g by omega), ps_up_f (show 19 ≠ 27 by decide), ps_up_f (show 24 ≠ 27 by decide), ps_up_f (show 20 ≠ 27 by decide), ps_up_f (show 21 ≠ 27 by decide), ps_up_f (show 23 ≠ 27 by decide), ps_up_f (show 28 ≠ 27 by decide), ps_up_f (show 29 ≠ 27 by decide), ps_up_f (show 30 ≠ 27 by decide), ps_up_f (show 25 ≠ 27 by decide), ps_up_f (show 26 ≠ 27 by decide), ps_up_n (Or.inr z)]
      exact e
theorem ru_G9 {g : Nat} {x : Int32} (hC : ps_CS h R G aR aG Nw) (hV : ps_Rv R G aR aG Nw σ μ ρ) (hg : g < G) : ps_Rv R G aR aG Nw (ps_up σ (aG g) 9 x) (ps_up μ 28 g x) ρ := by
  obtain ⟨-, -, -, c4, c5, c6, c7, c8⟩ := hC
  obtain ⟨v0, vr, vg⟩ := hV
  have q := c5 g hg
  refine ⟨?_, fun s hs => ?_, fun i hi => ?_⟩
  · rw [ps_up_f (show 2 ≠ aG g by omega), ps_up_f (show 5 ≠ aG g by omega), ps_up_f (show 6 ≠ aG g by omega), ps_up_f (show 7 ≠ 28 by decide), ps_up_f (show 17 ≠ 28 by decide), ps_up_f (show 31 ≠ 28 by decide)]; exact v0
  · have w := c8 s g hs hg
    obtain ⟨d1, d2, d3, d4⟩ := vr s hs
    refine ⟨?_, (ps_Rw_f (ps_up_f (by omega)) (ps_up_f (by omega))).mpr d2, (ps_Rw_f (ps_up_f (by omega)) (ps_up_f (by omega))).mpr d3, ?_⟩
    · unfold ps_Dv ps_wd ps_turn ps_N at d1 ⊢
      rw [ps_up_f (show aR s ≠ aG g by omega), ps_up_f (show 8 ≠ 28 by decide), ps_up_f (show 9 ≠ 28 by decide), ps_up_f (show 12 ≠ 28 by decide), ps_up_f (show 10 ≠ 28 by decide), ps_up_f (show 11 ≠ 28 by decide), ps_up_f (show 13 ≠ 28 by decide), ps_up_f (show 32 ≠ 28 by decide), ps_up_f (show 14 ≠ 28 by decide), ps_up_f (show 15 ≠ 28 by decide), ps_up_f (show 16 ≠ 28 by decide)]
      exact d1
    · rw [ps_up_f (show aR s + 5 ≠ aG g by omega), ps_up_f (show 18 ≠ 28 by decide)]
      exact d4
  · have e := vg i hi
    by_cases z : i = g
    · subst z
      unfold ps_Gv ps_N at e ⊢
      rw [ps_up_f (show aG i + 1 ≠ aG i by omega), ps_up_f (show aG i + 2 ≠ aG i by omega), ps_up_f (show 19 ≠ 28 by decide), ps_up_f (show 24 ≠ 28 by decide), ps_up_f (show 20 ≠ 28 by decide), ps_up_f (show 21 ≠ 28 by decide), ps_up_f (show 23 ≠ 28 by decide), ps_up_f (show 27 ≠ 28 by decide), ps_up_f (show 29 ≠ 28 by decide), ps_up_f (show 30 ≠ 28 by decide), ps_up_f (show 25 ≠ 28 by decide), ps_up_f (show 26 ≠ 28 by decide), ps_up_s, ps_up_s]
      repeat rw [ps_up_n (Or.inr (by decide))]
      obtain ⟨e0, e1, e4, e5, e6, e7, e8, e9, e10, e11, e12⟩ := e
      exact ⟨e0, e1, e4, e5, e6, e7, e8, rfl, e10, e11, e12⟩
    · have w := c7 i g hi hg z
      unfold ps_Gv ps_N at e ⊢
      rw [ps_up_f (show aG i ≠ aG g by omega), ps_up_f (show aG i + 1 ≠ aG g by omega), ps_up_f (show aG i + 2 ≠ aG g by omega), ps_up_f (show 19 ≠ 28 by decide), ps_up_f (show 24 ≠ 28 by decide), ps_up_f (show 20 ≠ 28 by decide), ps_up_f (show 21 ≠ 28 by decide), ps_up_f (show 23 ≠ 28 by decide), ps_up_f (show 27 ≠ 28 by decide), ps_up_f (show 29 ≠ 28 by decide), ps_up_f (show 30 ≠ 28 by decide), ps_up_f (show 25 ≠ 28 by decide), ps_up_f (show 26 ≠ 28 by decide), ps_up_n (Or.inr z)]
      exact e
theorem ru_G10 {g : Nat} {x : Int32} (hC : ps_CS h R G aR aG Nw) (hV : ps_Rv R G aR aG Nw σ μ ρ) (hg : g < G) : ps_Rv R G aR aG Nw (ps_up σ (aG g) 10 x) (ps_up μ 29 g x) ρ := by
  obtain ⟨-, -, -, c4, c5, c6, c7, c8⟩ := hC
  obtain ⟨v0, vr, vg⟩ := hV
  have q := c5 g hg
  refine ⟨?_, fun s hs => ?_, fun i hi => ?_⟩
  · rw [ps_up_f (show 2 ≠ aG g by omega), ps_up_f (show 5 ≠ aG g by omega), ps_up_f (show 6 ≠ aG g by omega), ps_up_f (show 7 ≠ 29 by decide), ps_up_f (show 17 ≠ 29 by decide), ps_up_f (show 31 ≠ 29 by decide)]; exact v0
  · have w := c8 s g hs hg
    obtain ⟨d1, d2, d3, d4⟩ := vr s hs
    refine ⟨?_, (ps_Rw_f (ps_up_f (by omega)) (ps_up_f (by omega))).mpr d2, (ps_Rw_f (ps_up_f (by omega)) (ps_up_f (by omega))).mpr d3, ?_⟩
    · unfold ps_Dv ps_wd ps_turn ps_N at d1 ⊢
      rw [ps_up_f (show aR s ≠ aG g by omega), ps_up_f (show 8 ≠ 29 by decide), ps_up_f (show 9 ≠ 29 by decide), ps_up_f (show 12 ≠ 29 by decide), ps_up_f (show 10 ≠ 29 by decide), ps_up_f (show 11 ≠ 29 by decide), ps_up_f (show 13 ≠ 29 by decide), ps_up_f (show 32 ≠ 29 by decide), ps_up_f (show 14 ≠ 29 by decide), ps_up_f (show 15 ≠ 29 by decide), ps_up_f (show 16 ≠ 29 by decide)]
      exact d1
    · rw [ps_up_f (show aR s + 5 ≠ aG g by omega), ps_up_f (show 18 ≠ 29 by decide)]
      exact d4
  · have e := vg i hi
    by_cases z : i = g
    · subst z
      unfold ps_Gv ps_N at e ⊢
      rw [ps_up_f (show aG i + 1 ≠ aG i by omega), ps_up_f (show aG i + 2 ≠ aG i by omega), ps_up_f (show 19 ≠ 29 by decide), ps_up_f (show 24 ≠ 29 by decide), ps_up_f (show 20 ≠ 29 by decide), ps_up_f (show 21 ≠ 29 by decide), ps_up_f (show 23 ≠ 29 by decide), ps_up_f (show 27 ≠ 29 by decide), ps_up_f (show 28 ≠ 29 by decide), ps_up_f (show 30 ≠ 29 by decide), ps_up_f (show 25 ≠ 29 by decide), ps_up_f (show 26 ≠ 29 by decide), ps_up_s, ps_up_s]
      repeat rw [ps_up_n (Or.inr (by decide))]
      obtain ⟨e0, e1, e4, e5, e6, e7, e8, e9, e10, e11, e12⟩ := e
      exact ⟨e0, e1, e4, e5, e6, e7, e8, e9, rfl, e11, e12⟩
    · have w := c7 i g hi hg z
      unfold ps_Gv ps_N at e ⊢
      rw [ps_up_f (show aG i ≠ aG g by omega), ps_up_f (show aG i + 1 ≠ aG g by omega), ps_up_f (show aG i + 2 ≠ aG g by omega), ps_up_f (show 19 ≠ 29 by decide), ps_up_f (show 24 ≠ 29 by decide), ps_up_f (show 20 ≠ 29 by decide), ps_up_f (show 21 ≠ 29 by decide), ps_up_f (show 23 ≠ 29 by decide), ps_up_f (show 27 ≠ 29 by decide), ps_up_f (show 28 ≠ 29 by decide), ps_up_f (show 30 ≠ 29 by decide), ps_up_f (show 25 ≠ 29 by decide), ps_up_f (show 26 ≠ 29 by decide), ps_up_n (Or.inr z)]
      exact e
theorem ru_G11 {g : Nat} {x : Int32} (hC : ps_CS h R G aR aG Nw) (hV : ps_Rv R G aR aG Nw σ μ ρ) (hg : g < G) : ps_Rv R G aR aG Nw (ps_up σ (aG g) 11 x) (ps_up μ 30 g x) ρ := by
  obtain ⟨-, -, -, c4, c5, c6, c7, c8⟩ := hC
  obtain ⟨v0, vr, vg⟩ := hV
  have q := c5 g hg
  refine ⟨?_, fun s hs => ?_, fun i hi => ?_⟩
  · rw [ps_up_f (show 2 ≠ aG g by omega), ps_up_f (show 5 ≠ aG g by omega), ps_up_f (show 6 ≠ aG g by omega), ps_up_f (show 7 ≠ 30 by decide), ps_up_f (show 17 ≠ 30 by decide), ps_up_f (show 31 ≠ 30 by decide)]; exact v0
  · have w := c8 s g hs hg
    obtain ⟨d1, d2, d3, d4⟩ := vr s hs
    refine ⟨?_, (ps_Rw_f (ps_up_f (by omega)) (ps_up_f (by omega))).mpr d2, (ps_Rw_f (ps_up_f (by omega)) (ps_up_f (by omega))).mpr d3, ?_⟩
    · unfold ps_Dv ps_wd ps_turn ps_N at d1 ⊢
      rw [ps_up_f (show aR s ≠ aG g by omega), ps_up_f (show 8 ≠ 30 by decide), ps_up_f (show 9 ≠ 30 by decide), ps_up_f (show 12 ≠ 30 by decide), ps_up_f (show 10 ≠ 30 by decide), ps_up_f (show 11 ≠ 30 by decide), ps_up_f (show 13 ≠ 30 by decide), ps_up_f (show 32 ≠ 30 by decide), ps_up_f (show 14 ≠ 30 by decide), ps_up_f (show 15 ≠ 30 by decide), ps_up_f (show 16 ≠ 30 by decide)]
      exact d1
    · rw [ps_up_f (show aR s + 5 ≠ aG g by omega), ps_up_f (show 18 ≠ 30 by decide)]
      exact d4
  · have e := vg i hi
    by_cases z : i = g
    · subst z
      unfold ps_Gv ps_N at e ⊢
      rw [ps_up_f (show aG i + 1 ≠ aG i by omega), ps_up_f (show aG i + 2 ≠ aG i by omega), ps_up_f (show 19 ≠ 30 by decide), ps_up_f (show 24 ≠ 30 by decide), ps_up_f (show 20 ≠ 30 by decide), ps_up_f (show 21 ≠ 30 by decide), ps_up_f (show 23 ≠ 30 by decide), ps_up_f (show 27 ≠ 30 by decide), ps_up_f (show 28 ≠ 30 by decide), ps_up_f (show 29 ≠ 30 by decide), ps_up_f (show 25 ≠ 30 by decide), ps_up_f (show 26 ≠ 30 by decide), ps_up_s, ps_up_s]
      repeat rw [ps_up_n (Or.inr (by decide))]
      obtain ⟨e0, e1, e4, e5, e6, e7, e8, e9, e10, e11, e12⟩ := e
      exact ⟨e0, e1, e4, e5, e6, e7, e8, e9, e10, rfl, e12⟩
    · have w := c7 i g hi hg z
      unfold ps_Gv ps_N at e ⊢
      rw [ps_up_f (show aG i ≠ aG g by omega), ps_up_f (show aG i + 1 ≠ aG g by omega), ps_up_f (show aG i + 2 ≠ aG g by omega), ps_up_f (show 19 ≠ 30 by decide), ps_up_f (show 24 ≠ 30 by decide), ps_up_f (show 20 ≠ 30 by decide), ps_up_f (show 21 ≠ 30 by decide), ps_up_f (show 23 ≠ 30 by decide), ps_up_f (show 27 ≠ 30 by decide), ps_up_f (show 28 ≠ 30 by decide), ps_up_f (show 29 ≠ 30 by decide), ps_up_f (show 25 ≠ 30 by decide), ps_up_f (show 26 ≠ 30 by decide), ps_up_n (Or.inr z)]
      exact e
theorem ru_D9 {r : Nat} {x : Int32} (hC : ps_CS h R G aR aG Nw) (hV : ps_Rv R G aR aG Nw σ μ ρ) (hr : r < R) : ps_Rv R G aR aG Nw (ps_up σ (aR r) 9 x) (ps_up μ 10 r x) ρ := by
  obtain ⟨-, -, -, c4, c5, c6, c7, c8⟩ := hC
  obtain ⟨v0, vr, vg⟩ := hV
  have q := c4 r hr
  refine ⟨?_, fun s hs => ?_, fun i hi => ?_⟩
  · rw [ps_up_f (show 2 ≠ aR r by omega), ps_up_f (show 5 ≠ aR r by omega), ps_up_f (show 6 ≠ aR r by omega), ps_up_f (show 7 ≠ 10 by decide), ps_up_f (show 17 ≠ 10 by decide), ps_up_f (show 31 ≠ 10 by decide)]; exact v0
  · obtain ⟨d1, d2, d3, d4⟩ := vr s hs
    have hne : ∀ i, 0 < i → i < 6 → aR s + i ≠ aR r := by
      intro i h0 hi
      by_cases z : s = r
      · subst z; omega
      · have := c6 s r hs hr z; omega
    refine ⟨?_, (ps_Rw_f (ps_up_f (hne 1 (by omega) (by omega))) (ps_up_f (hne 2 (by omega) (by omega)))).mpr d2, (ps_Rw_f (ps_up_f (hne 3 (by omega) (by omega))) (ps_up_f (hne 4 (by omega) (by omega)))).mpr d3, ?_⟩
    · by_cases z : s = r
      · subst z
        unfold ps_Dv ps_wd ps_turn ps_N at d1 ⊢
        rw [ps_up_f (show 8 ≠ 10 by decide), ps_up_f (show 9 ≠ 10 by decide), ps_up_f (show 12 ≠ 10 by decide), ps_up_f (show 11 ≠ 10 by decide), ps_up_f (show 13 ≠ 10 by decide), ps_up_f (show 32 ≠ 10 by decide), ps_up_f (show 14 ≠ 10 by decide), ps_up_f (show 15 ≠ 10 by decide), ps_up_f (show 16 ≠ 10 by decide), ps_up_s, ps_up_s]
        repeat rw [ps_up_n (Or.inr (by decide))]
        obtain ⟨e0, e1, e2, e3, e4, e5, e9, e10, e11, e12, e13, e14, e15⟩ := d1
        exact ⟨e0, e1, e2, e3, e4, e5, rfl, e10, e11, e12, e13, e14, e15⟩
      · have w := c6 s r hs hr z
        unfold ps_Dv ps_wd ps_turn ps_N at d1 ⊢
        rw [ps_up_f (show aR s ≠ aR r by omega), ps_up_f (show 8 ≠ 10 by decide), ps_up_f (show 9 ≠ 10 by decide), ps_up_f (show 12 ≠ 10 by decide), ps_up_f (show 11 ≠ 10 by decide), ps_up_f (show 13 ≠ 10 by decide), ps_up_f (show 32 ≠ 10 by decide), ps_up_f (show 14 ≠ 10 by decide), ps_up_f (show 15 ≠ 10 by decide), ps_up_f (show 16 ≠ 10 by decide), ps_up_n (Or.inr z)]
        exact d1
    · rw [ps_up_f (hne 5 (by omega) (by omega)), ps_up_f (show 18 ≠ 10 by decide)]
      exact d4
  · have e := vg i hi
    have w := c8 r i hr hi
    unfold ps_Gv ps_N at e ⊢
    rw [ps_up_f (show aG i ≠ aR r by omega), ps_up_f (show aG i + 1 ≠ aR r by omega), ps_up_f (show aG i + 2 ≠ aR r by omega), ps_up_f (show 19 ≠ 10 by decide), ps_up_f (show 24 ≠ 10 by decide), ps_up_f (show 20 ≠ 10 by decide), ps_up_f (show 21 ≠ 10 by decide), ps_up_f (show 23 ≠ 10 by decide), ps_up_f (show 27 ≠ 10 by decide), ps_up_f (show 28 ≠ 10 by decide), ps_up_f (show 29 ≠ 10 by decide), ps_up_f (show 30 ≠ 10 by decide), ps_up_f (show 25 ≠ 10 by decide), ps_up_f (show 26 ≠ 10 by decide)]
    exact e
theorem ru_D10 {r : Nat} {x : Int32} (hC : ps_CS h R G aR aG Nw) (hV : ps_Rv R G aR aG Nw σ μ ρ) (hr : r < R) : ps_Rv R G aR aG Nw (ps_up σ (aR r) 10 x) (ps_up μ 11 r x) ρ := by
  obtain ⟨-, -, -, c4, c5, c6, c7, c8⟩ := hC
  obtain ⟨v0, vr, vg⟩ := hV
  have q := c4 r hr
  refine ⟨?_, fun s hs => ?_, fun i hi => ?_⟩
  · rw [ps_up_f (show 2 ≠ aR r by omega), ps_up_f (show 5 ≠ aR r by omega), ps_up_f (show 6 ≠ aR r by omega), ps_up_f (show 7 ≠ 11 by decide), ps_up_f (show 17 ≠ 11 by decide), ps_up_f (show 31 ≠ 11 by decide)]; exact v0
  · obtain ⟨d1, d2, d3, d4⟩ := vr s hs
    have hne : ∀ i, 0 < i → i < 6 → aR s + i ≠ aR r := by
      intro i h0 hi
      by_cases z : s = r
      · subst z; omega
      · have := c6 s r hs hr z; omega
    refine ⟨?_, (ps_Rw_f (ps_up_f (hne 1 (by omega) (by omega))) (ps_up_f (hne 2 (by omega) (by omega)))).mpr d2, (ps_Rw_f (ps_up_f (hne 3 (by omega) (by omega))) (ps_up_f (hne 4 (by omega) (by omega)))).mpr d3, ?_⟩
    · by_cases z : s = r
      · subst z
        unfold ps_Dv ps_wd ps_turn ps_N at d1 ⊢
        rw [ps_up_f (show 8 ≠ 11 by decide), ps_up_f (show 9 ≠ 11 by decide), ps_up_f (show 12 ≠ 11 by decide), ps_up_f (show 10 ≠ 11 by decide), ps_up_f (show 13 ≠ 11 by decide), ps_up_f (show 32 ≠ 11 by decide), ps_up_f (show 14 ≠ 11 by decide), ps_up_f (show 15 ≠ 11 by decide), ps_up_f (show 16 ≠ 11 by decide), ps_up_s, ps_up_s]
        repeat rw [ps_up_n (Or.inr (by decide))]
        obtain ⟨e0, e1, e2, e3, e4, e5, e9, e10, e11, e12, e13, e14, e15⟩ := d1
        exact ⟨e0, e1, e2, e3, e4, e5, e9, rfl, e11, e12, e13, e14, e15⟩
      · have w := c6 s r hs hr z
        unfold ps_Dv ps_wd ps_turn ps_N at d1 ⊢
        rw [ps_up_f (show aR s ≠ aR r by omega), ps_up_f (show 8 ≠ 11 by decide), ps_up_f (show 9 ≠ 11 by decide), ps_up_f (show 12 ≠ 11 by decide), ps_up_f (show 10 ≠ 11 by decide), ps_up_f (show 13 ≠ 11 by decide), ps_up_f (show 32 ≠ 11 by decide), ps_up_f (show 14 ≠ 11 by decide), ps_up_f (show 15 ≠ 11 by decide), ps_up_f (show 16 ≠ 11 by decide), ps_up_n (Or.inr z)]
        exact d1
    · rw [ps_up_f (hne 5 (by omega) (by omega)), ps_up_f (show 18 ≠ 11 by decide)]
      exact d4
  · have e := vg i hi
    have w := c8 r i hr hi
    unfold ps_Gv ps_N at e ⊢
    rw [ps_up_f (show aG i ≠ aR r by omega), ps_up_f (show aG i + 1 ≠ aR r by omega), ps_up_f (show aG i + 2 ≠ aR r by omega), ps_up_f (show 19 ≠ 11 by decide), ps_up_f (show 24 ≠ 11 by decide), ps_up_f (show 20 ≠ 11 by decide), ps_up_f (show 21 ≠ 11 by decide), ps_up_f (show 23 ≠ 11 by decide), ps_up_f (show 27 ≠ 11 by decide), ps_up_f (show 28 ≠ 11 by decide), ps_up_f (show 29 ≠ 11 by decide), ps_up_f (show 30 ≠ 11 by decide), ps_up_f (show 25 ≠ 11 by decide), ps_up_f (show 26 ≠ 11 by decide)]
    exact e
theorem ru_D11 {r : Nat} {x : Int32} (hC : ps_CS h R G aR aG Nw) (hV : ps_Rv R G aR aG Nw σ μ ρ) (hr : r < R) : ps_Rv R G aR aG Nw (ps_up σ (aR r) 11 x) (ps_up μ 13 r x) ρ := by
  obtain ⟨-, -, -, c4, c5, c6, c7, c8⟩ := hC
  obtain ⟨v0, vr, vg⟩ := hV
  have q := c4 r hr
  refine ⟨?_, fun s hs => ?_, fun i hi => ?_⟩
  · rw [ps_up_f (show 2 ≠ aR r by omega), ps_up_f (show 5 ≠ aR r by omega), ps_up_f (show 6 ≠ aR r by omega), ps_up_f (show 7 ≠ 13 by decide), ps_up_f (show 17 ≠ 13 by decide), ps_up_f (show 31 ≠ 13 by decide)]; exact v0
  · obtain ⟨d1, d2, d3, d4⟩ := vr s hs
    have hne : ∀ i, 0 < i → i < 6 → aR s + i ≠ aR r := by
      intro i h0 hi
      by_cases z : s = r
      · subst z; omega
      · have := c6 s r hs hr z; omega
    refine ⟨?_, (ps_Rw_f (ps_up_f (hne 1 (by omega) (by omega))) (ps_up_f (hne 2 (by omega) (by omega)))).mpr d2, (ps_Rw_f (ps_up_f (hne 3 (by omega) (by omega))) (ps_up_f (hne 4 (by omega) (by omega)))).mpr d3, ?_⟩
    · by_cases z : s = r
      · subst z
        unfold ps_Dv ps_wd ps_turn ps_N at d1 ⊢
        rw [ps_up_f (show 8 ≠ 13 by decide), ps_up_f (show 9 ≠ 13 by decide), ps_up_f (show 12 ≠ 13 by decide), ps_up_f (show 10 ≠ 13 by decide), ps_up_f (show 11 ≠ 13 by decide), ps_up_f (show 32 ≠ 13 by decide), ps_up_f (show 14 ≠ 13 by decide), ps_up_f (show 15 ≠ 13 by decide), ps_up_f (show 16 ≠ 13 by decide), ps_up_s, ps_up_s]
        repeat rw [ps_up_n (Or.inr (by decide))]
        obtain ⟨e0, e1, e2, e3, e4, e5, e9, e10, e11, e12, e13, e14, e15⟩ := d1
        exact ⟨e0, e1, e2, e3, e4, e5, e9, e10, rfl, e12, e13, e14, e15⟩
      · have w := c6 s r hs hr z
        unfold ps_Dv ps_wd ps_turn ps_N at d1 ⊢
        rw [ps_up_f (show aR s ≠ aR r by omega), ps_up_f (show 8 ≠ 13 by decide), ps_up_f (show 9 ≠ 13 by decide), ps_up_f (show 12 ≠ 13 by decide), ps_up_f (show 10 ≠ 13 by decide), ps_up_f (show 11 ≠ 13 by decide), ps_up_f (show 32 ≠ 13 by decide), ps_up_f (show 14 ≠ 13 by decide), ps_up_f (show 15 ≠ 13 by decide), ps_up_f (show 16 ≠ 13 by decide), ps_up_n (Or.inr z)]
        exact d1
    · rw [ps_up_f (hne 5 (by omega) (by omega)), ps_up_f (show 18 ≠ 13 by decide)]
      exact d4
  · have e := vg i hi
    have w := c8 r i hr hi
    unfold ps_Gv ps_N at e ⊢
    rw [ps_up_f (show aG i ≠ aR r by omega), ps_up_f (show aG i + 1 ≠ aR r by omega), ps_up_f (show aG i + 2 ≠ aR r by omega), ps_up_f (show 19 ≠ 13 by decide), ps_up_f (show 24 ≠ 13 by decide), ps_up_f (show 20 ≠ 13 by decide), ps_up_f (show 21 ≠ 13 by decide), ps_up_f (show 23 ≠ 13 by decide), ps_up_f (show 27 ≠ 13 by decide), ps_up_f (show 28 ≠ 13 by decide), ps_up_f (show 29 ≠ 13 by decide), ps_up_f (show 30 ≠ 13 by decide), ps_up_f (show 25 ≠ 13 by decide), ps_up_f (show 26 ≠ 13 by decide)]
    exact e
theorem ru_D12 {r : Nat} {x : Int32} (hC : ps_CS h R G aR aG Nw) (hV : ps_Rv R G aR aG Nw σ μ ρ) (hr : r < R) : ps_Rv R G aR aG Nw (ps_up σ (aR r) 12 x) (ps_up μ 32 r x) ρ := by
  obtain ⟨-, -, -, c4, c5, c6, c7, c8⟩ := hC
  obtain ⟨v0, vr, vg⟩ := hV
  have q := c4 r hr
  refine ⟨?_, fun s hs => ?_, fun i hi => ?_⟩
  · rw [ps_up_f (show 2 ≠ aR r by omega), ps_up_f (show 5 ≠ aR r by omega), ps_up_f (show 6 ≠ aR r by omega), ps_up_f (show 7 ≠ 32 by decide), ps_up_f (show 17 ≠ 32 by decide), ps_up_f (show 31 ≠ 32 by decide)]; exact v0
  · obtain ⟨d1, d2, d3, d4⟩ := vr s hs
    have hne : ∀ i, 0 < i → i < 6 → aR s + i ≠ aR r := by
      intro i h0 hi
      by_cases z : s = r
      · subst z; omega
      · have := c6 s r hs hr z; omega
    refine ⟨?_, (ps_Rw_f (ps_up_f (hne 1 (by omega) (by omega))) (ps_up_f (hne 2 (by omega) (by omega)))).mpr d2, (ps_Rw_f (ps_up_f (hne 3 (by omega) (by omega))) (ps_up_f (hne 4 (by omega) (by omega)))).mpr d3, ?_⟩
    · by_cases z : s = r
      · subst z
        unfold ps_Dv ps_wd ps_turn ps_N at d1 ⊢
        rw [ps_up_f (show 8 ≠ 32 by decide), ps_up_f (show 9 ≠ 32 by decide), ps_up_f (show 12 ≠ 32 by decide), ps_up_f (show 10 ≠ 32 by decide), ps_up_f (show 11 ≠ 32 by decide), ps_up_f (show 13 ≠ 32 by decide), ps_up_f (show 14 ≠ 32 by decide), ps_up_f (show 15 ≠ 32 by decide), ps_up_f (show 16 ≠ 32 by decide), ps_up_s, ps_up_s]
        repeat rw [ps_up_n (Or.inr (by decide))]
        obtain ⟨e0, e1, e2, e3, e4, e5, e9, e10, e11, e12, e13, e14, e15⟩ := d1
        exact ⟨e0, e1, e2, e3, e4, e5, e9, e10, e11, rfl, e13, e14, e15⟩
      · have w := c6 s r hs hr z
        unfold ps_Dv ps_wd ps_turn ps_N at d1 ⊢
        rw [ps_up_f (show aR s ≠ aR r by omega), ps_up_f (show 8 ≠ 32 by decide), ps_up_f (show 9 ≠ 32 by decide), ps_up_f (show 12 ≠ 32 by decide), ps_up_f (show 10 ≠ 32 by decide), ps_up_f (show 11 ≠ 32 by decide), ps_up_f (show 13 ≠ 32 by decide), ps_up_f (show 14 ≠ 32 by decide), ps_up_f (show 15 ≠ 32 by decide), ps_up_f (show 16 ≠ 32 by decide), ps_up_n (Or.inr z)]
        exact d1
    · rw [ps_up_f (hne 5 (by omega) (by omega)), ps_up_f (show 18 ≠ 32 by decide)]
      exact d4
  · have e := vg i hi
    have w := c8 r i hr hi
    unfold ps_Gv ps_N at e ⊢
    rw [ps_up_f (show aG i ≠ aR r by omega), ps_up_f (show aG i + 1 ≠ aR r by omega), ps_up_f (show aG i + 2 ≠ aR r by omega), ps_up_f (show 19 ≠ 32 by decide), ps_up_f (show 24 ≠ 32 by decide), ps_up_f (show 20 ≠ 32 by decide), ps_up_f (show 21 ≠ 32 by decide), ps_up_f (show 23 ≠ 32 by decide), ps_up_f (show 27 ≠ 32 by decide), ps_up_f (show 28 ≠ 32 by decide), ps_up_f (show 29 ≠ 32 by decide), ps_up_f (show 30 ≠ 32 by decide), ps_up_f (show 25 ≠ 32 by decide), ps_up_f (show 26 ≠ 32 by decide)]
    exact e
theorem ru_D13 {r : Nat} {x : Int32} (hC : ps_CS h R G aR aG Nw) (hV : ps_Rv R G aR aG Nw σ μ ρ) (hr : r < R) : ps_Rv R G aR aG Nw (ps_up σ (aR r) 13 x) (ps_up μ 14 r x) ρ := by
  obtain ⟨-, -, -, c4, c5, c6, c7, c8⟩ := hC
  obtain ⟨v0, vr, vg⟩ := hV
  have q := c4 r hr
  refine ⟨?_, fun s hs => ?_, fun i hi => ?_⟩
  · rw [ps_up_f (show 2 ≠ aR r by omega), ps_up_f (show 5 ≠ aR r by omega), ps_up_f (show 6 ≠ aR r by omega), ps_up_f (show 7 ≠ 14 by decide), ps_up_f (show 17 ≠ 14 by decide), ps_up_f (show 31 ≠ 14 by decide)]; exact v0
  · obtain ⟨d1, d2, d3, d4⟩ := vr s hs
    have hne : ∀ i, 0 < i → i < 6 → aR s + i ≠ aR r := by
      intro i h0 hi
      by_cases z : s = r
      · subst z; omega
      · have := c6 s r hs hr z; omega
    refine ⟨?_, (ps_Rw_f (ps_up_f (hne 1 (by omega) (by omega))) (ps_up_f (hne 2 (by omega) (by omega)))).mpr d2, (ps_Rw_f (ps_up_f (hne 3 (by omega) (by omega))) (ps_up_f (hne 4 (by omega) (by omega)))).mpr d3, ?_⟩
    · by_cases z : s = r
      · subst z
        unfold ps_Dv ps_wd ps_turn ps_N at d1 ⊢
        rw [ps_up_f (show 8 ≠ 14 by decide), ps_up_f (show 9 ≠ 14 by decide), ps_up_f (show 12 ≠ 14 by decide), ps_up_f (show 10 ≠ 14 by decide), ps_up_f (show 11 ≠ 14 by decide), ps_up_f (show 13 ≠ 14 by decide), ps_up_f (show 32 ≠ 14 by decide), ps_up_f (show 15 ≠ 14 by decide), ps_up_f (show 16 ≠ 14 by decide), ps_up_s, ps_up_s]
        repeat rw [ps_up_n (Or.inr (by decide))]
        obtain ⟨e0, e1, e2, e3, e4, e5, e9, e10, e11, e12, e13, e14, e15⟩ := d1
        exact ⟨e0, e1, e2, e3, e4, e5, e9, e10, e11, e12, rfl, e14, e15⟩
      · have w := c6 s r hs hr z
        unfold ps_Dv ps_wd ps_turn ps_N at d1 ⊢
        rw [ps_up_f (show aR s ≠ aR r by omega), ps_up_f (show 8 ≠ 14 by decide), ps_up_f (show 9 ≠ 14 by decide), ps_up_f (show 12 ≠ 14 by decide), ps_up_f (show 10 ≠ 14 by decide), ps_up_f (show 11 ≠ 14 by decide), ps_up_f (show 13 ≠ 14 by decide), ps_up_f (show 32 ≠ 14 by decide), ps_up_f (show 15 ≠ 14 by decide), ps_up_f (show 16 ≠ 14 by decide), ps_up_n (Or.inr z)]
        exact d1
    · rw [ps_up_f (hne 5 (by omega) (by omega)), ps_up_f (show 18 ≠ 14 by decide)]
      exact d4
  · have e := vg i hi
    have w := c8 r i hr hi
    unfold ps_Gv ps_N at e ⊢
    rw [ps_up_f (show aG i ≠ aR r by omega), ps_up_f (show aG i + 1 ≠ aR r by omega), ps_up_f (show aG i + 2 ≠ aR r by omega), ps_up_f (show 19 ≠ 14 by decide), ps_up_f (show 24 ≠ 14 by decide), ps_up_f (show 20 ≠ 14 by decide), ps_up_f (show 21 ≠ 14 by decide), ps_up_f (show 23 ≠ 14 by decide), ps_up_f (show 27 ≠ 14 by decide), ps_up_f (show 28 ≠ 14 by decide), ps_up_f (show 29 ≠ 14 by decide), ps_up_f (show 30 ≠ 14 by decide), ps_up_f (show 25 ≠ 14 by decide), ps_up_f (show 26 ≠ 14 by decide)]
    exact e
theorem ru_D14 {r : Nat} {x : Int32} (hC : ps_CS h R G aR aG Nw) (hV : ps_Rv R G aR aG Nw σ μ ρ) (hr : r < R) : ps_Rv R G aR aG Nw (ps_up σ (aR r) 14 x) (ps_up μ 15 r x) ρ := by
  obtain ⟨-, -, -, c4, c5, c6, c7, c8⟩ := hC
  obtain ⟨v0, vr, vg⟩ := hV
  have q := c4 r hr
  refine ⟨?_, fun s hs => ?_, fun i hi => ?_⟩
  · rw [ps_up_f (show 2 ≠ aR r by omega), ps_up_f (show 5 ≠ aR r by omega), ps_up_f (show 6 ≠ aR r by omega), ps_up_f (show 7 ≠ 15 by decide), ps_up_f (show 17 ≠ 15 by decide), ps_up_f (show 31 ≠ 15 by decide)]; exact v0
  · obtain ⟨d1, d2, d3, d4⟩ := vr s hs
    have hne : ∀ i, 0 < i → i < 6 → aR s + i ≠ aR r := by
      intro i h0 hi
      by_cases z : s = r
      · subst z; omega
      · have := c6 s r hs hr z; omega
    refine ⟨?_, (ps_Rw_f (ps_up_f (hne 1 (by omega) (by omega))) (ps_up_f (hne 2 (by omega) (by omega)))).mpr d2, (ps_Rw_f (ps_up_f (hne 3 (by omega) (by omega))) (ps_up_f (hne 4 (by omega) (by omega)))).mpr d3, ?_⟩
    · by_cases z : s = r
      · subst z
        unfold ps_Dv ps_wd ps_turn ps_N at d1 ⊢
        rw [ps_up_f (show 8 ≠ 15 by decide), ps_up_f (show 9 ≠ 15 by decide), ps_up_f (show 12 ≠ 15 by decide), ps_up_f (show 10 ≠ 15 by decide), ps_up_f (show 11 ≠ 15 by decide), ps_up_f (show 13 ≠ 15 by decide), ps_up_f (show 32 ≠ 15 by decide), ps_up_f (show 14 ≠ 15 by decide), ps_up_f (show 16 ≠ 15 by decide), ps_up_s, ps_up_s]
        repeat rw [ps_up_n (Or.inr (by decide))]
        obtain ⟨e0, e1, e2, e3, e4, e5, e9, e10, e11, e12, e13, e14, e15⟩ := d1
        exact ⟨e0, e1, e2, e3, e4, e5, e9, e10, e11, e12, e13, rfl, e15⟩
      · have w := c6 s r hs hr z
        unfold ps_Dv ps_wd ps_turn ps_N at d1 ⊢
        rw [ps_up_f (show aR s ≠ aR r by omega), ps_up_f (show 8 ≠ 15 by decide), ps_up_f (show 9 ≠ 15 by decide), ps_up_f (show 12 ≠ 15 by decide), ps_up_f (show 10 ≠ 15 by decide), ps_up_f (show 11 ≠ 15 by decide), ps_up_f (show 13 ≠ 15 by decide), ps_up_f (show 32 ≠ 15 by decide), ps_up_f (show 14 ≠ 15 by decide), ps_up_f (show 16 ≠ 15 by decide), ps_up_n (Or.inr z)]
        exact d1
    · rw [ps_up_f (hne 5 (by omega) (by omega)), ps_up_f (show 18 ≠ 15 by decide)]
      exact d4
  · have e := vg i hi
    have w := c8 r i hr hi
    unfold ps_Gv ps_N at e ⊢
    rw [ps_up_f (show aG i ≠ aR r by omega), ps_up_f (show aG i + 1 ≠ aR r by omega), ps_up_f (show aG i + 2 ≠ aR r by omega), ps_up_f (show 19 ≠ 15 by decide), ps_up_f (show 24 ≠ 15 by decide), ps_up_f (show 20 ≠ 15 by decide), ps_up_f (show 21 ≠ 15 by decide), ps_up_f (show 23 ≠ 15 by decide), ps_up_f (show 27 ≠ 15 by decide), ps_up_f (show 28 ≠ 15 by decide), ps_up_f (show 29 ≠ 15 by decide), ps_up_f (show 30 ≠ 15 by decide), ps_up_f (show 25 ≠ 15 by decide), ps_up_f (show 26 ≠ 15 by decide)]
    exact e
theorem ru_D15 {r : Nat} {x : Int32} (hC : ps_CS h R G aR aG Nw) (hV : ps_Rv R G aR aG Nw σ μ ρ) (hr : r < R) : ps_Rv R G aR aG Nw (ps_up σ (aR r) 15 x) (ps_up μ 16 r x) ρ := by
  obtain ⟨-, -, -, c4, c5, c6, c7, c8⟩ := hC
  obtain ⟨v0, vr, vg⟩ := hV
  have q := c4 r hr
  refine ⟨?_, fun s hs => ?_, fun i hi => ?_⟩
  · rw [ps_up_f (show 2 ≠ aR r by omega), ps_up_f (show 5 ≠ aR r by omega), ps_up_f (show 6 ≠ aR r by omega), ps_up_f (show 7 ≠ 16 by decide), ps_up_f (show 17 ≠ 16 by decide), ps_up_f (show 31 ≠ 16 by decide)]; exact v0
  · obtain ⟨d1, d2, d3, d4⟩ := vr s hs
    have hne : ∀ i, 0 < i → i < 6 → aR s + i ≠ aR r := by
      intro i h0 hi
      by_cases z : s = r
      · subst z; omega
      · have := c6 s r hs hr z; omega
    refine ⟨?_, (ps_Rw_f (ps_up_f (hne 1 (by omega) (by omega))) (ps_up_f (hne 2 (by omega) (by omega)))).mpr d2, (ps_Rw_f (ps_up_f (hne 3 (by omega) (by omega))) (ps_up_f (hne 4 (by omega) (by omega)))).mpr d3, ?_⟩
    · by_cases z : s = r
      · subst z
        unfold ps_Dv ps_wd ps_turn ps_N at d1 ⊢
        rw [ps_up_f (show 8 ≠ 16 by decide), ps_up_f (show 9 ≠ 16 by decide), ps_up_f (show 12 ≠ 16 by decide), ps_up_f (show 10 ≠ 16 by decide), ps_up_f (show 11 ≠ 16 by decide), ps_up_f (show 13 ≠ 16 by decide), ps_up_f (show 32 ≠ 16 by decide), ps_up_f (show 14 ≠ 16 by decide), ps_up_f (show 15 ≠ 16 by decide), ps_up_s, ps_up_s]
        repeat rw [ps_up_n (Or.inr (by decide))]
        obtain ⟨e0, e1, e2, e3, e4, e5, e9, e10, e11, e12, e13, e14, e15⟩ := d1
        exact ⟨e0, e1, e2, e3, e4, e5, e9, e10, e11, e12, e13, e14, rfl⟩
      · have w := c6 s r hs hr z
        unfold ps_Dv ps_wd ps_turn ps_N at d1 ⊢
        rw [ps_up_f (show aR s ≠ aR r by omega), ps_up_f (show 8 ≠ 16 by decide), ps_up_f (show 9 ≠ 16 by decide), ps_up_f (show 12 ≠ 16 by decide), ps_up_f (show 10 ≠ 16 by decide), ps_up_f (show 11 ≠ 16 by decide), ps_up_f (show 13 ≠ 16 by decide), ps_up_f (show 32 ≠ 16 by decide), ps_up_f (show 14 ≠ 16 by decide), ps_up_f (show 15 ≠ 16 by decide), ps_up_n (Or.inr z)]
        exact d1
    · rw [ps_up_f (hne 5 (by omega) (by omega)), ps_up_f (show 18 ≠ 16 by decide)]
      exact d4
  · have e := vg i hi
    have w := c8 r i hr hi
    unfold ps_Gv ps_N at e ⊢
    rw [ps_up_f (show aG i ≠ aR r by omega), ps_up_f (show aG i + 1 ≠ aR r by omega), ps_up_f (show aG i + 2 ≠ aR r by omega), ps_up_f (show 19 ≠ 16 by decide), ps_up_f (show 24 ≠ 16 by decide), ps_up_f (show 20 ≠ 16 by decide), ps_up_f (show 21 ≠ 16 by decide), ps_up_f (show 23 ≠ 16 by decide), ps_up_f (show 27 ≠ 16 by decide), ps_up_f (show 28 ≠ 16 by decide), ps_up_f (show 29 ≠ 16 by decide), ps_up_f (show 30 ≠ 16 by decide), ps_up_f (show 25 ≠ 16 by decide), ps_up_f (show 26 ≠ 16 by decide)]
    exact e
theorem ru_tick {x : Int32} (hC : ps_CS h R G aR aG Nw) (hV : ps_Rv R G aR aG Nw σ μ ρ) : ps_Rv R G aR aG Nw (ps_up σ 2 6 x) (ps_up μ 7 0 x) ρ := by
  obtain ⟨-, -, -, c4, c5, c6, c7, c8⟩ := hC
  obtain ⟨v0, vr, vg⟩ := hV
  refine ⟨?_, fun s hs => ?_, fun i hi => ?_⟩
  · obtain ⟨t1, t2, t3, t4, t5, t6, t7, t8⟩ := v0
    rw [ps_up_f (show 5 ≠ 2 by decide), ps_up_f (show 6 ≠ 2 by decide), ps_up_f (show 17 ≠ 7 by decide), ps_up_f (show 31 ≠ 7 by decide), ps_up_s, ps_up_s]
    repeat rw [ps_up_n (Or.inr (by decide))]
    exact ⟨t1, t2, t3, t4, rfl, t6, t7, t8⟩
  · obtain ⟨d1, d2, d3, d4⟩ := vr s hs
    have w := c4 s hs
    refine ⟨?_, (ps_Rw_f (ps_up_f (by omega)) (ps_up_f (by omega))).mpr d2, (ps_Rw_f (ps_up_f (by omega)) (ps_up_f (by omega))).mpr d3, ?_⟩
    · unfold ps_Dv ps_wd ps_turn ps_N at d1 ⊢
      rw [ps_up_f (show aR s ≠ 2 by omega), ps_up_f (show 8 ≠ 7 by decide), ps_up_f (show 9 ≠ 7 by decide), ps_up_f (show 12 ≠ 7 by decide), ps_up_f (show 10 ≠ 7 by decide), ps_up_f (show 11 ≠ 7 by decide), ps_up_f (show 13 ≠ 7 by decide), ps_up_f (show 32 ≠ 7 by decide), ps_up_f (show 14 ≠ 7 by decide), ps_up_f (show 15 ≠ 7 by decide), ps_up_f (show 16 ≠ 7 by decide)]
      exact d1
    · rw [ps_up_f (show aR s + 5 ≠ 2 by omega), ps_up_f (show 18 ≠ 7 by decide)]
      exact d4
  · have e := vg i hi
    have w := c5 i hi
    unfold ps_Gv ps_N at e ⊢
    rw [ps_up_f (show aG i ≠ 2 by omega), ps_up_f (show aG i + 1 ≠ 2 by omega), ps_up_f (show aG i + 2 ≠ 2 by omega), ps_up_f (show 19 ≠ 7 by decide), ps_up_f (show 24 ≠ 7 by decide), ps_up_f (show 20 ≠ 7 by decide), ps_up_f (show 21 ≠ 7 by decide), ps_up_f (show 23 ≠ 7 by decide), ps_up_f (show 27 ≠ 7 by decide), ps_up_f (show 28 ≠ 7 by decide), ps_up_f (show 29 ≠ 7 by decide), ps_up_f (show 30 ≠ 7 by decide), ps_up_f (show 25 ≠ 7 by decide), ps_up_f (show 26 ≠ 7 by decide)]
    exact e
theorem ru_rain {x : Int32} (hC : ps_CS h R G aR aG Nw) (hV : ps_Rv R G aR aG Nw σ μ ρ) : ps_Rv R G aR aG Nw (ps_up σ 2 7 x) (ps_up μ 7 1 x) ρ := by
  obtain ⟨-, -, -, c4, c5, c6, c7, c8⟩ := hC
  obtain ⟨v0, vr, vg⟩ := hV
  refine ⟨?_, fun s hs => ?_, fun i hi => ?_⟩
  · obtain ⟨t1, t2, t3, t4, t5, t6, t7, t8⟩ := v0
    rw [ps_up_f (show 5 ≠ 2 by decide), ps_up_f (show 6 ≠ 2 by decide), ps_up_f (show 17 ≠ 7 by decide), ps_up_f (show 31 ≠ 7 by decide), ps_up_s, ps_up_s]
    repeat rw [ps_up_n (Or.inr (by decide))]
    exact ⟨t1, t2, t3, t4, t5, rfl, t7, t8⟩
  · obtain ⟨d1, d2, d3, d4⟩ := vr s hs
    have w := c4 s hs
    refine ⟨?_, (ps_Rw_f (ps_up_f (by omega)) (ps_up_f (by omega))).mpr d2, (ps_Rw_f (ps_up_f (by omega)) (ps_up_f (by omega))).mpr d3, ?_⟩
    · unfold ps_Dv ps_wd ps_turn ps_N at d1 ⊢
      rw [ps_up_f (show aR s ≠ 2 by omega), ps_up_f (show 8 ≠ 7 by decide), ps_up_f (show 9 ≠ 7 by decide), ps_up_f (show 12 ≠ 7 by decide), ps_up_f (show 10 ≠ 7 by decide), ps_up_f (show 11 ≠ 7 by decide), ps_up_f (show 13 ≠ 7 by decide), ps_up_f (show 32 ≠ 7 by decide), ps_up_f (show 14 ≠ 7 by decide), ps_up_f (show 15 ≠ 7 by decide), ps_up_f (show 16 ≠ 7 by decide)]
      exact d1
    · rw [ps_up_f (show aR s + 5 ≠ 2 by omega), ps_up_f (show 18 ≠ 7 by decide)]
      exact d4
  · have e := vg i hi
    have w := c5 i hi
    unfold ps_Gv ps_N at e ⊢
    rw [ps_up_f (show aG i ≠ 2 by omega), ps_up_f (show aG i + 1 ≠ 2 by omega), ps_up_f (show aG i + 2 ≠ 2 by omega), ps_up_f (show 19 ≠ 7 by decide), ps_up_f (show 24 ≠ 7 by decide), ps_up_f (show 20 ≠ 7 by decide), ps_up_f (show 21 ≠ 7 by decide), ps_up_f (show 23 ≠ 7 by decide), ps_up_f (show 27 ≠ 7 by decide), ps_up_f (show 28 ≠ 7 by decide), ps_up_f (show 29 ≠ 7 by decide), ps_up_f (show 30 ≠ 7 by decide), ps_up_f (show 25 ≠ 7 by decide), ps_up_f (show 26 ≠ 7 by decide)]
    exact e
theorem ru_walk {i0 : Nat} {x : Int32} (hC : ps_CS h R G aR aG Nw) (hV : ps_Rv R G aR aG Nw σ μ ρ) : ps_Rv R G aR aG Nw (ps_up σ 5 i0 x) (ps_up μ 17 i0 x) ρ := by
  obtain ⟨-, -, -, c4, c5, c6, c7, c8⟩ := hC
  obtain ⟨v0, vr, vg⟩ := hV
  refine ⟨?_, fun s hs => ?_, fun i hi => ?_⟩
  · obtain ⟨t1, t2, t3, t4, t5, t6, t7, t8⟩ := v0
    rw [ps_up_f (show 2 ≠ 5 by decide), ps_up_f (show 6 ≠ 5 by decide), ps_up_f (show 7 ≠ 17 by decide), ps_up_f (show 31 ≠ 17 by decide)]
    refine ⟨t1, t2, t3, t4, t5, t6, fun j hj => ?_, t8⟩
    by_cases z : j = i0
    · subst z; rw [ps_up_s, ps_up_s]
    · rw [ps_up_n (Or.inr z), ps_up_n (Or.inr z)]; exact t7 j hj
  · obtain ⟨d1, d2, d3, d4⟩ := vr s hs
    have w := c4 s hs
    refine ⟨?_, (ps_Rw_f (ps_up_f (by omega)) (ps_up_f (by omega))).mpr d2, (ps_Rw_f (ps_up_f (by omega)) (ps_up_f (by omega))).mpr d3, ?_⟩
    · unfold ps_Dv ps_wd ps_turn ps_N at d1 ⊢
      rw [ps_up_f (show aR s ≠ 5 by omega), ps_up_f (show 8 ≠ 17 by decide), ps_up_f (show 9 ≠ 17 by decide), ps_up_f (show 12 ≠ 17 by decide), ps_up_f (show 10 ≠ 17 by decide), ps_up_f (show 11 ≠ 17 by decide), ps_up_f (show 13 ≠ 17 by decide), ps_up_f (show 32 ≠ 17 by decide), ps_up_f (show 14 ≠ 17 by decide), ps_up_f (show 15 ≠ 17 by decide), ps_up_f (show 16 ≠ 17 by decide)]
      exact d1
    · rw [ps_up_f (show aR s + 5 ≠ 5 by omega), ps_up_f (show 18 ≠ 17 by decide)]
      exact d4
  · have e := vg i hi
    have w := c5 i hi
    unfold ps_Gv ps_N at e ⊢
    rw [ps_up_f (show aG i ≠ 5 by omega), ps_up_f (show aG i + 1 ≠ 5 by omega), ps_up_f (show aG i + 2 ≠ 5 by omega), ps_up_f (show 19 ≠ 17 by decide), ps_up_f (show 24 ≠ 17 by decide), ps_up_f (show 20 ≠ 17 by decide), ps_up_f (show 21 ≠ 17 by decide), ps_up_f (show 23 ≠ 17 by decide), ps_up_f (show 27 ≠ 17 by decide), ps_up_f (show 28 ≠ 17 by decide), ps_up_f (show 29 ≠ 17 by decide), ps_up_f (show 30 ≠ 17 by decide), ps_up_f (show 25 ≠ 17 by decide), ps_up_f (show 26 ≠ 17 by decide)]
    exact e
theorem ru_ref {i0 : Nat} {x : Int32} (hC : ps_CS h R G aR aG Nw) (hV : ps_Rv R G aR aG Nw σ μ ρ) : ps_Rv R G aR aG Nw (ps_up σ 6 i0 x) (ps_up μ 31 (i0 + 1) x) ρ := by
  obtain ⟨-, -, -, c4, c5, c6, c7, c8⟩ := hC
  obtain ⟨v0, vr, vg⟩ := hV
  refine ⟨?_, fun s hs => ?_, fun i hi => ?_⟩
  · obtain ⟨t1, t2, t3, t4, t5, t6, t7, t8⟩ := v0
    rw [ps_up_f (show 2 ≠ 6 by decide), ps_up_f (show 5 ≠ 6 by decide), ps_up_f (show 7 ≠ 31 by decide), ps_up_f (show 17 ≠ 31 by decide)]
    refine ⟨t1, t2, t3, t4, t5, t6, t7, fun j hj => ?_⟩
    by_cases z : j = i0
    · subst z; rw [ps_up_s, ps_up_s]
    · rw [ps_up_n (Or.inr z), ps_up_n (Or.inr (by omega))]; exact t8 j hj
  · obtain ⟨d1, d2, d3, d4⟩ := vr s hs
    have w := c4 s hs
    refine ⟨?_, (ps_Rw_f (ps_up_f (by omega)) (ps_up_f (by omega))).mpr d2, (ps_Rw_f (ps_up_f (by omega)) (ps_up_f (by omega))).mpr d3, ?_⟩
    · unfold ps_Dv ps_wd ps_turn ps_N at d1 ⊢
      rw [ps_up_f (show aR s ≠ 6 by omega), ps_up_f (show 8 ≠ 31 by decide), ps_up_f (show 9 ≠ 31 by decide), ps_up_f (show 12 ≠ 31 by decide), ps_up_f (show 10 ≠ 31 by decide), ps_up_f (show 11 ≠ 31 by decide), ps_up_f (show 13 ≠ 31 by decide), ps_up_f (show 32 ≠ 31 by decide), ps_up_f (show 14 ≠ 31 by decide), ps_up_f (show 15 ≠ 31 by decide), ps_up_f (show 16 ≠ 31 by decide)]
      exact d1
    · rw [ps_up_f (show aR s + 5 ≠ 6 by omega), ps_up_f (show 18 ≠ 31 by decide)]
      exact d4
  · have e := vg i hi
    have w := c5 i hi
    unfold ps_Gv ps_N at e ⊢
    rw [ps_up_f (show aG i ≠ 6 by omega), ps_up_f (show aG i + 1 ≠ 6 by omega), ps_up_f (show aG i + 2 ≠ 6 by omega), ps_up_f (show 19 ≠ 31 by decide), ps_up_f (show 24 ≠ 31 by decide), ps_up_f (show 20 ≠ 31 by decide), ps_up_f (show 21 ≠ 31 by decide), ps_up_f (show 23 ≠ 31 by decide), ps_up_f (show 27 ≠ 31 by decide), ps_up_f (show 28 ≠ 31 by decide), ps_up_f (show 29 ≠ 31 by decide), ps_up_f (show 30 ≠ 31 by decide), ps_up_f (show 25 ≠ 31 by decide), ps_up_f (show 26 ≠ 31 by decide)]
    exact e
-- a row changes
theorem ru_row {τ : ps_S} {r b : Nat} {L : List Nat} (hC : ps_CS h R G aR aG Nw) (hV : ps_Rv R G aR aG Nw σ μ ρ) (hr : r < R) (hb : b < 2) (hL : ps_Rw τ (aR r + 1 + 2 * b) L) (hτ : ∀ f, f ≠ aR r + 1 + 2 * b → f ≠ aR r + 1 + 2 * b + 1 → τ f = σ f) : ps_Rv R G aR aG Nw τ μ (ps_ur ρ (2 * r + b) L) := by
  obtain ⟨-, -, -, c4, c5, c6, c7, c8⟩ := hC
  obtain ⟨v0, vr, vg⟩ := hV
  have q := c4 r hr
  refine ⟨?_, fun s hs => ?_, fun g hg => ?_⟩
  · rw [hτ 2 (by omega) (by omega), hτ 5 (by omega) (by omega), hτ 6 (by omega) (by omega)]; exact v0
  · have qs := c4 s hs
    obtain ⟨d1, d2, d3, d4⟩ := vr s hs
    by_cases hsr : s = r
    · subst hsr
      unfold ps_Dv at d1 ⊢
      rw [hτ (aR s) (by omega) (by omega), hτ (aR s + 5) (by omega) (by omega)]
      rcases (show b = 0 ∨ b = 1 by omega) with rfl | rfl
      · refine ⟨d1, ?_, ?_, d4⟩
        · show ps_Rw τ (aR s + 1) (ps_ur ρ (2 * s) L (2 * s))
          rw [ps_ur_s]; simpa using hL
        · rw [ps_ur_n (by omega)]
          exact (ps_Rw_f (hτ _ (by omega) (by omega)) (hτ _ (by omega) (by omega))).mpr d3
      · refine ⟨d1, ?_, ?_, d4⟩
        · rw [ps_ur_n (by omega)]
          exact (ps_Rw_f (hτ _ (by omega) (by omega)) (hτ _ (by omega) (by omega))).mpr d2
        · rw [ps_ur_s]; simpa using hL
    · have w := c6 s r hs hr hsr
      unfold ps_Dv at d1 ⊢
      rw [hτ (aR s) (by omega) (by omega), hτ (aR s + 5) (by omega) (by omega), ps_ur_n (by omega), ps_ur_n (by omega)]
      exact ⟨d1, (ps_Rw_f (hτ _ (by omega) (by omega)) (hτ _ (by omega) (by omega))).mpr d2, (ps_Rw_f (hτ _ (by omega) (by omega)) (hτ _ (by omega) (by omega))).mpr d3, d4⟩
  · have w := c8 r g hr hg
    have e := vg g hg
    unfold ps_Gv at e ⊢
    rw [hτ (aG g) (by omega) (by omega), hτ (aG g + 1) (by omega) (by omega), hτ (aG g + 2) (by omega) (by omega)]
    exact e
-- the given of a window
theorem ru_given {r w : Nat} {x : Int32} (hC : ps_CS h R G aR aG Nw) (hV : ps_Rv R G aR aG Nw σ μ ρ) (hr : r < R) (hw : w < Nw r) : ps_Rv R G aR aG Nw (ps_up σ (aR r + 5) w x) (ps_up μ 18 (1100 * r + w) x) ρ := by
  obtain ⟨-, -, -, c4, c5, c6, c7, c8⟩ := hC
  obtain ⟨v0, vr, vg⟩ := hV
  have q := c4 r hr
  refine ⟨?_, fun s hs => ?_, fun g hg => ?_⟩
  · rw [ps_up_f (show 2 ≠ aR r + 5 by omega), ps_up_f (show 5 ≠ aR r + 5 by omega), ps_up_f (show 6 ≠ aR r + 5 by omega), ps_up_f (show 7 ≠ 18 by decide), ps_up_f (show 17 ≠ 18 by decide), ps_up_f (show 31 ≠ 18 by decide)]; exact v0
  · have qs := c4 s hs
    obtain ⟨d1, d2, d3, d4⟩ := vr s hs
    have hne : ∀ i, i < 5 → aR s + i ≠ aR r + 5 := by
      intro i hi
      by_cases z : s = r
      · subst z; omega
      · have := c6 s r hs hr z; omega
    refine ⟨?_, (ps_Rw_f (ps_up_f (hne 1 (by omega))) (ps_up_f (hne 2 (by omega)))).mpr d2, (ps_Rw_f (ps_up_f (hne 3 (by omega))) (ps_up_f (hne 4 (by omega)))).mpr d3, fun v hv => ?_⟩
    · unfold ps_Dv ps_wd ps_turn ps_N at d1 ⊢
      rw [ps_up_f (show aR s ≠ aR r + 5 by have := hne 0 (by omega); omega), ps_up_f (show 8 ≠ 18 by decide), ps_up_f (show 9 ≠ 18 by decide), ps_up_f (show 12 ≠ 18 by decide), ps_up_f (show 10 ≠ 18 by decide), ps_up_f (show 11 ≠ 18 by decide), ps_up_f (show 13 ≠ 18 by decide), ps_up_f (show 32 ≠ 18 by decide), ps_up_f (show 14 ≠ 18 by decide), ps_up_f (show 15 ≠ 18 by decide), ps_up_f (show 16 ≠ 18 by decide)]
      exact d1
    · have d4v := d4 v hv
      have qr := q.2.2.2.2.1
      have qs5 := qs.2.2.2.2.1
      by_cases z : s = r
      · subst z
        by_cases hvw : v = w
        · subst hvw
          rw [ps_up_s, ps_up_s]
        · rw [ps_up_n (Or.inr hvw), ps_up_n (Or.inr (by omega))]; exact d4v
      · have := c6 s r hs hr z
        rw [ps_up_n (Or.inl (by omega)), ps_up_n (Or.inr (by omega))]; exact d4v
  · have w := c8 r g hr hg
    have e := vg g hg
    unfold ps_Gv ps_N at e ⊢
    rw [ps_up_f (show aG g ≠ aR r + 5 by omega), ps_up_f (show aG g + 1 ≠ aR r + 5 by omega), ps_up_f (show aG g + 2 ≠ aR r + 5 by omega), ps_up_f (show 19 ≠ 18 by decide), ps_up_f (show 24 ≠ 18 by decide), ps_up_f (show 20 ≠ 18 by decide), ps_up_f (show 21 ≠ 18 by decide), ps_up_f (show 23 ≠ 18 by decide), ps_up_f (show 27 ≠ 18 by decide), ps_up_f (show 28 ≠ 18 by decide), ps_up_f (show 29 ≠ 18 by decide), ps_up_f (show 30 ≠ 18 by decide), ps_up_f (show 25 ≠ 18 by decide), ps_up_f (show 26 ≠ 18 by decide)]
    exact e
end PSR
