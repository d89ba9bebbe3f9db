/-! What holds of the numbers; what calls do to them. -/
def ps_sumOn (μ : ps_S) (r : Nat) : Nat → Int32
  | 0 => 0
  | g + 1 => ps_sumOn μ r g + (if μ 20 g = 3 ∧ μ 21 g = nI r then μ 19 g else 0)
def ps_WR (μ : ps_S) (r : Nat) : Prop := μ 8 r = nI (ps_N μ 8 r) ∧ 1 ≤ ps_N μ 8 r ∧ ps_N μ 8 r ≤ 40 ∧ μ 9 r = nI (ps_N μ 9 r) ∧ 1 ≤ ps_N μ 9 r ∧ ps_N μ 9 r ≤ 20 ∧ μ 10 r = nI (ps_N μ 10 r) ∧ ps_N μ 10 r ≤ ps_N μ 8 r ∧ μ 11 r = nI (ps_N μ 11 r) ∧ ps_N μ 11 r ≤ 99 ∧ μ 12 r = nI (ps_N μ 12 r) ∧ ps_N μ 12 r ≤ 3 ∧ (μ 13 r = 0 ∨ μ 13 r = 1)
def ps_WT (R : Nat) (μ : ps_S) (g i : Nat) : Prop := μ 25 (2 * g + i) = nI (ps_N μ 25 (2 * g + i)) ∧ ps_N μ 25 (2 * g + i) < R ∧ μ 26 (2 * g + i) = nI (ps_N μ 26 (2 * g + i)) ∧ ps_N μ 26 (2 * g + i) < 5000 / ps_wd μ (ps_N μ 25 (2 * g + i)) + 41
def ps_WG (R : Nat) (μ : ps_S) (g n : Nat) : Prop := μ 19 g = nI (ps_N μ 19 g) ∧ 1 ≤ ps_N μ 19 g ∧ ps_N μ 19 g ≤ 8 ∧ μ 20 g = nI (ps_N μ 20 g) ∧ ps_N μ 20 g ≤ 4 ∧ μ 24 g = nI (ps_N μ 24 g) ∧ ps_N μ 24 g ≤ 2 ∧ μ 27 g = nI (ps_N μ 27 g) ∧ ps_N μ 27 g + ps_N μ 24 g ≤ n ∧ μ 23 g = nI (ps_N μ 23 g) ∧ ps_N μ 23 g ≤ ps_N μ 7 0 ∧ (1 ≤ ps_N μ 20 g → ps_N μ 20 g ≤ 3 → μ 21 g = nI (ps_N μ 21 g) ∧ ps_N μ 21 g < R) ∧ ((ps_N μ 20 g = 0 ∨ ps_N μ 20 g = 4) → μ 21 g = -9) ∧ ∀ i, i < ps_N μ 24 g → ps_WT R μ g i
def ps_WL (G : Nat) (μ : ps_S) (L : List Nat) (r b : Nat) : Prop := L.Nodup ∧ ∀ g, g ∈ L ↔ g < G ∧ μ 20 g = nI (b + 1) ∧ μ 21 g = nI r
def ps_W0 (R G : Nat) (μ : ps_S) : Prop := R ≤ 8 ∧ G ≤ 60 ∧ μ 7 0 = nI (ps_N μ 7 0) ∧ ps_N μ 7 0 ≤ 5000 ∧ (μ 7 1 = 0 ∨ μ 7 1 = 1) ∧ μ 7 2 = nI R ∧ μ 7 14 = nI G
def ps_WK (μ : ps_S) : Prop := (∀ a b, a < 8 → b < 8 → μ 17 (8 * a + b) = μ 17 (8 * b + a)) ∧ (∀ a, a < 8 → μ 17 (9 * a) = 0) ∧ ∀ i, i < 64 → μ 17 i = nI (ps_N μ 17 i) ∧ ps_N μ 17 i ≤ 50
def ps_WZ (R G : Nat) (μ : ps_S) : Prop := (∀ r w, r < 8 → w < 1100 → (R ≤ r ∨ 5000 / ps_wd μ r + 41 ≤ w) → μ 18 (1100 * r + w) = 0) ∧ (∀ r, R ≤ r → r < 8 → μ 13 r = 0 ∧ μ 14 r = 0 ∧ μ 15 r = 0 ∧ μ 16 r = 0 ∧ μ 32 r = 0) ∧ ∀ g, G ≤ g → g < 60 → μ 20 g = 0 ∧ μ 23 g = 0 ∧ μ 24 g = 0 ∧ μ 27 g = 0 ∧ μ 28 g = 0 ∧ μ 29 g = 0 ∧ μ 30 g = 0
def ps_Wf (R G : Nat) (Nw : Nat → Nat) (μ : ps_S) (ρ : ps_P) (n : Nat) : Prop :=
  ps_W0 R G μ ∧ (∀ r, r < R → ps_WR μ r ∧ Nw r = 5000 / ps_wd μ r + 41) ∧ (∀ g, g < G → ps_WG R μ g n) ∧ (∀ r b, r < R → b < 2 → ps_WL G μ (ρ (2 * r + b)) r b) ∧ (∀ r, r < R → μ 32 r = ps_sumOn μ r G) ∧ ps_WK μ ∧ ps_WZ R G μ
def ps_ref (μ : ps_S) (c : Nat) : ps_S := ps_up μ 31 c (μ 31 c + 1)
def ps_room (μ : ps_S) (r : Nat) : Nat := 5 * ps_N μ 10 r - ps_N μ 11 r
def ps_fits (μ : ps_S) (g r w : Nat) : Bool := decide (μ 18 (1100 * r + w) + μ 19 g ≤ nI (ps_room μ r))
def ps_wk (μ : ps_S) (q r : Nat) : Nat := if q = r then 0 else ps_N μ 17 (8 * q + r)
def ps_ov1 (μ : ps_S) (r w q v : Nat) : Bool := decide (v * ps_wd μ q ≤ w * ps_wd μ r + ps_wd μ r - 1 + ps_wk μ q r) && decide (w * ps_wd μ r ≤ v * ps_wd μ q + ps_wd μ q - 1 + ps_wk μ q r)
-- among the first n times of g
def ps_ovn (μ : ps_S) (g r w : Nat) : Nat → Bool
  | 0 => false
  | n + 1 => ps_ovn μ g r w n || ps_ov1 μ r w (ps_N μ 25 (2 * g + n)) (ps_N μ 26 (2 * g + n))
def ps_ov (μ : ps_S) (g r w : Nat) : Bool := ps_ovn μ g r w (ps_N μ 24 g)
-- the first window from w on, of n
def ps_ff (μ : ps_S) (g r : Nat) : Nat → Nat → Option Nat
  | _, 0 => none
  | w, n + 1 => if (ps_fits μ g r w && !ps_ov μ g r w) = true then some w else ps_ff μ g r (w + 1) n
theorem ps_wd_pos {μ : ps_S} {r : Nat} (h : ps_WR μ r) : 1 ≤ ps_turn μ r ∧ ps_turn μ r ≤ 60 ∧ 5 ≤ ps_wd μ r ∧ ps_wd μ r ≤ 300 := by
  obtain ⟨-, -, -, -, h1, h2, -⟩ := h
  unfold ps_wd ps_turn
  split <;> omega
theorem ps_Nw_le {μ : ps_S} {r : Nat} (h : ps_WR μ r) : 5000 / ps_wd μ r + 41 ≤ 1041 := by
  have := (ps_wd_pos h).2.2.1
  have h2 : 5000 / ps_wd μ r ≤ 5000 / 5 := Nat.div_le_div_left this (by decide)
  omega
def ps_Off (σ τ : ps_S) : Prop := ∀ f, f ≤ 31 → (f = 1 ∨ 7 ≤ f) → τ f = σ f
theorem ps_Off_rf (σ : ps_S) : ps_Off σ σ := fun _ _ _ => rfl
theorem ps_Off_tr {σ τ υ : ps_S} (h1 : ps_Off σ τ) (h2 : ps_Off τ υ) : ps_Off σ υ := fun f a b => (h2 f a b).trans (h1 f a b)
theorem ps_Off_up {σ : ps_S} {f i : Nat} {x : Int32} (h : (f < 7 ∧ f ≠ 1) ∨ 31 < f) : ps_Off σ (ps_up σ f i x) := fun a h1 h2 => ps_up_f (by omega)
