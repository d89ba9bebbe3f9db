/-! ParkRows: a window ends. -/
def ps_g1 (μ : ps_S) (g r w : Nat) : ps_S := ps_up μ 18 (1100 * r + w) (μ 18 (1100 * r + w) - μ 19 g)
def ps_fm (μ : ps_S) (g r : Nat) : Nat → Nat → Option Nat
  | _, 0 => none
  | w, n + 1 => if ps_fits μ g r w = true then some w else ps_fm μ g r (w + 1) n
def ps_mvr (μ ν : ps_S) (g i r : Nat) : Option Nat → ps_S × Bool
  | some v => (ps_up (ps_up (ps_up ν 18 (1100 * r + v) (ν 18 (1100 * r + v) + μ 19 g)) 26 (2 * g + i) (nI v)) 30 g (μ 30 g + 1), true)
  | none => (ps_drop (ps_up ν 27 g (μ 27 g + 1)) g i, false)
def ps_mv (μ : ps_S) (g i r w : Nat) : ps_S × Bool := ps_mvr μ (ps_g1 μ g r w) g i r (ps_fm (ps_g1 μ g r w) g r (w + 1) 40)
theorem ps_fm_in {μ : ps_S} {g r : Nat} : ∀ (n w v : Nat), ps_fm μ g r w n = some v → w ≤ v ∧ v < w + n := by
  intro n
  induction n with
  | zero => intro w v hh; cases hh
  | succ n ih =>
    intro w v hh
    unfold ps_fm at hh
    split at hh
    · cases hh; omega
    · have := ih (w + 1) v hh; omega
section PWN
variable {h : pw_Hp} {R G : Nat} {aR aG Nw : Nat → Nat} {σ μ : ps_S} {ρ : ps_P} {n : Nat}
-- given of a legal window changes
theorem ps_hz18 (hW : ps_Wf R G Nw μ ρ n) {r w : Nat} {x : Int32} (hr : r < R) (hw : w < 5000 / ps_wd μ r + 41) : ∀ s v, s < 8 → v < 1100 → (R ≤ s ∨ 5000 / ps_wd μ s + 41 ≤ v) → ps_up μ 18 (1100 * r + w) x 18 (1100 * s + v) = 0 := by
  intro s v h1 h2 h3
  have hN := ps_Nw_le (hW.2.1 r hr).1
  have hne : 1100 * s + v ≠ 1100 * r + w := by
    intro q
    have e1 : s = r := by omega
    subst e1
    have e2 : v = w := by omega
    subst e2
    omega
  rw [ps_up_n (Or.inr hne)]
  exact hW.2.2.2.2.2.2.1 s v h1 h2 h3
theorem ps_wf_g1 (hW : ps_Wf R G Nw μ ρ n) {g r w : Nat} {x : Int32} (hr : r < R) (hw : w < 5000 / ps_wd μ r + 41) : ps_Wf R G Nw (ps_up μ 18 (1100 * r + w) x) ρ n := by
  have e : ∀ f, f ≠ 18 → ps_up μ 18 (1100 * r + w) x f = μ f := fun f q => ps_up_f q
  refine ps_wf_tdyn hW (fun f q => e f (by unfold ps_tdyn at q; omega)) (fun i hi => ?_) (ps_hz18 hW hr hw) (fun i h1 h2 => ?_)
  · obtain ⟨-, -, -, -, -, a6, a7, a8, a9, -, -, -, -, a14⟩ := hW.2.2.1 i hi
    unfold ps_N at *
    rw [e 24 (by decide), e 27 (by decide), e 25 (by decide), e 26 (by decide)]
    exact ⟨a6, a7, a8, a9, fun j hj => a14 j hj⟩
  · have q := hW.2.2.2.2.2.2.2.2 i h1 h2
    rw [e 24 (by decide), e 27 (by decide), e 29 (by decide), e 30 (by decide)]
    exact ⟨q.2.2.1, q.2.2.2.1, q.2.2.2.2.2.1, q.2.2.2.2.2.2⟩
theorem ps_wf_mv (hW : ps_Wf R G Nw μ ρ n) (hn : n < 100000) {g i r w : Nat} (hg : g < G) (hr : r < R) (hi : i < ps_N μ 24 g) (hm : μ 25 (2 * g + i) = nI r) (hw : w + 1 ≤ 5000 / ps_wd μ r) : ps_Wf R G Nw (ps_mv μ g i r w).1 ρ n := by
  have hR8 := hW.1.1
  have hW1 := ps_wf_g1 hW (g := g) (x := μ 18 (1100 * r + w) - μ 19 g) hr (w := w) (by omega)
  obtain ⟨-, -, -, -, -, a6, a7, a8, a9, -, -, -, -, a14⟩ := hW.2.2.1 g hg
  have e1 : ∀ f, f ≠ 18 → ps_g1 μ g r w f = μ f := fun f q => ps_up_f q
  unfold ps_mv
  cases hf : ps_fm (ps_g1 μ g r w) g r (w + 1) 40 with
  | none =>
    show ps_Wf R G Nw (ps_drop (ps_up (ps_g1 μ g r w) 27 g (μ 27 g + 1)) g i) ρ n
    refine ps_wf_drop hW hg (Nat.le_refl n) hn hi (m := ps_N μ 27 g + 1) (fun f q1 q2 q3 q4 => ?_) (fun j hj => ?_) ?_ (by omega) (fun s v h1 h2 h3 => ?_)
    · rw [ps_up_f q2, e1 f q1]
    · rw [ps_up_n (Or.inr hj), ps_up_f (show 29 ≠ 27 by decide), ps_up_f (show 30 ≠ 27 by decide), e1 27 (by decide), e1 29 (by decide), e1 30 (by decide)]
      exact ⟨rfl, rfl, rfl⟩
    · rw [ps_up_s, a8, nI_1]
    · rw [ps_up_f (show 18 ≠ 27 by decide)]
      exact ps_hz18 hW hr (by omega) s v h1 h2 h3
  | some v =>
    have hv := ps_fm_in _ _ _ hf
    have hwd : ∀ s, ps_wd (ps_g1 μ g r w) s = ps_wd μ s := fun s => by unfold ps_wd ps_turn ps_N; rw [e1 9 (by decide), e1 12 (by decide)]
    have z2 := ps_hz18 hW1 (r := r) (w := v) (x := ps_g1 μ g r w 18 (1100 * r + v) + μ 19 g) hr (by rw [show ps_wd (ps_up μ 18 (1100 * r + w) (μ 18 (1100 * r + w) - μ 19 g)) r = ps_wd μ r from hwd r]; omega)
    have e2 : ∀ f, f ≠ 18 → f ≠ 26 → f ≠ 30 → ps_up (ps_up (ps_up (ps_g1 μ g r w) 18 (1100 * r + v) (ps_g1 μ g r w 18 (1100 * r + v) + μ 19 g)) 26 (2 * g + i) (nI v)) 30 g (μ 30 g + 1) f = μ f := fun f q1 q2 q3 => by rw [ps_up_f q3, ps_up_f q2, ps_up_f q1, e1 f q1]
    have e26 : ∀ j, ps_up (ps_up (ps_up (ps_g1 μ g r w) 18 (1100 * r + v) (ps_g1 μ g r w 18 (1100 * r + v) + μ 19 g)) 26 (2 * g + i) (nI v)) 30 g (μ 30 g + 1) 26 j = if j = 2 * g + i then nI v else μ 26 j := fun j => by
      rw [ps_up_f (show 26 ≠ 30 by decide)]
      by_cases q : j = 2 * g + i
      · rw [if_pos q, q, ps_up_s]
      · rw [if_neg q, ps_up_n (Or.inr q), ps_up_f (show 26 ≠ 18 by decide), e1 26 (by decide)]
    show ps_Wf R G Nw (ps_up (ps_up (ps_up (ps_g1 μ g r w) 18 (1100 * r + v) (ps_g1 μ g r w 18 (1100 * r + v) + μ 19 g)) 26 (2 * g + i) (nI v)) 30 g (μ 30 g + 1)) ρ n
    refine ps_wf_tg hW hg (Nat.le_refl n) (fun f q => e2 f (by unfold ps_tdyn at q; omega) (by unfold ps_tdyn at q; omega) (by unfold ps_tdyn at q; omega)) (fun j hj => ?_) (fun j hj => ?_) (ps_N μ 24 g) (ps_N μ 27 g) ?_ a7 ?_ a9 hn (fun j hj => ?_) (fun s u h1 h2 h3 => ?_)
    · rw [e2 24 (by decide) (by decide) (by decide), e2 27 (by decide) (by decide) (by decide), e2 29 (by decide) (by decide) (by decide), ps_up_n (f := 30) (Or.inr hj), ps_up_f (show 30 ≠ 26 by decide), ps_up_f (show 30 ≠ 18 by decide), e1 30 (by decide)]
      exact ⟨rfl, rfl, rfl, rfl⟩
    · rw [e2 25 (by decide) (by decide) (by decide), e26, if_neg (by omega)]
      exact ⟨rfl, rfl⟩
    · rw [e2 24 (by decide) (by decide) (by decide)]; exact a6
    · rw [e2 27 (by decide) (by decide) (by decide)]; exact a8
    · have t := a14 j hj
      unfold ps_WT ps_N at t
      unfold ps_N
      rw [e2 25 (by decide) (by decide) (by decide), e26]
      by_cases q : j = i
      · subst q
        rw [if_pos rfl]
        refine ⟨t.1, t.2.1, ?_, ?_⟩
        · rw [nI_clamp (by have := ps_Nw_le (hW.2.1 r hr).1; omega)]
        · rw [nI_clamp (by have := ps_Nw_le (hW.2.1 r hr).1; omega), hm, nI_clamp (by omega)]
          omega
      · rw [if_neg (by omega)]
        exact t
    · rw [ps_up_f (show 18 ≠ 30 by decide), ps_up_f (show 18 ≠ 26 by decide)]
      refine z2 s u h1 h2 ?_
      rw [show ps_wd (ps_up μ 18 (1100 * r + w) (μ 18 (1100 * r + w) - μ 19 g)) s = ps_wd μ s from hwd s]
      exact h3
end PWN
