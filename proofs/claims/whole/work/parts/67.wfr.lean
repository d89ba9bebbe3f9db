/-! What holds is kept: a group joins a row, or leaves it. -/
section PWR
variable {R G n : Nat} {Nw : Nat → Nat} {μ : ps_S} {ρ : ps_P}
theorem ps_sr_f {g : Nat} {d x : Int32} {f : Nat} (h : f ≠ 20 ∧ f ≠ 21) : ps_sr μ g d x f = μ f := by
  unfold ps_sr
  rw [ps_up_f h.2, ps_up_f h.1]
theorem ps_sr_v {g : Nat} {d x : Int32} : ps_sr μ g d x 20 = ps_up μ 20 g d 20 ∧ ps_sr μ g d x 21 = ps_up μ 21 g x 21 := by
  unfold ps_sr
  refine ⟨ps_up_f (by decide), ?_⟩
  funext j
  simp [ps_up]
theorem ps_wf_sr {π : ps_P} {g d : Nat} {x : Int32} (hW : ps_Wf R G Nw μ ρ n) (hg : g < G) (hd4 : d ≤ 4) (hd3 : d ≠ 3) (hold : μ 20 g ≠ 3) (hx : (d = 1 ∨ d = 2) → ∃ r, x = nI r ∧ r < R) (hx' : (d = 0 ∨ d = 4) → x = -9) (hl : ∀ r b, r < R → b < 2 → ps_WL G (ps_sr μ g (nI d) x) (π (2 * r + b)) r b) : ps_Wf R G Nw (ps_sr μ g (nI d) x) π n := by
  obtain ⟨v20, v21⟩ := ps_sr_v (μ := μ) (g := g) (d := nI d) (x := x)
  have hR8 := hW.1.1
  have hG60 := hW.1.2.1
  have v23 : ps_sr μ g (nI d) x 23 = μ 23 := ps_sr_f (by decide)
  refine ps_wf_dyn hW (fun f hf => ps_sr_f (by unfold ps_dyn at hf; omega)) (fun i hi => ?_) hl (fun s hs => ?_) (fun s h1 h2 => ?_) (fun i h1 h2 => ?_)
  · obtain ⟨-, -, -, a4, a5, -, -, -, -, a10, a11, a12, a13, -⟩ := hW.2.2.1 i hi
    unfold ps_N at a4 a5 a10 a11 a12 a13 ⊢
    rw [v20, v21, v23]
    by_cases z : i = g
    · subst z
      rw [ps_up_s, ps_up_s, nI_clamp (by omega)]
      refine ⟨rfl, hd4, a10, a11, fun q1 q2 => ?_, fun q => hx' q⟩
      obtain ⟨r, rfl, hr⟩ := hx (by clear hx hx' hl; omega)
      rw [nI_clamp (by omega)]
      exact ⟨rfl, hr⟩
    · rw [ps_up_n (Or.inr z), ps_up_n (Or.inr z)]
      exact ⟨a4, a5, a10, a11, a12, a13⟩
  · rw [ps_sr_f (by decide), hW.2.2.2.2.1 s hs]
    refine (ps_sumOn_same G (fun i _ => ?_)).symm
    unfold ps_onc
    rw [v20, v21, ps_sr_f (f := 19) (by decide)]
    by_cases zi : i = g
    · subst zi
      have q3 : ¬ nI d = 3 := fun q => by
        have q1 : nI d = nI 3 := q
        rw [pn_eq (by omega) (by omega)] at q1
        exact hd3 q1
      rw [ps_up_s, ps_up_s, if_neg (fun q => q3 q.1), if_neg (fun q => hold q.1)]
    · rw [ps_up_n (Or.inr zi), ps_up_n (Or.inr zi)]
  · have q := hW.2.2.2.2.2.2.2.1 s h1 h2
    rw [ps_sr_f (f := 14) (by decide), ps_sr_f (f := 15) (by decide), ps_sr_f (f := 16) (by decide), ps_sr_f (f := 32) (by decide)]
    exact ⟨q.2.1, q.2.2.1, q.2.2.2.1, q.2.2.2.2⟩
  · have q := hW.2.2.2.2.2.2.2.2 i h1 h2
    rw [v20, v23, ps_sr_f (f := 28) (by decide), ps_up_n (Or.inr (by omega))]
    exact ⟨q.1, q.2.1, q.2.2.2.2.1⟩
theorem ps_wf_join {g r b : Nat} (hW : ps_Wf R G Nw μ ρ n) (hg : g < G) (h0 : μ 20 g = 0) (hr : r < R) (hb : b < 2) : ps_Wf R G Nw (ps_sr μ g (nI (b + 1)) (nI r)) (ps_ur ρ (2 * r + b) (ρ (2 * r + b) ++ [g])) n := by
  obtain ⟨v20, v21⟩ := ps_sr_v (μ := μ) (g := g) (d := nI (b + 1)) (x := nI r)
  have hR8 := hW.1.1
  have n0 : ∀ c, c < 2 → ¬ (0 : Int32) = nI (c + 1) := fun c hc => by rw [show (0 : Int32) = nI 0 from rfl, pn_eq (by omega) (by omega)]; omega
  refine ps_wf_sr hW hg (by omega) (by omega) (by rw [h0]; decide) (fun _ => ⟨r, rfl, hr⟩) (fun q => by omega) (fun s c hs hc => ?_)
  obtain ⟨k1, k2⟩ := hW.2.2.2.1 s c hs hc
  have gn : g ∉ ρ (2 * s + c) := fun q => by
    have := ((k2 g).mp q).2.1
    rw [h0] at this
    exact n0 c hc this
  unfold ps_WL
  rw [v20, v21]
  by_cases z : 2 * s + c = 2 * r + b
  · have e1 : s = r := by omega
    have e2 : c = b := by omega
    subst e1; subst e2
    rw [ps_ur_s]
    refine ⟨List.nodup_append.mpr ⟨k1, List.nodup_cons.mpr ⟨List.not_mem_nil, List.nodup_nil⟩, fun a ha b hb2 => ?_⟩, fun i => ?_⟩
    · rw [List.mem_singleton.mp hb2]
      exact fun q => gn (q ▸ ha)
    · rw [List.mem_append, List.mem_singleton]
      by_cases zi : i = g
      · subst zi
        rw [ps_up_s, ps_up_s]
        exact ⟨fun _ => ⟨hg, rfl, rfl⟩, fun _ => Or.inr rfl⟩
      · rw [ps_up_n (Or.inr zi), ps_up_n (Or.inr zi), k2 i]
        exact ⟨fun q => q.elim id (fun q => absurd q zi), fun q => Or.inl q⟩
  · rw [ps_ur_n z]
    refine ⟨k1, fun i => ?_⟩
    by_cases zi : i = g
    · subst zi
      rw [ps_up_s, ps_up_s]
      refine ⟨fun q => absurd q gn, fun q => ?_⟩
      have q3 : nI (b + 1) = nI (c + 1) := q.2.1
      have q4 : nI r = nI s := q.2.2
      rw [pn_eq (by omega) (by omega)] at q3 q4
      omega
    · rw [ps_up_n (Or.inr zi), ps_up_n (Or.inr zi)]
      exact k2 i
theorem ps_wf_lv {g r b : Nat} (hW : ps_Wf R G Nw μ ρ n) (hr : r < R) (hb : b < 2) (hg : g ∈ ρ (2 * r + b)) : ps_Wf R G Nw (ps_sr μ g 0 (-9)) (ps_ur ρ (2 * r + b) ((ρ (2 * r + b)).erase g)) n := by
  obtain ⟨l1, l2⟩ := hW.2.2.2.1 r b hr hb
  obtain ⟨hgG, hg20, hg21⟩ := (l2 g).mp hg
  obtain ⟨v20, v21⟩ := ps_sr_v (μ := μ) (g := g) (d := 0) (x := -9)
  have hR8 := hW.1.1
  have n0 : ∀ c, c < 2 → ¬ (0 : Int32) = nI (c + 1) := fun c hc => by rw [show (0 : Int32) = nI 0 from rfl, pn_eq (by omega) (by omega)]; omega
  refine ps_wf_sr (d := 0) hW hgG (by omega) (by omega) (by rw [hg20, show (3 : Int32) = nI 3 from rfl]; intro q; rw [pn_eq (by omega) (by omega)] at q; omega) (fun q => by omega) (fun _ => rfl) (fun s c hs hc => ?_)
  obtain ⟨k1, k2⟩ := hW.2.2.2.1 s c hs hc
  unfold ps_WL
  show _ ∧ ∀ i, i ∈ _ ↔ i < G ∧ ps_sr μ g 0 (-9) 20 i = nI (c + 1) ∧ ps_sr μ g 0 (-9) 21 i = nI s
  rw [v20, v21]
  by_cases z : 2 * s + c = 2 * r + b
  · have e1 : s = r := by omega
    have e2 : c = b := by omega
    subst e1; subst e2
    rw [ps_ur_s]
    refine ⟨l1.erase g, fun i => ?_⟩
    by_cases zi : i = g
    · subst zi
      rw [ps_up_s]
      exact ⟨fun q => absurd q (List.Nodup.not_mem_erase l1), fun q => absurd q.2.1 (n0 c hc)⟩
    · rw [ps_up_n (Or.inr zi), ps_up_n (Or.inr zi), List.mem_erase_of_ne zi]
      exact l2 i
  · rw [ps_ur_n z]
    refine ⟨k1, fun i => ?_⟩
    by_cases zi : i = g
    · subst zi
      rw [ps_up_s, ps_up_s]
      refine ⟨fun q => ?_, fun q => absurd q.2.1 (n0 c hc)⟩
      exfalso
      have q2 := (k2 i).mp q
      have q3 : nI (c + 1) = nI (b + 1) := q2.2.1.symm.trans hg20
      have q4 : nI s = nI r := q2.2.2.symm.trans hg21
      rw [pn_eq (by omega) (by omega)] at q3 q4
      omega
    · rw [ps_up_n (Or.inr zi), ps_up_n (Or.inr zi)]
      exact k2 i
end PWR
