/-! What holds is kept by every call. -/
section PWO
variable {R G n : Nat} {Nw : Nat → Nat} {μ : ps_S} {ρ : ps_P}
theorem ps_wf_st {ν : ps_S} (hW : ps_Wf R G Nw μ ρ n) (hf : ∀ f, f ≠ 10 → f ≠ 11 → f ≠ 13 → f ≠ 17 → ν f = μ f) (hr : ∀ r, r < R → ps_WR ν r) (hK : ps_WK ν) (hz : ∀ r, R ≤ r → r < 8 → ν 13 r = 0) : ps_Wf R G Nw ν ρ n := by
  obtain ⟨w0, w1, w2, w3, w4, w5, w6⟩ := hW
  have k7 : ν 7 = μ 7 := hf 7 (by decide) (by decide) (by decide) (by decide)
  have k9 : ν 9 = μ 9 := hf 9 (by decide) (by decide) (by decide) (by decide)
  have k12 : ν 12 = μ 12 := hf 12 (by decide) (by decide) (by decide) (by decide)
  have k14 : ν 14 = μ 14 := hf 14 (by decide) (by decide) (by decide) (by decide)
  have k15 : ν 15 = μ 15 := hf 15 (by decide) (by decide) (by decide) (by decide)
  have k16 : ν 16 = μ 16 := hf 16 (by decide) (by decide) (by decide) (by decide)
  have k18 : ν 18 = μ 18 := hf 18 (by decide) (by decide) (by decide) (by decide)
  have k19 : ν 19 = μ 19 := hf 19 (by decide) (by decide) (by decide) (by decide)
  have k20 : ν 20 = μ 20 := hf 20 (by decide) (by decide) (by decide) (by decide)
  have k21 : ν 21 = μ 21 := hf 21 (by decide) (by decide) (by decide) (by decide)
  have k23 : ν 23 = μ 23 := hf 23 (by decide) (by decide) (by decide) (by decide)
  have k24 : ν 24 = μ 24 := hf 24 (by decide) (by decide) (by decide) (by decide)
  have k25 : ν 25 = μ 25 := hf 25 (by decide) (by decide) (by decide) (by decide)
  have k26 : ν 26 = μ 26 := hf 26 (by decide) (by decide) (by decide) (by decide)
  have k27 : ν 27 = μ 27 := hf 27 (by decide) (by decide) (by decide) (by decide)
  have k28 : ν 28 = μ 28 := hf 28 (by decide) (by decide) (by decide) (by decide)
  have k29 : ν 29 = μ 29 := hf 29 (by decide) (by decide) (by decide) (by decide)
  have k30 : ν 30 = μ 30 := hf 30 (by decide) (by decide) (by decide) (by decide)
  have k32 : ν 32 = μ 32 := hf 32 (by decide) (by decide) (by decide) (by decide)
  have kw : ∀ r, ps_wd ν r = ps_wd μ r := ps_wd_same k9 k12
  refine ⟨?_, fun r hr' => ⟨hr r hr', ?_⟩, fun g hg => ?_, fun r b hr hb => ?_, fun r hr => ?_, hK, ?_⟩
  · unfold ps_W0 ps_N at w0 ⊢
    rw [k7]; exact w0
  · rw [kw]; exact (w1 r hr').2
  · have a := w2 g hg
    unfold ps_WG ps_WT at a ⊢
    simp only [kw]
    unfold ps_N at a ⊢
    rw [k7, k19, k20, k21, k23, k24, k25, k26, k27]
    exact a
  · unfold ps_WL
    rw [k20, k21]
    exact w3 r b hr hb
  · rw [k32, ps_sumOn_same G (fun i _ => by unfold ps_onc; rw [k19, k20, k21])]
    exact w4 r hr
  · obtain ⟨z1, z2, z3⟩ := w6
    refine ⟨fun r w h1 h2 h3 => ?_, fun r h1 h2 => ?_, fun g h1 h2 => ?_⟩
    · rw [kw] at h3
      rw [k18]
      exact z1 r w h1 h2 h3
    · rw [k14, k15, k16, k32]; exact ⟨hz r h1 h2, (z2 r h1 h2).2⟩
    · rw [k20, k23, k24, k27, k28, k29, k30]; exact z3 g h1 h2
theorem ps_wf_walk {a b : Nat} {z : Int32} (hW : ps_Wf R G Nw μ ρ n) (ha : a < R) (hb : b < R) (hab : a ≠ b) (h0 : ¬ z < 0) (h5 : ¬ 50 < z) : ps_Wf R G Nw (ps_walk μ a b z) ρ n := by
  have hR := hW.1.1
  obtain ⟨v, hv, rfl⟩ := nI_of h0
  have hv5 : v ≤ 50 := by rw [show (50 : Int32) = nI 50 from rfl, pn_lt (by decide) hv] at h5; omega
  have e : ∀ f, f ≠ 17 → ps_walk μ a b (nI v) f = μ f := fun f q => by unfold ps_walk; rw [ps_up_f q, ps_up_f q]
  have e17 : ∀ i, ps_walk μ a b (nI v) 17 i = if i = 8 * b + a ∨ i = 8 * a + b then nI v else μ 17 i := fun i => by
    unfold ps_walk
    rw [ps_up_at, ps_up_at]
    by_cases q1 : i = 8 * b + a
    · rw [if_pos ⟨rfl, q1⟩, if_pos (Or.inl q1)]
    · rw [if_neg (fun w => q1 w.2)]
      by_cases q2 : i = 8 * a + b
      · rw [if_pos ⟨rfl, q2⟩, if_pos (Or.inr q2)]
      · rw [if_neg (fun w => q2 w.2), if_neg (fun w => w.elim q1 q2)]
  obtain ⟨k1, k2, k3⟩ := hW.2.2.2.2.2.1
  refine ps_wf_st hW (fun f _ _ _ q => e f q) (fun r hr => ?_) ⟨fun c d hc hd => ?_, fun c hc => ?_, fun i hi => ?_⟩ (fun r h1 h2 => ?_)
  · have := (hW.2.1 r hr).1
    unfold ps_WR ps_N at this ⊢
    rw [e 8 (by decide), e 9 (by decide), e 10 (by decide), e 11 (by decide), e 12 (by decide), e 13 (by decide)]
    exact this
  · rw [e17, e17]
    by_cases q : 8 * c + d = 8 * b + a ∨ 8 * c + d = 8 * a + b
    · rw [if_pos q, if_pos (by omega)]
    · rw [if_neg q, if_neg (by omega)]; exact k1 c d hc hd
  · rw [e17, if_neg (by omega)]; exact k2 c hc
  · unfold ps_N
    rw [e17]
    by_cases q : i = 8 * b + a ∨ i = 8 * a + b
    · rw [if_pos q, nI_clamp hv]; exact ⟨rfl, hv5⟩
    · rw [if_neg q]; exact k3 i hi
  · rw [e 13 (by decide)]; exact (hW.2.2.2.2.2.2.2.1 r h1 h2).1
theorem ps_wf_part {r : Nat} {y z : Int32} (hW : ps_Wf R G Nw μ ρ n) (hr : r < R) (h4 : ¬ (y < 0 ∨ z < 0)) (h6 : ¬ (μ 8 r < y ∨ 99 < z)) : ps_Wf R G Nw (ps_up (ps_up μ 10 r y) 11 r z) ρ n := by
  have e : ∀ f, f ≠ 10 → f ≠ 11 → ps_up (ps_up μ 10 r y) 11 r z f = μ f := fun f q1 q2 => by rw [ps_up_f q2, ps_up_f q1]
  obtain ⟨p, hp, rfl⟩ := nI_of (fun w => h4 (Or.inl w))
  obtain ⟨s, hs, rfl⟩ := nI_of (fun w => h4 (Or.inr w))
  have hs9 : s ≤ 99 := by
    have : ¬ 99 < nI s := fun w => h6 (Or.inr w)
    rw [show (99 : Int32) = nI 99 from rfl, pn_lt (by decide) hs] at this; omega
  refine ps_wf_st hW (fun f q1 q2 _ _ => e f q1 q2) (fun q hq => ?_) ?_ (fun q h1 h2 => ?_)
  · have a := (hW.2.1 q hq).1
    have e10 : ps_up (ps_up μ 10 r (nI p)) 11 r (nI s) 10 q = if q = r then nI p else μ 10 q := by
      rw [ps_up_nn (by decide), ps_up_at]
      by_cases w : q = r
      · rw [if_pos ⟨rfl, w⟩, if_pos w]
      · rw [if_neg (fun v => w v.2), if_neg w]
    have e11 : ps_up (ps_up μ 10 r (nI p)) 11 r (nI s) 11 q = if q = r then nI s else μ 11 q := by
      rw [ps_up_at]
      by_cases w : q = r
      · rw [if_pos ⟨rfl, w⟩, if_pos w]
      · rw [if_neg (fun v => w v.2), if_neg w, ps_up_nn (by decide)]
    unfold ps_WR ps_N at a ⊢
    rw [e 8 (by decide) (by decide), e 9 (by decide) (by decide), e 12 (by decide) (by decide), e 13 (by decide) (by decide), e10, e11]
    by_cases w : q = r
    · subst w
      rw [if_pos rfl, if_pos rfl, nI_clamp hp, nI_clamp hs]
      obtain ⟨a1, a2, a3, a4, a5, a6, a7, a8, a9, a10, a11, a12, a13⟩ := a
      refine ⟨a1, a2, a3, a4, a5, a6, rfl, ?_, rfl, hs9, a11, a12, a13⟩
      have w2 : ¬ μ 8 q < nI p := fun w => h6 (Or.inl w)
      rw [a1, pn_lt (by omega) hp] at w2
      omega
    · rw [if_neg w, if_neg w]
      exact a
  · have a := hW.2.2.2.2.2.1
    unfold ps_WK ps_N at a ⊢
    rw [e 17 (by decide) (by decide)]
    exact a
  · rw [e 13 (by decide) (by decide)]; exact (hW.2.2.2.2.2.2.2.1 q h1 h2).1
theorem ps_wf_stop {r : Nat} {y : Int32} (hW : ps_Wf R G Nw μ ρ n) (hr : r < R) (hy : y = 0 ∨ y = 1) : ps_Wf R G Nw (ps_up μ 13 r y) ρ n := by
  have e : ∀ f, f ≠ 13 → ps_up μ 13 r y f = μ f := fun f q => ps_up_f q
  refine ps_wf_st hW (fun f _ _ q _ => e f q) (fun q hq => ?_) ?_ (fun q h1 h2 => ?_)
  · have a := (hW.2.1 q hq).1
    unfold ps_WR ps_N at a ⊢
    rw [e 8 (by decide), e 9 (by decide), e 10 (by decide), e 11 (by decide), e 12 (by decide), ps_up_at]
    refine ⟨a.1, a.2.1, a.2.2.1, a.2.2.2.1, a.2.2.2.2.1, a.2.2.2.2.2.1, a.2.2.2.2.2.2.1, a.2.2.2.2.2.2.2.1, a.2.2.2.2.2.2.2.2.1, a.2.2.2.2.2.2.2.2.2.1, a.2.2.2.2.2.2.2.2.2.2.1, a.2.2.2.2.2.2.2.2.2.2.2.1, ?_⟩
    by_cases w : q = r
    · rw [if_pos ⟨rfl, w⟩]; exact hy
    · rw [if_neg (fun v => w v.2)]; exact a.2.2.2.2.2.2.2.2.2.2.2.2
  · have a := hW.2.2.2.2.2.1
    unfold ps_WK ps_N at a ⊢
    rw [e 17 (by decide)]
    exact a
  · rw [ps_up_n (Or.inr (by omega))]; exact (hW.2.2.2.2.2.2.2.1 q h1 h2).1
theorem ps_wf_rain {y : Int32} (hW : ps_Wf R G Nw μ ρ n) (hy : y = 0 ∨ y = 1) : ps_Wf R G Nw (ps_up μ 7 1 y) ρ n := by
  obtain ⟨a1, a2, a3, a4, a5, a6, a7⟩ := hW.1
  refine ps_wf_7 hW (Nat.le_refl n) (fun f q _ => ps_up_f q) ?_ ?_
  · unfold ps_W0 ps_N at *
    rw [ps_up_n (Or.inr (by decide)), ps_up_s, ps_up_n (Or.inr (by decide)), ps_up_n (Or.inr (by decide))]
    exact ⟨a1, a2, a3, a4, hy, a6, a7⟩
  · unfold ps_N
    rw [ps_up_n (Or.inr (by decide))]
    exact Nat.le_refl _
theorem ps_wf_take {g r : Nat} (hW : ps_Wf R G Nw μ ρ n) (hn : n + 1 < 100000) (hg : g < G) (hr : r < R) : ps_Wf R G Nw (ps_take μ g r).2 ρ (n + 1) := by
  have hR := hW.1.1
  have wr := (hW.2.1 r hr).1
  have tb := hW.1.2.2.2.1
  have hN := ps_Nw_le wr
  have hdiv : ps_N μ 7 0 / ps_wd μ r ≤ 5000 / ps_wd μ r := Nat.div_le_div_right tb
  unfold ps_take
  split
  · exact ps_wf_ref hW (by omega)
  split
  · exact ps_wf_ref hW (by omega)
  rename_i z1 z2
  cases hf : ps_ff μ g r (ps_N μ 7 0 / ps_wd μ r + 1) 40 with
  | none => exact ps_wf_ref hW (by omega)
  | some w =>
    have hw := ps_ff_in 40 _ w hf
    obtain ⟨-, -, -, -, -, a6, a7, a8, a9, -, -, -, -, a14⟩ := hW.2.2.1 g hg
    show ps_Wf R G Nw (ps_tk μ g r w) ρ (n + 1)
    have k25 : ∀ i, ps_tk μ g r w 25 i = if i = 2 * g + ps_N μ 24 g then nI r else μ 25 i := fun i => by
      unfold ps_tk ps_addt
      rw [ps_up_nn (by decide), ps_up_nn (by decide), ps_up_nn (by decide), ps_up_at]
      by_cases q : i = 2 * g + ps_N μ 24 g
      · rw [if_pos ⟨rfl, q⟩, if_pos q]
      · rw [if_neg (fun v => q v.2), if_neg q]
    have k26 : ∀ i, ps_tk μ g r w 26 i = if i = 2 * g + ps_N μ 24 g then nI w else μ 26 i := fun i => by
      unfold ps_tk ps_addt
      rw [ps_up_nn (by decide), ps_up_nn (by decide), ps_up_at]
      by_cases q : i = 2 * g + ps_N μ 24 g
      · rw [if_pos ⟨rfl, q⟩, if_pos q]
      · rw [if_neg (fun v => q v.2), if_neg q, ps_up_nn (by decide)]
    have k24 : ∀ i, ps_tk μ g r w 24 i = if i = g then μ 24 g + 1 else μ 24 i := fun i => by
      unfold ps_tk ps_addt
      rw [ps_up_nn (by decide), ps_up_at]
      by_cases q : i = g
      · rw [if_pos ⟨rfl, q⟩, if_pos q]
      · rw [if_neg (fun v => q v.2), if_neg q, ps_up_nn (by decide), ps_up_nn (by decide)]
    have kf : ∀ f, f ≠ 18 → f ≠ 24 → f ≠ 25 → f ≠ 26 → ps_tk μ g r w f = μ f := fun f q1 q2 q3 q4 => by
      unfold ps_tk ps_addt
      rw [ps_up_f q1, ps_up_f q2, ps_up_f q4, ps_up_f q3]
    refine ps_wf_tg hW hg (by omega) (fun f hf => kf f (by unfold ps_tdyn at hf; omega) (by unfold ps_tdyn at hf; omega) (by unfold ps_tdyn at hf; omega) (by unfold ps_tdyn at hf; omega)) (fun i hi => ?_) (fun i hi => ?_) (ps_N μ 24 g + 1) (ps_N μ 27 g) ?_ (by omega) ?_ (by omega) hn (fun i hi => ?_) (fun s v h1 h2 h3 => ?_)
    · rw [k24, if_neg hi, kf 27 (by decide) (by decide) (by decide) (by decide), kf 29 (by decide) (by decide) (by decide) (by decide), kf 30 (by decide) (by decide) (by decide) (by decide)]
      exact ⟨rfl, rfl, rfl, rfl⟩
    · rw [k25, k26, if_neg (by omega), if_neg (by omega)]
      exact ⟨rfl, rfl⟩
    · rw [k24, if_pos rfl, a6, nI_1]
    · rw [kf 27 (by decide) (by decide) (by decide) (by decide)]; exact a8
    · by_cases q : i = ps_N μ 24 g
      · unfold ps_N
        rw [k25, k26, if_pos (show 2 * g + i = 2 * g + ps_N μ 24 g by omega), if_pos (show 2 * g + i = 2 * g + ps_N μ 24 g by omega), nI_clamp (by omega), nI_clamp (by omega)]
        exact ⟨rfl, hr, rfl, by omega⟩
      · have b := a14 i (by omega)
        unfold ps_WT at b
        have h25 : ps_tk μ g r w 25 (2 * g + i) = μ 25 (2 * g + i) := by rw [k25, if_neg (by omega)]
        have h26 : ps_tk μ g r w 26 (2 * g + i) = μ 26 (2 * g + i) := by rw [k26, if_neg (by omega)]
        have n25 : ps_N (ps_tk μ g r w) 25 (2 * g + i) = ps_N μ 25 (2 * g + i) := by unfold ps_N; rw [h25]
        have n26 : ps_N (ps_tk μ g r w) 26 (2 * g + i) = ps_N μ 26 (2 * g + i) := by unfold ps_N; rw [h26]
        rw [n25, n26, h25, h26]
        exact b
    · have b := ps_hz18 (x := μ 18 (1100 * r + w) + μ 19 g) hW hr (w := w) (by omega) s v h1 h2 h3
      have k18 : ps_tk μ g r w 18 (1100 * s + v) = ps_up μ 18 (1100 * r + w) (μ 18 (1100 * r + w) + μ 19 g) 18 (1100 * s + v) := by
        unfold ps_tk ps_addt
        exact congrFun (ps_up_cg2 (by rw [ps_up_f (by decide), ps_up_f (by decide), ps_up_f (by decide)])) _
      rw [k18]
      exact b
theorem ps_wf_free {g r : Nat} (hW : ps_Wf R G Nw μ ρ n) : ps_Wf R G Nw (ps_free μ g r).2 ρ n := by
  unfold ps_free
  split
  · exact ps_wf_ref hW (Nat.le_refl n)
  split
  · exact ps_wf_ref hW (Nat.le_refl n)
  split
  · exact hW
  · exact ps_wf_ref hW (Nat.le_refl n)
theorem ps_wf_stand {g r : Nat} (hW : ps_Wf R G Nw μ ρ n) (hg : g < G) (hr : r < R) : ps_Wf R G Nw (ps_stand μ ρ g r).2.1 (ps_stand μ ρ g r).2.2 n := by
  have w4 := (hW.2.2.1 g hg).2.2.2.1
  unfold ps_stand
  split
  · exact ps_wf_ref hW (Nat.le_refl n)
  rename_i z
  split
  · exact ps_wf_ref hW (Nat.le_refl n)
  · exact ps_wf_join (b := 0) hW hg (by rw [w4, show ps_N μ 20 g = 0 by omega]; rfl) hr (by decide)
theorem ps_wf_come {g r : Nat} (hW : ps_Wf R G Nw μ ρ n) (hn : n < 100000) (hg : g < G) (hr : r < R) : ps_Wf R G Nw (ps_come μ ρ g r).2.1 (ps_come μ ρ g r).2.2 n := by
  have w4 := (hW.2.2.1 g hg).2.2.2.1
  unfold ps_come
  split
  · exact ps_wf_ref hW (Nat.le_refl n)
  rename_i z
  have h0 : μ 20 g = 0 := by rw [w4, show ps_N μ 20 g = 0 by omega]; rfl
  have jn : ∀ ν, ps_Wf R G Nw ν ρ n → ν 20 = μ 20 → ps_Wf R G Nw (ps_cm μ ρ g r ν).2.1 (ps_cm μ ρ g r ν).2.2 n := fun ν hν e => ps_wf_join (b := 1) hν hg (by rw [e]; exact h0) hr (by decide)
  split
  · rename_i q
    exact jn _ (ps_wf_d1 hW hn hg q.1) (ps_drop_f (by decide))
  split
  · rename_i q
    exact jn _ (ps_wf_d1 hW hn hg q.1) (ps_drop_f (by decide))
  split
  · exact ps_wf_ref hW (Nat.le_refl n)
  · rename_i q
    exact jn _ (ps_wf_a1 hW hn hg (by omega)) (ps_up_f (by decide))
theorem ps_wf_leave {g : Nat} (hW : ps_Wf R G Nw μ ρ n) (hg : g < G) : ps_Wf R G Nw (ps_leave μ ρ g).2.1 (ps_leave μ ρ g).2.2 n := by
  obtain ⟨-, -, -, w4, w5, -, -, -, -, -, -, w12, -⟩ := hW.2.2.1 g hg
  unfold ps_leave
  split
  · rename_i z
    obtain ⟨u1, u2⟩ := w12 (by omega) (by omega)
    have hmem : g ∈ ρ (2 * ps_N μ 21 g + (ps_N μ 20 g - 1)) := ((hW.2.2.2.1 _ _ u2 (show ps_N μ 20 g - 1 < 2 by omega)).2 g).mpr ⟨hg, by rw [w4, show ps_N μ 20 g - 1 + 1 = ps_N μ 20 g by omega], u1⟩
    exact ps_wf_lv hW u2 (by omega) hmem
  · exact ps_wf_ref hW (Nat.le_refl n)
theorem ps_wf_gg {g : Nat} (hW : ps_Wf R G Nw μ ρ n) (hg : g < G) : ∀ k, k ≤ ps_N μ 24 g → ps_Wf R G Nw (ps_gg μ g k) ρ n := by
  intro k
  induction k with
  | zero => intro _; exact hW
  | succ k ih =>
    intro hk
    have hk' := ih (by omega)
    obtain ⟨-, -, -, -, -, -, -, -, -, -, -, -, -, a14⟩ := hW.2.2.1 g hg
    obtain ⟨t1, t2, t3, t4⟩ := a14 k (by omega)
    show ps_Wf R G Nw (ps_gw (ps_gg μ g k) g k) ρ n
    unfold ps_gw ps_gi
    have n25 : ps_N (ps_gg μ g k) 25 (2 * g + k) = ps_N μ 25 (2 * g + k) := by unfold ps_N; rw [ps_gg_f (by decide)]
    have n26 : ps_N (ps_gg μ g k) 26 (2 * g + k) = ps_N μ 26 (2 * g + k) := by unfold ps_N; rw [ps_gg_f (by decide)]
    rw [n25, n26]
    refine ps_wf_g1 (g := g) hk' t2 ?_
    rw [ps_wd_same (μ := μ) (ps_gg_f (by decide) k) (ps_gg_f (by decide) k)]
    exact t4
theorem ps_wf_go {g : Nat} (hW : ps_Wf R G Nw μ ρ n) (hn : n < 100000) (hg : g < G) : ps_Wf R G Nw (ps_goS μ g).2 ρ n := by
  unfold ps_goS
  split
  · rename_i z
    obtain ⟨-, -, -, w4, w5, a6, a7, a8, a9, -, -, -, w13, a14⟩ := hW.2.2.1 g hg
    have h20 : μ 20 g = 0 := by rw [w4, z]; rfl
    have h21 : μ 21 g = -9 := w13 (Or.inl z)
    have hGG := ps_wf_gg hW hg (ps_N μ 24 g) (Nat.le_refl _)
    have gf : ∀ f, f ≠ 18 → ps_gg μ g (ps_N μ 24 g) f = μ f := fun f q => ps_gg_f q _
    have h1 : ps_Wf R G Nw (ps_up (ps_gg μ g (ps_N μ 24 g)) 24 g 0) ρ n := by
      refine ps_wf_tg hGG hg (Nat.le_refl n) (fun f hf => ps_up_f (by unfold ps_tdyn at hf; omega)) (fun i hi => ⟨ps_up_n (Or.inr hi), ps_up_nn (by decide), ps_up_nn (by decide), ps_up_nn (by decide)⟩) (fun i hi => ⟨ps_up_nn (by decide), ps_up_nn (by decide)⟩) 0 (ps_N μ 27 g) ?_ (by omega) ?_ (by omega) hn (fun i hi => absurd hi (Nat.not_lt_zero i)) (fun r w b1 b2 b3 => ?_)
      · rw [ps_up_s]; rfl
      · rw [ps_up_nn (by decide), gf 27 (by decide)]; exact a8
      · rw [ps_up_nn (by decide)]; exact ps_hzs hGG r w b1 b2 b3
    have e21 : ps_up (ps_up (ps_gg μ g (ps_N μ 24 g)) 24 g 0) 20 g 4 21 g = -9 := by
      rw [ps_up_nn (by decide), ps_up_nn (by decide), gf 21 (by decide)]; exact h21
    have e20 : ps_up (ps_gg μ g (ps_N μ 24 g)) 24 g 0 20 = μ 20 := by rw [ps_up_f (by decide), gf 20 (by decide)]
    show ps_Wf R G Nw (ps_go μ g) ρ n
    have eq : ps_go μ g = ps_sr (ps_up (ps_gg μ g (ps_N μ 24 g)) 24 g 0) g (nI 4) (-9) := by
      unfold ps_go ps_sr
      exact (ps_up_id e21).symm
    rw [eq]
    refine ps_wf_sr h1 hg (by decide) (by decide) (by rw [e20, h20]; decide) (fun q => by omega) (fun _ => rfl) (fun r b hr hb => ?_)
    obtain ⟨v20, v21⟩ := ps_sr_v (μ := ps_up (ps_gg μ g (ps_N μ 24 g)) 24 g 0) (g := g) (d := nI 4) (x := -9)
    obtain ⟨k1, k2⟩ := h1.2.2.2.1 r b hr hb
    unfold ps_WL
    rw [v20, v21]
    refine ⟨k1, fun i => ?_⟩
    by_cases zi : i = g
    · subst zi
      rw [ps_up_s, k2 i, e20, h20]
      refine ⟨fun q => ?_, fun q => ?_⟩
      · have := q.2.1
        rw [show (0 : Int32) = nI 0 from rfl, pn_eq (by omega) (by omega)] at this
        omega
      · have := q.2.1
        rw [pn_eq (by omega) (by omega)] at this
        omega
    · rw [ps_up_n (σ := ps_up (ps_gg μ g (ps_N μ 24 g)) 24 g 0) (f := 20) (i := g) (a := 20) (j := i) (Or.inr zi), ps_up_n (σ := ps_up (ps_gg μ g (ps_N μ 24 g)) 24 g 0) (f := 21) (i := g) (a := 21) (j := i) (Or.inr zi)]
      exact k2 i
  · exact ps_wf_ref hW (Nat.le_refl n)
theorem ps_wf_wait {g : Nat} (hW : ps_Wf R G Nw μ ρ n) : ps_Wf R G Nw (ps_wait μ ρ g).2 ρ n := by
  unfold ps_wait
  split
  · exact ps_wf_ref hW (Nat.le_refl n)
  split
  · exact hW
  · exact ps_wf_ref hW (Nat.le_refl n)
theorem ps_wf_ticks {x : Int32} (hW : ps_Wf R G Nw μ ρ n) (hn : n < 100000) : ps_Wf R G Nw (ps_ticks μ ρ R G x).2.1 (ps_ticks μ ρ R G x).2.2 n := by
  unfold ps_ticks
  split
  · rename_i q
    split
    · rename_i q2
      obtain ⟨N, e1, e2, e3⟩ := ps_tks_c hW q q2
      rw [e3]
      exact (ps_wf_tks hW hn N e2).1
    · exact ps_wf_ref hW (Nat.le_refl n)
  · exact ps_wf_ref hW (Nat.le_refl n)
end PWO
