/-! What holds is kept: a new group, a new ride. -/
section PWN2
variable {R G n : Nat} {Nw : Nat → Nat} {μ : ps_S} {ρ : ps_P}
theorem ps_wf_ng {m : Nat} (hW : ps_Wf R G Nw μ ρ n) (h1 : 1 ≤ m) (h8 : m ≤ 8) (hG : G < 60) : ps_Wf R (G + 1) Nw (ps_ng μ G (nI m)) ρ n := by
  obtain ⟨w0, w1, w2, w3, w4, w5, w6⟩ := hW
  have ef : ∀ f, f ≠ 7 → f ≠ 19 → f ≠ 21 → ps_ng μ G (nI m) f = μ f := fun f q1 q2 q3 => by unfold ps_ng; rw [ps_up_f q1, ps_up_f q3, ps_up_f q2]
  have e19 : ∀ i, ps_ng μ G (nI m) 19 i = if i = G then nI m else μ 19 i := fun i => by
    unfold ps_ng
    rw [ps_up_n (Or.inl (by decide)), ps_up_n (Or.inl (by decide)), ps_up_at]
    by_cases q : i = G
    · rw [if_pos ⟨rfl, q⟩, if_pos q]
    · rw [if_neg (fun z => q z.2), if_neg q]
  have e21 : ∀ i, ps_ng μ G (nI m) 21 i = if i = G then -9 else μ 21 i := fun i => by
    unfold ps_ng
    rw [ps_up_n (Or.inl (by decide)), ps_up_at]
    by_cases q : i = G
    · rw [if_pos ⟨rfl, q⟩, if_pos q]
    · rw [if_neg (fun z => q z.2), if_neg q, ps_up_n (Or.inl (by decide))]
  have e7 : ∀ i, i ≠ 14 → ps_ng μ G (nI m) 7 i = μ 7 i := fun i q => by unfold ps_ng; rw [ps_up_n (Or.inr q), ps_up_nn (by decide), ps_up_nn (by decide)]
  have e14 : ps_ng μ G (nI m) 7 14 = nI (G + 1) := by unfold ps_ng; rw [ps_up_s]
  have k8 := ef 8 (by decide) (by decide) (by decide)
  have k9 := ef 9 (by decide) (by decide) (by decide)
  have k10 := ef 10 (by decide) (by decide) (by decide)
  have k11 := ef 11 (by decide) (by decide) (by decide)
  have k12 := ef 12 (by decide) (by decide) (by decide)
  have k13 := ef 13 (by decide) (by decide) (by decide)
  have k14 := ef 14 (by decide) (by decide) (by decide)
  have k15 := ef 15 (by decide) (by decide) (by decide)
  have k16 := ef 16 (by decide) (by decide) (by decide)
  have k17 := ef 17 (by decide) (by decide) (by decide)
  have k18 := ef 18 (by decide) (by decide) (by decide)
  have k20 := ef 20 (by decide) (by decide) (by decide)
  have k23 := ef 23 (by decide) (by decide) (by decide)
  have k24 := ef 24 (by decide) (by decide) (by decide)
  have k25 := ef 25 (by decide) (by decide) (by decide)
  have k26 := ef 26 (by decide) (by decide) (by decide)
  have k27 := ef 27 (by decide) (by decide) (by decide)
  have k28 := ef 28 (by decide) (by decide) (by decide)
  have k29 := ef 29 (by decide) (by decide) (by decide)
  have k30 := ef 30 (by decide) (by decide) (by decide)
  have k32 := ef 32 (by decide) (by decide) (by decide)
  have kw : ∀ r, ps_wd (ps_ng μ G (nI m)) r = ps_wd μ r := ps_wd_same k9 k12
  obtain ⟨z1, z2, z3⟩ := w6
  obtain ⟨g20, g23, g24, g27, g28, g29, g30⟩ := z3 G (Nat.le_refl G) hG
  refine ⟨?_, fun r hr => ?_, fun g hg => ?_, fun r b hr hb => ?_, fun r hr => ?_, ?_, ?_⟩
  · unfold ps_W0 ps_N at w0 ⊢
    rw [e7 0 (by decide), e7 1 (by decide), e7 2 (by decide), e14]
    exact ⟨w0.1, by omega, w0.2.2.1, w0.2.2.2.1, w0.2.2.2.2.1, w0.2.2.2.2.2.1, rfl⟩
  · rw [kw]
    have := w1 r hr
    unfold ps_WR ps_N at this ⊢
    rw [k8, k9, k10, k11, k12, k13]
    exact this
  · by_cases q : g = G
    · subst q
      unfold ps_WG ps_N
      rw [e19, e21, k20, k23, k24, k27, e7 0 (by decide), if_pos rfl, if_pos rfl, g20, g23, g24, g27, nI_clamp (by omega)]
      refine ⟨rfl, h1, h8, rfl, by decide, rfl, by decide, rfl, Nat.zero_le n, rfl, Nat.zero_le _, fun q => absurd q (by decide), fun _ => rfl, fun i hi => absurd hi (Nat.not_lt_zero i)⟩
    · have a := w2 g (by omega)
      unfold ps_WG ps_WT at a ⊢
      simp only [kw]
      unfold ps_N at a ⊢
      rw [e19, e21, k20, k23, k24, k25, k26, k27, e7 0 (by decide), if_neg q, if_neg q]
      exact a
  · obtain ⟨l1, l2⟩ := w3 r b hr hb
    unfold ps_WL
    rw [k20]
    refine ⟨l1, fun g => ?_⟩
    rw [l2 g, e21]
    by_cases q : g = G
    · subst q
      rw [if_pos rfl, g20]
      refine ⟨fun z => absurd z.1 (Nat.lt_irrefl g), fun z => ?_⟩
      have := z.2.1
      rw [show (0 : Int32) = nI 0 from rfl, pn_eq (by omega) (by omega)] at this
      omega
    · rw [if_neg q]
      exact ⟨fun z => ⟨by omega, z.2⟩, fun z => ⟨by omega, z.2⟩⟩
  · rw [k32, w4 r hr, ps_sumOn_s]
    have o : ps_onc (ps_ng μ G (nI m)) r G = 0 := by
      unfold ps_onc
      rw [k20, g20, if_neg (fun z => absurd z.1 (by decide))]
    rw [o, Int32.add_zero]
    refine (ps_sumOn_same G (fun i hi => ?_)).symm
    unfold ps_onc
    rw [e19, e21, k20, if_neg (show ¬ i = G by omega), if_neg (show ¬ i = G by omega)]
  · unfold ps_WK ps_N at w5 ⊢
    rw [k17]; exact w5
  · refine ⟨fun r w h1 h2 h3 => ?_, fun r h1 h2 => ?_, fun g h1 h2 => ?_⟩
    · rw [kw] at h3
      rw [k18]
      exact z1 r w h1 h2 h3
    · rw [k13, k14, k15, k16, k32]; exact z2 r h1 h2
    · rw [k20, k23, k24, k27, k28, k29, k30]; exact z3 g (by omega) h2
theorem ps_wf_nr {s ro p sp kd : Int32} (hW : ps_Wf R G Nw μ ρ n) (nl : ¬ ps_rbl s ro p sp kd) (na : ¬ ps_rab s ro p sp kd R) : ps_Wf (R + 1) G (ps_ua Nw R (5000 / ps_wd (ps_nr μ R s ro p sp kd) R + 41)) (ps_nr μ R s ro p sp kd) (ps_nrow ρ R) n := by
  obtain ⟨w0, w1, w2, w3, w4, w5, w6⟩ := hW
  have hR : R < 8 := by
    have : R ≠ 8 := fun z => na (Or.inr (Or.inr (Or.inr (Or.inr (Or.inr z)))))
    have := w0.1
    omega
  have nneg : ∀ x : Int32, ¬ x < 1 → ¬ x < 0 := fun x hx z => hx (by rw [fa_lt'] at z ⊢; rw [show (0 : Int32).toInt = 0 from rfl] at z; rw [show (1 : Int32).toInt = 1 from rfl]; omega)
  obtain ⟨sn, hs, rfl⟩ := nI_of (nneg s (fun z => nl (Or.inl z)))
  obtain ⟨rn, hrn, rfl⟩ := nI_of (nneg ro (fun z => nl (Or.inr (Or.inl z))))
  obtain ⟨pn, hp, rfl⟩ := nI_of (fun z => nl (Or.inr (Or.inr (Or.inl z))))
  obtain ⟨qn, hq, rfl⟩ := nI_of (fun z => nl (Or.inr (Or.inr (Or.inr (Or.inl z)))))
  obtain ⟨kn, hkn, rfl⟩ := nI_of (fun z => nl (Or.inr (Or.inr (Or.inr (Or.inr z)))))
  have b1 : 1 ≤ sn := by have : ¬ nI sn < nI 1 := fun z => nl (Or.inl z); rw [pn_lt hs (by decide)] at this; omega
  have b2 : 1 ≤ rn := by have : ¬ nI rn < nI 1 := fun z => nl (Or.inr (Or.inl z)); rw [pn_lt hrn (by decide)] at this; omega
  have b3 : sn ≤ 40 := by have : ¬ nI 40 < nI sn := fun z => na (Or.inl z); rw [pn_lt (by decide) hs] at this; omega
  have b4 : rn ≤ 20 := by have : ¬ nI 20 < nI rn := fun z => na (Or.inr (Or.inl z)); rw [pn_lt (by decide) hrn] at this; omega
  have b5 : pn ≤ sn := by have : ¬ nI sn < nI pn := fun z => na (Or.inr (Or.inr (Or.inl z))); rw [pn_lt hs hp] at this; omega
  have b6 : qn ≤ 99 := by have : ¬ nI 99 < nI qn := fun z => na (Or.inr (Or.inr (Or.inr (Or.inl z)))); rw [pn_lt (by decide) hq] at this; omega
  have b7 : kn ≤ 3 := by have : ¬ nI 3 < nI kn := fun z => na (Or.inr (Or.inr (Or.inr (Or.inr (Or.inl z))))); rw [pn_lt (by decide) hkn] at this; omega
  have ef : ∀ f, f ≠ 7 → f ≠ 8 → f ≠ 9 → f ≠ 10 → f ≠ 11 → f ≠ 12 → ps_nr μ R (nI sn) (nI rn) (nI pn) (nI qn) (nI kn) f = μ f := fun f a b c d e g => ps_nr_f a b c d e g
  have nv := fun i => ps_nr_v (μ := μ) (R := R) (s := nI sn) (ro := nI rn) (p := nI pn) (sp := nI qn) (kd := nI kn) i
  have nt := fun i => ps_nr_wd (μ := μ) (R := R) (s := nI sn) (ro := nI rn) (p := nI pn) (sp := nI qn) (kd := nI kn) i
  have kw : ∀ r, r ≠ R → ps_wd (ps_nr μ R (nI sn) (nI rn) (nI pn) (nI qn) (nI kn)) r = ps_wd μ r := fun r q => by unfold ps_wd; rw [nt, if_neg q]
  have k13 := ef 13 (by decide) (by decide) (by decide) (by decide) (by decide) (by decide)
  have k14 := ef 14 (by decide) (by decide) (by decide) (by decide) (by decide) (by decide)
  have k15 := ef 15 (by decide) (by decide) (by decide) (by decide) (by decide) (by decide)
  have k16 := ef 16 (by decide) (by decide) (by decide) (by decide) (by decide) (by decide)
  have k17 := ef 17 (by decide) (by decide) (by decide) (by decide) (by decide) (by decide)
  have k18 := ef 18 (by decide) (by decide) (by decide) (by decide) (by decide) (by decide)
  have k19 := ef 19 (by decide) (by decide) (by decide) (by decide) (by decide) (by decide)
  have k20 := ef 20 (by decide) (by decide) (by decide) (by decide) (by decide) (by decide)
  have k21 := ef 21 (by decide) (by decide) (by decide) (by decide) (by decide) (by decide)
  have k23 := ef 23 (by decide) (by decide) (by decide) (by decide) (by decide) (by decide)
  have k24 := ef 24 (by decide) (by decide) (by decide) (by decide) (by decide) (by decide)
  have k25 := ef 25 (by decide) (by decide) (by decide) (by decide) (by decide) (by decide)
  have k26 := ef 26 (by decide) (by decide) (by decide) (by decide) (by decide) (by decide)
  have k27 := ef 27 (by decide) (by decide) (by decide) (by decide) (by decide) (by decide)
  have k28 := ef 28 (by decide) (by decide) (by decide) (by decide) (by decide) (by decide)
  have k29 := ef 29 (by decide) (by decide) (by decide) (by decide) (by decide) (by decide)
  have k30 := ef 30 (by decide) (by decide) (by decide) (by decide) (by decide) (by decide)
  have k32 := ef 32 (by decide) (by decide) (by decide) (by decide) (by decide) (by decide)
  obtain ⟨z1, z2, z3⟩ := w6
  obtain ⟨g13, g14, g15, g16, g32⟩ := z2 R (Nat.le_refl R) hR
  -- nobody is at the new ride
  have nob : ∀ g, g < G → 1 ≤ ps_N μ 20 g → ps_N μ 20 g ≤ 3 → μ 21 g ≠ nI R := fun g hg q1 q2 q => by
    obtain ⟨u1, u2⟩ := (w2 g hg).2.2.2.2.2.2.2.2.2.2.2.1 q1 q2
    rw [u1, pn_eq (by omega) (by omega)] at q
    omega
  refine ⟨?_, fun r hr => ?_, fun g hg => ?_, fun r b hr hb => ?_, fun r hr => ?_, ?_, ?_⟩
  · unfold ps_W0 ps_N at w0 ⊢
    rw [(nv 0).2.2.2.2.2, (nv 1).2.2.2.2.2, (nv 2).2.2.2.2.2, (nv 14).2.2.2.2.2, if_neg (by decide), if_neg (by decide), if_pos rfl, if_neg (by decide)]
    exact ⟨by omega, w0.2.1, w0.2.2.1, w0.2.2.2.1, w0.2.2.2.2.1, rfl, w0.2.2.2.2.2.2⟩
  · by_cases q : r = R
    · subst q
      rw [ps_ua_s]
      refine ⟨?_, rfl⟩
      unfold ps_WR ps_N
      rw [(nv r).1, (nv r).2.1, (nv r).2.2.1, (nv r).2.2.2.1, (nv r).2.2.2.2.1, if_pos rfl, if_pos rfl, if_pos rfl, if_pos rfl, if_pos rfl, k13, g13, nI_clamp hs, nI_clamp hrn, nI_clamp hp, nI_clamp hq, nI_clamp hkn]
      exact ⟨rfl, b1, b3, rfl, b2, b4, rfl, b5, rfl, b6, rfl, b7, Or.inl rfl⟩
    · rw [ps_ua_n q, kw r q]
      have := w1 r (by omega)
      unfold ps_WR ps_N at this ⊢
      rw [(nv r).1, (nv r).2.1, (nv r).2.2.1, (nv r).2.2.2.1, (nv r).2.2.2.2.1, if_neg q, if_neg q, if_neg q, if_neg q, if_neg q, k13]
      exact this
  · obtain ⟨a1, a2, a3, a4, a5, a6, a7, a8, a9, a10, a11, a12, a13, a14⟩ := w2 g hg
    have n7 : ps_N (ps_nr μ R (nI sn) (nI rn) (nI pn) (nI qn) (nI kn)) 7 0 = ps_N μ 7 0 := by unfold ps_N; rw [(nv 0).2.2.2.2.2, if_neg (by decide)]
    have nn : ∀ f i, (ps_nr μ R (nI sn) (nI rn) (nI pn) (nI qn) (nI kn)) f = μ f → ps_N (ps_nr μ R (nI sn) (nI rn) (nI pn) (nI qn) (nI kn)) f i = ps_N μ f i := fun f i e => by unfold ps_N; rw [e]
    unfold ps_WG
    rw [n7, nn 19 g k19, nn 20 g k20, nn 21 g k21, nn 23 g k23, nn 24 g k24, nn 27 g k27, k19, k20, k21, k23, k24, k27]
    refine ⟨a1, a2, a3, a4, a5, a6, a7, a8, a9, a10, a11, fun q1 q2 => ⟨(a12 q1 q2).1, by have := (a12 q1 q2).2; omega⟩, a13, fun i hi => ?_⟩
    obtain ⟨t1, t2, t3, t4⟩ := a14 i hi
    unfold ps_WT
    rw [nn 25 (2 * g + i) k25, nn 26 (2 * g + i) k26, k25, k26, kw _ (by omega)]
    exact ⟨t1, by omega, t3, t4⟩
  · unfold ps_WL
    rw [k20, k21]
    by_cases q : r = R
    · subst q
      have e0 : ps_nrow ρ r (2 * r + b) = [] := by
        unfold ps_nrow
        rcases (show b = 0 ∨ b = 1 by omega) with rfl | rfl
        · rw [ps_ur_n (by omega)]; exact ps_ur_s _ _ _
        · rw [ps_ur_s]
      rw [e0]
      refine ⟨List.nodup_nil, fun g => ⟨fun z => (by cases z), fun z => ?_⟩⟩
      exfalso
      have u := (w2 g z.1).2.2.2.1
      have z2' := z.2.1
      rw [u, pn_eq (by have := (w2 g z.1).2.2.2.2.1; omega) (by omega)] at z2'
      exact nob g z.1 (by omega) (by omega) z.2.2
    · have e0 : ps_nrow ρ R (2 * r + b) = ρ (2 * r + b) := by
        unfold ps_nrow
        rw [ps_ur_n (by omega), ps_ur_n (by omega)]
      rw [e0]
      exact w3 r b (by omega) hb
  · rw [k32]
    rw [ps_sumOn_same G (μ := μ) (fun i _ => by unfold ps_onc; rw [k19, k20, k21])]
    by_cases q : r = R
    · subst q
      rw [g32]
      have : ∀ k, k ≤ G → ps_sumOn μ r k = 0 := by
        intro k
        induction k with
        | zero => intro _; rfl
        | succ k ih =>
          intro hk
          rw [ps_sumOn_s, ih (by omega)]
          unfold ps_onc
          rw [if_neg]
          · rfl
          · intro z
            have u := (w2 k (by omega)).2.2.2.1
            have z2' := z.1
            rw [u, show (3 : Int32) = nI 3 from rfl, pn_eq (by have := (w2 k (by omega)).2.2.2.2.1; omega) (by omega)] at z2'
            exact nob k (by omega) (by omega) (by omega) z.2
      exact (this G (Nat.le_refl G)).symm
    · exact w4 r (by omega)
  · unfold ps_WK ps_N at w5 ⊢
    rw [k17]; exact w5
  · refine ⟨fun r w h1 h2 h3 => ?_, fun r h1 h2 => ?_, fun g h1 h2 => ?_⟩
    · rw [k18]
      by_cases q : r = R
      · exact z1 r w h1 h2 (Or.inl (by omega))
      · rw [kw r q] at h3
        exact z1 r w h1 h2 (by omega)
    · rw [k13, k14, k15, k16, k32]; exact z2 r (by omega) h2
    · rw [k20, k23, k24, k27, k28, k29, k30]; exact z3 g h1 h2
end PWN2
