section PRJ
variable {h : pw_Hp} {R G : Nat} {aR aG Nw : Nat → Nat} {σ μ : ps_S} {ρ : ps_P} {n : Nat}
set_option maxHeartbeats 4000000 in
set_option maxRecDepth 100000 in
theorem c_P_ride {s ro p sp kd : Int32} {k : Int32 → pw_Hp → Prop} (hC : ps_CS h R G aR aG Nw) (hV : ps_Rv R G aR aG Nw σ μ ρ) (hW : ps_Wf R G Nw μ ρ n) (nl : ¬ ps_rbl s ro p sp kd) (na : ¬ ps_rab s ro p sp kd R) (hh : 30 ≤ h.1) (hk : ∀ H', H'.1 = h.1 + 6 → ps_CS H' (R + 1) G (ps_ua aR R (h.1 + 2)) aG (ps_ua Nw R (5000 / ps_wd (ps_nr μ R s ro p sp kd) R + 41)) → ps_Rv (R + 1) G (ps_ua aR R (h.1 + 2)) aG (ps_ua Nw R (5000 / ps_wd (ps_nr μ R s ro p sp kd) R + 41)) (pw_i H') (ps_nr μ R s ro p sp kd) (ps_nrow ρ R) → ps_Kp (pw_st h σ) H' → k (nI R) H') : pw_Ci 94 [.inr 2, .inl s, .inl ro, .inl p, .inl sp, .inl kd] (pw_st h σ) k := by
  have hC' := hC
  obtain ⟨hT, c2, c3, c4, c5, c6, c7, c8⟩ := hC
  obtain ⟨v0, vr, vg⟩ := hV
  have v := v0.1
  have hT' := hT
  unfold ps_TS at hT
  have hR : R < 8 := by
    have : R ≠ 8 := fun z => na (Or.inr (Or.inr (Or.inr (Or.inr (Or.inr z)))))
    omega
  have hro0 : ¬ ro < 0 := fun z => nl (Or.inr (Or.inl (by rw [fa_lt'] at z ⊢; rw [show (0 : Int32).toInt = 0 from rfl] at z; rw [show (1 : Int32).toInt = 1 from rfl]; omega)))
  obtain ⟨rn, hrn, rfl⟩ := nI_of hro0
  have hr1 : 1 ≤ rn := by
    have : ¬ nI rn < 1 := fun z => nl (Or.inr (Or.inl z))
    rw [show (1 : Int32) = nI 1 from rfl, pn_lt hrn (by decide)] at this
    omega
  have hr2 : rn ≤ 20 := by
    have : ¬ 20 < nI rn := fun z => na (Or.inr (Or.inl z))
    rw [show (20 : Int32) = nI 20 from rfl, pn_lt (by decide) hrn] at this
    omega
  have k1 : pw_k (pw_nw (pw_st h σ) 11 16) (h.1 + 2) = 11 := by rw [pa_nk]; exact if_pos rfl
  refine pw_intro (M := pm_P_ride) rfl (by decide) (Nat.le_of_ble_eq_true rfl) (ls := [some (.inr 2), some (.inl s), some (.inl (nI rn)), some (.inl p), some (.inl sp), some (.inl kd), none, none]) rfl ?_
  refine pw_sound pw_tok pk_P_ride 400 _ _ _ _ _ _ ?_
  simp only [pv_all, pv_stp, pe_P_ride, pv_st, Nat.reduceAdd, eq_self, true_and, and_true, true_or, or_true, hT, v, k1]
  refine ⟨fun q => absurd (Or.inl q) nl, fun _ => ⟨fun q => absurd (Or.inr (Or.inl q)) nl, fun _ => ⟨fun q => absurd (Or.inr (Or.inr (Or.inl q))) nl, fun _ => ⟨fun q => absurd (Or.inr (Or.inr (Or.inr (Or.inl q)))) nl, fun _ => ⟨fun _ => ?_, fun q => absurd (Or.inr (Or.inr (Or.inr (Or.inr (by rw [fa_lt']; rw [fa_le'] at q; omega))))) nl⟩⟩⟩⟩⟩
  refine ⟨fun q => absurd (Or.inl q) na, fun _ => ⟨fun q => absurd (Or.inr (Or.inl q)) na, fun _ => ⟨fun q => absurd (Or.inr (Or.inr (Or.inl q))) na, fun _ => ⟨fun q => absurd (Or.inr (Or.inr (Or.inr (Or.inl q)))) na, fun _ => ⟨fun _ => ?_, fun q => absurd (Or.inr (Or.inr (Or.inr (Or.inr (Or.inl (by rw [fa_lt']; rw [fa_le'] at q; omega)))))) na⟩⟩⟩⟩⟩
  refine ⟨fun q => absurd q (nI_pos (by omega)), fun _ => ⟨fun _ => ⟨by decide, by decide, by decide, by decide, ?_⟩, fun q => absurd (by rw [pn_lt (by omega) (by omega)]; exact hR) q⟩⟩
  refine c_D_init (H := pw_nw (pw_st h σ) 11 16) rfl (by omega) (fun j => by simp only [pa_all, pv_st, ite_true]) k1 hr1 hr2 (fun H1 t e1 e2 et e3 ds w1 w3 z1 z3 z5 => ?_)
  have e1' : H1.1 = h.1 + 6 := e1
  have hwd : ps_wd (ps_nr μ R s (nI rn) p sp kd) R = 5 * t := by
    unfold ps_wd
    rw [ps_nr_wd, if_pos rfl, et, nI_clamp hrn]
  have htt : ps_turn (ps_nr μ R s (nI rn) p sp kd) R = t := by
    rw [ps_nr_wd, if_pos rfl, et, nI_clamp hrn]
  have ht1 : 1 ≤ t := by rw [et]; split <;> omega
  have ht2 : 5000 / (5 * t) ≤ 1000 := by
    have : 5000 / (5 * t) ≤ 5000 / 5 := Nat.div_le_div_left (by omega) (by decide)
    omega
  have fr : ∀ i, i < h.1 + 2 → pw_k H1 i = pw_k h i ∧ pw_n H1 i = pw_n h i ∧ (∀ j, pw_i H1 i j = σ i j) ∧ ∀ j, pw_r H1 i j = pw_r h i j := fun i hi => by
    obtain ⟨f1, f2, f3, f4⟩ := e2 i (by omega)
    simp (disch := omega) only [pa_all, pa_nk, pa_nn, pv_st, if_neg] at f1 f2 f3 f4
    exact ⟨f1, f2, f3, f4⟩
  obtain ⟨t1, t2, t3, t4, t5, t6, t7, t8, t9, t10, t11, t12, t13⟩ := hT
  obtain ⟨zg, zr, -⟩ := hW.2.2.2.2.2.2
  have z := zr R (Nat.le_refl R) hR
  have dk := ds.1
  refine ⟨dk, by simp only [pa_all]; exact dk, by simp only [pa_all]; rw [(fr 2 (by omega)).1]; exact t1, ?_⟩
  have r20 : pw_r H1 2 0 = 3 := by rw [(fr 2 (by omega)).2.2.2]; exact t2
  have i24 : pw_i H1 2 4 = nI R := by rw [(fr 2 (by omega)).2.2.1]; exact v
  have k2 : pw_k H1 2 = 13 := by rw [(fr 2 (by omega)).1]; exact t1
  have k3 : pw_k H1 3 = 3 := by rw [(fr 3 (by omega)).1]; exact t6
  have n3 : pw_n H1 3 = 8 := by rw [(fr 3 (by omega)).2.1]; exact t7
  have a2 : ¬ (2 = h.1 + 2) := by omega
  simp only [pa_all, r20, k2, k3, n3, i24, dk, true_and, and_true, true_or, or_true, eq_self, a2, false_and, ite_false, if_false]
  rw [show (1 : Int32) = nI 1 from rfl, pn_at (by omega), pn_cl (by omega), pn_add]
  refine ⟨hR, ?_⟩
  have mk : ∀ i, pw_k (pw_wi (pw_wr (pw_wi (pw_wi H1 (h.1 + 2) 9 p) (h.1 + 2) 10 sp) 3 R (h.1 + 2)) 2 4 (nI (R + 1))) i = pw_k H1 i := fun _ => rfl
  have mn : ∀ i, pw_n (pw_wi (pw_wr (pw_wi (pw_wi H1 (h.1 + 2) 9 p) (h.1 + 2) 10 sp) 3 R (h.1 + 2)) 2 4 (nI (R + 1))) i = pw_n H1 i := fun _ => rfl
  have mi : ∀ i j, (i ≠ 2 ∨ j ≠ 4) → (i ≠ h.1 + 2 ∨ (j ≠ 9 ∧ j ≠ 10)) → pw_i (pw_wi (pw_wr (pw_wi (pw_wi H1 (h.1 + 2) 9 p) (h.1 + 2) 10 sp) 3 R (h.1 + 2)) 2 4 (nI (R + 1))) i j = pw_i H1 i j := fun i j hij hij2 => by simp (disch := omega) only [pa_all, if_neg]
  have mi2 : pw_i (pw_wi (pw_wr (pw_wi (pw_wi H1 (h.1 + 2) 9 p) (h.1 + 2) 10 sp) 3 R (h.1 + 2)) 2 4 (nI (R + 1))) 2 4 = nI (R + 1) := by simp only [pa_all, and_self, ite_true]
  have mi9 : pw_i (pw_wi (pw_wr (pw_wi (pw_wi H1 (h.1 + 2) 9 p) (h.1 + 2) 10 sp) 3 R (h.1 + 2)) 2 4 (nI (R + 1))) (h.1 + 2) 9 = p := by simp (disch := omega) only [pa_all, if_neg, and_self, ite_true]
  have mi10 : pw_i (pw_wi (pw_wr (pw_wi (pw_wi H1 (h.1 + 2) 9 p) (h.1 + 2) 10 sp) 3 R (h.1 + 2)) 2 4 (nI (R + 1))) (h.1 + 2) 10 = sp := by simp (disch := omega) only [pa_all, if_neg, and_self, ite_true]
  have mr : ∀ i j, (i ≠ 3 ∨ j ≠ R) → pw_r (pw_wi (pw_wr (pw_wi (pw_wi H1 (h.1 + 2) 9 p) (h.1 + 2) 10 sp) 3 R (h.1 + 2)) 2 4 (nI (R + 1))) i j = pw_r H1 i j := fun i j hij => by simp (disch := omega) only [pa_all, if_neg]
  have mr3 : pw_r (pw_wi (pw_wr (pw_wi (pw_wi H1 (h.1 + 2) 9 p) (h.1 + 2) 10 sp) 3 R (h.1 + 2)) 2 4 (nI (R + 1))) 3 R = h.1 + 2 := by simp only [pa_all, and_self, ite_true]
  have m1 : (pw_wi (pw_wr (pw_wi (pw_wi H1 (h.1 + 2) 9 p) (h.1 + 2) 10 sp) 3 R (h.1 + 2)) 2 4 (nI (R + 1))).1 = h.1 + 6 := e1'
  generalize pw_wi (pw_wr (pw_wi (pw_wi H1 (h.1 + 2) 9 p) (h.1 + 2) 10 sp) 3 R (h.1 + 2)) 2 4 (nI (R + 1)) = H2 at mk mn mi mi2 mi9 mi10 mr mr3 m1 ⊢
  have oi : ∀ i, 3 ≤ i → i < h.1 + 2 → pw_i H2 i = σ i := fun i h1 h2 => funext fun j => (mi i j (Or.inl (by omega)) (Or.inl (by omega))).trans ((fr i h2).2.2.1 j)
  have oj : ∀ i, h.1 + 2 < i → pw_i H2 i = pw_i H1 i := fun i h1 => funext fun j => mi i j (Or.inl (by omega)) (Or.inl (by omega))
  have ef : ∀ f, f ≠ 7 → f ≠ 8 → f ≠ 9 → f ≠ 10 → f ≠ 11 → f ≠ 12 → ps_nr μ R s (nI rn) p sp kd f = μ f := fun f a b c d e g => ps_nr_f a b c d e g
  have nv := fun i => ps_nr_v (μ := μ) (R := R) (s := s) (ro := nI rn) (p := p) (sp := sp) (kd := kd) i
  have nt := fun i => ps_nr_wd (μ := μ) (R := R) (s := s) (ro := nI rn) (p := p) (sp := sp) (kd := kd) i
  refine hk H2 m1 ⟨⟨?_, ?_, ?_, ?_, ?_, ?_, ?_, ?_, ?_, ?_, ?_, ?_, ?_⟩, by omega, c3, fun r hr => ?_, fun g hg => ?_, fun r i hr hi hri => ?_, c7, fun r g hr hg => ?_⟩ ⟨⟨mi2, ?_, ?_, ?_, ?_, ?_, fun i hi => ?_, fun i hi => ?_⟩, fun r hr => ?_, fun g hg => ?_⟩ ⟨by show h.1 ≤ _; omega, fun f h1 h2 => ⟨?_, ?_, fun j => ?_, fun j => ?_⟩⟩
  · rw [mk, (fr 2 (by omega)).1]; exact t1
  · rw [mr 2 0 (Or.inl (by decide)), (fr 2 (by omega)).2.2.2]; exact t2
  · rw [mr 2 1 (Or.inl (by decide)), (fr 2 (by omega)).2.2.2]; exact t3
  · rw [mr 2 2 (Or.inl (by decide)), (fr 2 (by omega)).2.2.2]; exact t4
  · rw [mr 2 3 (Or.inl (by decide)), (fr 2 (by omega)).2.2.2]; exact t5
  · rw [mk, (fr 3 (by omega)).1]; exact t6
  · rw [mn, (fr 3 (by omega)).2.1]; exact t7
  · rw [mk, (fr 4 (by omega)).1]; exact t8
  · rw [mn, (fr 4 (by omega)).2.1]; exact t9
  · rw [mk, (fr 5 (by omega)).1]; exact t10
  · rw [mn, (fr 5 (by omega)).2.1]; exact t11
  · rw [mk, (fr 6 (by omega)).1]; exact t12
  · rw [mn, (fr 6 (by omega)).2.1]; exact t13
  · by_cases q : r = R
    · subst q
      rw [ps_ua_s, ps_ua_s, hwd]
      refine ⟨mr3, ?_, ?_, ?_, by omega, by omega, by omega⟩
      · unfold ps_DS at ds ⊢
        rw [mk, mk, mn, mr _ _ (Or.inl (by omega)), mr _ _ (Or.inl (by omega)), mr _ _ (Or.inl (by omega))]
        exact ds
      · unfold ps_WS at w1 ⊢
        rw [mk, mk, mn, mr _ _ (Or.inl (by omega))]
        exact w1
      · unfold ps_WS at w3 ⊢
        rw [mk, mk, mn, mr _ _ (Or.inl (by omega))]
        exact w3
    · rw [ps_ua_n q, ps_ua_n q]
      obtain ⟨d1, d2, d3, d4, d5, d6, d7⟩ := c4 r (by omega)
      refine ⟨?_, ?_, ?_, ?_, d5, d6, by omega⟩
      · rw [mr 3 r (Or.inr q), (fr 3 (by omega)).2.2.2]; exact d1
      · unfold ps_DS at d2 ⊢
        rw [mk, mk, mn, mr _ _ (Or.inl (by omega)), mr _ _ (Or.inl (by omega)), mr _ _ (Or.inl (by omega)), (fr (aR r) (by omega)).1, (fr (aR r) (by omega)).2.2.2, (fr (aR r) (by omega)).2.2.2, (fr (aR r) (by omega)).2.2.2, (fr (aR r + 5) (by omega)).1, (fr (aR r + 5) (by omega)).2.1]
        exact d2
      · unfold ps_WS at d3 ⊢
        rw [mk, mk, mn, mr _ _ (Or.inl (by omega)), (fr (aR r + 1) (by omega)).1, (fr (aR r + 1) (by omega)).2.2.2, (fr (aR r + 1 + 1) (by omega)).1, (fr (aR r + 1 + 1) (by omega)).2.1]
        exact d3
      · unfold ps_WS at d4 ⊢
        rw [mk, mk, mn, mr _ _ (Or.inl (by omega)), (fr (aR r + 3) (by omega)).1, (fr (aR r + 3) (by omega)).2.2.2, (fr (aR r + 3 + 1) (by omega)).1, (fr (aR r + 3 + 1) (by omega)).2.1]
        exact d4
  · obtain ⟨d1, d2, d3, d4⟩ := c5 g hg
    refine ⟨?_, ?_, d3, by omega⟩
    · rw [mr 4 g (Or.inl (by decide)), (fr 4 (by omega)).2.2.2]; exact d1
    · unfold ps_GS at d2 ⊢
      rw [mk, mk, mk, mn, mn, mr _ _ (Or.inl (by omega)), mr _ _ (Or.inl (by omega)), (fr (aG g) (by omega)).1, (fr (aG g) (by omega)).2.2.2, (fr (aG g) (by omega)).2.2.2, (fr (aG g + 1) (by omega)).1, (fr (aG g + 1) (by omega)).2.1, (fr (aG g + 2) (by omega)).1, (fr (aG g + 2) (by omega)).2.1]
      exact d2
  · by_cases q : r = R
    · have q2 : i ≠ R := by omega
      rw [q, ps_ua_s, ps_ua_n q2]
      have := (c4 i (by omega)).2.2.2.2.2
      omega
    · by_cases q2 : i = R
      · rw [q2, ps_ua_s, ps_ua_n q]
        have := (c4 r (by omega)).2.2.2.2.2
        omega
      · rw [ps_ua_n q, ps_ua_n q2]
        exact c6 r i (by omega) (by omega) hri
  · by_cases q : r = R
    · rw [q, ps_ua_s]
      have := (c5 g hg).2.2
      omega
    · rw [ps_ua_n q]
      exact c8 r g (by omega) hg
  · rw [mi 2 5 (Or.inr (by decide)) (Or.inl (by omega)), (fr 2 (by omega)).2.2.1]; exact v0.2.1
  · rw [(nv 2).2.2.2.2.2, if_pos rfl]
  · rw [(nv 14).2.2.2.2.2, if_neg (by decide)]; exact v0.2.2.2.1
  · rw [mi 2 6 (Or.inr (by decide)) (Or.inl (by omega)), (fr 2 (by omega)).2.2.1, (nv 0).2.2.2.2.2, if_neg (by decide)]; exact v0.2.2.2.2.1
  · rw [mi 2 7 (Or.inr (by decide)) (Or.inl (by omega)), (fr 2 (by omega)).2.2.1, (nv 1).2.2.2.2.2, if_neg (by decide)]; exact v0.2.2.2.2.2.1
  · rw [oi 5 (by omega) (by omega), ef 17 (by decide) (by decide) (by decide) (by decide) (by decide) (by decide)]; exact v0.2.2.2.2.2.2.1 i hi
  · rw [oi 6 (by omega) (by omega), ef 31 (by decide) (by decide) (by decide) (by decide) (by decide) (by decide)]; exact v0.2.2.2.2.2.2.2 i hi
  · by_cases q : r = R
    · subst q
      rw [ps_ua_s, ps_ua_s, hwd]
      refine ⟨?_, ?_, ?_, fun w hw => ?_⟩
      · unfold ps_Dv
        rw [hwd, htt, (nv r).1, (nv r).2.1, (nv r).2.2.1, (nv r).2.2.2.1, (nv r).2.2.2.2.1, if_pos rfl, if_pos rfl, if_pos rfl, if_pos rfl, if_pos rfl]
        rw [ef 13 (by decide) (by decide) (by decide) (by decide) (by decide) (by decide), ef 14 (by decide) (by decide) (by decide) (by decide) (by decide) (by decide), ef 15 (by decide) (by decide) (by decide) (by decide) (by decide) (by decide), ef 16 (by decide) (by decide) (by decide) (by decide) (by decide) (by decide), ef 32 (by decide) (by decide) (by decide) (by decide) (by decide) (by decide)]
        obtain ⟨i0, i1, i2, i3, i4, i5, iz⟩ := e3
        obtain ⟨z13, z14, z15, z16, z32⟩ := z
        rw [z13, z14, z15, z16, z32]
        have mm : ∀ j, j ≠ 9 → j ≠ 10 → pw_i H2 (h.1 + 2) j = pw_i H1 (h.1 + 2) j := fun j j9 j10 => mi _ j (Or.inl (by omega)) (Or.inr ⟨j9, j10⟩)
        refine ⟨?_, ?_, ?_, ?_, ?_, ?_, mi9, mi10, ?_, ?_, ?_, ?_, ?_⟩
        · rw [mm 0 (by decide) (by decide)]; exact i0
        · rw [mm 1 (by decide) (by decide)]; exact i1
        · rw [mm 2 (by decide) (by decide)]; exact i2
        · rw [mm 3 (by decide) (by decide)]; exact i3
        · rw [mm 4 (by decide) (by decide)]; exact i4
        · rw [mm 5 (by decide) (by decide)]; exact i5
        · rw [mm 11 (by decide) (by decide)]; exact iz 11 (by decide)
        · rw [mm 12 (by decide) (by decide)]; exact iz 12 (by decide)
        · rw [mm 13 (by decide) (by decide)]; exact iz 13 (by decide)
        · rw [mm 14 (by decide) (by decide)]; exact iz 14 (by decide)
        · rw [mm 15 (by decide) (by decide)]; exact iz 15 (by decide)
      · unfold ps_nrow ps_Rw
        rw [ps_ur_n (by omega), ps_ur_s, oj _ (by omega)]
        exact ⟨z1, by decide, fun i x hix => by cases hix⟩
      · unfold ps_nrow ps_Rw
        rw [ps_ur_s, oj _ (by omega)]
        exact ⟨z3, by decide, fun i x hix => by cases hix⟩
      · rw [oj _ (by omega), ef 18 (by decide) (by decide) (by decide) (by decide) (by decide) (by decide), z5, zg r w hR (by omega) (Or.inl (Nat.le_refl r))]
    · rw [ps_ua_n q, ps_ua_n q]
      obtain ⟨d1, d2, d3, d4⟩ := vr r (by omega)
      have ca := (c4 r (by omega)).2.2.2.2.2
      refine ⟨?_, ?_, ?_, ?_⟩
      · unfold ps_Dv ps_wd at d1 ⊢
        rw [nt r, (nv r).1, (nv r).2.1, (nv r).2.2.1, (nv r).2.2.2.1, (nv r).2.2.2.2.1, if_neg q, if_neg q, if_neg q, if_neg q, if_neg q, if_neg q]
        rw [oi (aR r) (by omega) (by omega), ef 13 (by decide) (by decide) (by decide) (by decide) (by decide) (by decide), ef 14 (by decide) (by decide) (by decide) (by decide) (by decide) (by decide), ef 15 (by decide) (by decide) (by decide) (by decide) (by decide) (by decide), ef 16 (by decide) (by decide) (by decide) (by decide) (by decide) (by decide), ef 32 (by decide) (by decide) (by decide) (by decide) (by decide) (by decide)]
        exact d1
      · unfold ps_nrow
        rw [ps_ur_n (by omega), ps_ur_n (by omega)]
        exact (ps_Rw_f (oi _ (by omega) (by omega)) (oi _ (by omega) (by omega))).mpr d2
      · unfold ps_nrow
        rw [ps_ur_n (by omega), ps_ur_n (by omega)]
        exact (ps_Rw_f (oi _ (by omega) (by omega)) (oi _ (by omega) (by omega))).mpr d3
      · rw [oi (aR r + 5) (by omega) (by omega), ef 18 (by decide) (by decide) (by decide) (by decide) (by decide) (by decide)]
        exact d4
  · have ca := (c5 g hg).2.2
    unfold ps_Gv ps_N
    rw [oi (aG g) (by omega) (by omega), oi (aG g + 1) (by omega) (by omega), oi (aG g + 2) (by omega) (by omega), ef 19 (by decide) (by decide) (by decide) (by decide) (by decide) (by decide), ef 20 (by decide) (by decide) (by decide) (by decide) (by decide) (by decide), ef 21 (by decide) (by decide) (by decide) (by decide) (by decide) (by decide), ef 23 (by decide) (by decide) (by decide) (by decide) (by decide) (by decide), ef 24 (by decide) (by decide) (by decide) (by decide) (by decide) (by decide), ef 25 (by decide) (by decide) (by decide) (by decide) (by decide) (by decide), ef 26 (by decide) (by decide) (by decide) (by decide) (by decide) (by decide), ef 27 (by decide) (by decide) (by decide) (by decide) (by decide) (by decide), ef 28 (by decide) (by decide) (by decide) (by decide) (by decide) (by decide), ef 29 (by decide) (by decide) (by decide) (by decide) (by decide) (by decide), ef 30 (by decide) (by decide) (by decide) (by decide) (by decide) (by decide)]
    exact vg g hg
  · rw [mk, (fr f (by omega)).1]; rfl
  · rw [mn, (fr f (by omega)).2.1]; rfl
  · rw [mi f j (Or.inl (by omega)) (Or.inl (by omega)), (fr f (by omega)).2.2.1]; rfl
  · rw [mr f j (Or.inl (by omega)), (fr f (by omega)).2.2.2]; rfl
end PRJ
