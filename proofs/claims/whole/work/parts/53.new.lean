/-! ParkRows: group, ride. -/
def ps_ua (a : Nat → Nat) (i x : Nat) : Nat → Nat := fun j => if j = i then x else a j
theorem ps_ua_s (a : Nat → Nat) (i x : Nat) : ps_ua a i x i = x := by unfold ps_ua; rw [if_pos rfl]
theorem ps_ua_n {a : Nat → Nat} {i x j : Nat} (h : j ≠ i) : ps_ua a i x j = a j := by unfold ps_ua; rw [if_neg h]
def ps_Kp (H H' : pw_Hp) : Prop := H.1 ≤ H'.1 ∧ ∀ f, f ≤ 31 → (f = 1 ∨ 7 ≤ f) → pw_k H' f = pw_k H f ∧ pw_n H' f = pw_n H f ∧ (∀ j, pw_i H' f j = pw_i H f j) ∧ ∀ j, pw_r H' f j = pw_r H f j
theorem ps_Kp_off {h : pw_Hp} {σ τ : ps_S} (ho : ps_Off σ τ) : ps_Kp (pw_st h σ) (pw_st h τ) := ⟨Nat.le_refl _, fun f h1 h2 => ⟨rfl, rfl, fun j => congrFun (ho f h1 h2) j, fun _ => rfl⟩⟩
def ps_ng (μ : ps_S) (G : Nat) (x : Int32) : ps_S := ps_up (ps_up (ps_up μ 19 G x) 21 G (-9)) 7 14 (nI (G + 1))
def ps_nr (μ : ps_S) (R : Nat) (s ro p sp kd : Int32) : ps_S := ps_up (ps_up (ps_up (ps_up (ps_up (ps_up μ 8 R s) 9 R ro) 10 R p) 11 R sp) 12 R kd) 7 2 (nI (R + 1))
def ps_nrow (ρ : ps_P) (R : Nat) : ps_P := ps_ur (ps_ur ρ (2 * R) []) (2 * R + 1) []
section PNW
variable {h : pw_Hp} {R G : Nat} {aR aG Nw : Nat → Nat} {σ μ : ps_S} {ρ : ps_P} {n : Nat}
set_option maxHeartbeats 4000000 in
set_option maxRecDepth 100000 in
theorem c_P_group_b {x : Int32} {k : Int32 → pw_Hp → Prop} (hC : ps_CS h R G aR aG Nw) (hV : ps_Rv R G aR aG Nw σ μ ρ) (hx : 8 < x ∨ (1 ≤ x ∧ G = 60)) (hk : ∀ τ, ps_Rv R G aR aG Nw τ (ps_ref μ 6) ρ → ps_Off σ τ → k (-6) (pw_st h τ)) : pw_Ci 65 [.inr 2, .inl x] (pw_st h σ) k := by
  have hT := hC.1
  have v := hV.1.2.1
  have hG60 := hC.2.2.1
  unfold ps_TS at hT
  have fin : pw_Ci 13 [.inr 2, .inl (-6)] (pw_st h σ) fun x h' => k x h' := c_P_ref hC hV (c := 5) (by decide) (by decide) hk
  refine pw_intro (M := pm_P_group) rfl (by decide) (Nat.le_of_ble_eq_true rfl) (ls := [some (.inr 2), some (.inl x), none]) rfl ?_
  refine pw_sound pw_tok pk_P_group 400 _ _ _ _ _ _ ?_
  simp only [pv_all, pv_stp, pe_P_group, pv_st, Nat.reduceAdd, eq_self, true_and, and_true, true_or, or_true, hT, v]
  refine ⟨fun q => ⟨fun _ => fin, fun q2 => ⟨fun _ => fin, fun _ => ⟨fun q3 => ?_, fun _ => fin⟩⟩⟩, fun q => ?_⟩
  · exfalso
    rw [pn_lt (by omega) (by omega)] at q3
    rcases hx with hx | hx
    · exact q2 hx
    · omega
  · exfalso
    rcases hx with hx | hx
    · rw [fa_lt', show (8 : Int32).toInt = 8 from rfl] at hx
      rw [fa_le', show (1 : Int32).toInt = 1 from rfl] at q
      omega
    · exact q hx.1
set_option maxHeartbeats 4000000 in
set_option maxRecDepth 100000 in
theorem c_P_group_l {x : Int32} {k : Int32 → pw_Hp → Prop} (hC : ps_CS h R G aR aG Nw) (hV : ps_Rv R G aR aG Nw σ μ ρ) (hx : ¬ 1 ≤ x) (hk : ∀ τ, ps_Rv R G aR aG Nw τ (ps_ref μ 4) ρ → ps_Off σ τ → k (-4) (pw_st h τ)) : pw_Ci 65 [.inr 2, .inl x] (pw_st h σ) k := by
  have hT := hC.1
  have v := hV.1.2.1
  unfold ps_TS at hT
  refine pw_intro (M := pm_P_group) rfl (by decide) (Nat.le_of_ble_eq_true rfl) (ls := [some (.inr 2), some (.inl x), none]) rfl ?_
  refine pw_sound pw_tok pk_P_group 400 _ _ _ _ _ _ ?_
  simp only [pv_all, pv_stp, pe_P_group, pv_st, Nat.reduceAdd, eq_self, true_and, and_true, true_or, or_true, hT, v]
  exact ⟨fun q => absurd q hx, fun _ => c_P_ref hC hV (c := 3) (by decide) (by decide) hk⟩
set_option maxHeartbeats 4000000 in
set_option maxRecDepth 100000 in
theorem c_P_group {m : Nat} {k : Int32 → pw_Hp → Prop} (hC : ps_CS h R G aR aG Nw) (hV : ps_Rv R G aR aG Nw σ μ ρ) (hW : ps_Wf R G Nw μ ρ n) (hm : 1 ≤ m) (hm8 : m ≤ 8) (hG : G < 60) (hh : 30 ≤ h.1) (hk : ∀ H', H'.1 = h.1 + 3 → ps_CS H' R (G + 1) aR (ps_ua aG G (h.1 + 2)) Nw → ps_Rv R (G + 1) aR (ps_ua aG G (h.1 + 2)) Nw (pw_i H') (ps_ng μ G (nI m)) ρ → ps_Kp (pw_st h σ) H' → k (nI G) H') : pw_Ci 65 [.inr 2, .inl (nI m)] (pw_st h σ) k := by
  have hC' := hC
  obtain ⟨hT, c2, c3, c4, c5, c6, c7, c8⟩ := hC
  obtain ⟨v0, vr, vg⟩ := hV
  have v := v0.2.1
  have hT' := hT
  unfold ps_TS at hT
  have k1 : pw_k (pw_nw (pw_st h σ) 10 12) (h.1 + 2) = 10 := by rw [pa_nk]; exact if_pos rfl
  refine pw_intro (M := pm_P_group) rfl (by decide) (Nat.le_of_ble_eq_true rfl) (ls := [some (.inr 2), some (.inl (nI m)), none]) rfl ?_
  refine pw_sound pw_tok pk_P_group 400 _ _ _ _ _ _ ?_
  simp only [pv_all, pv_stp, pe_P_group, pv_st, Nat.reduceAdd, eq_self, true_and, and_true, true_or, or_true, hT, v, k1]
  simp (disch := omega) only [pn_c, pn_lt, pn_le, pn_cl, pn_at]
  refine ⟨fun _ => ⟨fun q => absurd q (by omega), fun _ => ⟨fun q => absurd q (by omega), fun _ => ⟨fun _ => ⟨by decide, by decide, by decide, by decide, ?_⟩, fun q => absurd hG q⟩⟩⟩, fun q => absurd hm q⟩
  refine c_G_init (H := pw_nw (pw_st h σ) 10 12) rfl (by omega) (fun j => by simp only [pa_all, pv_st, ite_true]) k1 (fun H1 e1 e2 e3 e4 => ?_)
  have e1' : H1.1 = h.1 + 3 := e1
  have fr : ∀ i, i < h.1 + 2 → pw_k H1 i = pw_k h i ∧ pw_n H1 i = pw_n h i ∧ (∀ j, pw_i H1 i j = σ i j) ∧ ∀ j, pw_r H1 i j = pw_r h i j := fun i hi => by
    obtain ⟨f1, f2, f3, f4⟩ := e2 i (by omega)
    simp (disch := omega) only [pa_all, pa_nk, pa_nn, pv_st, if_neg] at f1 f2 f3 f4
    exact ⟨f1, f2, f3, f4⟩
  obtain ⟨t1, t2, t3, t4, t5, t6, t7, t8, t9, t10, t11, t12, t13⟩ := hT
  have z := hW.2.2.2.2.2.2.2.2 G (Nat.le_refl G) hG
  refine ⟨Or.inr ⟨by rw [(fr 4 (by omega)).1]; exact t8, e3.1⟩, by rw [(fr 4 (by omega)).2.1, t9]; exact hG, by simp only [pa_all]; rw [(fr 2 (by omega)).1]; exact t1, by simp only [pa_all]; rw [(fr 2 (by omega)).1]; exact t1, ?_⟩
  simp only [pa_all]
  rw [(fr 2 (by omega)).2.2.1, v, pn_add]
  have mk : ∀ i, pw_k (pw_wi (pw_wr H1 4 G (h.1 + 2)) 2 5 (nI (G + 1))) i = pw_k H1 i := fun _ => rfl
  have mn : ∀ i, pw_n (pw_wi (pw_wr H1 4 G (h.1 + 2)) 2 5 (nI (G + 1))) i = pw_n H1 i := fun _ => rfl
  have mi : ∀ i j, (i ≠ 2 ∨ j ≠ 5) → pw_i (pw_wi (pw_wr H1 4 G (h.1 + 2)) 2 5 (nI (G + 1))) i j = pw_i H1 i j := fun i j hij => by simp (disch := omega) only [pa_all, if_neg]
  have mi2 : pw_i (pw_wi (pw_wr H1 4 G (h.1 + 2)) 2 5 (nI (G + 1))) 2 5 = nI (G + 1) := by simp only [pa_all, and_self, ite_true]
  have mr : ∀ i j, (i ≠ 4 ∨ j ≠ G) → pw_r (pw_wi (pw_wr H1 4 G (h.1 + 2)) 2 5 (nI (G + 1))) i j = pw_r H1 i j := fun i j hij => by simp (disch := omega) only [pa_all, if_neg]
  have mr4 : pw_r (pw_wi (pw_wr H1 4 G (h.1 + 2)) 2 5 (nI (G + 1))) 4 G = h.1 + 2 := by simp only [pa_all, and_self, ite_true]
  have m1 : (pw_wi (pw_wr H1 4 G (h.1 + 2)) 2 5 (nI (G + 1))).1 = h.1 + 3 := e1'
  generalize pw_wi (pw_wr H1 4 G (h.1 + 2)) 2 5 (nI (G + 1)) = H2 at mk mn mi mi2 mr mr4 m1 ⊢
  have oi : ∀ i, 3 ≤ i → i < h.1 + 2 → pw_i H2 i = σ i := fun i h1 h2 => funext fun j => (mi i j (Or.inl (by omega))).trans ((fr i h2).2.2.1 j)
  refine hk H2 m1 ⟨⟨?_, ?_, ?_, ?_, ?_, ?_, ?_, ?_, ?_, ?_, ?_, ?_, ?_⟩, c2, by omega, fun r hr => ?_, fun g hg => ?_, c6, fun g i hg hi hgi => ?_, fun r g hr hg => ?_⟩ ⟨⟨?_, mi2, ?_, ?_, ?_, ?_, fun i hi => ?_, fun i hi => ?_⟩, fun r hr => ?_, fun g hg => ?_⟩ ⟨by show h.1 ≤ _; omega, fun f h1 h2 => ⟨?_, ?_, fun j => ?_, fun j => ?_⟩⟩
  · rw [mk, (fr 2 (by omega)).1]; exact t1
  · rw [mr 2 0 (Or.inl (by decide)), (fr 2 (by omega)).2.2.2]; exact t2
  · rw [mr 2 1 (Or.inl (by decide)), (fr 2 (by omega)).2.2.2]; exact t3
  · rw [mr 2 2 (Or.inl (by decide)), (fr 2 (by omega)).2.2.2]; exact t4
  · rw [mr 2 3 (Or.inl (by decide)), (fr 2 (by omega)).2.2.2]; exact t5
  · rw [mk, (fr 3 (by omega)).1]; exact t6
  · rw [mn, (fr 3 (by omega)).2.1]; exact t7
  · rw [mk, (fr 4 (by omega)).1]; exact t8
  · rw [mn, (fr 4 (by omega)).2.1]; exact t9
  · rw [mk, (fr 5 (by omega)).1]; exact t10
  · rw [mn, (fr 5 (by omega)).2.1]; exact t11
  · rw [mk, (fr 6 (by omega)).1]; exact t12
  · rw [mn, (fr 6 (by omega)).2.1]; exact t13
  · obtain ⟨d1, d2, d3, d4, d5, d6, d7⟩ := c4 r hr
    refine ⟨?_, ?_, ?_, ?_, d5, d6, by omega⟩
    · rw [mr 3 r (Or.inl (by decide)), (fr 3 (by omega)).2.2.2]; exact d1
    · unfold ps_DS at d2 ⊢
      rw [mk, mk, mn, mr _ _ (Or.inl (by omega)), mr _ _ (Or.inl (by omega)), mr _ _ (Or.inl (by omega)), (fr (aR r) (by omega)).1, (fr (aR r) (by omega)).2.2.2, (fr (aR r) (by omega)).2.2.2, (fr (aR r) (by omega)).2.2.2, (fr (aR r + 5) (by omega)).1, (fr (aR r + 5) (by omega)).2.1]
      exact d2
    · unfold ps_WS at d3 ⊢
      rw [mk, mk, mn, mr _ _ (Or.inl (by omega)), (fr (aR r + 1) (by omega)).1, (fr (aR r + 1) (by omega)).2.2.2, (fr (aR r + 1 + 1) (by omega)).1, (fr (aR r + 1 + 1) (by omega)).2.1]
      exact d3
    · unfold ps_WS at d4 ⊢
      rw [mk, mk, mn, mr _ _ (Or.inl (by omega)), (fr (aR r + 3) (by omega)).1, (fr (aR r + 3) (by omega)).2.2.2, (fr (aR r + 3 + 1) (by omega)).1, (fr (aR r + 3 + 1) (by omega)).2.1]
      exact d4
  · by_cases q : g = G
    · subst q
      rw [ps_ua_s]
      refine ⟨mr4, ?_, by omega, by omega⟩
      unfold ps_GS at e3 ⊢
      rw [mk, mk, mk, mn, mn, mr _ _ (Or.inl (by omega)), mr _ _ (Or.inl (by omega))]
      exact e3
    · rw [ps_ua_n q]
      obtain ⟨d1, d2, d3, d4⟩ := c5 g (by omega)
      refine ⟨?_, ?_, d3, by omega⟩
      · rw [mr 4 g (Or.inr q), (fr 4 (by omega)).2.2.2]; exact d1
      · unfold ps_GS at d2 ⊢
        rw [mk, mk, mk, mn, mn, mr _ _ (Or.inl (by omega)), mr _ _ (Or.inl (by omega)), (fr (aG g) (by omega)).1, (fr (aG g) (by omega)).2.2.2, (fr (aG g) (by omega)).2.2.2, (fr (aG g + 1) (by omega)).1, (fr (aG g + 1) (by omega)).2.1, (fr (aG g + 2) (by omega)).1, (fr (aG g + 2) (by omega)).2.1]
        exact d2
  · by_cases q1 : g = G
    · have q2 : i ≠ G := fun z => hgi (by rw [q1, z])
      rw [q1, ps_ua_s, ps_ua_n q2]
      have := (c5 i (by omega)).2.2.2
      omega
    · by_cases q2 : i = G
      · rw [q2, ps_ua_s, ps_ua_n q1]
        have := (c5 g (by omega)).2.2.2
        omega
      · rw [ps_ua_n q1, ps_ua_n q2]
        exact c7 g i (by omega) (by omega) hgi
  · by_cases q1 : g = G
    · rw [q1, ps_ua_s]
      have := (c4 r hr).2.2.2.2.2.2
      omega
    · rw [ps_ua_n q1]
      exact c8 r g hr (by omega)
  · rw [mi 2 4 (Or.inr (by decide)), (fr 2 (by omega)).2.2.1]; exact v0.1
  · unfold ps_ng; rw [ps_up_n (Or.inr (by decide)), ps_up_n (Or.inl (by decide)), ps_up_n (Or.inl (by decide))]; exact v0.2.2.1
  · unfold ps_ng; rw [ps_up_s]
  · unfold ps_ng; rw [mi 2 6 (Or.inr (by decide)), (fr 2 (by omega)).2.2.1, ps_up_n (Or.inr (by decide)), ps_up_n (Or.inl (by decide)), ps_up_n (Or.inl (by decide))]; exact v0.2.2.2.2.1
  · unfold ps_ng; rw [mi 2 7 (Or.inr (by decide)), (fr 2 (by omega)).2.2.1, ps_up_n (Or.inr (by decide)), ps_up_n (Or.inl (by decide)), ps_up_n (Or.inl (by decide))]; exact v0.2.2.2.2.2.1
  · unfold ps_ng; rw [oi 5 (by omega) (by omega), ps_up_n (Or.inl (by decide)), ps_up_n (Or.inl (by decide)), ps_up_n (Or.inl (by decide))]; exact v0.2.2.2.2.2.2.1 i hi
  · unfold ps_ng; rw [oi 6 (by omega) (by omega), ps_up_n (Or.inl (by decide)), ps_up_n (Or.inl (by decide)), ps_up_n (Or.inl (by decide))]; exact v0.2.2.2.2.2.2.2 i hi
  · obtain ⟨d1, d2, d3, d4⟩ := vr r hr
    have ca := (c4 r hr).2.2.2.2.2
    have ef : ∀ f, f ≠ 7 → f ≠ 19 → f ≠ 21 → ps_ng μ G (nI m) f = μ f := fun f q1 q2 q3 => by unfold ps_ng; rw [ps_up_f q1, ps_up_f q3, ps_up_f q2]
    refine ⟨?_, (ps_Rw_f (oi _ (by omega) (by omega)) (oi _ (by omega) (by omega))).mpr d2, (ps_Rw_f (oi _ (by omega) (by omega)) (oi _ (by omega) (by omega))).mpr d3, ?_⟩
    · unfold ps_Dv ps_wd ps_turn ps_N at d1 ⊢
      rw [oi (aR r) (by omega) (by omega), ef 8 (by decide) (by decide) (by decide), ef 9 (by decide) (by decide) (by decide), ef 12 (by decide) (by decide) (by decide), ef 10 (by decide) (by decide) (by decide), ef 11 (by decide) (by decide) (by decide), ef 13 (by decide) (by decide) (by decide), ef 32 (by decide) (by decide) (by decide), ef 14 (by decide) (by decide) (by decide), ef 15 (by decide) (by decide) (by decide), ef 16 (by decide) (by decide) (by decide)]
      exact d1
    · rw [oi (aR r + 5) (by omega) (by omega), ef 18 (by decide) (by decide) (by decide)]
      exact d4
  · have ef : ∀ f, f ≠ 7 → f ≠ 19 → f ≠ 21 → ps_ng μ G (nI m) f = μ f := fun f q1 q2 q3 => by unfold ps_ng; rw [ps_up_f q1, ps_up_f q3, ps_up_f q2]
    have e19 : ∀ i, ps_ng μ G (nI m) 19 i = if i = G then nI m else μ 19 i := fun i => by
      unfold ps_ng
      rw [ps_up_n (Or.inl (by decide)), ps_up_n (Or.inl (by decide)), ps_up_at]
      by_cases q : i = G
      · rw [if_pos ⟨rfl, q⟩, if_pos q]
      · rw [if_neg (fun z => q z.2), if_neg q]
    have e21 : ∀ i, ps_ng μ G (nI m) 21 i = if i = G then -9 else μ 21 i := fun i => by
      unfold ps_ng
      rw [ps_up_n (Or.inl (by decide)), ps_up_at]
      by_cases q : i = G
      · rw [if_pos ⟨rfl, q⟩, if_pos q]
      · rw [if_neg (fun z => q z.2), if_neg q, ps_up_n (Or.inl (by decide))]
    unfold ps_Gv ps_N
    rw [e19, e21, ef 20 (by decide) (by decide) (by decide), ef 23 (by decide) (by decide) (by decide), ef 24 (by decide) (by decide) (by decide), ef 25 (by decide) (by decide) (by decide), ef 26 (by decide) (by decide) (by decide), ef 27 (by decide) (by decide) (by decide), ef 28 (by decide) (by decide) (by decide), ef 29 (by decide) (by decide) (by decide), ef 30 (by decide) (by decide) (by decide)]
    by_cases q : g = G
    · subst q
      rw [ps_ua_s, if_pos rfl, if_pos rfl]
      obtain ⟨i0, i1, i6, iz⟩ := e4
      obtain ⟨z20, z23, z24, z27, z28, z29, z30⟩ := z
      rw [z20, z23, z24, z27, z28, z29, z30]
      have mm : ∀ j, pw_i H2 (h.1 + 2) j = pw_i H1 (h.1 + 2) j := fun j => mi _ j (Or.inl (by omega))
      rw [mm, mm, mm, mm, mm, mm, mm, mm, mm, mm]
      exact ⟨i0, i1, iz 4 (by decide) (by decide) (by decide), iz 5 (by decide) (by decide) (by decide), i6, iz 7 (by decide) (by decide) (by decide), iz 8 (by decide) (by decide) (by decide), iz 9 (by decide) (by decide) (by decide), iz 10 (by decide) (by decide) (by decide), iz 11 (by decide) (by decide) (by decide), fun i hi => absurd hi (Nat.not_lt_zero i)⟩
    · rw [ps_ua_n q, if_neg q, if_neg q]
      have ca := (c5 g (by omega)).2.2
      rw [oi (aG g) (by omega) (by omega), oi (aG g + 1) (by omega) (by omega), oi (aG g + 2) (by omega) (by omega)]
      exact vg g (by omega)
  · rw [mk, (fr f (by omega)).1]; rfl
  · rw [mn, (fr f (by omega)).2.1]; rfl
  · rw [mi f j (Or.inl (by omega)), (fr f (by omega)).2.2.1]; rfl
  · rw [mr f j (Or.inl (by omega)), (fr f (by omega)).2.2.2]; rfl
end PNW
