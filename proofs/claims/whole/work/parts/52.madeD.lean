/-! What is made: rides. -/
theorem pw_Cv_mono {j : Nat} {as : List pw_A} {h : pw_Hp} {k k' : pw_Hp → Prop} (hc : pw_Cv j as h k) (hq : ∀ h', k h' → k' h') : pw_Cv j as h k' := pw_C_mono hc (fun _ h' q => ⟨q.1, hq h' q.2⟩)
theorem c_D_tail {X : pw_Hp} {a w : Nat} {k : pw_Hp → Prop} (ha : a + 1 = X.1 + 2) (ha0 : a ≠ 0) (h11 : pw_k X a = 11) (hw : pw_i X a 5 = nI w) (h0 : 5 ≤ w) (h1 : w ≤ 300) (hk : ∀ H', H'.1 = X.1 + 5 → ps_Fr X H' a → (∀ j, pw_i H' a j = pw_i X a j) → ps_DS H' a (5000 / w + 41) → ps_WS H' (a + 1) → ps_WS H' (a + 3) → pw_i H' (a + 1) 1 = 0 → pw_i H' (a + 3) 1 = 0 → (∀ j, pw_i H' (a + 5) j = 0) → k H') :
    pw_k (pw_nw X 12 2) (X.1 + 2) = 12 ∧ pw_Cv 39 [Sum.inr (X.1 + 2)] (pw_nw X 12 2) fun Y =>
      pw_k Y a = 11 ∧ 1 ≤ 5 - 1 - 1 ∧ 2 ≤ 1165 - 2 - 60 ∧ 1 ≤ 5 - 1 - 1 - 1 ∧ 60 ≤ 1165 - 2 - 60 - 2 ∧
        pw_k (pw_nw (pw_wr Y a 6 (X.1 + 2)) 12 2) ((pw_wr Y a 6 (X.1 + 2)).1 + 2) = 12 ∧
          pw_Cv 39 [Sum.inr ((pw_wr Y a 6 (X.1 + 2)).1 + 2)] (pw_nw (pw_wr Y a 6 (X.1 + 2)) 12 2) fun Z =>
            pw_k Z a = 11 ∧ pw_k (pw_wr Z a 7 ((pw_wr Y a 6 (X.1 + 2)).1 + 2)) a = 11 ∧
              (¬ pw_i (pw_wr Z a 7 ((pw_wr Y a 6 (X.1 + 2)).1 + 2)) a 5 ≤ 0 ∧
                pw_k (pw_wr Z a 7 ((pw_wr Y a 6 (X.1 + 2)).1 + 2)) a = 11 ∧
                  ¬ pw_i (pw_wr Z a 7 ((pw_wr Y a 6 (X.1 + 2)).1 + 2)) a 5 = 0 ∧
                    (¬ 5000 / pw_i (pw_wr Z a 7 ((pw_wr Y a 6 (X.1 + 2)).1 + 2)) a 5 + 40 + 1 < 0 ∧ (5000 / pw_i (pw_wr Z a 7 ((pw_wr Y a 6 (X.1 + 2)).1 + 2)) a 5 + 40 + 1).toNatClampNeg ≤ 10000) ∧
                      1 ≤ 5 - 1 - 1 - 1 - 1 ∧ (5000 / pw_i (pw_wr Z a 7 ((pw_wr Y a 6 (X.1 + 2)).1 + 2)) a 5 + 40 + 1).toNatClampNeg ≤ 1165 - 2 - 60 - 2 - 60 ∧
                        pw_k (pw_nw (pw_wr Z a 7 ((pw_wr Y a 6 (X.1 + 2)).1 + 2)) 1 (5000 / pw_i (pw_wr Z a 7 ((pw_wr Y a 6 (X.1 + 2)).1 + 2)) a 5 + 40 + 1).toNatClampNeg) a = 11 ∧
                          k (pw_wr (pw_nw (pw_wr Z a 7 ((pw_wr Y a 6 (X.1 + 2)).1 + 2)) 1 (5000 / pw_i (pw_wr Z a 7 ((pw_wr Y a 6 (X.1 + 2)).1 + 2)) a 5 + 40 + 1).toNatClampNeg) a 8 ((pw_wr Z a 7 ((pw_wr Y a 6 (X.1 + 2)).1 + 2)).1 + 2))) := by
  have hN : 5000 / w ≤ 1000 := Nat.le_trans (Nat.div_le_div_left h0 (by decide)) (by decide)
  refine ⟨by rw [pa_nk, if_pos rfl], ?_⟩
  refine c_W_init (H := pw_nw X 12 2) rfl (by omega) (fun j => by rw [pa_all.2.2.2.2.2.2.2.2.2.2.1, if_pos rfl]) (by rw [pa_nk, if_pos rfl]) (fun Y y1 yF yW y0 => ?_)
  have y1' : Y.1 = X.1 + 2 := y1
  have yk : pw_k Y a = 11 := by rw [(yF a (by omega)).1, pa_nk, if_neg (by omega)]; exact h11
  refine ⟨yk, by decide, by decide, by decide, by decide, by rw [pa_nk, if_pos rfl], ?_⟩
  simp only [pa_all]
  refine c_W_init (H := pw_nw (pw_wr Y a 6 (X.1 + 2)) 12 2) rfl (by omega) (fun j => by simp only [pa_all, ite_true]) (by simp only [pa_nk, pa_all, ite_true]) (fun Z z1 zF zW z0 => ?_)
  have z1' : Z.1 = X.1 + 4 := by rw [z1]; show Y.1 + 1 + 1 = X.1 + 4; omega
  have zk : pw_k Z a = 11 := by rw [(zF a (by omega)).1, pa_nk, if_neg (by simp only [pa_all]; omega)]; exact yk
  have z5 : ∀ j, pw_i Z a j = pw_i X a j := fun j => by
    rw [(zF a (by omega)).2.2.1 j]
    simp (disch := omega) only [pa_all, if_neg]
    rw [(yF a (by omega)).2.2.1 j]
    simp (disch := omega) only [pa_all, if_neg]
  rw [z5 5, hw]
  have e1 : (5000 : Int32) / nI w + 40 + 1 = nI (5000 / w + 41) := by
    rw [show (5000 : Int32) = nI 5000 from rfl, show (40 : Int32) = nI 40 from rfl, show (1 : Int32) = nI 1 from rfl, pn_div (by omega) (by omega) (by omega), pn_add, pn_add]
  rw [e1, nI_clamp (by omega)]
  refine ⟨zk, zk, ?_, zk, ?_, ⟨nI_pos (by omega), by omega⟩, by decide, by omega, by rw [pa_nk, if_neg (by simp only [pa_all]; omega)]; exact zk, ?_⟩
  · rw [show (0 : Int32) = nI 0 from rfl, pn_le (by omega) (by omega)]; omega
  · rw [show (0 : Int32) = nI 0 from rfl, pn_eq (by omega) (by omega)]; omega
  refine hk _ ?_ (fun n hn => ?_) (fun j => ?_) ⟨?_, ?_, ?_, ?_, ?_, ?_⟩ ⟨?_, ?_, ?_, ?_⟩ ⟨?_, ?_, ?_, ?_⟩ ?_ ?_ (fun j => ?_)
  · simp only [pa_all]; omega
  · obtain ⟨f1, f2, f3, f4⟩ := zF n (by omega)
    obtain ⟨g1, g2, g3, g4⟩ := yF n (by omega)
    simp (disch := omega) only [pa_all, pa_nk, pa_nn, if_neg, if_pos, and_self, ite_true] at f1 f2 f3 f4 g1 g2 g3 g4 ⊢
    exact ⟨f1.trans g1, f2.trans g2, fun j => (f3 j).trans (g3 j), fun j => (f4 j).trans (g4 j)⟩
  · simp (disch := omega) only [pa_all, if_neg]
    exact z5 j
  · simp (disch := omega) only [pa_all, pa_nk, if_neg]; exact zk
  · obtain ⟨f1, f2, f3, f4⟩ := zF a (by omega)
    have f6 := f4 6
    simp (disch := omega) only [pa_all, pa_nk, pa_nn, if_neg, if_pos, and_self, ite_true] at f6 ⊢
    omega
  · simp (disch := omega) only [pa_all, pa_nk, pa_nn, if_neg, if_pos, and_self, ite_true]; omega
  · simp (disch := omega) only [pa_all, pa_nk, pa_nn, if_neg, if_pos, and_self, ite_true]; omega
  · simp (disch := omega) only [pa_all, pa_nk, pa_nn, if_neg, if_pos, and_self, ite_true]
  · simp (disch := omega) only [pa_all, pa_nk, pa_nn, if_neg, if_pos, and_self, ite_true]
  · obtain ⟨f1, f2, f3, f4⟩ := zF (a + 1) (by omega)
    have w1 := yW.1
    rw [show X.1 + 2 = a + 1 by omega] at w1
    simp (disch := omega) only [pa_all, pa_nk, pa_nn, if_neg, if_pos, and_self, ite_true] at f1 ⊢
    exact f1.trans w1
  · obtain ⟨f1, f2, f3, f4⟩ := zF (a + 1) (by omega)
    have w1 := yW.2.1
    have f6 := f4 0
    rw [show X.1 + 2 = a + 1 by omega] at w1
    simp (disch := omega) only [pa_all, pa_nk, pa_nn, if_neg, if_pos, and_self, ite_true] at f6 ⊢
    exact f6.trans w1
  · obtain ⟨f1, f2, f3, f4⟩ := zF (a + 1 + 1) (by omega)
    have w1 := yW.2.2.1
    rw [show X.1 + 2 = a + 1 by omega] at w1
    simp (disch := omega) only [pa_all, pa_nk, pa_nn, if_neg, if_pos, and_self, ite_true] at f1 ⊢
    exact f1.trans w1
  · obtain ⟨f1, f2, f3, f4⟩ := zF (a + 1 + 1) (by omega)
    have w1 := yW.2.2.2
    rw [show X.1 + 2 = a + 1 by omega] at w1
    simp (disch := omega) only [pa_all, pa_nk, pa_nn, if_neg, if_pos, and_self, ite_true] at f2 ⊢
    exact f2.trans w1
  · have w1 := zW.1
    rw [show Y.1 + 2 = a + 3 by omega] at w1
    simp (disch := omega) only [pa_all, pa_nk, pa_nn, if_neg, if_pos, and_self, ite_true]
    exact w1
  · have w1 := zW.2.1
    rw [show Y.1 + 2 = a + 3 by omega] at w1
    simp (disch := omega) only [pa_all, pa_nk, pa_nn, if_neg, if_pos, and_self, ite_true]
    exact w1
  · have w1 := zW.2.2.1
    rw [show Y.1 + 2 = a + 3 by omega] at w1
    simp (disch := omega) only [pa_all, pa_nk, pa_nn, if_neg, if_pos, and_self, ite_true]
    exact w1
  · have w1 := zW.2.2.2
    rw [show Y.1 + 2 = a + 3 by omega] at w1
    simp (disch := omega) only [pa_all, pa_nk, pa_nn, if_neg, if_pos, and_self, ite_true]
    exact w1
  · obtain ⟨f1, f2, f3, f4⟩ := zF (a + 1) (by omega)
    have f6 := f3 1
    rw [show X.1 + 2 = a + 1 by omega] at y0
    simp (disch := omega) only [pa_all, pa_nk, pa_nn, if_neg, if_pos, and_self, ite_true] at f6 ⊢
    exact f6.trans y0
  · rw [show Y.1 + 2 = a + 3 by omega] at z0
    simp (disch := omega) only [pa_all, pa_nk, pa_nn, if_neg, if_pos, and_self, ite_true]
    exact z0
  · simp (disch := omega) only [pa_all, pa_nk, pa_nn, if_neg, if_pos, and_self, ite_true]
set_option maxHeartbeats 4000000 in
set_option maxRecDepth 100000 in
theorem c_D_init {H : pw_Hp} {a ro : Nat} {x1 x2 x4 : Int32} {k : pw_Hp → Prop} (ha : a + 1 = H.1 + 2) (ha0 : a ≠ 0) (hz : ∀ j, pw_i H a j = 0) (h11 : pw_k H a = 11) (hr1 : 1 ≤ ro) (hr2 : ro ≤ 20) (hk : ∀ H' t, H'.1 = H.1 + 5 → ps_Fr H H' a → t = (if x4 = 2 then 3 * ro else ro) → (pw_i H' a 0 = x1 ∧ pw_i H' a 1 = x2 ∧ pw_i H' a 2 = nI ro ∧ pw_i H' a 3 = x4 ∧ pw_i H' a 4 = nI t ∧ pw_i H' a 5 = nI (5 * t) ∧ ∀ j, 6 ≤ j → pw_i H' a j = 0) → ps_DS H' a (5000 / (5 * t) + 41) → ps_WS H' (a + 1) → ps_WS H' (a + 3) → pw_i H' (a + 1) 1 = 0 → pw_i H' (a + 3) 1 = 0 → (∀ j, pw_i H' (a + 5) j = 0) → k H') : pw_Cv 63 [.inr a, .inl x1, .inl x2, .inl (nI ro), .inl x4] H k := by
  have g0 : ∀ (Q S T : Prop), S → T → (Q → S) ∧ T := fun Q S T s t => ⟨fun _ => s, t⟩
  have fin : ∀ (t : Nat) (v w : Int32), t = (if x4 = 2 then 3 * ro else ro) → 1 ≤ t → t ≤ 60 → v = nI t → w = nI (5 * t) → ∀ X, X = pw_wi (pw_wi (pw_wi (pw_wi (pw_wi (pw_wi H a 0 x1) a 1 x2) a 2 (nI ro)) a 3 x4) a 4 v) a 5 w → (a + 1 = X.1 + 2 ∧ pw_k X a = 11 ∧ pw_i X a 5 = nI (5 * t)) ∧ ∀ H', H'.1 = X.1 + 5 → ps_Fr X H' a → (∀ j, pw_i H' a j = pw_i X a j) → ps_DS H' a (5000 / (5 * t) + 41) → ps_WS H' (a + 1) → ps_WS H' (a + 3) → pw_i H' (a + 1) 1 = 0 → pw_i H' (a + 3) 1 = 0 → (∀ j, pw_i H' (a + 5) j = 0) → k H' := by
    intro t v w ht1 ht2 ht3 hv hw X hX
    subst hX; subst hv; subst hw
    refine ⟨⟨ha, h11, by simp only [pa_all, and_self, ite_true]⟩, fun H' e1 e2 e3 e4 e5 e6 e7 e8 e9 => ?_⟩
    refine hk H' t e1 (fun n hn => ?_) ht1 ⟨?_, ?_, ?_, ?_, ?_, ?_, fun j hj => ?_⟩ e4 e5 e6 e7 e8 e9
    · obtain ⟨f1, f2, f3, f4⟩ := e2 n hn
      simp (disch := omega) only [pa_all, if_neg] at f1 f2 f3 f4
      exact ⟨f1, f2, f3, f4⟩
    · rw [e3]; simp (disch := omega) only [pa_all, if_neg, if_pos, and_self, ite_true]
    · rw [e3]; simp (disch := omega) only [pa_all, if_neg, if_pos, and_self, ite_true]
    · rw [e3]; simp (disch := omega) only [pa_all, if_neg, if_pos, and_self, ite_true]
    · rw [e3]; simp (disch := omega) only [pa_all, if_neg, if_pos, and_self, ite_true]
    · rw [e3]; simp (disch := omega) only [pa_all, if_neg, if_pos, and_self, ite_true]
    · rw [e3]; simp (disch := omega) only [pa_all, if_neg, if_pos, and_self, ite_true]
    · rw [e3]; simp (disch := omega) only [pa_all, if_neg, if_pos, and_self, ite_true]; exact hz j
  have s4 : ∀ (X : pw_Hp) (v : Int32), pw_i (pw_wi X a 4 v) a 4 = v := fun X v => by simp only [pa_all, and_self, ite_true]
  have kk : ∀ (X : pw_Hp) (i : Nat) (v : Int32), pw_k (pw_wi X a i v) a = pw_k X a := fun _ _ _ => rfl
  refine pw_intro (M := pm_D_init) rfl (by decide) (Nat.le_of_ble_eq_true rfl) (ls := [some (.inr a), some (.inl x1), some (.inl x2), some (.inl (nI ro)), some (.inl x4)]) rfl ?_
  refine pw_sound pw_tok pk_D_init 400 _ _ _ _ _ _ ?_
  simp only [pv_all, pv_stp, pe_D_init, pv_st, Nat.reduceAdd, eq_self, true_and, and_true, true_or, or_true, kk, h11, s4]
  refine ⟨ha0, fun q => ?_, fun q => ?_⟩
  · have ev : (if 1 < nI ro then nI ro else 1) = nI ro := by
      by_cases z : 1 < nI ro
      · rw [if_pos z]
      · rw [if_neg z]
        rw [show (1 : Int32) = nI 1 from rfl, pn_lt (by omega) (by omega)] at z
        rw [show ro = 1 by omega]; rfl
    rw [ev]
    obtain ⟨⟨p1, p2, p3⟩, p4⟩ := fin ro (nI ro) (5 * nI ro) (by rw [if_neg q]) hr1 (by omega) rfl (by rw [show (5 : Int32) = nI 5 from rfl, pn_mul]) _ rfl
    have tl := c_D_tail (w := 5 * ro) p1 ha0 p2 p3 (by omega) (by omega) p4
    obtain ⟨t1, t2⟩ := tl
    refine ⟨by decide, by decide, by decide, by decide, t1, ?_⟩
    refine pw_Cv_mono t2 (fun Y ⟨a1, a2, a3, a4, a5, a6, a7⟩ => ⟨a1, a2, a3, a4, a5, a6, pw_Cv_mono a7 (fun Z ⟨b1, b2, b3, b4⟩ => ⟨b1, b2, fun z => absurd z b3, fun _ => b4⟩)⟩)
  · have ev : (if 1 < 3 * nI ro then 3 * nI ro else 1) = nI (3 * ro) := by
      rw [show (3 : Int32) = nI 3 from rfl, pn_mul, if_pos]
      rw [show (1 : Int32) = nI 1 from rfl, pn_lt (by omega) (by omega)]
      omega
    rw [ev]
    obtain ⟨⟨p1, p2, p3⟩, p4⟩ := fin (3 * ro) (nI (3 * ro)) (5 * nI (3 * ro)) (by rw [if_pos q]) (by omega) (by omega) rfl (by rw [show (5 : Int32) = nI 5 from rfl, pn_mul]) _ rfl
    have tl := c_D_tail (w := 5 * (3 * ro)) p1 ha0 p2 p3 (by omega) (by omega) p4
    obtain ⟨t1, t2⟩ := tl
    refine ⟨by decide, by decide, by decide, by decide, t1, ?_⟩
    refine pw_Cv_mono t2 (fun Y ⟨a1, a2, a3, a4, a5, a6, a7⟩ => ⟨a1, a2, a3, a4, a5, a6, pw_Cv_mono a7 (fun Z ⟨b1, b2, b3, b4⟩ => ⟨b1, b2, fun z => absurd z b3, fun _ => b4⟩)⟩)
