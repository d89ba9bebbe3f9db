/-! The reference: times. -/
section PMT
variable {h : pw_Hp} {R G m n : Nat} {Nw : Nat → Nat} {σ μ : ps_S} {ρ : ps_P}
set_option maxHeartbeats 4000000 in
set_option maxRecDepth 100000 in
theorem c_M_overlaps_8 {g r w : Nat} {k : Int32 → pw_Hp → Prop} (hM : ps_MS h) (hD : ps_Md R G m σ μ ρ) (hW : ps_Wf R G Nw μ ρ n) (hg : g < G) (hr : r < R) (hw : w ≤ 1100) (hk : k (if ps_ov μ g r w = true then 1 else 0) (pw_st h σ)) :
    ∀ (c j : Nat) (y6 y7 y8 y9 y10 y11 : Option pw_A), j + c = ps_N μ 24 g → pw_J pm_M_overlaps (pw_qi k) 8 [some (.inr 7), some (.inl (nI g)), some (.inl (nI r)), some (.inl (nI w)), some (.inl (if ps_ovn μ g r w j = true then 1 else 0)), some (.inl (nI (2 * g + j))), y6, y7, y8, y9, y10, y11] [] (pw_st h σ) 0 0 := by
  have hM' := hM
  have e := ps_Md_e hD
  have hR := hW.1.1
  have hG := hW.1.2.1
  obtain ⟨-, -, -, -, -, w6, w7, -, -, -, -, -, -, w8⟩ := hW.2.2.1 g hg
  have wr := (hW.2.1 r hr).1
  have p2 := ps_wd_pos wr
  have m1 : w * ps_wd μ r ≤ 1100 * 300 := Nat.mul_le_mul hw p2.2.2.2
  unfold ps_MS at hM
  have e2 : (2 : Int32) * nI g = nI (2 * g) := pn_mul 2 g
  intro c
  induction c with
  | zero =>
    intro j y6 y7 y8 y9 y10 y11 hj
    refine pw_sound pw_tok pk_M_overlaps 400 _ _ _ _ _ _ ?_
    simp only [pv_all, pv_stp, pe_M_overlaps, pv_st, Nat.reduceAdd, eq_self, true_and, and_true, true_or, or_true, hM, e2]
    simp (disch := omega) only [pn_at, pn_cl, e, w6, pn_add, pn_le]
    refine ⟨by omega, fun _ => ?_, fun z => absurd z (by omega)⟩
    unfold ps_ov at hk
    rw [← hj, Nat.add_zero] at hk
    refine ⟨?_, hk⟩
    split
    · exact Or.inr rfl
    · exact Or.inl rfl
  | succ c ih =>
    intro j y6 y7 y8 y9 y10 y11 hj
    obtain ⟨t1, t2, t3, t4⟩ := w8 j (by omega)
    have wq := (hW.2.1 _ t2).1
    have hN := ps_Nw_le wq
    have p3 := ps_wd_pos wq
    have hv : ps_N μ 26 (2 * g + j) ≤ 1100 := by omega
    have m2 : ps_N μ 26 (2 * g + j) * ps_wd μ (ps_N μ 25 (2 * g + j)) ≤ 1100 * 300 := Nat.mul_le_mul hv p3.2.2.2
    have ihj := fun y6 y7 y8 y9 y10 y11 => ih (j + 1) y6 y7 y8 y9 y10 y11 (by omega)
    unfold ps_ovn ps_ov1 at ihj
    have e8 : (8 : Int32) * nI (ps_N μ 25 (2 * g + j)) + nI r = nI (8 * ps_N μ 25 (2 * g + j) + r) := by rw [show (8 : Int32) = nI 8 from rfl, pn_mul, pn_add]
    have k3 := hW.2.2.2.2.2.1.2.2 (8 * ps_N μ 25 (2 * g + j) + r) (by omega)
    have hb : ∀ (b : Bool) (P Q : Prop) (a : Int32), a = (if b = true then 1 else 0) → (b = true → P) → (b = false → Q) → (¬ a = 0 → P) ∧ (a = 0 → Q) := by
      intro b P Q a ha h1 h2
      cases b with
      | true => exact ⟨fun _ => h1 rfl, fun z => absurd (ha.symm.trans z) (by decide)⟩
      | false => exact ⟨fun z => absurd ha z, fun _ => h2 rfl⟩
    refine pw_sound pw_tok pk_M_overlaps 400 _ _ _ _ _ _ ?_
    simp only [pv_all, pv_stp, pe_M_overlaps, pv_st, Nat.reduceAdd, eq_self, true_and, and_true, true_or, or_true, hM, e2]
    simp (disch := omega) only [pn_at, pn_cl, e, w6, t1, t3, pn_add, pn_le, e8]
    generalize hqq : ps_N μ 25 (2 * g + j) = q at *
    generalize hvv : ps_N μ 26 (2 * g + j) = v at *
    refine ⟨by omega, fun z => absurd z (by omega), fun _ => ⟨by omega, fun z => ?_, fun z => ?_⟩⟩
    · have hqr : q ≠ r := fun w => z (by rw [w])
      have hwk : μ 17 (8 * q + r) = nI (ps_wk μ q r) ∧ ps_wk μ q r ≤ 50 := by unfold ps_wk; rw [if_neg hqr]; exact k3
      refine ⟨by omega, ?_⟩
      rw [hwk.1]
      refine c_M_width hM' hD hR hr wr ⟨by first | exact trivial | simp only [pv_st, hM], ?_⟩
      refine c_M_width hM' hD hR hr wr ?_
      simp only [pv_st, hM, eq_self, true_and, true_or, e]
      simp (disch := omega) only [pn_at, pn_cl, t3]
      refine ⟨by omega, ?_⟩
      refine c_M_width hM' hD hR t2 wq ⟨by first | exact trivial | simp only [pv_st, hM], ?_⟩
      refine c_M_width hM' hD hR t2 wq ?_
      rw [show (1 : Int32) = nI 1 from rfl]
      simp (disch := omega) only [pn_mul, pn_add, pn_sub, pn_lt]
      refine hb _ _ _ _ rfl (fun z1 => ?_) (fun z1 => ⟨fun z2 => ?_, fun z2 => ⟨fun z3 => ?_, fun z3 => ?_⟩⟩)
      · have := ihj (some (.inl (nI q))) (some (.inl (nI (ps_wk μ q r)))) (some (.inl (nI (w * ps_wd μ r)))) (some (.inl (nI (w * ps_wd μ r + ps_wd μ r - 1)))) (some (.inl (nI (v * ps_wd μ q)))) (some (.inl (nI (v * ps_wd μ q + ps_wd μ q - 1))))
        rw [z1, Bool.true_or] at this
        exact this
      · have := ihj (some (.inl (nI q))) (some (.inl (nI (ps_wk μ q r)))) (some (.inl (nI (w * ps_wd μ r)))) (some (.inl (nI (w * ps_wd μ r + ps_wd μ r - 1)))) (some (.inl (nI (v * ps_wd μ q)))) (some (.inl (nI (v * ps_wd μ q + ps_wd μ q - 1))))
        rw [z1, Bool.false_or, decide_eq_false (by omega), Bool.false_and] at this
        exact this
      · have := ihj (some (.inl (nI q))) (some (.inl (nI (ps_wk μ q r)))) (some (.inl (nI (w * ps_wd μ r)))) (some (.inl (nI (w * ps_wd μ r + ps_wd μ r - 1)))) (some (.inl (nI (v * ps_wd μ q)))) (some (.inl (nI (v * ps_wd μ q + ps_wd μ q - 1))))
        rw [z1, Bool.false_or, decide_eq_true (by omega), decide_eq_false (by omega), Bool.true_and] at this
        exact this
      · have := ihj (some (.inl (nI q))) (some (.inl (nI (ps_wk μ q r)))) (some (.inl (nI (w * ps_wd μ r)))) (some (.inl (nI (w * ps_wd μ r + ps_wd μ r - 1)))) (some (.inl (nI (v * ps_wd μ q)))) (some (.inl (nI (v * ps_wd μ q + ps_wd μ q - 1))))
        rw [z1, Bool.false_or, decide_eq_true (by omega), decide_eq_true (by omega), Bool.true_and] at this
        exact this
    · have hqr : q = r := by rw [pn_eq (by omega) (by omega)] at z; exact z
      have hwk : ps_wk μ q r = 0 := by unfold ps_wk; rw [if_pos hqr]
      refine c_M_width hM' hD hR hr wr ⟨by first | exact trivial | simp only [pv_st, hM], ?_⟩
      refine c_M_width hM' hD hR hr wr ?_
      simp only [pv_st, hM, eq_self, true_and, true_or, e]
      simp (disch := omega) only [pn_at, pn_cl, t3]
      refine ⟨by omega, ?_⟩
      refine c_M_width hM' hD hR t2 wq ⟨by first | exact trivial | simp only [pv_st, hM], ?_⟩
      refine c_M_width hM' hD hR t2 wq ?_
      rw [show (1 : Int32) = nI 1 from rfl]
      simp (disch := omega) only [pn_mul, pn_add, pn_sub, pn_lt, Int32.add_zero]
      rw [hwk] at ihj
      refine hb _ _ _ _ rfl (fun z1 => ?_) (fun z1 => ⟨fun z2 => ?_, fun z2 => ⟨fun z3 => ?_, fun z3 => ?_⟩⟩)
      · have := ihj (some (.inl (nI q))) (some (.inl 0)) (some (.inl (nI (w * ps_wd μ r)))) (some (.inl (nI (w * ps_wd μ r + ps_wd μ r - 1)))) (some (.inl (nI (v * ps_wd μ q)))) (some (.inl (nI (v * ps_wd μ q + ps_wd μ q - 1))))
        rw [z1, Bool.true_or] at this
        exact this
      · have := ihj (some (.inl (nI q))) (some (.inl 0)) (some (.inl (nI (w * ps_wd μ r)))) (some (.inl (nI (w * ps_wd μ r + ps_wd μ r - 1)))) (some (.inl (nI (v * ps_wd μ q)))) (some (.inl (nI (v * ps_wd μ q + ps_wd μ q - 1))))
        rw [z1, Bool.false_or, decide_eq_false (by omega), Bool.false_and] at this
        exact this
      · have := ihj (some (.inl (nI q))) (some (.inl 0)) (some (.inl (nI (w * ps_wd μ r)))) (some (.inl (nI (w * ps_wd μ r + ps_wd μ r - 1)))) (some (.inl (nI (v * ps_wd μ q)))) (some (.inl (nI (v * ps_wd μ q + ps_wd μ q - 1))))
        rw [z1, Bool.false_or, decide_eq_true (by omega), decide_eq_false (by omega), Bool.true_and] at this
        exact this
      · have := ihj (some (.inl (nI q))) (some (.inl 0)) (some (.inl (nI (w * ps_wd μ r)))) (some (.inl (nI (w * ps_wd μ r + ps_wd μ r - 1)))) (some (.inl (nI (v * ps_wd μ q)))) (some (.inl (nI (v * ps_wd μ q + ps_wd μ q - 1))))
        rw [z1, Bool.false_or, decide_eq_true (by omega), decide_eq_true (by omega), Bool.true_and] at this
        exact this
set_option maxHeartbeats 4000000 in
set_option maxRecDepth 100000 in
theorem c_M_overlaps {g r w : Nat} {k : Int32 → pw_Hp → Prop} (hM : ps_MS h) (hD : ps_Md R G m σ μ ρ) (hW : ps_Wf R G Nw μ ρ n) (hg : g < G) (hr : r < R) (hw : w ≤ 1100) (hk : k (if ps_ov μ g r w = true then 1 else 0) (pw_st h σ)) : pw_Ci 78 [.inr 7, .inl (nI g), .inl (nI r), .inl (nI w)] (pw_st h σ) k := by
  have e2 : (2 : Int32) * nI g = nI (2 * g) := pn_mul 2 g
  refine pw_intro (M := pm_M_overlaps) rfl (by decide) (Nat.le_of_ble_eq_true rfl) (ls := [some (.inr 7), some (.inl (nI g)), some (.inl (nI r)), some (.inl (nI w)), none, none, none, none, none, none, none, none]) rfl ?_
  refine pw_sound pw_tok pk_M_overlaps 400 _ _ _ _ _ _ ?_
  simp only [pv_all, pv_stp, pe_M_overlaps, pv_st, Nat.reduceAdd, eq_self, true_and, and_true, true_or, or_true, e2]
  exact c_M_overlaps_8 hM hD hW hg hr hw hk _ 0 none none none none none none (Nat.zero_add _)
end PMT
