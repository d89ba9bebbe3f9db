/-! What is made at the start. -/
def ps_pi (H : pw_Hp) : pw_Hp := pw_wr (pw_nw (pw_wr (pw_nw (pw_wr (pw_nw (pw_wr (pw_nw H 3 8) 2 0 3) 4 60) 2 1 4) 1 64) 2 2 5) 1 6) 2 3 6
def ps_mi (H : pw_Hp) : pw_Hp := pw_wr (pw_nw (pw_wr (pw_nw (pw_wr (pw_nw (pw_wr (pw_nw (pw_wr (pw_nw (pw_wr (pw_nw (pw_wr (pw_nw (pw_wr (pw_nw (pw_wr (pw_nw (pw_wr (pw_nw (pw_wr (pw_nw (pw_wr (pw_nw (pw_wr (pw_nw (pw_wr (pw_nw (pw_wr (pw_nw (pw_wr (pw_nw (pw_wr (pw_nw (pw_wr (pw_nw (pw_wr (pw_nw (pw_wr (pw_nw (pw_wr (pw_nw (pw_wr (pw_nw (pw_wr (pw_nw (pw_wr (pw_nw H 1 8) 7 3 8) 1 8) 7 4 9) 1 8) 7 5 10) 1 8) 7 6 11) 1 8) 7 7 12) 2 8) 7 8 13) 1 8) 7 9 14) 1 8) 7 10 15) 1 8) 7 11 16) 1 64) 7 12 17) 1 8800) 7 13 18) 1 60) 7 15 19) 1 60) 7 16 20) 1 60) 7 17 21) 1 60) 7 18 22) 1 60) 7 20 23) 1 60) 7 21 24) 1 120) 7 22 25) 1 120) 7 23 26) 1 60) 7 24 27) 1 60) 7 25 28) 1 60) 7 26 29) 1 60) 7 27 30) 1 7) 7 28 31
theorem ps_cl : (8 : Int32).toNatClampNeg = 8 ∧ (60 : Int32).toNatClampNeg = 60 ∧ (64 : Int32).toNatClampNeg = 64 ∧ (6 : Int32).toNatClampNeg = 6 ∧ (7 : Int32).toNatClampNeg = 7 ∧ (120 : Int32).toNatClampNeg = 120 ∧ (8800 : Int32).toNatClampNeg = 8800 ∧ ¬ (8 : Int32) < 0 ∧ ¬ (60 : Int32) < 0 ∧ ¬ (64 : Int32) < 0 ∧ ¬ (6 : Int32) < 0 ∧ ¬ (7 : Int32) < 0 ∧ ¬ (120 : Int32) < 0 ∧ ¬ (8800 : Int32) < 0 := by decide
section PIN
set_option maxHeartbeats 4000000 in
set_option maxRecDepth 100000 in
theorem c_P_init {H : pw_Hp} {k : pw_Hp → Prop} (h1 : H.1 = 1) (h7 : pw_k H 2 = 13) (hk : k (ps_pi H)) : pw_Cv 41 [.inr 2] H k := by
  unfold ps_pi at hk
  refine pw_intro (M := pm_P_init) rfl (by decide) (Nat.le_of_ble_eq_true rfl) (ls := [some (.inr 2)]) rfl ?_
  refine pw_sound pw_tok pk_P_init 400 _ _ _ _ _ _ ?_
  simp only [pv_all, pv_stp, pe_P_init, pv_st, Nat.reduceAdd, eq_self, true_and, and_true, true_or, or_true, pa_all, pa_nk, h1, h7, Nat.reduceAdd, Nat.reduceEqDiff, ite_false, ite_true, ps_cl, not_false_eq_true, Nat.reduceSub, Nat.reduceLeDiff]
  exact hk
set_option maxHeartbeats 4000000 in
set_option maxRecDepth 100000 in
theorem c_M_init {H : pw_Hp} {k : pw_Hp → Prop} (h1 : H.1 = 6) (h7 : pw_k H 7 = 14) (hk : k (ps_mi H)) : pw_Cv 53 [.inr 7] H k := by
  unfold ps_mi at hk
  refine pw_intro (M := pm_M_init) rfl (by decide) (Nat.le_of_ble_eq_true rfl) (ls := [some (.inr 7)]) rfl ?_
  refine pw_sound pw_tok pk_M_init 400 _ _ _ _ _ _ ?_
  simp only [pv_all, pv_stp, pe_M_init, pv_st, Nat.reduceAdd, eq_self, true_and, and_true, true_or, or_true, pa_all, pa_nk, h1, h7, Nat.reduceAdd, Nat.reduceEqDiff, ite_false, ite_true, ps_cl, not_false_eq_true, Nat.reduceSub, Nat.reduceLeDiff]
  exact hk
end PIN
