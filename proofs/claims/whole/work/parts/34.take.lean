/-! ParkRows: taking and giving times. -/
def ps_wtt (μ : ps_S) (g r : Nat) : Int32 := if ps_N μ 20 g = 4 then -2 else if ps_N μ 24 g = 2 then -6 else match ps_ff μ g r (ps_N μ 7 0 / ps_wd μ r + 1) 40 with
  | some w => nI w
  | none => -3
def ps_tk (μ : ps_S) (g r w : Nat) : ps_S := ps_up (ps_addt μ g (ps_N μ 24 g) (nI r) (nI w)) 18 (1100 * r + w) (μ 18 (1100 * r + w) + μ 19 g)
def ps_take (μ : ps_S) (g r : Nat) : Int32 × ps_S := if ps_N μ 20 g = 4 then (-2, ps_ref μ 2) else if ps_N μ 24 g = 2 then (-6, ps_ref μ 6) else match ps_ff μ g r (ps_N μ 7 0 / ps_wd μ r + 1) 40 with
  | some w => (nI w, ps_tk μ g r w)
  | none => (-3, ps_ref μ 3)
def ps_free (μ : ps_S) (g r : Nat) : Int32 × ps_S := if ps_N μ 20 g = 4 then (-2, ps_ref μ 2) else if ps_N μ 24 g = 2 then (-6, ps_ref μ 6) else match ps_ff μ g r (ps_N μ 7 0 / ps_wd μ r + 1) 40 with
  | some w => (nI w, μ)
  | none => (-3, ps_ref μ 3)
def ps_gv (μ : ps_S) (g j : Nat) : ps_S := ps_drop (ps_up μ 18 (1100 * ps_N μ 25 (2 * g + j) + ps_N μ 26 (2 * g + j)) (μ 18 (1100 * ps_N μ 25 (2 * g + j) + ps_N μ 26 (2 * g + j)) - μ 19 g)) g j
theorem ps_ff_in {μ : ps_S} {g r : Nat} : ∀ (n w v : Nat), ps_ff μ g r w n = some v → w ≤ v ∧ v < w + n := by
  intro n
  induction n with
  | zero => intro w v h; cases h
  | succ n ih =>
    intro w v h
    unfold ps_ff at h
    split at h
    · cases h; omega
    · have := ih (w + 1) v h; omega
theorem ps_ovn_mono {μ : ps_S} {g r w : Nat} : ∀ (n m : Nat), n ≤ m → ps_ovn μ g r w n = true → ps_ovn μ g r w m = true := by
  intro n m h
  induction h with
  | refl => exact id
  | step _ ih => intro q; unfold ps_ovn; rw [ih q]; rfl
section PTK
variable {h : pw_Hp} {R G : Nat} {aR aG Nw : Nat → Nat} {σ μ : ps_S} {ρ : ps_P} {n : Nat}
theorem ps_wk_eq (hW : ps_Wf R G Nw μ ρ n) {r q : Nat} (hr : r < R) (hq : q < R) : μ 17 (8 * r + q) = nI (ps_wk μ q r) ∧ ps_wk μ q r ≤ 50 := by
  obtain ⟨k1, k2, k3⟩ := hW.2.2.2.2.2.1
  have hR := hW.1.1
  unfold ps_wk
  by_cases z : q = r
  · subst z
    rw [if_pos rfl, show 8 * q + q = 9 * q by omega]
    exact ⟨k2 q (by omega), by omega⟩
  · rw [if_neg z, k1 r q (by omega) (by omega)]
    exact k3 _ (by omega)
set_option maxHeartbeats 4000000 in
set_option maxRecDepth 100000 in
theorem c_P_overlaps {r w q v : Nat} {k : Int32 → pw_Hp → Prop} (hC : ps_CS h R G aR aG Nw) (hV : ps_Rv R G aR aG Nw σ μ ρ) (hW : ps_Wf R G Nw μ ρ n) (hr : r < R) (hq : q < R) (hw : w ≤ 1100) (hv : v ≤ 1100) (hk : k (if ps_ov1 μ r w q v = true then 1 else 0) (pw_st h σ)) : pw_Ci 72 [.inr 2, .inr (aR r), .inl (nI w), .inr (aR q), .inl (nI v)] (pw_st h σ) k := by
  have hT := hC.1.1
  have d2 := (hC.2.2.2.1 r hr).2.1
  have d3 := (hC.2.2.2.1 q hq).2.1
  have e2 := (hV.2.1 r hr).1
  have e3 := (hV.2.1 q hq).1
  have p2 := ps_wd_pos (hW.2.1 r hr).1
  have p3 := ps_wd_pos (hW.2.1 q hq).1
  obtain ⟨k1, k2⟩ := ps_wk_eq hW hr hq
  have m1 : w * ps_wd μ r ≤ 1100 * 300 := Nat.mul_le_mul hw p2.2.2.2
  have m2 : v * ps_wd μ q ≤ 1100 * 300 := Nat.mul_le_mul hv p3.2.2.2
  have hR8 := hC.2.1
  unfold ps_ov1 at hk
  refine pw_intro (M := pm_P_overlaps) rfl (by decide) (Nat.le_of_ble_eq_true rfl) (ls := [some (.inr 2), some (.inr (aR r)), some (.inl (nI w)), some (.inr (aR q)), some (.inl (nI v)), none]) rfl ?_
  refine pw_sound pw_tok pk_P_overlaps 400 _ _ _ _ _ _ ?_
  simp only [pv_all, pv_stp, pe_P_overlaps, pv_st, Nat.reduceAdd, eq_self, true_and, and_true, true_or, or_true, hT, d2.1, d3.1, e2.1, e3.1]
  refine c_P_walkBetween hC hV (by omega) (by omega) ⟨d2.1, ?_⟩
  refine c_D_lastTickOf d2 e2.2.2.2.2.2.1 (by omega) ⟨d3.1, ?_⟩
  refine c_D_firstTickOf d3 e3.2.2.2.2.2.1 ?_
  rw [k1, pn_add, pn_lt (by omega) (by omega)]
  refine ⟨fun z => ?_, fun z => ⟨d3.1, ?_⟩⟩
  · rw [decide_eq_false (by omega)] at hk
    exact hk
  · refine c_D_lastTickOf d3 e3.2.2.2.2.2.1 (by omega) ⟨d2.1, ?_⟩
    refine c_D_firstTickOf d2 e2.2.2.2.2.2.1 ?_
    rw [pn_add, pn_lt (by omega) (by omega)]
    rw [decide_eq_true (by omega)] at hk
    refine ⟨fun z2 => ?_, fun z2 => ?_⟩
    · rw [decide_eq_false (by omega)] at hk
      exact hk
    · rw [decide_eq_true (by omega)] at hk
      exact hk
set_option maxHeartbeats 4000000 in
set_option maxRecDepth 100000 in
theorem c_P_overlapsAny_3 {g r w : Nat} {k : Int32 → pw_Hp → Prop} (hC : ps_CS h R G aR aG Nw) (hV : ps_Rv R G aR aG Nw σ μ ρ) (hW : ps_Wf R G Nw μ ρ n) (hg : g < G) (hr : r < R) (hw : w ≤ 1100) (hk : k (if ps_ov μ g r w = true then 1 else 0) (pw_st h σ)) :
    ∀ (m j : Nat) (y : Option pw_A), j + m = ps_N μ 24 g → ps_ovn μ g r w j = false → pw_J pm_P_overlapsAny (pw_qi k) 3 [some (.inr 2), some (.inr (aG g)), some (.inr (aR r)), some (.inl (nI w)), some (.inl (nI j)), y] [] (pw_st h σ) 0 0 := by
  have hT := hC.1.1
  have s2 := (hC.2.2.2.2.1 g hg).2.1
  have s1 := s2.1
  obtain ⟨-, -, -, -, -, w6, w7, -, -, -, -, -, -, w8⟩ := hW.2.2.1 g hg
  obtain ⟨-, -, e4, -, -, -, -, -, -, -, e12⟩ := hV.2.2 g hg
  rw [w6] at e4
  intro m
  induction m with
  | zero =>
    intro j y hj hb
    refine pw_sound pw_tok pk_P_overlapsAny 400 _ _ _ _ _ _ ?_
    simp only [pv_all, pv_stp, pe_P_overlapsAny, pv_st, Nat.reduceAdd, eq_self, true_and, and_true, true_or, or_true, s1, e4]
    simp (disch := omega) only [pn_le]
    refine ⟨fun _ => ?_, fun z => absurd z (by omega)⟩
    unfold ps_ov at hk
    rw [← hj, Nat.add_zero, hb] at hk
    exact hk
  | succ m ih =>
    intro j y hj hb
    obtain ⟨t1, t2, t3, t4⟩ := w8 j (by omega)
    have e2 := e12 j (by omega)
    have hq := (hW.2.1 _ t2).1
    have hN := ps_Nw_le hq
    have a40 := (hC.2.2.2.1 _ t2).2.2.2.2.2.1
    refine pw_sound pw_tok pk_P_overlapsAny 400 _ _ _ _ _ _ ?_
    simp only [pv_all, pv_stp, pe_P_overlapsAny, pv_st, Nat.reduceAdd, eq_self, true_and, and_true, true_or, or_true, s1, e4]
    simp (disch := omega) only [pn_le]
    refine ⟨fun z => absurd z (by omega), fun _ => ?_⟩
    refine c_G_rideOfTime s2 e4 w7 (by omega) ⟨hT, ?_⟩
    rw [e2.1, t1]
    refine c_P_rideAt hC hV t2 ⟨fun z => absurd z (by omega), fun _ => ⟨s1, ?_⟩⟩
    refine c_G_windowOfTime s2 e4 w7 (by omega) ⟨hT, ?_⟩
    rw [e2.2, t3]
    refine c_P_overlaps hC hV hW hr t2 hw (by omega) ?_
    cases ho : ps_ov1 μ r w (ps_N μ 25 (2 * g + j)) (ps_N μ 26 (2 * g + j)) with
    | false =>
      refine ⟨fun _ => ?_, fun z => absurd rfl z⟩
      rw [nI_1]
      refine ih (j + 1) _ (by omega) ?_
      unfold ps_ovn
      rw [hb, ho]
      rfl
    | true =>
      refine ⟨fun z => absurd z (by decide), fun _ => ?_⟩
      have : ps_ov μ g r w = true := by
        refine ps_ovn_mono (j + 1) _ (by omega) ?_
        unfold ps_ovn
        rw [ho, Bool.or_true]
      rw [this] at hk
      exact hk
set_option maxHeartbeats 4000000 in
set_option maxRecDepth 100000 in
theorem c_P_overlapsAny {g r w : Nat} {k : Int32 → pw_Hp → Prop} (hC : ps_CS h R G aR aG Nw) (hV : ps_Rv R G aR aG Nw σ μ ρ) (hW : ps_Wf R G Nw μ ρ n) (hg : g < G) (hr : r < R) (hw : w ≤ 1100) (hk : k (if ps_ov μ g r w = true then 1 else 0) (pw_st h σ)) : pw_Ci 99 [.inr 2, .inr (aG g), .inr (aR r), .inl (nI w)] (pw_st h σ) k := by
  refine pw_intro (M := pm_P_overlapsAny) rfl (by decide) (Nat.le_of_ble_eq_true rfl) (ls := [some (.inr 2), some (.inr (aG g)), some (.inr (aR r)), some (.inl (nI w)), none, none]) rfl ?_
  refine pw_sound pw_tok pk_P_overlapsAny 400 _ _ _ _ _ _ ?_
  simp only [pv_all, pv_stp, pe_P_overlapsAny, pv_st, Nat.reduceAdd, eq_self, true_and, and_true, true_or, or_true]
  exact c_P_overlapsAny_3 hC hV hW hg hr hw hk _ 0 none (Nat.zero_add _) rfl
set_option maxHeartbeats 4000000 in
set_option maxRecDepth 100000 in
theorem c_P_windowToTake_46 {g r : Nat} {k : Int32 → pw_Hp → Prop} (hC : ps_CS h R G aR aG Nw) (hV : ps_Rv R G aR aG Nw σ μ ρ) (hW : ps_Wf R G Nw μ ρ n) (hg : g < G) (hr : r < R) :
    ∀ (m w : Nat), w + m = ps_N μ 7 0 / ps_wd μ r + 41 → k (match ps_ff μ g r w m with | some w => nI w | none => -3) (pw_st h σ) → pw_J pm_P_windowToTake (pw_qi k) 46 [some (.inr 2), some (.inr (aG g)), some (.inr (aR r)), some (.inl (nI (ps_N μ 7 0 / ps_wd μ r))), some (.inl (nI w))] [] (pw_st h σ) 0 0 := by
  have hT := hC.1.1
  have s1 := (hC.2.2.2.2.1 g hg).2.1.1
  have d2 := (hC.2.2.2.1 r hr).2.1
  have d1 := d2.1
  have e1 := (hV.2.2 g hg).2.1
  obtain ⟨wr, wN⟩ := hW.2.1 r hr
  have hN := ps_Nw_le wr
  have p2 := ps_wd_pos wr
  have tb := hW.1.2.2.2.1
  have hle : ps_N μ 7 0 / ps_wd μ r ≤ 5000 / ps_wd μ r := Nat.div_le_div_right tb
  obtain ⟨-, -, -, -, -, -, u9, u10, -⟩ := (hV.2.1 r hr).1
  have egv := (hV.2.1 r hr).2.2.2
  obtain ⟨-, -, x0, -, -, -, x1, x2, x3, x4, -⟩ := id wr
  rw [x1] at u9
  rw [x3] at u10
  intro m
  induction m with
  | zero =>
    intro w hw hk
    refine pw_sound pw_tok pk_P_windowToTake 400 _ _ _ _ _ _ ?_
    simp only [pv_all, pv_stp, pe_P_windowToTake, pv_st, Nat.reduceAdd, eq_self, true_and, and_true, true_or, or_true, s1, d1]
    simp (disch := omega) only [pn_c, pn_add, pn_lt]
    exact ⟨fun _ => hk, fun z => absurd z (by omega)⟩
  | succ m ih =>
    intro w hw hk
    have hlen : w < Nw r := by omega
    refine pw_sound pw_tok pk_P_windowToTake 400 _ _ _ _ _ _ ?_
    simp only [pv_all, pv_stp, pe_P_windowToTake, pv_st, Nat.reduceAdd, eq_self, true_and, and_true, true_or, or_true, s1, d1, e1]
    simp (disch := omega) only [pn_c, pn_add, pn_lt]
    refine ⟨fun z => absurd z (by omega), fun _ => ?_⟩
    refine c_D_hasRoom d2 (by omega) hlen u9 u10 (by omega) x4 ?_
    rw [egv w hlen]
    unfold ps_ff at hk
    have hfit : ps_fits μ g r w = decide (μ 18 (1100 * r + w) + μ 19 g ≤ nI (5 * ps_N μ 10 r - ps_N μ 11 r)) := rfl
    by_cases z : μ 18 (1100 * r + w) + μ 19 g ≤ nI (5 * ps_N μ 10 r - ps_N μ 11 r)
    · rw [if_pos z]
      refine ⟨fun q => absurd q (by decide), fun _ => ⟨hT, ?_⟩⟩
      refine c_P_overlapsAny hC hV hW hg hr (by omega) ?_
      rw [hfit, decide_eq_true z, Bool.true_and] at hk
      cases ho : ps_ov μ g r w with
      | true =>
        rw [ho] at hk
        refine ⟨fun _ => ?_, fun q => absurd q (by decide)⟩
        exact ih (w + 1) (by omega) hk
      | false =>
        rw [ho] at hk
        exact ⟨fun q => absurd rfl q, fun _ => hk⟩
    · rw [if_neg z]
      refine ⟨fun _ => ?_, fun q => absurd rfl q⟩
      rw [hfit, decide_eq_false z, Bool.false_and] at hk
      exact ih (w + 1) (by omega) hk
set_option maxHeartbeats 4000000 in
set_option maxRecDepth 100000 in
theorem c_P_windowToTake {g r : Nat} {k : Int32 → pw_Hp → Prop} (hC : ps_CS h R G aR aG Nw) (hV : ps_Rv R G aR aG Nw σ μ ρ) (hW : ps_Wf R G Nw μ ρ n) (hg : g < G) (hr : r < R) (hk : k (ps_wtt μ g r) (pw_st h σ)) : pw_Ci 104 [.inr 2, .inr (aG g), .inr (aR r)] (pw_st h σ) k := by
  have hT := hC.1.1
  have s1 := (hC.2.2.2.2.1 g hg).2.1.1
  have a40 := (hC.2.2.2.2.1 g hg).2.2.1
  have b40 := (hC.2.2.2.1 r hr).2.2.2.2.2.1
  have d2 := (hC.2.2.2.1 r hr).2.1
  have d1 := d2.1
  obtain ⟨-, e1, e4, e5, -⟩ := hV.2.2 g hg
  obtain ⟨-, -, -, w4, w5, w6, w7, -⟩ := hW.2.2.1 g hg
  obtain ⟨wr, wN⟩ := hW.2.1 r hr
  have p2 := ps_wd_pos wr
  have tb := hW.1.2.2.2.1
  have et := hV.1.2.2.2.2.1
  rw [hW.1.2.2.1] at et
  rw [w4] at e5
  rw [w6] at e4
  refine pw_intro (M := pm_P_windowToTake) rfl (by decide) (Nat.le_of_ble_eq_true rfl) (ls := [some (.inr 2), some (.inr (aG g)), some (.inr (aR r)), none, none]) rfl ?_
  refine pw_sound pw_tok pk_P_windowToTake 400 _ _ _ _ _ _ ?_
  simp only [pv_all, pv_stp, pe_P_windowToTake, pv_st, Nat.reduceAdd, eq_self, true_and, and_true, true_or, or_true, hT, s1, d1, e5, e4, et]
  simp (disch := omega) only [pn_c, pn_lt, pn_eq]
  unfold ps_wtt at hk
  refine ⟨fun z => absurd z (by omega), fun _ => ⟨fun _ => ⟨fun z => ?_, fun z => ?_⟩, fun z => absurd z (by omega)⟩⟩
  · rw [if_neg z] at hk
    refine ⟨fun z2 => ?_, fun z2 => ?_⟩
    · rw [if_neg (by omega)] at hk
      refine c_D_windowAt d2 (hV.2.1 r hr).1.2.2.2.2.2.1 (by omega) (by omega) tb ?_
      rw [show nI (ps_N μ 7 0 / ps_wd μ r) + nI 1 = nI (ps_N μ 7 0 / ps_wd μ r + 1) from pn_add _ _]
      exact c_P_windowToTake_46 hC hV hW hg hr 40 _ (by omega) hk
    · rw [if_pos (by omega)] at hk
      exact hk
  · rw [if_pos z] at hk
    exact hk
end PTK
