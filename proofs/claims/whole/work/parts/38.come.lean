/-! ParkRows: come, leave, go. -/
def ps_come (μ : ps_S) (ρ : ps_P) (g r : Nat) : Int32 × ps_S × ps_P := if ps_N μ 20 g ≠ 0 then (-2, ps_ref μ 2, ρ) else if 0 < ps_N μ 24 g ∧ ps_mt μ g r 0 = true then ps_cm μ ρ g r (ps_drop μ g 0) else if 1 < ps_N μ 24 g ∧ ps_mt μ g r 1 = true then ps_cm μ ρ g r (ps_drop μ g 1) else if ps_N μ 27 g = 0 then (-3, ps_ref μ 3, ρ) else ps_cm μ ρ g r (ps_up μ 27 g (μ 27 g - 1))
def ps_leave (μ : ps_S) (ρ : ps_P) (g : Nat) : Int32 × ps_S × ps_P := if ps_N μ 20 g = 1 ∨ ps_N μ 20 g = 2 then ps_lv μ ρ g else (-2, ps_ref μ 2, ρ)
theorem ps_mt_iff {μ : ps_S} {g r i : Nat} : ps_mt μ g r i = true ↔ μ 25 (2 * g + i) = nI r ∧ μ 26 (2 * g + i) = nI (ps_N μ 7 0 / ps_wd μ r) := by
  unfold ps_mt
  simp
theorem ps_idx {L : List Nat} {g : Nat} (h : g ∈ L) : L[L.idxOf g]? = some g ∧ (∀ j, j < L.idxOf g → L[j]? ≠ some g) ∧ L.idxOf g < L.length ∧ L.eraseIdx (L.idxOf g) = L.erase g := by
  have h1 : L.idxOf g < L.length := List.idxOf_lt_length_of_mem h
  refine ⟨?_, fun j hj => ?_, h1, (List.erase_eq_eraseIdx_of_idxOf rfl).symm⟩
  · rw [List.getElem?_eq_getElem h1]
    congr 1
    exact List.getElem_idxOf h1
  · intro q
    have hjl : j < L.length := by omega
    rw [List.getElem?_eq_getElem hjl] at q
    have q2 : L[j] = g := Option.some.inj q
    have := List.not_of_lt_findIdx (p := fun x => x == g) (xs := L) (i := j) hj
    simp at this
    exact this q2
section PCM
variable {h : pw_Hp} {R G : Nat} {aR aG Nw : Nat → Nat} {σ μ : ps_S} {ρ : ps_P} {n : Nat}
set_option maxHeartbeats 4000000 in
set_option maxRecDepth 100000 in
theorem c_P_come_b {x y : Int32} {k : Int32 → pw_Hp → Prop} (hC : ps_CS h R G aR aG Nw) (hV : ps_Rv R G aR aG Nw σ μ ρ) (hb : ps_bad2 G R x y) (hk : ∀ τ, ps_Rv R G aR aG Nw τ (ps_ref μ 1) ρ → ps_Off σ τ → k (-1) (pw_st h τ)) : pw_Ci 96 [.inr 2, .inl x, .inl y] (pw_st h σ) k := by
  have hT := hC.1.1
  refine pw_intro (M := pm_P_come) rfl (by decide) (Nat.le_of_ble_eq_true rfl) (ls := [some (.inr 2), some (.inl x), some (.inl y), none, none, none]) rfl ?_
  refine pw_sound pw_tok pk_P_come 400 _ _ _ _ _ _ ?_
  simp only [pv_all, pv_stp, pe_P_come, pv_st, Nat.reduceAdd, eq_self, true_and, and_true, true_or, or_true, hT]
  refine c_P_two hC hV hb (fun a b hab => ?_)
  have ref := c_P_ref (k := k) hC hV (x := -1) (c := 0) (by decide) (by decide) hk
  exact ⟨fun _ => ⟨hT, ref⟩, fun q => ⟨fun q2 => absurd hab (fun z => z.elim q q2), fun _ => ⟨hT, ref⟩⟩⟩
set_option maxHeartbeats 4000000 in
set_option maxRecDepth 100000 in
theorem c_P_come {g r : Nat} {k : Int32 → pw_Hp → Prop} (hC : ps_CS h R G aR aG Nw) (hV : ps_Rv R G aR aG Nw σ μ ρ) (hW : ps_Wf R G Nw μ ρ n) (hn : n < 100000) (hg : g < G) (hr : r < R) (hk : ∀ τ, ps_Rv R G aR aG Nw τ (ps_come μ ρ g r).2.1 (ps_come μ ρ g r).2.2 → ps_Off σ τ → k (ps_come μ ρ g r).1 (pw_st h τ)) : pw_Ci 96 [.inr 2, .inl (nI g), .inl (nI r)] (pw_st h σ) k := by
  have hT := hC.1.1
  obtain ⟨-, s2, a40, -⟩ := hC.2.2.2.2.1 g hg
  obtain ⟨-, d2, w1, w3, -, b40, -⟩ := hC.2.2.2.1 r hr
  obtain ⟨m1, m2, m3, w4, w5, w6, w7, w8, w9, -⟩ := hW.2.2.1 g hg
  obtain ⟨wr, -⟩ := hW.2.1 r hr
  have p2 := ps_wd_pos wr
  have tb := hW.1.2.2.2.1
  obtain ⟨-, e1, e4, e5, -, -, e8, -, -, -, e12⟩ := hV.2.2 g hg
  obtain ⟨u0, -, -, -, -, u5, -⟩ := (hV.2.1 r hr).1
  have et := hV.1.2.2.2.2.1
  rw [hW.1.2.2.1] at et
  have hlay := hC.2.2.2.2.2.2.2 r g hr hg
  have e4' : σ (aG g) 4 = nI (ps_N μ 24 g) := by rw [e4]; exact w6
  have e5' : σ (aG g) 5 = nI (ps_N μ 20 g) := by rw [e5]; exact w4
  have e8' : σ (aG g) 8 = nI (ps_N μ 27 g) := by rw [e8]; exact w8
  have key : ∀ μ1 σ1, ps_N μ 20 g = 0 → ps_Rv R G aR aG Nw σ1 μ1 ρ → ps_Off σ σ1 → (∀ τ, ps_Rv R G aR aG Nw τ (ps_cm μ ρ g r μ1).2.1 (ps_cm μ ρ g r μ1).2.2 → ps_Off σ τ → k (ps_cm μ ρ g r μ1).1 (pw_st h τ)) → pw_Cv 0 [.inr (aG g), .inl 2, .inl (nI r)] (pw_st h σ1) (fun h' => pw_k h' (aR r) = 11 ∧ pw_k h' (aG g) = 10 ∧ pw_k h' (pw_r h' (aR r) 7) = 12 ∧ pw_Ci 10 [.inr (pw_r h' (aR r) 7), .inl (pw_i h' (aG g) 0)] h' k) := by
    intro μ1 σ1 h0 hV1 hO hk1
    obtain ⟨l1, -⟩ := ps_row_lt hW hr (b := 1) (by decide) hg (by rw [w4, h0]; decide)
    exact c_into (b := 1) hC hV1 hg hr (by decide) l1 (fun τ hτ ho => hk1 τ hτ (ps_Off_tr hO ho))
  refine pw_intro (M := pm_P_come) rfl (by decide) (Nat.le_of_ble_eq_true rfl) (ls := [some (.inr 2), some (.inl (nI g)), some (.inl (nI r)), none, none, none]) rfl ?_
  refine pw_sound pw_tok pk_P_come 400 _ _ _ _ _ _ ?_
  simp only [pv_all, pv_stp, pe_P_come, pv_st, Nat.reduceAdd, eq_self, true_and, and_true, true_or, or_true, hT]
  refine c_P_groupAt hC hV hg ⟨hT, ?_⟩
  refine c_P_rideAt hC hV hr ⟨fun q => absurd q (by omega), fun _ => ⟨fun _ => ⟨s2.1, ?_⟩, fun q => absurd q (by omega)⟩⟩
  simp only [pv_st, s2.1, d2.1, hT, e5', u0, et, true_and]
  rw [show (nI (ps_N μ 20 g) = (0 : Int32)) = (ps_N μ 20 g = 0) from pn_eq (b := 0) (by omega) (by omega)]
  unfold ps_come at hk
  refine ⟨fun q => ?_, fun q => ?_⟩
  · rw [if_neg (fun z => z q)] at hk
    refine c_D_windowAt d2 u5 (by omega) (by omega) tb ⟨s2.1, ?_⟩
    have hdrop : ∀ j, j < ps_N μ 24 g → (∀ τ, ps_Rv R G aR aG Nw τ (ps_cm μ ρ g r (ps_drop μ g j)).2.1 (ps_cm μ ρ g r (ps_drop μ g j)).2.2 → ps_Off σ τ → k (ps_cm μ ρ g r (ps_drop μ g j)).1 (pw_st h τ)) → pw_Cv 35 [.inr (aG g), .inl (nI j)] (pw_st h σ) (fun h' => pw_k h' (aR r) = 11 ∧ pw_k h' (aG g) = 10 ∧ pw_Cv 0 [.inr (aG g), .inl 2, .inl (pw_i h' (aR r) 0)] h' (fun h' => pw_k h' (aR r) = 11 ∧ pw_k h' (aG g) = 10 ∧ pw_k h' (pw_r h' (aR r) 7) = 12 ∧ pw_Ci 10 [.inr (pw_r h' (aR r) 7), .inl (pw_i h' (aG g) 0)] h' k)) := by
      intro j hj hkj
      refine c_G_dropTime s2 e4' w7 hj ⟨d2.1, s2.1, ?_⟩
      have hV1 := ru_drop hC hV hg (ps_t2 hW) w6 w7 hj
      have e0 := (hV1.2.1 r hr).1.1
      simp only [pv_st, e0]
      refine key _ _ q hV1 ?_ hkj
      intro f f1 f2
      unfold ps_gdrop
      split
      · rw [ps_up_f (by omega), ps_up_f (by omega), ps_up_f (by omega)]
      · rw [ps_up_f (by omega)]
    refine c_G_placeOfTime s2 e4' w7 (fun j hj q1 q2 q3 => ⟨s2.1, ?_⟩) (fun hno => ⟨s2.1, ?_⟩)
    · refine c_G_hasTime_y s2 e4' w7 hj ⟨fun z => absurd z (by decide), fun _ => ⟨s2.1, ?_⟩⟩
      have ej := e12 j hj
      have hmj : ps_mt μ g r j = true := ps_mt_iff.mpr ⟨ej.1.symm.trans q1, ej.2.symm.trans q2⟩
      refine hdrop j hj ?_
      rcases (show j = 0 ∨ j = 1 by omega) with rfl | rfl
      · rw [if_pos ⟨hj, hmj⟩] at hk
        exact hk
      · have hm0 : ¬ (0 < ps_N μ 24 g ∧ ps_mt μ g r 0 = true) := fun z => q3 0 (by decide) (by
          have e0 := e12 0 z.1
          have z2 := ps_mt_iff.mp z.2
          exact ⟨e0.1.trans z2.1, e0.2.trans z2.2⟩)
        rw [if_neg hm0, if_pos ⟨hj, hmj⟩] at hk
        exact hk
    · refine c_G_hasTime_n s2 e4' (Or.inl (by decide)) ⟨fun _ => ⟨s2.1, ?_⟩, fun z => absurd rfl z⟩
      have hm : ∀ j, ¬ (j < ps_N μ 24 g ∧ ps_mt μ g r j = true) := fun j z => hno j z.1 (by
        have e0 := e12 j z.1
        have z2 := ps_mt_iff.mp z.2
        exact ⟨e0.1.trans z2.1, e0.2.trans z2.2⟩)
      rw [if_neg (hm 0), if_neg (hm 1)] at hk
      simp only [pv_st, s2.1, d2.1, hT, e8', true_and]
      rw [show (nI (ps_N μ 27 g) ≤ (0 : Int32)) = (ps_N μ 27 g ≤ 0) from pn_le (b := 0) (by omega) (by omega)]
      refine ⟨fun z => ?_, fun z => ?_⟩
      · rw [if_pos (by omega)] at hk
        exact c_P_ref hC hV (c := 2) (by decide) (by decide) hk
      · rw [if_neg (by omega)] at hk
        have hV1 := ru_G8 (x := μ 27 g - 1) hC hV hg
        have e0 := (hV1.2.1 r hr).1.1
        rw [show nI (ps_N μ 27 g) - 1 = μ 27 g - 1 from by rw [← w8], e0]
        exact key _ _ q hV1 (ps_Off_up (by omega)) hk
  · rw [if_pos q] at hk
    exact c_P_ref hC hV (c := 1) (by decide) (by decide) hk
set_option maxHeartbeats 4000000 in
set_option maxRecDepth 100000 in
theorem c_P_leave_b {x : Int32} {k : Int32 → pw_Hp → Prop} (hC : ps_CS h R G aR aG Nw) (hV : ps_Rv R G aR aG Nw σ μ ρ) (hb : x < 0 ∨ nI G ≤ x) (hk : ∀ τ, ps_Rv R G aR aG Nw τ (ps_ref μ 1) ρ → ps_Off σ τ → k (-1) (pw_st h τ)) : pw_Ci 66 [.inr 2, .inl x] (pw_st h σ) k := by
  have hT := hC.1.1
  refine pw_intro (M := pm_P_leave) rfl (by decide) (Nat.le_of_ble_eq_true rfl) (ls := [some (.inr 2), some (.inl x), none, none, none]) rfl ?_
  refine pw_sound pw_tok pk_P_leave 400 _ _ _ _ _ _ ?_
  simp only [pv_all, pv_stp, pe_P_leave, pv_st, Nat.reduceAdd, eq_self, true_and, and_true, true_or, or_true, hT]
  exact c_P_groupAt_o hC hV hb ⟨fun q => absurd rfl q, fun _ => ⟨hT, c_P_ref hC hV (c := 0) (by decide) (by decide) hk⟩⟩
set_option maxHeartbeats 4000000 in
set_option maxRecDepth 100000 in
theorem c_P_leave {g : Nat} {k : Int32 → pw_Hp → Prop} (hC : ps_CS h R G aR aG Nw) (hV : ps_Rv R G aR aG Nw σ μ ρ) (hW : ps_Wf R G Nw μ ρ n) (hg : g < G) (hk : ∀ τ, ps_Rv R G aR aG Nw τ (ps_leave μ ρ g).2.1 (ps_leave μ ρ g).2.2 → ps_Off σ τ → k (ps_leave μ ρ g).1 (pw_st h τ)) : pw_Ci 66 [.inr 2, .inl (nI g)] (pw_st h σ) k := by
  have hT := hC.1.1
  have hG60 := hC.2.2.1
  obtain ⟨-, s2, a40, -⟩ := hC.2.2.2.2.1 g hg
  obtain ⟨m1, m2, m3, w4, w5, w6, w7, w8, w9, -, -, w11, -⟩ := hW.2.2.1 g hg
  obtain ⟨e0, e1, e4, e5, e6, -⟩ := hV.2.2 g hg
  refine pw_intro (M := pm_P_leave) rfl (by decide) (Nat.le_of_ble_eq_true rfl) (ls := [some (.inr 2), some (.inl (nI g)), none, none, none]) rfl ?_
  refine pw_sound pw_tok pk_P_leave 400 _ _ _ _ _ _ ?_
  simp only [pv_all, pv_stp, pe_P_leave, pv_st, Nat.reduceAdd, eq_self, true_and, and_true, true_or, or_true, hT]
  refine c_P_groupAt hC hV hg ⟨fun _ => ⟨hT, ?_⟩, fun q => absurd q (by omega)⟩
  unfold ps_leave at hk
  by_cases hd : ps_N μ 20 g = 1 ∨ ps_N μ 20 g = 2
  · rw [if_pos hd] at hk
    unfold ps_lv at hk
    obtain ⟨v1, hr⟩ := w11 (by omega) (by omega)
    generalize hre : ps_N μ 21 g = r at hk v1 hr
    obtain ⟨b, hb, hbe⟩ : ∃ b, b < 2 ∧ ps_N μ 20 g = b + 1 := ⟨ps_N μ 20 g - 1, by omega, by omega⟩
    have h20 : μ 20 g = nI (b + 1) := by rw [w4, hbe]
    rw [hbe, Nat.add_sub_cancel] at hk
    obtain ⟨-, d2, w1, w3, -, b40, -⟩ := hC.2.2.2.1 r hr
    have hlay := hC.2.2.2.2.2.2.2 r g hr hg
    obtain ⟨l1, l2⟩ := hW.2.2.2.1 r b hr hb
    have hmem : g ∈ ρ (2 * r + b) := (l2 g).mpr ⟨hg, h20, v1⟩
    obtain ⟨i1, i2, i3, i4⟩ := ps_idx hmem
    have hws : ps_WS h (aR r + 1 + 2 * b) := by
      rcases (show b = 0 ∨ b = 1 by omega) with rfl | rfl
      · exact w1
      · exact w3
    have hRw : ps_Rw σ (aR r + 1 + 2 * b) (ρ (2 * r + b)) := by
      have q := hV.2.1 r hr
      rcases (show b = 0 ∨ b = 1 by omega) with rfl | rfl
      · exact q.2.1
      · exact q.2.2.1
    refine c_P_rowOf hC hV hg hr hb h20 v1 ⟨fun _ => ⟨s2.1, s2.1, hws.1, ?_⟩, fun q => absurd q (by omega)⟩
    simp only [pv_st, e0, e6]
    refine c_W_placeOf hws hRw (fun x hx => by have := ((l2 x).mp hx).1; omega) (by omega) i1 i2 ⟨hws.1, ?_⟩
    refine c_W_removeAt hws hRw i3 (fun τ ht1 ht2 => ⟨s2.1, ?_⟩)
    rw [i4] at ht1
    have hV1 := ru_row hC hV hr hb ht1 ht2
    refine c_G_turnTo s2 (hk _ (ru_G6 hC (ru_G5 hC hV1 hg) hg) ?_)
    intro f f1 f2
    rw [ps_up_f (by omega), ps_up_f (by omega)]
    exact ht2 f (by omega) (by omega)
  · rw [if_neg hd] at hk
    refine c_P_rowOf_o hC hV hW hg (by omega) (by omega) ⟨fun q => absurd rfl q, fun _ => ⟨hT, c_P_ref hC hV (c := 1) (by decide) (by decide) hk⟩⟩
end PCM
