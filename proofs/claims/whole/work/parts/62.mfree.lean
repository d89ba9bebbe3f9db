section PMF
variable {h : pw_Hp} {R G m n : Nat} {Nw : Nat → Nat} {σ μ : ps_S} {ρ : ps_P}
set_option maxHeartbeats 4000000 in
set_option maxRecDepth 100000 in
theorem c_M_firstFree_16 {g r : Nat} {k : Int32 → pw_Hp → Prop} (hM : ps_MS h) (hD : ps_Md R G m σ μ ρ) (hW : ps_Wf R G Nw μ ρ n) (hg : g < G) (hr : r < R) :
    ∀ (c w : Nat), w + c = ps_N μ 7 0 / ps_wd μ r + 41 → k (match ps_ff μ g r w c with | some w => nI w | none => -3) (pw_st h σ) → pw_J pm_M_firstFree (pw_qi k) 16 [some (.inr 7), some (.inl (nI g)), some (.inl (nI r)), some (.inl (nI (ps_N μ 7 0 / ps_wd μ r))), some (.inl (nI w))] [] (pw_st h σ) 0 0 := by
  have hM' := hM
  have hR := hW.1.1
  have hG := hW.1.2.1
  have wr := (hW.2.1 r hr).1
  have hN := ps_Nw_le wr
  have tb := hW.1.2.2.2.1
  have hdiv : ps_N μ 7 0 / ps_wd μ r ≤ 5000 / ps_wd μ r := Nat.div_le_div_right tb
  unfold ps_MS at hM
  have e40 : nI (ps_N μ 7 0 / ps_wd μ r) + (40 : Int32) = nI (ps_N μ 7 0 / ps_wd μ r + 40) := pn_add _ 40
  intro c
  induction c with
  | zero =>
    intro w hw hk
    refine pw_sound pw_tok pk_M_firstFree 400 _ _ _ _ _ _ ?_
    simp only [pv_all, pv_stp, pe_M_firstFree, pv_st, Nat.reduceAdd, eq_self, true_and, and_true, true_or, or_true, hM, e40]
    simp (disch := omega) only [pn_lt]
    exact ⟨fun _ => hk, fun z => absurd z (by omega)⟩
  | succ c ih =>
    intro w hw hk
    unfold ps_ff at hk
    refine pw_sound pw_tok pk_M_firstFree 400 _ _ _ _ _ _ ?_
    simp only [pv_all, pv_stp, pe_M_firstFree, pv_st, Nat.reduceAdd, eq_self, true_and, and_true, true_or, or_true, hM, e40]
    simp (disch := omega) only [pn_lt]
    refine ⟨fun z => absurd z (by omega), fun _ => ?_⟩
    refine c_M_fits hM' hD hR hG hg hr wr (by omega) ?_
    have nx : k (match ps_ff μ g r (w + 1) c with | some w => nI w | none => -3) (pw_st h σ) → pw_J pm_M_firstFree (pw_qi k) 16 [some (.inr 7), some (.inl (nI g)), some (.inl (nI r)), some (.inl (nI (ps_N μ 7 0 / ps_wd μ r))), some (.inl (nI w + 1))] [] (pw_st h σ) 0 0 := fun z => by
      rw [nI_1]
      exact ih (w + 1) (by omega) z
    cases hf : ps_fits μ g r w with
    | false =>
      rw [hf, Bool.false_and, if_neg (by decide)] at hk
      exact ⟨fun _ => nx hk, fun z => absurd rfl z⟩
    | true =>
      rw [hf, Bool.true_and] at hk
      refine ⟨fun z => absurd z (by decide), fun _ => ?_⟩
      simp only [pv_st, hM, eq_self, true_and]
      refine c_M_overlaps hM' hD hW hg hr (by omega) ?_
      cases ho : ps_ov μ g r w with
      | false =>
        rw [ho, Bool.not_false, if_pos rfl] at hk
        exact ⟨fun z => absurd rfl z, fun _ => hk⟩
      | true =>
        rw [ho, if_neg (by decide)] at hk
        exact ⟨fun _ => nx hk, fun z => absurd z (by decide)⟩
set_option maxHeartbeats 4000000 in
set_option maxRecDepth 100000 in
theorem c_M_firstFree {g r : Nat} {k : Int32 → pw_Hp → Prop} (hM : ps_MS h) (hD : ps_Md R G m σ μ ρ) (hW : ps_Wf R G Nw μ ρ n) (hg : g < G) (hr : r < R) (hk : k (match ps_ff μ g r (ps_N μ 7 0 / ps_wd μ r + 1) 40 with | some w => nI w | none => -3) (pw_st h σ)) : pw_Ci 102 [.inr 7, .inl (nI g), .inl (nI r)] (pw_st h σ) k := by
  have hM' := hM
  have hR := hW.1.1
  have wr := (hW.2.1 r hr).1
  have p := ps_wd_pos wr
  have tb := hW.1.2.2.2.1
  have et := hD.2.1.1
  rw [hW.1.2.2.1] at et
  unfold ps_MS at hM
  refine pw_intro (M := pm_M_firstFree) rfl (by decide) (Nat.le_of_ble_eq_true rfl) (ls := [some (.inr 7), some (.inl (nI g)), some (.inl (nI r)), none, none]) rfl ?_
  refine pw_sound pw_tok pk_M_firstFree 400 _ _ _ _ _ _ ?_
  simp only [pv_all, pv_stp, pe_M_firstFree, pv_st, Nat.reduceAdd, eq_self, true_and, and_true, true_or, or_true, hM, et]
  refine c_M_width hM' hD hR hr wr ?_
  have h0 : ¬ nI (ps_wd μ r) = 0 := by rw [show (0 : Int32) = nI 0 from rfl, pn_eq (by omega) (by omega)]; omega
  rw [pn_div (by omega) (by omega) (by omega), nI_1]
  exact ⟨h0, c_M_firstFree_16 hM' hD hW hg hr 40 _ (by omega) hk⟩
set_option maxHeartbeats 4000000 in
set_option maxRecDepth 100000 in
theorem c_M_lack_b {x y : Int32} {k : Int32 → pw_Hp → Prop} (hM : ps_MS h) (hD : ps_Md R G m σ μ ρ) (hR : R ≤ 8) (hG : G ≤ 60) (hb : ps_bad2 G R x y) (hk : k (-1) (pw_st h σ)) : pw_Ci 79 [.inr 7, .inl x, .inl y] (pw_st h σ) k := by
  have hM' := hM
  unfold ps_MS at hM
  refine pw_intro (M := pm_M_lackOfTaking) rfl (by decide) (Nat.le_of_ble_eq_true rfl) (ls := [some (.inr 7), some (.inl x), some (.inl y)]) rfl ?_
  refine pw_sound pw_tok pk_M_lackOfTaking 400 _ _ _ _ _ _ ?_
  simp only [pv_all, pv_stp, pe_M_lackOfTaking, pv_st, Nat.reduceAdd, eq_self, true_and, and_true, true_or, or_true, hM]
  rcases ps_cases x G (by omega) with z | ⟨g, hg, rfl⟩
  · exact c_M_isGroup_o hM' hD hG z ⟨fun _ => hk, fun q => absurd rfl q⟩
  · refine c_M_isGroup hM' hD hG hg ⟨fun q => absurd q (by decide), fun _ => ?_⟩
    simp only [pv_st, hM, eq_self, true_and]
    rcases hb with hb | hb
    · exact absurd hb (fun z => absurd rfl (pn_out z (by omega) g hg))
    · exact c_M_isRide_o hM' hD hR hb ⟨fun q => absurd rfl q, fun _ => hk⟩
set_option maxHeartbeats 4000000 in
set_option maxRecDepth 100000 in
theorem c_M_lack {g r : Nat} {k : Int32 → pw_Hp → Prop} (hM : ps_MS h) (hD : ps_Md R G m σ μ ρ) (hW : ps_Wf R G Nw μ ρ n) (hg : g < G) (hr : r < R) (hk : k (if ps_N μ 20 g = 4 then -2 else if ps_N μ 24 g = 2 then -6 else 0) (pw_st h σ)) : pw_Ci 79 [.inr 7, .inl (nI g), .inl (nI r)] (pw_st h σ) k := by
  have hM' := hM
  have e := (ps_Md_e hD).2
  have hR := hW.1.1
  have hG := hW.1.2.1
  obtain ⟨-, -, -, w4, w5, w6, w7, -⟩ := hW.2.2.1 g hg
  unfold ps_MS at hM
  refine pw_intro (M := pm_M_lackOfTaking) rfl (by decide) (Nat.le_of_ble_eq_true rfl) (ls := [some (.inr 7), some (.inl (nI g)), some (.inl (nI r))]) rfl ?_
  refine pw_sound pw_tok pk_M_lackOfTaking 400 _ _ _ _ _ _ ?_
  simp only [pv_all, pv_stp, pe_M_lackOfTaking, pv_st, Nat.reduceAdd, eq_self, true_and, and_true, true_or, or_true, hM]
  refine c_M_isGroup hM' hD hG hg ⟨fun q => absurd q (by decide), fun _ => ?_⟩
  simp only [pv_st, hM, eq_self, true_and]
  refine c_M_isRide hM' hD hR hr ⟨fun _ => ?_, fun q => absurd q (by decide)⟩
  simp only [pv_st, hM, eq_self, true_and, true_or, e]
  simp (disch := omega) only [pn_at, pn_cl, w4, w6, pn_c, pn_eq]
  refine ⟨by omega, fun q => ⟨by omega, fun q2 => ?_, fun q2 => ?_⟩, fun q => ?_⟩
  · rw [if_neg q, if_neg q2] at hk; exact hk
  · rw [if_neg q, if_pos q2] at hk; exact hk
  · rw [if_pos q] at hk; exact hk
end PMF
