/-! ParkRows: wait, go. -/
def ps_wti : Option Nat → Int32
  | some m => nI m
  | none => -3
theorem ps_wait_eq (μ : ps_S) (ρ : ps_P) (g : Nat) (h : ps_N μ 20 g = 1) : ps_wait μ ρ g = (ps_wti (ps_wt μ g (ps_N μ 8 (ps_N μ 21 g) - ps_N μ 10 (ps_N μ 21 g)) (ρ (2 * ps_N μ 21 g)) (ps_N μ 8 (ps_N μ 21 g) - ps_N μ 10 (ps_N μ 21 g)) 1), if (ps_wt μ g (ps_N μ 8 (ps_N μ 21 g) - ps_N μ 10 (ps_N μ 21 g)) (ρ (2 * ps_N μ 21 g)) (ps_N μ 8 (ps_N μ 21 g) - ps_N μ 10 (ps_N μ 21 g)) 1).isSome = true then μ else ps_ref μ 3) := by
  unfold ps_wait
  rw [if_neg (by omega)]
  cases ps_wt μ g (ps_N μ 8 (ps_N μ 21 g) - ps_N μ 10 (ps_N μ 21 g)) (ρ (2 * ps_N μ 21 g)) (ps_N μ 8 (ps_N μ 21 g) - ps_N μ 10 (ps_N μ 21 g)) 1 with
  | some m => rfl
  | none => rfl
section PWT
variable {h : pw_Hp} {R G : Nat} {aR aG Nw : Nat → Nat} {σ μ : ps_S} {ρ : ps_P} {n : Nat}
set_option maxHeartbeats 4000000 in
set_option maxRecDepth 100000 in
theorem c_P_roundsTillOn_19 {g r p al : Nat} {k : Int32 → pw_Hp → Prop} (hC : ps_CS h R G aR aG Nw) (hV : ps_Rv R G aR aG Nw σ μ ρ) (hW : ps_Wf R G Nw μ ρ n) (hr : r < R) (hal : al ≤ 40) (hp : (ρ (2 * r))[p]? = some g) (hf : ∀ j, j < p → (ρ (2 * r))[j]? ≠ some g) :
    ∀ (T : List Nat) (i f m : Nat) (y : Option pw_A), (ρ (2 * r)).drop i = T → i ≤ p → f ≤ al → k (ps_wti (ps_wt μ g al T f m)) (pw_st h σ) → pw_J pm_P_roundsTillOn (pw_qi k) 19 [some (.inr 2), some (.inr (aR r)), some (.inl (nI p)), some (.inl (nI al)), some (.inl (nI f)), some (.inl (nI m)), some (.inl (nI i)), y] [] (pw_st h σ) 0 0 := by
  have hT := hC.1.1
  obtain ⟨-, d2, w1, w3, -, b40, -⟩ := hC.2.2.2.1 r hr
  obtain ⟨-, d6, -⟩ := id d2
  have hRw := (hV.2.1 r hr).2.1
  have hpl : p < (ρ (2 * r)).length := (List.getElem?_eq_some_iff.mp hp).1
  have h60 := hRw.2.1
  obtain ⟨l1, l2⟩ := hW.2.2.2.1 r 0 hr (by decide)
  rw [Nat.add_zero] at l1 l2
  intro T
  induction T with
  | nil =>
    intro i f m y hd hi hfa hk
    exfalso
    have := congrArg List.length hd
    rw [List.length_drop, List.length_nil] at this
    omega
  | cons x T ih =>
    intro i f m y hd hi hfa hk
    have hil : i < (ρ (2 * r)).length := by omega
    rw [List.drop_eq_getElem_cons hil] at hd
    have hx : (ρ (2 * r))[i] = x := (List.cons.inj hd).1
    have hd2 := (List.cons.inj hd).2
    have hxs : (ρ (2 * r))[i]? = some x := by rw [List.getElem?_eq_getElem hil, hx]
    have hxg : x < G := ((l2 x).mp (by rw [← hx]; exact List.getElem_mem hil)).1
    obtain ⟨-, s2, a40, -⟩ := hC.2.2.2.2.1 x hxg
    obtain ⟨m1, m2, m3, -⟩ := hW.2.2.1 x hxg
    have e1 := (hV.2.2 x hxg).2.1
    rw [m1] at e1
    have nx : ∀ f' m' y, f' ≤ al → (x ≠ g → k (ps_wti (ps_wt μ g al T f' m')) (pw_st h σ)) → (x = g → k (nI m') (pw_st h σ)) → pw_J pm_P_roundsTillOn (pw_qi k) 19 [some (.inr 2), some (.inr (aR r)), some (.inl (nI p)), some (.inl (nI al)), some (.inl (nI f')), some (.inl (nI m')), some (.inl (nI (i + 1))), y] [] (pw_st h σ) 0 0 := by
      intro f' m' y hf' k1 k2
      by_cases hip : i = p
      · have hxg : x = g := by
          rw [hip, hp] at hxs
          exact (Option.some.inj hxs).symm
        refine pw_sound pw_tok pk_P_roundsTillOn 400 _ _ _ _ _ _ ?_
        simp only [pv_all, pv_stp, pe_P_roundsTillOn, pv_st, Nat.reduceAdd, eq_self, true_and, and_true, true_or, or_true, hT]
        simp (disch := omega) only [pn_lt]
        exact ⟨fun _ => k2 hxg, fun q => absurd (show p < i + 1 by omega) q⟩
      · refine ih (i + 1) f' m' y hd2 (by omega) hf' (k1 ?_)
        intro z
        rw [z] at hxs
        exact hf i (by omega) hxs
    unfold ps_wt at hk
    refine pw_sound pw_tok pk_P_roundsTillOn 400 _ _ _ _ _ _ ?_
    simp only [pv_all, pv_stp, pe_P_roundsTillOn, pv_st, Nat.reduceAdd, eq_self, true_and, and_true, true_or, or_true, hT, d2.1, d6, w1.1]
    simp (disch := omega) only [pn_lt]
    refine ⟨fun q => absurd q (by omega), fun _ => ?_⟩
    refine c_W_at w1 hRw hxs ⟨hT, ?_⟩
    refine c_P_groupAt hC hV hxg ⟨fun q => absurd q (by omega), fun _ => ⟨s2.1, ?_⟩⟩
    simp only [pv_st, e1, s2.1, true_and]
    simp (disch := omega) only [pn_le, pn_c, pn_add]
    refine ⟨fun q => ?_, fun q => ?_⟩
    · rw [if_neg (by omega)] at hk
      refine ⟨fun q2 => ?_, fun q2 => ?_⟩
      · rw [pn_sub q2]
        refine nx _ _ _ (by omega) (fun z => ?_) (fun z => ?_)
        · rw [if_neg z, if_neg (by omega)] at hk; exact hk
        · rw [if_pos z, if_neg (by omega)] at hk; exact hk
      · rw [pn_sub q]
        refine nx _ _ _ (by omega) (fun z => ?_) (fun z => ?_)
        · rw [if_neg z, if_pos (by omega)] at hk; exact hk
        · rw [if_pos z, if_pos (by omega)] at hk; exact hk
    · rw [if_pos (by omega)] at hk
      exact hk
set_option maxHeartbeats 4000000 in
set_option maxRecDepth 100000 in
theorem c_P_roundsTillOn {g r : Nat} {k : Int32 → pw_Hp → Prop} (hC : ps_CS h R G aR aG Nw) (hV : ps_Rv R G aR aG Nw σ μ ρ) (hW : ps_Wf R G Nw μ ρ n) (hr : r < R) (hg : g ∈ ρ (2 * r)) (hk : k (ps_wti (ps_wt μ g (ps_N μ 8 r - ps_N μ 10 r) (ρ (2 * r)) (ps_N μ 8 r - ps_N μ 10 r) 1)) (pw_st h σ)) : pw_Ci 50 [.inr 2, .inr (aR r), .inl (nI ((ρ (2 * r)).idxOf g))] (pw_st h σ) k := by
  obtain ⟨-, d2, -⟩ := hC.2.2.2.1 r hr
  obtain ⟨i1, i2, i3, i4⟩ := ps_idx hg
  obtain ⟨x1, x2, x3, -, -, -, x7, x8, -⟩ := (hW.2.1 r hr).1
  obtain ⟨u0, u1, -, u3, -, -, u9, -⟩ := (hV.2.1 r hr).1
  rw [x1] at u1
  rw [x7] at u9
  refine pw_intro (M := pm_P_roundsTillOn) rfl (by decide) (Nat.le_of_ble_eq_true rfl) (ls := [some (.inr 2), some (.inr (aR r)), some (.inl (nI ((ρ (2 * r)).idxOf g))), none, none, none, none, none]) rfl ?_
  refine pw_sound pw_tok pk_P_roundsTillOn 400 _ _ _ _ _ _ ?_
  simp only [pv_all, pv_stp, pe_P_roundsTillOn, pv_st, Nat.reduceAdd, eq_self, true_and, and_true, true_or, or_true, d2.1, u1, u9]
  rw [pn_sub x8]
  exact c_P_roundsTillOn_19 hC hV hW hr (by omega) i1 i2 _ 0 _ 1 _ rfl (by omega) (Nat.le_refl _) hk
set_option maxHeartbeats 4000000 in
set_option maxRecDepth 100000 in
theorem c_P_wait_b {x : Int32} {k : Int32 → pw_Hp → Prop} (hC : ps_CS h R G aR aG Nw) (hV : ps_Rv R G aR aG Nw σ μ ρ) (hb : x < 0 ∨ nI G ≤ x) (hk : ∀ τ, ps_Rv R G aR aG Nw τ (ps_ref μ 1) ρ → ps_Off σ τ → k (-1) (pw_st h τ)) : pw_Ci 67 [.inr 2, .inl x] (pw_st h σ) k := by
  have hT := hC.1.1
  refine pw_intro (M := pm_P_wait) rfl (by decide) (Nat.le_of_ble_eq_true rfl) (ls := [some (.inr 2), some (.inl x), none, none, none]) rfl ?_
  refine pw_sound pw_tok pk_P_wait 400 _ _ _ _ _ _ ?_
  simp only [pv_all, pv_stp, pe_P_wait, pv_st, Nat.reduceAdd, eq_self, true_and, and_true, true_or, or_true, hT]
  exact c_P_groupAt_o hC hV hb ⟨fun q => absurd rfl q, fun _ => ⟨hT, c_P_ref hC hV (c := 0) (by decide) (by decide) hk⟩⟩
set_option maxHeartbeats 4000000 in
set_option maxRecDepth 100000 in
theorem c_P_wait {g : Nat} {k : Int32 → pw_Hp → Prop} (hC : ps_CS h R G aR aG Nw) (hV : ps_Rv R G aR aG Nw σ μ ρ) (hW : ps_Wf R G Nw μ ρ n) (hg : g < G) (hk : ∀ τ, ps_Rv R G aR aG Nw τ (ps_wait μ ρ g).2 ρ → ps_Off σ τ → k (ps_wait μ ρ g).1 (pw_st h τ)) : pw_Ci 67 [.inr 2, .inl (nI g)] (pw_st h σ) k := by
  have hT := hC.1.1
  have hG60 := hC.2.2.1
  have hR8 := hC.2.1
  obtain ⟨-, s2, a40, -⟩ := hC.2.2.2.2.1 g hg
  obtain ⟨m1, m2, m3, w4, w5, w6, w7, w8, w9, -, -, w11, w12, -⟩ := hW.2.2.1 g hg
  obtain ⟨e0, e1, e4, e5, e6, -⟩ := hV.2.2 g hg
  rw [w4] at e5
  refine pw_intro (M := pm_P_wait) rfl (by decide) (Nat.le_of_ble_eq_true rfl) (ls := [some (.inr 2), some (.inl (nI g)), none, none, none]) rfl ?_
  refine pw_sound pw_tok pk_P_wait 400 _ _ _ _ _ _ ?_
  simp only [pv_all, pv_stp, pe_P_wait, pv_st, Nat.reduceAdd, eq_self, true_and, and_true, true_or, or_true, hT]
  refine c_P_groupAt hC hV hg ⟨fun _ => ⟨s2.1, hT, ?_⟩, fun q => absurd q (by omega)⟩
  simp only [pv_st, e6]
  by_cases hd : ps_N μ 20 g = 1
  · obtain ⟨v1, hr⟩ := w11 (by omega) (by omega)
    rw [ps_wait_eq μ ρ g hd] at hk
    generalize hre : ps_N μ 21 g = r at hk v1 hr
    obtain ⟨-, d2, w1, w3, -, b40, -⟩ := hC.2.2.2.1 r hr
    obtain ⟨-, d6, -⟩ := id d2
    obtain ⟨l1, l2⟩ := hW.2.2.2.1 r 0 hr (by decide)
    rw [Nat.add_zero] at l1 l2
    have hmem : g ∈ ρ (2 * r) := (l2 g).mpr ⟨hg, by rw [w4, hd], v1⟩
    obtain ⟨i1, i2, i3, i4⟩ := ps_idx hmem
    rw [v1]
    refine c_P_rideAt hC hV hr ⟨s2.1, ?_⟩
    simp only [pv_st, e5, e0, d6]
    rw [hd]
    refine ⟨fun q => absurd rfl q, fun _ => ⟨fun _ => ⟨d2.1, s2.1, w1.1, ?_⟩, fun q => absurd q (by omega)⟩⟩
    refine c_W_placeOf w1 (hV.2.1 r hr).2.1 (fun x hx => by have := ((l2 x).mp hx).1; omega) (by omega) i1 i2 ⟨hT, ?_⟩
    refine c_P_roundsTillOn hC hV hW hr hmem ?_
    cases hw : ps_wt μ g (ps_N μ 8 r - ps_N μ 10 r) (ρ (2 * r)) (ps_N μ 8 r - ps_N μ 10 r) 1 with
    | some m =>
      rw [hw] at hk
      have hm := ps_wt_le _ _ _ _ hw
      have hl := (hV.2.1 r hr).2.1.2.1
      exact ⟨fun _ => hk σ hV (ps_Off_rf σ), fun q => absurd (nI_pos' (by omega)) q⟩
    | none =>
      rw [hw] at hk
      exact ⟨fun q => absurd q (by decide), fun _ => ⟨hT, c_P_ref hC hV (c := 2) (by decide) (by decide) hk⟩⟩
  · unfold ps_wait at hk
    rw [if_pos hd] at hk
    have fin : ∀ x : Nat, pw_k (pw_st h σ) (aG g) = 10 ∧ (¬ nI (ps_N μ 20 g) = 1 → pw_k (pw_st h σ) 2 = 13 ∧ pw_Ci 13 [.inr 2, .inl (-2)] (pw_st h σ) fun x h' => k x h') ∧ True := fun _ => ⟨s2.1, fun _ => ⟨hT, c_P_ref hC hV (c := 1) (by decide) (by decide) hk⟩, trivial⟩
    have hne : ¬ nI (ps_N μ 20 g) = 1 := by
      rw [show (1 : Int32) = nI 1 from rfl, pn_eq (by omega) (by omega)]
      exact hd
    by_cases z : ps_N μ 20 g = 0 ∨ ps_N μ 20 g = 4
    · rw [w12 z]
      refine c_P_rideAt_o hC hV (Or.inl (by decide)) ⟨s2.1, ?_⟩
      simp only [pv_st, e5]
      exact ⟨(fin 0).2.1, fun q => absurd q hne⟩
    · obtain ⟨v1, hr⟩ := w11 (by omega) (by omega)
      rw [v1]
      refine c_P_rideAt hC hV hr ⟨s2.1, ?_⟩
      simp only [pv_st, e5]
      exact ⟨(fin 0).2.1, fun q => absurd q hne⟩
end PWT
