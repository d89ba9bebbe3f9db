/-! The reference: come, stand. -/
def ps_jn (σ : ps_S) (g : Nat) (d x y : Int32) : ps_S := ps_up (ps_up (ps_up (ps_up σ 20 g d) 21 g x) 7 19 y) 22 g y
section PMJ
variable {h : pw_Hp} {R G m n : Nat} {Nw : Nat → Nat} {σ μ : ps_S} {ρ : ps_P}
set_option maxHeartbeats 4000000 in
set_option maxRecDepth 100000 in
theorem c_M_join {g : Nat} {d x : Int32} {k : pw_Hp → Prop} (hM : ps_MS h) (hg : g < 60) (hm : σ 7 19 = nI m) (hk : k (pw_st h (ps_jn σ g d x (nI (m + 1))))) : pw_Cv 24 [.inr 7, .inl (nI g), .inl d, .inl x] (pw_st h σ) k := by
  unfold ps_MS at hM
  refine pw_intro (M := pm_M_join) rfl (by decide) (Nat.le_of_ble_eq_true rfl) (ls := [some (.inr 7), some (.inl (nI g)), some (.inl d), some (.inl x)]) rfl ?_
  refine pw_sound pw_tok pk_M_join 400 _ _ _ _ _ _ ?_
  simp only [pv_all, pv_stp, pe_M_join, pv_st, Nat.reduceAdd, eq_self, true_and, and_true, true_or, or_true, hM]
  simp (disch := omega) only [ps_up_nn, ps_up_s, hm, pn_at, pn_cl, nI_1]
  exact ⟨hg, hg, hg, hk⟩
theorem rm_join {g c : Nat} {d x : Int32} (hD : ps_Md R G m σ μ ρ) (hm : m < 100000) (hn : ∀ c, c < 2 * R → g ∉ ρ c) : ps_Md R G (m + 1) (ps_jn σ g d x (nI (m + 1))) (ps_sr μ g d x) (ps_ur ρ c (ρ c ++ [g])) ∨ 2 * R ≤ c := by
  rcases Nat.lt_or_ge c (2 * R) with hc | hc
  · left
    obtain ⟨d1, ⟨a1, a2, a3, a4, a5⟩, d3⟩ := hD
    have j22 : ∀ i, ps_jn σ g d x (nI (m + 1)) 22 i = if i = g then nI (m + 1) else σ 22 i := fun i => by
      unfold ps_jn
      by_cases q : i = g
      · rw [if_pos q, q, ps_up_s]
      · rw [if_neg q, ps_up_n (Or.inr q), ps_up_nn (by decide), ps_up_nn (by decide), ps_up_nn (by decide)]
    have oth : ∀ i, i ≠ g → ps_jn σ g d x (nI (m + 1)) 22 i = σ 22 i := fun i q => by rw [j22, if_neg q]
    have othN : ∀ i, i ≠ g → ps_N (ps_jn σ g d x (nI (m + 1))) 22 i = ps_N σ 22 i := fun i q => by unfold ps_N; rw [oth i q]
    have gN : ps_N (ps_jn σ g d x (nI (m + 1))) 22 g = m + 1 := by unfold ps_N; rw [j22, if_pos rfl, nI_clamp (by omega)]
    have old : ∀ e, e < 2 * R → ps_So (ps_jn σ g d x (nI (m + 1))) (m + 1) (ρ e) := fun e he => by
      have s := d3 e he
      have ne : ∀ i, i ∈ ρ e → i ≠ g := fun i hi q => hn e he (q ▸ hi)
      refine ⟨fun i hi => ?_, List.Pairwise.imp_of_mem (fun {a b} ha hb hab => ?_) s.2⟩
      · rw [oth i (ne i hi), othN i (ne i hi)]
        have := s.1 i hi
        exact ⟨this.1, this.2.1, by omega⟩
      · rw [othN a (ne a ha), othN b (ne b hb)]
        exact hab
    refine ⟨fun f f1 f2 f3 => ?_, ⟨?_, ?_, ?_, ?_, ?_⟩, fun e he => ?_⟩
    · unfold ps_jn ps_sr
      rw [ps_up_f f3, ps_up_f (show f ≠ 7 by omega)]
      exact ps_up_cg2 (ps_up_cg2 (d1 f f1 f2 f3))
    · unfold ps_jn ps_sr
      rw [ps_up_nn (by decide), ps_up_n (Or.inr (by decide)), ps_up_nn (by decide), ps_up_nn (by decide), ps_up_nn (by decide), ps_up_nn (by decide)]; exact a1
    · unfold ps_jn ps_sr
      rw [ps_up_nn (by decide), ps_up_n (Or.inr (by decide)), ps_up_nn (by decide), ps_up_nn (by decide), ps_up_nn (by decide), ps_up_nn (by decide)]; exact a2
    · unfold ps_jn
      rw [ps_up_nn (by decide), ps_up_n (Or.inr (by decide)), ps_up_nn (by decide), ps_up_nn (by decide)]; exact a3
    · unfold ps_jn
      rw [ps_up_nn (by decide), ps_up_n (Or.inr (by decide)), ps_up_nn (by decide), ps_up_nn (by decide)]; exact a4
    · unfold ps_jn
      rw [ps_up_nn (by decide), ps_up_s]
    · by_cases q : e = c
      · subst q
        rw [ps_ur_s]
        have o := old e he
        refine ⟨fun i hi => ?_, List.pairwise_append.mpr ⟨o.2, List.pairwise_singleton _ _, fun a ha b hb => ?_⟩⟩
        · rcases List.mem_append.mp hi with w | w
          · exact o.1 i w
          · rw [List.mem_singleton.mp w, gN, j22, if_pos rfl]
            exact ⟨rfl, by omega, by omega⟩
        · rw [List.mem_singleton.mp hb, gN, othN a (fun z => hn e he (z ▸ ha))]
          have := (d3 e he).1 a ha
          omega
      · rw [ps_ur_n q]; exact old e he
  · exact Or.inr hc
theorem ps_Ofm_jn {g : Nat} {d x y : Int32} : ps_Ofm σ (ps_jn σ g d x y) := ps_Ofm_tr (ps_Ofm_tr (ps_Ofm_tr (ps_Ofm_up (by decide) (by decide)) (ps_Ofm_up (by decide) (by decide))) (ps_Ofm_up (by decide) (by decide))) (ps_Ofm_up (by decide) (by decide))
-- joining a row, and the place in it
theorem c_M_into {g r b : Nat} {k : Int32 → pw_Hp → Prop} (hM : ps_MS h) (hD : ps_Md R G m σ μ ρ) (hW : ps_Wf R G Nw μ ρ n) (hm : m < 99999) (hg : g < G) (hr : r < R) (hb : b < 2) (h0 : μ 20 g = 0) (hk : ∀ τ, ps_Md R G (m + 1) τ (ps_sr μ g (nI (b + 1)) (nI r)) (ps_ur ρ (2 * r + b) (ρ (2 * r + b) ++ [g])) → ps_Ofm σ τ → k (nI (ρ (2 * r + b)).length) (pw_st h τ)) :
    pw_Cv 24 [.inr 7, .inl (nI g), .inl (nI (b + 1)), .inl (nI r)] (pw_st h σ) (fun h' => pw_k h' 7 = 14 ∧ pw_Ci 25 [.inr 7, .inl (nI g)] h' k) := by
  have hG := hW.1.2.1
  refine c_M_join hM (by omega) hD.2.1.2.2.2.2 ⟨hM.1, ?_⟩
  have hn : ∀ c, c < 2 * R → g ∉ ρ c := fun c hc q => by
    have hz := hW.2.2.2.1 (c / 2) (c % 2) (by omega) (by omega)
    rw [show 2 * (c / 2) + c % 2 = c by omega] at hz
    have := ((hz.2 g).mp q).2.1
    rw [h0, show (0 : Int32) = nI 0 from rfl, pn_eq (by omega) (by omega)] at this
    omega
  have hj := (rm_join (g := g) (c := 2 * r + b) (d := nI (b + 1)) (x := nI r) hD (by omega) hn).resolve_right (by omega)
  have hW2 := ps_wf_join hW hg h0 hr hb
  have ro := ps_Ro_of hj hW2 hr hb
  rw [ps_ur_s] at ro
  exact c_M_placeOf (A := ρ (2 * r + b)) (B := []) hM hG hj.2.1.2.2.2.1 (by omega) ro (hk _ hj ps_Ofm_jn)
set_option maxHeartbeats 4000000 in
set_option maxRecDepth 100000 in
theorem c_M_stand_b {x y : Int32} {k : Int32 → pw_Hp → Prop} (hM : ps_MS h) (hD : ps_Md R G m σ μ ρ) (hR : R ≤ 8) (hG : G ≤ 60) (hb : ps_bad2 G R x y) (hk : ∀ τ, ps_Md R G m τ (ps_ref μ 1) ρ → ps_Ofm σ τ → k (-1) (pw_st h τ)) : pw_Ci 82 [.inr 7, .inl x, .inl y] (pw_st h σ) k := by
  have hM' := hM
  unfold ps_MS at hM
  have fin : pw_Ci 20 [.inr 7, .inl (-1)] (pw_st h σ) fun x h' => k x h' := c_M_ref hM' hD (c := 1) (by decide) (by decide) hk
  refine pw_intro (M := pm_M_stand) rfl (by decide) (Nat.le_of_ble_eq_true rfl) (ls := [some (.inr 7), some (.inl x), some (.inl y)]) rfl ?_
  refine pw_sound pw_tok pk_M_stand 400 _ _ _ _ _ _ ?_
  simp only [pv_all, pv_stp, pe_M_stand, pv_st, Nat.reduceAdd, eq_self, true_and, and_true, true_or, or_true, hM]
  rcases ps_cases x G (by omega) with z | ⟨g, hg, rfl⟩
  · refine c_M_isGroup_o hM' hD hG z ⟨fun _ => ?_, fun q => absurd rfl q⟩
    simp only [pv_st, hM, eq_self, true_and]
    exact fin
  · refine c_M_isGroup hM' hD hG hg ⟨fun q => absurd q (by decide), fun _ => ?_⟩
    simp only [pv_st, hM, eq_self, true_and]
    rcases hb with hb | hb
    · exact absurd hb (fun z => absurd rfl (pn_out z (by omega) g hg))
    · refine c_M_isRide_o hM' hD hR hb ⟨fun q => absurd rfl q, fun _ => ?_⟩
      simp only [pv_st, hM, eq_self, true_and]
      exact fin
set_option maxHeartbeats 4000000 in
set_option maxRecDepth 100000 in
theorem c_M_stand {g r : Nat} {k : Int32 → pw_Hp → Prop} (hM : ps_MS h) (hD : ps_Md R G m σ μ ρ) (hW : ps_Wf R G Nw μ ρ n) (hm : m < 99999) (hg : g < G) (hr : r < R) (hk : ∀ τ m2, m2 ≤ m + 1 → ps_Md R G m2 τ (ps_stand μ ρ g r).2.1 (ps_stand μ ρ g r).2.2 → ps_Ofm σ τ → k (ps_stand μ ρ g r).1 (pw_st h τ)) : pw_Ci 82 [.inr 7, .inl (nI g), .inl (nI r)] (pw_st h σ) k := by
  have hM' := hM
  have e := ps_Md_e hD
  have hR := hW.1.1
  have hG := hW.1.2.1
  obtain ⟨u1, u2, u3, w4, w5, -⟩ := hW.2.2.1 g hg
  obtain ⟨s1, s2, s3, -, -, -, s7, s8, -⟩ := (hW.2.1 r hr).1
  unfold ps_MS at hM
  unfold ps_stand at hk
  refine pw_intro (M := pm_M_stand) rfl (by decide) (Nat.le_of_ble_eq_true rfl) (ls := [some (.inr 7), some (.inl (nI g)), some (.inl (nI r))]) rfl ?_
  refine pw_sound pw_tok pk_M_stand 400 _ _ _ _ _ _ ?_
  simp only [pv_all, pv_stp, pe_M_stand, pv_st, Nat.reduceAdd, eq_self, true_and, and_true, true_or, or_true, hM]
  refine c_M_isGroup hM' hD hG hg ⟨fun q => absurd q (by decide), fun _ => ?_⟩
  simp only [pv_st, hM, eq_self, true_and]
  refine c_M_isRide hM' hD hR hr ⟨fun _ => ?_, fun q => absurd q (by decide)⟩
  simp (disch := omega) only [pv_st, hM, eq_self, true_and, true_or, pn_at, pn_cl, e, w4, u1, s1, s7, pn_sub, pn_le, pn_c, pn_eq]
  refine ⟨by omega, fun q => ⟨by omega, by omega, by omega, fun q2 => ?_, fun q2 => ?_⟩, fun q => ?_⟩
  · rw [if_neg (by omega), if_neg (by omega)] at hk
    refine c_M_into (b := 0) hM' hD hW hm hg hr (by decide) (by rw [w4, q]; rfl) (fun τ t1 t2 => ?_)
    exact hk τ (m + 1) (Nat.le_refl _) t1 t2
  · rw [if_neg (by omega), if_pos (by omega)] at hk
    exact c_M_ref hM' hD (c := 6) (by decide) (by decide) (fun τ t1 t2 => hk τ m (by omega) t1 t2)
  · rw [if_pos q] at hk
    exact c_M_ref hM' hD (c := 2) (by decide) (by decide) (fun τ t1 t2 => hk τ m (by omega) t1 t2)
end PMJ
