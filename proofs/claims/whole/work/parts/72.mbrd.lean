/-! The reference: getting on. -/
def ps_14 (z : Nat → Int32) (μ : ps_S) : ps_S := fun f => if f = 14 then z else μ f
theorem ps_14_n {z : Nat → Int32} {μ : ps_S} {f : Nat} (h : f ≠ 14) : ps_14 z μ f = μ f := by unfold ps_14; rw [if_neg h]
theorem ps_14_s {z : Nat → Int32} {μ : ps_S} : ps_14 z μ 14 = z := by unfold ps_14; rw [if_pos rfl]
theorem ps_14_id {μ : ps_S} : ps_14 (μ 14) μ = μ := by
  funext f
  by_cases q : f = 14
  · rw [q, ps_14_s]
  · rw [ps_14_n q]
def ps_bm (σ : ps_S) (g : Nat) : ps_S := ps_up (ps_up (ps_up (ps_up σ 20 g 3) 23 g (σ 7 0)) 28 g (σ 28 g + 1)) 7 29 (σ 7 29 - σ 19 g)
-- how the people that were on in all grew
def ps_P14 (r : Nat) (μ ν : ps_S) (t : Nat) : Prop := ν 14 = ps_up μ 14 r (μ 14 r + nI t) 14
theorem ps_P14_rf {r : Nat} (μ : ps_S) : ps_P14 r μ μ 0 := by
  unfold ps_P14
  funext j
  rw [ps_up_at]
  by_cases q : j = r
  · rw [if_pos ⟨rfl, q⟩, q, show nI 0 = (0 : Int32) from rfl, Int32.add_zero]
  · rw [if_neg (fun w => q w.2)]
theorem ps_P14_tr {r t s : Nat} {μ ν ξ : ps_S} (h1 : ps_P14 r μ ν t) (h2 : ps_P14 r ν ξ s) : ps_P14 r μ ξ (t + s) := by
  unfold ps_P14 at h1 h2 ⊢
  funext j
  have a1 := congrFun h1 j
  have a2 := congrFun h2 j
  have a3 := congrFun h1 r
  rw [ps_up_at] at a1 a2 a3
  rw [if_pos ⟨rfl, rfl⟩] at a3
  rw [ps_up_at, a2]
  by_cases q : j = r
  · rw [if_pos ⟨rfl, q⟩, if_pos ⟨rfl, q⟩, a3, ← pn_add, Int32.add_assoc]
  · rw [if_neg (fun w => q w.2), if_neg (fun w => q w.2), a1, if_neg (fun w => q w.2)]
theorem ps_P14_bd {r g : Nat} {μ : ps_S} (h : μ 19 g = nI (ps_N μ 19 g)) : ps_P14 r μ (ps_bd μ g r) (ps_N μ 19 g) := by
  unfold ps_P14
  rw [(ps_bd_v μ g r).2.2.2.2.2.1, ← h]
theorem ps_P14_fill {r : Nat} : ∀ (L : List Nat) (μ : ps_S) (m : Nat), (∀ g, g ∈ L → μ 19 g = nI (ps_N μ 19 g)) → ps_P14 r μ (ps_fill r L μ m).1 (ps_fill r L μ m).2.2 := by
  intro L
  induction L with
  | nil => intro μ m _; exact ps_P14_rf μ
  | cons g L ih =>
    intro μ m hg
    unfold ps_fill
    by_cases q : ps_N μ 19 g ≤ m
    · rw [if_pos q]
      have h19 : ps_bd μ g r 19 = μ 19 := ps_bd_f (by unfold ps_dyn; omega)
      have := ps_P14_tr (ps_P14_bd (r := r) (hg g (List.mem_cons_self ..))) (ih (ps_bd μ g r) (m - ps_N μ 19 g) (fun x hx => by unfold ps_N; rw [h19]; exact hg x (List.mem_cons_of_mem _ hx)))
      rw [Nat.add_comm] at this
      exact this
    · rw [if_neg q]
      exact ps_P14_rf μ
theorem ps_P14_sing {r : Nat} : ∀ (L : List Nat) (μ : ps_S) (m : Nat), (∀ g, g ∈ L → μ 19 g = nI (ps_N μ 19 g)) → ps_P14 r μ (ps_sing r L μ m).1 (ps_sing r L μ m).2.2 := by
  intro L
  induction L with
  | nil => intro μ m _; exact ps_P14_rf μ
  | cons g L ih =>
    intro μ m hg
    unfold ps_sing
    by_cases q0 : m = 0
    · rw [if_pos q0]
      exact ps_P14_rf μ
    rw [if_neg q0]
    by_cases q : ps_N μ 19 g = 1
    · rw [if_pos q]
      have h19 : ps_bd μ g r 19 = μ 19 := ps_bd_f (by unfold ps_dyn; omega)
      have h1 := ps_P14_bd (r := r) (hg g (List.mem_cons_self ..))
      rw [q] at h1
      have := ps_P14_tr h1 (ih (ps_bd μ g r) (m - 1) (fun x hx => by unfold ps_N; rw [h19]; exact hg x (List.mem_cons_of_mem _ hx)))
      rw [Nat.add_comm] at this
      exact this
    · rw [if_neg q]
      exact ih μ m (fun x hx => hg x (List.mem_cons_of_mem _ hx))
section PMB
variable {h : pw_Hp} {R G m n : Nat} {Nw : Nat → Nat} {σ μ : ps_S} {ρ : ps_P} {z : Nat → Int32}
set_option maxHeartbeats 4000000 in
set_option maxRecDepth 100000 in
theorem c_M_board {g : Nat} {k : pw_Hp → Prop} (hM : ps_MS h) (hg : g < 60) (hk : k (pw_st h (ps_bm σ g))) : pw_Cv 29 [.inr 7, .inl (nI g)] (pw_st h σ) k := by
  unfold ps_MS at hM
  refine pw_intro (M := pm_M_board) rfl (by decide) (Nat.le_of_ble_eq_true rfl) (ls := [some (.inr 7), some (.inl (nI g))]) rfl ?_
  refine pw_sound pw_tok pk_M_board 400 _ _ _ _ _ _ ?_
  simp only [pv_all, pv_stp, pe_M_board, pv_st, Nat.reduceAdd, eq_self, true_and, and_true, true_or, or_true, hM]
  simp (disch := omega) only [ps_up_nn, pn_at, pn_cl]
  exact ⟨hg, hg, hg, hg, hg, hk⟩
theorem rm_board {g r : Nat} {π : ps_P} (hD : ps_Md R G m σ (ps_14 z μ) ρ) (h21 : μ 21 g = nI r) (hp : ∀ c, c < 2 * R → ps_So σ m (π c)) : ps_Md R G m (ps_bm σ g) (ps_14 z (ps_bd μ g r)) π := by
  obtain ⟨d1, ⟨a1, a2, a3, a4, a5⟩, d3⟩ := hD
  obtain ⟨v20, v21, v23, v28, v32, v14, v15, v16⟩ := ps_bd_v μ g r
  have e : ∀ f, 8 ≤ f → f ≤ 31 → f ≠ 22 → f ≠ 14 → σ f = μ f := fun f h1 h2 h3 h4 => (d1 f h1 h2 h3).trans (ps_14_n h4)
  have s0 : σ 7 0 = μ 7 0 := by rw [a1, ps_14_n (by decide)]
  have bf : ∀ f, f ≠ 7 → f ≠ 20 → f ≠ 23 → f ≠ 28 → ps_bm σ g f = σ f := fun f h1 h2 h3 h4 => by unfold ps_bm; rw [ps_up_f h1, ps_up_f h4, ps_up_f h3, ps_up_f h2]
  have b7 : ∀ i, i ≠ 29 → ps_bm σ g 7 i = σ 7 i := fun i hi => by unfold ps_bm; rw [ps_up_n (Or.inr hi), ps_up_nn (by decide), ps_up_nn (by decide), ps_up_nn (by decide)]
  have bd7 : ps_bd μ g r 7 = μ 7 := ps_bd_f (by unfold ps_dyn; omega)
  refine ⟨fun f f1 f2 f3 => ?_, ⟨?_, ?_, ?_, ?_, ?_⟩, fun c hc => ps_So_22 (bf 22 (by decide) (by decide) (by decide) (by decide)) (hp c hc)⟩
  · by_cases q14 : f = 14
    · subst q14; rw [ps_14_s, bf 14 (by decide) (by decide) (by decide) (by decide), d1 14 (by decide) (by decide) (by decide), ps_14_s]
    rw [ps_14_n q14]
    by_cases q20 : f = 20
    · subst q20; rw [v20]; unfold ps_bm; rw [ps_up_f (by decide), ps_up_f (by decide), ps_up_f (by decide)]; exact ps_up_cg2 (e 20 (by decide) (by decide) (by decide) (by decide))
    by_cases q23 : f = 23
    · subst q23; rw [v23]; unfold ps_bm; rw [ps_up_f (by decide), ps_up_f (by decide), s0]; exact ps_up_cg2 (by rw [ps_up_f (by decide)]; exact e 23 (by decide) (by decide) (by decide) (by decide))
    by_cases q28 : f = 28
    · subst q28; rw [v28]; unfold ps_bm; rw [ps_up_f (by decide), e 28 (by decide) (by decide) (by decide) (by decide)]; exact ps_up_cg2 (by rw [ps_up_f (by decide), ps_up_f (by decide)]; exact e 28 (by decide) (by decide) (by decide) (by decide))
    rw [bf f (by omega) q20 q23 q28, e f f1 f2 f3 q14]
    by_cases q21 : f = 21
    · subst q21; rw [v21, ps_up_id h21]
    by_cases q15 : f = 15
    · subst q15; rw [v15]
    by_cases q16 : f = 16
    · subst q16; rw [v16]
    rw [ps_bd_f (by unfold ps_dyn; omega)]
  · rw [b7 0 (by decide), ps_14_n (by decide), bd7]; exact s0
  · rw [b7 1 (by decide), ps_14_n (by decide), bd7, a2, ps_14_n (by decide)]
  · rw [b7 2 (by decide)]; exact a3
  · rw [b7 14 (by decide)]; exact a4
  · rw [b7 19 (by decide)]; exact a5
theorem ps_Ofm_bm {g : Nat} : ps_Ofm σ (ps_bm σ g) := ps_Ofm_tr (ps_Ofm_tr (ps_Ofm_tr (ps_Ofm_up (by decide) (by decide)) (ps_Ofm_up (by decide) (by decide))) (ps_Ofm_up (by decide) (by decide))) (ps_Ofm_up (by decide) (by decide))
theorem ps_Ro_of14 (hD : ps_Md R G m σ (ps_14 z μ) ρ) (hW : ps_Wf R G Nw μ ρ n) {r b : Nat} (hr : r < R) (hb : b < 2) : ps_Ro G m σ r b (ρ (2 * r + b)) := by
  have e := (ps_Md_e hD).2
  obtain ⟨w1, w2⟩ := hW.2.2.2.1 r b hr hb
  refine ⟨fun g hg => ?_, fun g hg => ((w2 g).mp hg).1, hD.2.2 _ (by omega)⟩
  rw [e.1, e.2.1, ps_14_n (by decide), ps_14_n (by decide), w2 g]
  exact ⟨fun z => ⟨hg, z⟩, fun z => z.2⟩
set_option maxHeartbeats 4000000 in
set_option maxRecDepth 100000 in
theorem c_M_fill_12 {r b s : Nat} {k : Int32 → pw_Hp → Prop} (hM : ps_MS h) (hm : m < 100000) (hr : r < R) (hb : b < 2) (hs : s ≤ 40) :
    ∀ (L : List Nat) (σ μ : ps_S) (ρ : ps_P) (t lf : Nat), ps_Md R G m σ (ps_14 z μ) ρ → ps_Wf R G Nw μ ρ n → ρ (2 * r + b) = L → t ≤ s → σ 7 29 = nI lf → s ≤ t + lf → (∀ τ, ps_Md R G m τ (ps_14 z (ps_fill r L μ (s - t)).1) (ps_ur ρ (2 * r + b) (ps_fill r L μ (s - t)).2.1) → ps_Ofm σ τ → τ 7 29 = nI (lf - (ps_fill r L μ (s - t)).2.2) → k (nI (t + (ps_fill r L μ (s - t)).2.2)) (pw_st h τ)) → pw_J pm_M_fill (pw_qi k) 12 [some (.inr 7), some (.inl (nI r)), some (.inl (nI (b + 1))), some (.inl (nI s)), some (.inl (nI t)), some (.inl (ps_hd L))] [] (pw_st h σ) 0 0 := by
  have hM' := hM
  unfold ps_MS at hM
  intro L
  induction L with
  | nil =>
    intro σ μ ρ t lf hD hW hL ht hl hlf hk
    have fin : k (nI t) (pw_st h σ) := by
      refine hk σ ?_ (ps_Ofm_rf σ) hl
      show ps_Md R G m σ (ps_14 z μ) (ps_ur ρ (2 * r + b) [])
      rw [← hL, ps_ur_id]
      exact hD
    refine pw_sound pw_tok pk_M_fill 400 _ _ _ _ _ _ ?_
    simp only [pv_all, pv_stp, pe_M_fill, pv_st, Nat.reduceAdd, eq_self, true_and, and_true, true_or, or_true, hM]
    have hd : ps_hd [] < 0 := by decide
    exact ⟨fun _ => fin, fun q => absurd hd q⟩
  | cons g L ih =>
    intro σ μ ρ t lf hD hW hL ht hl hlf hk
    have hG := hW.1.2.1
    have hmem : g ∈ ρ (2 * r + b) := by rw [hL]; exact List.mem_cons_self ..
    obtain ⟨hgG, hg20, hg21⟩ := ((hW.2.2.2.1 r b hr hb).2 g).mp hmem
    obtain ⟨u1, u2, u3, -⟩ := hW.2.2.1 g hgG
    have e19 : σ 19 g = nI (ps_N μ 19 g) := by rw [(ps_Md_e hD).1.2.2.2.2.2.2.2.2.2.2.2, ps_14_n (by decide)]; exact u1
    have hd0 : ¬ ps_hd (g :: L) < 0 := nI_pos (by omega)
    have hdg : ps_hd (g :: L) = nI g := rfl
    unfold ps_fill at hk
    refine pw_sound pw_tok pk_M_fill 400 _ _ _ _ _ _ ?_
    simp only [pv_all, pv_stp, pe_M_fill, pv_st, Nat.reduceAdd, eq_self, true_and, and_true, true_or, or_true, hM]
    refine ⟨fun q => absurd q hd0, fun _ => ?_⟩
    simp (disch := omega) only [hdg, pn_at, pn_cl, e19, pn_add, pn_lt]
    refine ⟨by omega, fun q => ?_, fun q => ?_⟩
    · rw [if_neg (by omega)] at hk
      refine hk σ ?_ (ps_Ofm_rf σ) hl
      show ps_Md R G m σ (ps_14 z μ) (ps_ur ρ (2 * r + b) (g :: L))
      rw [← hL, ps_ur_id]
      exact hD
    · rw [if_pos (by omega)] at hk
      refine c_M_board hM' (by omega) ?_
      have hW2 := ps_wf_board hW hr hb hmem
      have her : (ρ (2 * r + b)).erase g = L := by rw [hL, List.erase_cons_head]
      rw [her] at hW2
      have hD2 : ps_Md R G m (ps_bm σ g) (ps_14 z (ps_bd μ g r)) (ps_ur ρ (2 * r + b) L) := rm_board hD hg21 (rm_ur hD (ps_So_sub (by have := hD.2.2 (2 * r + b) (by omega); rw [hL] at this; exact this) (List.sublist_cons_self g L))).2.2
      have ro := ps_Ro_of14 hD2 hW2 hr hb
      rw [ps_ur_s] at ro
      have b19 : ps_bm σ g 19 g = nI (ps_N μ 19 g) := by unfold ps_bm; rw [ps_up_nn (by decide), ps_up_nn (by decide), ps_up_nn (by decide), ps_up_nn (by decide)]; exact e19
      have b29 : ps_bm σ g 7 29 = nI (lf - ps_N μ 19 g) := by unfold ps_bm; rw [ps_up_s, hl, e19, pn_sub (by omega)]
      simp (disch := omega) only [pv_st, hM, eq_self, true_and, true_or, pn_at, pn_cl, b19, pn_add]
      refine ⟨by omega, ?_⟩
      refine c_M_next0 hM' hG hD2.2.1.2.2.2.1 hm ro ?_
      have hN : ps_N (ps_bd μ g r) 19 = ps_N μ 19 := by funext i; unfold ps_N; rw [ps_bd_f (by unfold ps_dyn; omega)]
      refine ih (ps_bm σ g) (ps_bd μ g r) (ps_ur ρ (2 * r + b) L) (t + ps_N μ 19 g) (lf - ps_N μ 19 g) hD2 hW2 (ps_ur_s _ _ _) (by omega) b29 (by omega) (fun τ t1 t2 t3 => ?_)
      rw [show s - (t + ps_N μ 19 g) = s - t - ps_N μ 19 g by omega] at t1 t3 ⊢
      rw [ps_ur_ur] at t1
      rw [show t + ps_N μ 19 g + (ps_fill r L (ps_bd μ g r) (s - t - ps_N μ 19 g)).2.2 = t + ((ps_fill r L (ps_bd μ g r) (s - t - ps_N μ 19 g)).2.2 + ps_N μ 19 g) by omega]
      refine hk τ t1 (ps_Ofm_tr ps_Ofm_bm t2) ?_
      rw [t3]
      show _ = nI (lf - ((ps_fill r L (ps_bd μ g r) (s - t - ps_N μ 19 g)).2.2 + ps_N μ 19 g))
      rw [show lf - ps_N μ 19 g - (ps_fill r L (ps_bd μ g r) (s - t - ps_N μ 19 g)).2.2 = lf - ((ps_fill r L (ps_bd μ g r) (s - t - ps_N μ 19 g)).2.2 + ps_N μ 19 g) by omega]
set_option maxHeartbeats 4000000 in
set_option maxRecDepth 100000 in
theorem c_M_fill {r b s lf : Nat} {k : Int32 → pw_Hp → Prop} (hM : ps_MS h) (hm : m < 100000) (hr : r < R) (hb : b < 2) (hs : s ≤ 40) (hD : ps_Md R G m σ (ps_14 z μ) ρ) (hW : ps_Wf R G Nw μ ρ n) (hl : σ 7 29 = nI lf) (hlf : s ≤ lf) (hk : ∀ τ, ps_Md R G m τ (ps_14 z (ps_fill r (ρ (2 * r + b)) μ s).1) (ps_ur ρ (2 * r + b) (ps_fill r (ρ (2 * r + b)) μ s).2.1) → ps_Ofm σ τ → τ 7 29 = nI (lf - (ps_fill r (ρ (2 * r + b)) μ s).2.2) → k (nI (ps_fill r (ρ (2 * r + b)) μ s).2.2) (pw_st h τ)) : pw_Ci 60 [.inr 7, .inl (nI r), .inl (nI (b + 1)), .inl (nI s)] (pw_st h σ) k := by
  have hM' := hM
  unfold ps_MS at hM
  refine pw_intro (M := pm_M_fill) rfl (by decide) (Nat.le_of_ble_eq_true rfl) (ls := [some (.inr 7), some (.inl (nI r)), some (.inl (nI (b + 1))), some (.inl (nI s)), none, none]) rfl ?_
  refine pw_sound pw_tok pk_M_fill 400 _ _ _ _ _ _ ?_
  simp only [pv_all, pv_stp, pe_M_fill, pv_st, Nat.reduceAdd, eq_self, true_and, and_true, true_or, or_true, hM]
  refine c_M_next0 hM' hW.1.2.1 hD.2.1.2.2.2.1 hm (ps_Ro_of14 hD hW hr hb) ?_
  refine c_M_fill_12 (n := n) (Nw := Nw) (G := G) (z := z) hM' hm hr hb hs _ σ μ ρ 0 lf hD hW rfl (Nat.zero_le s) hl (by omega) (fun τ t1 t2 t3 => ?_)
  rw [Nat.sub_zero] at t1 t3 ⊢
  rw [Nat.zero_add]
  exact hk τ t1 t2 t3
end PMB
