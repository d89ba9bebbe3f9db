/-! ParkRows: go. -/
def ps_gi (μ : ps_S) (g i : Nat) : Nat := 1100 * ps_N μ 25 (2 * g + i) + ps_N μ 26 (2 * g + i)
def ps_gw (μ : ps_S) (g i : Nat) : ps_S := ps_up μ 18 (ps_gi μ g i) (μ 18 (ps_gi μ g i) - μ 19 g)
def ps_gg (μ : ps_S) (g : Nat) : Nat → ps_S
  | 0 => μ
  | i + 1 => ps_gw (ps_gg μ g i) g i
def ps_go (μ : ps_S) (g : Nat) : ps_S := ps_up (ps_up (ps_gg μ g (ps_N μ 24 g)) 24 g 0) 20 g 4
def ps_goS (μ : ps_S) (g : Nat) : Int32 × ps_S := if ps_N μ 20 g = 0 then (μ 24 g, ps_go μ g) else (-2, ps_ref μ 2)
def ps_goc (μ : ps_S) (g : Nat) : Nat → ps_S
  | 0 => ps_sr μ g 4 (-9)
  | m + 1 => ps_goc (ps_gv μ g m) g m
theorem ps_18c {μ : ps_S} {a b : Nat} {m : Int32} : ps_up (ps_up μ 18 a (μ 18 a - m)) 18 b (ps_up μ 18 a (μ 18 a - m) 18 b - m) = ps_up (ps_up μ 18 b (μ 18 b - m)) 18 a (ps_up μ 18 b (μ 18 b - m) 18 a - m) := by
  by_cases hab : a = b
  · subst hab; rfl
  · rw [ps_up_n (i := a) (j := b) (Or.inr (fun z => hab z.symm)), ps_up_n (i := b) (j := a) (Or.inr hab)]
    funext f j
    simp only [ps_up_at]
    by_cases h1 : f = 18 ∧ j = a
    · rw [if_pos h1, if_pos h1, if_neg (fun z => hab (h1.2.symm.trans z.2))]
    · rw [if_neg h1, if_neg h1]
theorem ps_up_id {μ : ps_S} {f i : Nat} {x : Int32} (h : μ f i = x) : ps_up μ f i x = μ := by
  funext a j
  rw [ps_up_at]
  split
  · rename_i q; rw [q.1, q.2, h]
  · rfl
theorem ps_up_cg {μ ν : ps_S} {a i f : Nat} {x : Int32} (h : μ f = ν f) : ps_up μ a i x f = ps_up ν a i x f := by
  funext j
  rw [ps_up_at, ps_up_at, h]
theorem ps_gg_f {μ : ps_S} {g f : Nat} (h : f ≠ 18) : ∀ k, ps_gg μ g k f = μ f := by
  intro k
  induction k with
  | zero => rfl
  | succ k ih =>
    show ps_gw (ps_gg μ g k) g k f = μ f
    unfold ps_gw
    rw [ps_up_f h, ih]
section PGO
variable {h : pw_Hp} {R G : Nat} {aR aG Nw : Nat → Nat} {σ μ : ps_S} {ρ : ps_P} {n : Nat}
theorem ps_wf_gv (hW : ps_Wf R G Nw μ ρ n) (hn : n < 100000) {g j : Nat} (hg : g < G) (hj : j < ps_N μ 24 g) : ps_Wf R G Nw (ps_gv μ g j) ρ n := by
  obtain ⟨-, -, -, -, -, a6, a7, a8, a9, -, -, -, -, a14⟩ := hW.2.2.1 g hg
  obtain ⟨t1, t2, t3, t4⟩ := a14 j hj
  unfold ps_gv
  refine ps_wf_drop hW hg (Nat.le_refl n) hn hj (m := ps_N μ 27 g) (fun f q1 q2 q3 q4 => ps_up_f q1) (fun i hi => ?_) ?_ (by omega) (ps_hz18 hW t2 t4)
  · exact ⟨ps_up_n (Or.inl (by decide)), ps_up_n (Or.inl (by decide)), ps_up_n (Or.inl (by decide))⟩
  · rw [ps_up_n (Or.inl (by decide))]; exact a8
theorem ps_gv_24 {g j t : Nat} (ht : μ 24 g = nI t) (ht2 : t ≤ 2) (hj : 0 < t) : ps_gv μ g j 24 g = nI (t - 1) ∧ ps_N (ps_gv μ g j) 24 g = t - 1 := by
  have e : ps_gv μ g j 24 g = nI (t - 1) := by
    unfold ps_gv
    rw [ps_drop_o.2.2, ps_up_n (Or.inl (by decide)), ht, show (1 : Int32) = nI 1 from rfl, pn_sub (by omega)]
  refine ⟨e, ?_⟩
  unfold ps_N
  rw [e, nI_clamp (by omega)]
set_option maxHeartbeats 4000000 in
set_option maxRecDepth 100000 in
theorem c_P_go_40 {g : Nat} {x y : Int32} {k : Int32 → pw_Hp → Prop} (hC : ps_CS h R G aR aG Nw) (hn : n < 100000) (hg : g < G) :
    ∀ (m : Nat) (σ μ : ps_S), ps_Rv R G aR aG Nw σ μ ρ → ps_Wf R G Nw μ ρ n → ps_N μ 24 g = m → (∀ τ, ps_Rv R G aR aG Nw τ (ps_goc μ g m) ρ → ps_Off σ τ → k y (pw_st h τ)) → pw_J pm_P_go (pw_qi k) 40 [some (.inr 2), some (.inl x), some (.inr (aG g)), some (.inl y), some (.inl (nI m - 1))] [] (pw_st h σ) 0 0 := by
  have hT := hC.1.1
  obtain ⟨-, s2, a40, -⟩ := hC.2.2.2.2.1 g hg
  intro m
  induction m with
  | zero =>
    intro σ μ hV hW hm hk
    refine pw_sound pw_tok pk_P_go 400 _ _ _ _ _ _ ?_
    simp only [pv_all, pv_stp, pe_P_go, pv_st, Nat.reduceAdd, eq_self, true_and, and_true, true_or, or_true, hT, s2.1]
    refine ⟨fun _ => ?_, fun q => absurd (by decide) q⟩
    refine c_G_turnTo s2 (hk _ (ru_G6 hC (ru_G5 hC hV hg) hg) (ps_Off_tr (ps_Off_up (by omega)) (ps_Off_up (by omega))))
  | succ m ih =>
    intro σ μ hV hW hm hk
    obtain ⟨-, -, -, -, -, w6, w7, -⟩ := hW.2.2.1 g hg
    have em : nI (m + 1) - 1 = nI m := by rw [show (1 : Int32) = nI 1 from rfl, pn_sub (by omega), Nat.add_sub_cancel]
    rw [em]
    refine pw_sound pw_tok pk_P_go 400 _ _ _ _ _ _ ?_
    simp only [pv_all, pv_stp, pe_P_go, pv_st, Nat.reduceAdd, eq_self, true_and, and_true, true_or, or_true, hT]
    refine ⟨fun q => absurd q (nI_pos (by omega)), fun _ => ?_⟩
    refine c_P_giveBack hC hV hW hg (j := m) (by omega) (fun τ t1 t2 => ?_)
    rw [show nI m + -1 = nI m - 1 from (Int32.sub_eq_add_neg _ _).symm]
    refine ih τ (ps_gv μ g m) t1 (ps_wf_gv hW hn hg (by omega)) ?_ (fun τ2 q1 q2 => hk τ2 q1 (ps_Off_tr t2 q2))
    rw [(ps_gv_24 (j := m) w6 w7 (by omega)).2]
    omega
-- what is left of the state, all in all
theorem ps_gv_f {g j f : Nat} (h1 : f ≠ 24) (h2 : f ≠ 25) (h3 : f ≠ 26) : ps_gv μ g j f = ps_gw μ g j f := by
  unfold ps_gv
  rw [ps_drop_f ⟨h1, h2, h3⟩]
  rfl
theorem ps_goc_v (hW : ps_Wf R G Nw μ ρ n) {g : Nat} (hg : g < G) (h0 : ps_N μ 20 g = 0) (hV : ps_Rv R G aR aG Nw σ (ps_goc μ g (ps_N μ 24 g)) ρ) (hC : ps_CS h R G aR aG Nw) : ps_Rv R G aR aG Nw σ (ps_go μ g) ρ := by
  obtain ⟨-, -, -, w4, -, w6, w7, -, -, -, -, -, w13, -⟩ := hW.2.2.1 g hg
  have h21 := w13 (Or.inl h0)
  have hG60 := hW.1.2.1
  have key : (∀ f, f ≠ 24 → f ≠ 25 → f ≠ 26 → ps_go μ g f = ps_goc μ g (ps_N μ 24 g) f) ∧ (∀ i, i ≠ g → ps_goc μ g (ps_N μ 24 g) 24 i = μ 24 i) ∧ (∀ i, (i < 2 * g ∨ 2 * g + 2 ≤ i) → ps_goc μ g (ps_N μ 24 g) 25 i = μ 25 i ∧ ps_goc μ g (ps_N μ 24 g) 26 i = μ 26 i) ∧ ps_goc μ g (ps_N μ 24 g) 24 g = 0 := by
    rcases (show ps_N μ 24 g = 0 ∨ ps_N μ 24 g = 1 ∨ ps_N μ 24 g = 2 by omega) with z | z | z
    · unfold ps_go
      rw [z]
      show (∀ f, f ≠ 24 → f ≠ 25 → f ≠ 26 → ps_up (ps_up μ 24 g 0) 20 g 4 f = ps_sr μ g 4 (-9) f) ∧ (∀ i, i ≠ g → ps_sr μ g 4 (-9) 24 i = μ 24 i) ∧ (∀ i, (i < 2 * g ∨ 2 * g + 2 ≤ i) → ps_sr μ g 4 (-9) 25 i = μ 25 i ∧ ps_sr μ g 4 (-9) 26 i = μ 26 i) ∧ ps_sr μ g 4 (-9) 24 g = 0
      have e : ps_sr μ g 4 (-9) = ps_up μ 20 g 4 := by unfold ps_sr; exact ps_up_id (by rw [ps_up_n (Or.inl (by decide))]; exact h21)
      rw [e]
      refine ⟨fun f f1 f2 f3 => ?_, fun i hi => ps_up_n (Or.inl (by decide)), fun i hi => ⟨ps_up_n (Or.inl (by decide)), ps_up_n (Or.inl (by decide))⟩, ?_⟩
      · rw [ps_up_comm (by decide), ps_up_f f1]
      · rw [ps_up_n (Or.inl (by decide)), w6, z]; rfl
    · unfold ps_go
      rw [z]
      show (∀ f, f ≠ 24 → f ≠ 25 → f ≠ 26 → ps_up (ps_up (ps_gw μ g 0) 24 g 0) 20 g 4 f = ps_sr (ps_gv μ g 0) g 4 (-9) f) ∧ (∀ i, i ≠ g → ps_sr (ps_gv μ g 0) g 4 (-9) 24 i = μ 24 i) ∧ (∀ i, (i < 2 * g ∨ 2 * g + 2 ≤ i) → ps_sr (ps_gv μ g 0) g 4 (-9) 25 i = μ 25 i ∧ ps_sr (ps_gv μ g 0) g 4 (-9) 26 i = μ 26 i) ∧ ps_sr (ps_gv μ g 0) g 4 (-9) 24 g = 0
      have e : ps_sr (ps_gv μ g 0) g 4 (-9) = ps_up (ps_gv μ g 0) 20 g 4 := by unfold ps_sr; exact ps_up_id (by rw [ps_up_n (Or.inl (by decide)), ps_gv_f (by decide) (by decide) (by decide)]; unfold ps_gw; rw [ps_up_n (Or.inl (by decide))]; exact h21)
      rw [e]
      refine ⟨fun f f1 f2 f3 => ?_, fun i hi => ?_, fun i hi => ?_, ?_⟩
      · exact ps_up_cg (by rw [ps_up_f f1, ps_gv_f f1 f2 f3])
      · rw [ps_up_n (Or.inl (by decide))]
        unfold ps_gv
        rw [ps_drop_o.1 i hi, ps_up_n (Or.inl (by decide))]
      · rw [ps_up_n (Or.inl (by decide)), ps_up_n (Or.inl (by decide))]
        unfold ps_gv
        have := ps_drop_o (μ := ps_up μ 18 (1100 * ps_N μ 25 (2 * g + 0) + ps_N μ 26 (2 * g + 0)) (μ 18 (1100 * ps_N μ 25 (2 * g + 0) + ps_N μ 26 (2 * g + 0)) - μ 19 g)) (g := g) (j := 0)
        rw [(this.2.1 i hi).1, (this.2.1 i hi).2, ps_up_n (Or.inl (by decide)), ps_up_n (Or.inl (by decide))]
        exact ⟨rfl, rfl⟩
      · rw [ps_up_n (Or.inl (by decide)), (ps_gv_24 (t := 1) (by rw [w6, z]) (by decide) (by decide)).1]; rfl
    · have d25 : ∀ f, f ≠ 24 → f ≠ 18 → ps_gv μ g 1 f = μ f := fun f q1 q2 => by
        unfold ps_gv ps_drop
        rw [ps_up_f q1, if_neg (by decide), ps_up_f q2]
      have egi : ps_gi (ps_gv μ g 1) g 0 = ps_gi μ g 0 := by unfold ps_gi ps_N; rw [d25 25 (by decide) (by decide), d25 26 (by decide) (by decide)]
      have egj : ps_gi (ps_gw μ g 0) g 1 = ps_gi μ g 1 := by unfold ps_gi ps_N ps_gw; rw [ps_up_f (show 25 ≠ 18 by decide), ps_up_f (show 26 ≠ 18 by decide)]
      have e18 : ps_gw (ps_gv μ g 1) g 0 18 = ps_gw (ps_gw μ g 0) g 1 18 := by
        have c := ps_18c (μ := μ) (a := ps_gi μ g 1) (b := ps_gi μ g 0) (m := μ 19 g)
        have f1 : ps_gv μ g 1 18 = ps_up μ 18 (ps_gi μ g 1) (μ 18 (ps_gi μ g 1) - μ 19 g) 18 := ps_gv_f (by decide) (by decide) (by decide)
        unfold ps_gw at f1 ⊢
        rw [egi, show ps_gi (ps_up μ 18 (ps_gi μ g 0) (μ 18 (ps_gi μ g 0) - μ 19 g)) g 1 = ps_gi μ g 1 from egj, d25 19 (by decide) (by decide), ps_up_f (show 19 ≠ 18 by decide), f1, ← c]
        exact ps_up_cg f1
      have ef : ∀ f, f ≠ 24 → f ≠ 25 → f ≠ 26 → ps_gv (ps_gv μ g 1) g 0 f = ps_gw (ps_gw μ g 0) g 1 f := fun f f1 f2 f3 => by
        rw [ps_gv_f f1 f2 f3]
        by_cases q : f = 18
        · subst q; exact e18
        · unfold ps_gw
          rw [ps_up_f q, ps_up_f q, ps_up_f q, d25 f f1 q]
      unfold ps_go
      rw [z]
      show (∀ f, f ≠ 24 → f ≠ 25 → f ≠ 26 → ps_up (ps_up (ps_gw (ps_gw μ g 0) g 1) 24 g 0) 20 g 4 f = ps_sr (ps_gv (ps_gv μ g 1) g 0) g 4 (-9) f) ∧ (∀ i, i ≠ g → ps_sr (ps_gv (ps_gv μ g 1) g 0) g 4 (-9) 24 i = μ 24 i) ∧ (∀ i, (i < 2 * g ∨ 2 * g + 2 ≤ i) → ps_sr (ps_gv (ps_gv μ g 1) g 0) g 4 (-9) 25 i = μ 25 i ∧ ps_sr (ps_gv (ps_gv μ g 1) g 0) g 4 (-9) 26 i = μ 26 i) ∧ ps_sr (ps_gv (ps_gv μ g 1) g 0) g 4 (-9) 24 g = 0
      have e : ps_sr (ps_gv (ps_gv μ g 1) g 0) g 4 (-9) = ps_up (ps_gv (ps_gv μ g 1) g 0) 20 g 4 := by unfold ps_sr; exact ps_up_id (by rw [ps_up_n (Or.inl (by decide)), ef 21 (by decide) (by decide) (by decide)]; unfold ps_gw; rw [ps_up_n (Or.inl (by decide)), ps_up_n (Or.inl (by decide))]; exact h21)
      rw [e]
      refine ⟨fun f f1 f2 f3 => ?_, fun i hi => ?_, fun i hi => ?_, ?_⟩
      · exact ps_up_cg (by rw [ps_up_f f1, ef f f1 f2 f3])
      · rw [ps_up_n (Or.inl (by decide))]
        have t1 := (ps_drop_o (μ := ps_gw (ps_gv μ g 1) g 0) (g := g) (j := 0)).1 i hi
        have t2 := (ps_drop_o (μ := ps_gw μ g 1) (g := g) (j := 1)).1 i hi
        show ps_drop (ps_gw (ps_gv μ g 1) g 0) g 0 24 i = μ 24 i
        rw [t1]
        unfold ps_gw at t2 ⊢
        rw [ps_up_n (Or.inl (by decide))]
        show ps_drop (ps_up μ 18 (ps_gi μ g 1) (μ 18 (ps_gi μ g 1) - μ 19 g)) g 1 24 i = μ 24 i
        rw [t2, ps_up_n (Or.inl (by decide))]
      · rw [ps_up_n (Or.inl (by decide)), ps_up_n (Or.inl (by decide))]
        have t1 := (ps_drop_o (μ := ps_gw (ps_gv μ g 1) g 0) (g := g) (j := 0)).2.1 i hi
        show ps_drop (ps_gw (ps_gv μ g 1) g 0) g 0 25 i = μ 25 i ∧ ps_drop (ps_gw (ps_gv μ g 1) g 0) g 0 26 i = μ 26 i
        rw [t1.1, t1.2]
        unfold ps_gw
        rw [ps_up_n (Or.inl (by decide)), ps_up_n (Or.inl (by decide)), d25 25 (by decide) (by decide), d25 26 (by decide) (by decide)]
        exact ⟨rfl, rfl⟩
      · rw [ps_up_n (Or.inl (by decide)), (ps_gv_24 (μ := ps_gv μ g 1) (t := 1) (ps_gv_24 (μ := μ) (j := 1) (t := 2) (by rw [w6, z]) (by decide) (by decide)).1 (by decide) (by decide)).1]; rfl
  obtain ⟨k1, k2, k3, k4⟩ := key
  have g24 : ∀ f, f ≠ 18 → f ≠ 20 → f ≠ 24 → ps_go μ g f = μ f := fun f q1 q2 q3 => by unfold ps_go; rw [ps_up_f q2, ps_up_f q3, ps_gg_f q1]
  have gi24 : ∀ i, i ≠ g → ps_go μ g 24 i = μ 24 i := fun i hi => by unfold ps_go; rw [ps_up_f (show 24 ≠ 20 by decide), ps_up_n (Or.inr hi), ps_gg_f (by decide)]
  have gg24 : ps_go μ g 24 g = 0 := by unfold ps_go; rw [ps_up_f (show 24 ≠ 20 by decide), ps_up_s]
  refine ru_gt hC hV hg (fun i hi => ?_) (fun f _ _ _ => rfl) k1 (fun i hi => by rw [gi24 i hi, k2 i hi]) (fun i hi => by rw [g24 25 (by decide) (by decide) (by decide), g24 26 (by decide) (by decide) (by decide), (k3 i hi).1, (k3 i hi).2]; exact ⟨rfl, rfl⟩) ?_
  · by_cases q : i = g
    · subst q
      show (ps_goc μ i (ps_N μ 24 i) 24 i).toNatClampNeg ≤ 2
      rw [k4]; decide
    · show (ps_goc μ g (ps_N μ 24 g) 24 i).toNatClampNeg ≤ 2
      rw [k2 i q]
      exact ps_t2 hW i hi
  · obtain ⟨e0, e1, e4, e5, e6, e7, e8, e9, e10, e11, e12⟩ := hV.2.2 g hg
    refine ⟨e0, ?_, ?_, ?_, ?_, ?_, ?_, ?_, ?_, ?_, fun i hi => ?_⟩
    · rw [k1 19 (by decide) (by decide) (by decide)]; exact e1
    · rw [gg24, e4, k4]
    · rw [k1 20 (by decide) (by decide) (by decide)]; exact e5
    · rw [k1 21 (by decide) (by decide) (by decide)]; exact e6
    · rw [k1 23 (by decide) (by decide) (by decide)]; exact e7
    · rw [k1 27 (by decide) (by decide) (by decide)]; exact e8
    · rw [k1 28 (by decide) (by decide) (by decide)]; exact e9
    · rw [k1 29 (by decide) (by decide) (by decide)]; exact e10
    · rw [k1 30 (by decide) (by decide) (by decide)]; exact e11
    · have hi : i < (ps_go μ g 24 g).toNatClampNeg := hi
      rw [gg24] at hi
      exact absurd hi (Nat.not_lt_zero i)
set_option maxHeartbeats 4000000 in
set_option maxRecDepth 100000 in
theorem c_P_go_b {x : Int32} {k : Int32 → pw_Hp → Prop} (hC : ps_CS h R G aR aG Nw) (hV : ps_Rv R G aR aG Nw σ μ ρ) (hb : x < 0 ∨ nI G ≤ x) (hk : ∀ τ, ps_Rv R G aR aG Nw τ (ps_ref μ 1) ρ → ps_Off σ τ → k (-1) (pw_st h τ)) : pw_Ci 97 [.inr 2, .inl x] (pw_st h σ) k := by
  have hT := hC.1.1
  refine pw_intro (M := pm_P_go) rfl (by decide) (Nat.le_of_ble_eq_true rfl) (ls := [some (.inr 2), some (.inl x), none, none, none]) rfl ?_
  refine pw_sound pw_tok pk_P_go 400 _ _ _ _ _ _ ?_
  simp only [pv_all, pv_stp, pe_P_go, pv_st, Nat.reduceAdd, eq_self, true_and, and_true, true_or, or_true, hT]
  exact c_P_groupAt_o hC hV hb ⟨fun q => absurd rfl q, fun _ => ⟨hT, c_P_ref hC hV (c := 0) (by decide) (by decide) hk⟩⟩
set_option maxHeartbeats 4000000 in
set_option maxRecDepth 100000 in
theorem c_P_go {g : Nat} {k : Int32 → pw_Hp → Prop} (hC : ps_CS h R G aR aG Nw) (hV : ps_Rv R G aR aG Nw σ μ ρ) (hW : ps_Wf R G Nw μ ρ n) (hn : n < 100000) (hg : g < G) (hk : ∀ τ, ps_Rv R G aR aG Nw τ (ps_goS μ g).2 ρ → ps_Off σ τ → k (ps_goS μ g).1 (pw_st h τ)) : pw_Ci 97 [.inr 2, .inl (nI g)] (pw_st h σ) k := by
  have hT := hC.1.1
  obtain ⟨-, s2, a40, -⟩ := hC.2.2.2.2.1 g hg
  obtain ⟨-, -, -, w4, w5, w6, w7, -⟩ := hW.2.2.1 g hg
  obtain ⟨e0, e1, e4, e5, e6, -⟩ := hV.2.2 g hg
  rw [w4] at e5
  rw [w6] at e4
  refine pw_intro (M := pm_P_go) rfl (by decide) (Nat.le_of_ble_eq_true rfl) (ls := [some (.inr 2), some (.inl (nI g)), none, none, none]) rfl ?_
  refine pw_sound pw_tok pk_P_go 400 _ _ _ _ _ _ ?_
  simp only [pv_all, pv_stp, pe_P_go, pv_st, Nat.reduceAdd, eq_self, true_and, and_true, true_or, or_true, hT]
  refine c_P_groupAt hC hV hg ⟨fun _ => ⟨s2.1, ?_⟩, fun q => absurd q (by omega)⟩
  simp only [pv_st, e5, e4, s2.1, hT, true_and]
  simp (disch := omega) only [pn_c, pn_eq]
  unfold ps_goS at hk
  refine ⟨fun q => ?_, fun q => ?_⟩
  · rw [if_pos q, w6] at hk
    refine c_P_go_40 hC hn hg _ σ μ hV hW rfl (fun τ t1 t2 => hk τ (ps_goc_v hW hg q t1 hC) t2)
  · rw [if_neg q] at hk
    exact c_P_ref hC hV (c := 1) (by decide) (by decide) hk
end PGO
