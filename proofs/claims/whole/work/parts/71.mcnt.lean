/-! The reference: count, row, wait. -/
section PMZ
variable {h : pw_Hp} {R G m n : Nat} {Nw : Nat → Nat} {σ μ : ps_S} {ρ : ps_P}
set_option maxHeartbeats 4000000 in
set_option maxRecDepth 100000 in
theorem c_M_count_61 {x : Int32} {k : Int32 → pw_Hp → Prop} (hM : ps_MS h) (hD : ps_Md R G m σ μ ρ) (hW : ps_Wf R G Nw μ ρ n) (hk : k (ps_pd μ 0 4 G) (pw_st h σ)) :
    ∀ (c i : Nat), i + c = G → pw_J pm_M_count (pw_qi k) 61 [some (.inr 7), some (.inl x), some (.inl (ps_pd μ 0 4 i)), some (.inl (nI i))] [] (pw_st h σ) 0 0 := by
  have e := ps_Md_e hD
  have v := hD.2.1.2.2.2.1
  have hG := hW.1.2.1
  unfold ps_MS at hM
  intro c
  induction c with
  | zero =>
    intro i hi
    refine pw_sound pw_tok pk_M_count 400 _ _ _ _ _ _ ?_
    simp only [pv_all, pv_stp, pe_M_count, pv_st, Nat.reduceAdd, eq_self, true_and, and_true, true_or, or_true, hM, v]
    rw [pn_le (by omega) (by omega)]
    exact ⟨fun _ => by rw [show i = G by omega]; exact hk, fun q => absurd (by omega) q⟩
  | succ c ih =>
    intro i hi
    have nx := ih (i + 1) (by omega)
    unfold ps_pd at nx
    have w5 := (hW.2.2.1 i (by omega)).2.2.2.2.1
    rw [if_pos ⟨by omega, w5⟩] at nx
    refine pw_sound pw_tok pk_M_count 400 _ _ _ _ _ _ ?_
    simp only [pv_all, pv_stp, pe_M_count, pv_st, Nat.reduceAdd, eq_self, true_and, and_true, true_or, or_true, hM, v]
    simp (disch := omega) only [pn_le, pn_at, pn_cl, e, nI_1]
    exact ⟨fun q => absurd q (by omega), fun _ => ⟨by omega, nx⟩⟩
set_option maxHeartbeats 4000000 in
set_option maxRecDepth 100000 in
theorem c_M_count {x : Int32} {k : Int32 → pw_Hp → Prop} (hM : ps_MS h) (hD : ps_Md R G m σ μ ρ) (hW : ps_Wf R G Nw μ ρ n) (hk : k (ps_cnt μ G x) (pw_st h σ)) : pw_Ci 61 [.inr 7, .inl x] (pw_st h σ) k := by
  have hM' := hM
  have e := ps_Md_e hD
  have hG := hW.1.2.1
  have hg4 : ∀ g, g < G → μ 20 g = nI (ps_N μ 20 g) ∧ ps_N μ 20 g ≤ 4 := fun g hg => ⟨(hW.2.2.1 g hg).2.2.2.1, (hW.2.2.1 g hg).2.2.2.2.1⟩
  obtain ⟨a1, a2, a3, a4, a5⟩ := hD.2.1
  have m2 := hW.1.2.2.2.2.2.1
  have m14 := hW.1.2.2.2.2.2.2
  rw [← m2] at a3
  rw [← m14] at a4
  unfold ps_MS at hM
  unfold ps_cnt at hk
  refine pw_intro (M := pm_M_count) rfl (by decide) (Nat.le_of_ble_eq_true rfl) (ls := [some (.inr 7), some (.inl x), none, none]) rfl ?_
  refine pw_sound pw_tok pk_M_count 400 _ _ _ _ _ _ ?_
  simp only [pv_all, pv_stp, pe_M_count, pv_st, Nat.reduceAdd, eq_self, true_and, and_true, true_or, or_true, hM]
  rw [a1, a3, a4]
  refine ⟨fun q => ?_, fun q0 => ⟨fun q => ?_, fun q1 => ⟨fun q => ?_, fun q2 => ⟨fun q => ?_, fun q3 => ⟨fun q => ?_, fun q4 => ⟨fun q => ?_, fun q5 => ⟨fun q => ?_, fun q6 => ?_⟩⟩⟩⟩⟩⟩⟩
  · rw [if_pos q] at hk; exact hk
  · rw [if_neg q0, if_pos q] at hk; exact hk
  · rw [if_neg q0, if_neg q1, if_pos q] at hk; exact hk
  · rw [if_neg q0, if_neg q1, if_neg q2, if_pos q] at hk
    exact c_M_count_61 hM' hD hW hk G 0 (Nat.zero_add G)
  · rw [if_neg q0, if_neg q1, if_neg q2, if_neg q3, if_pos q] at hk
    refine c_M_manyAt hM' hD hG ?_
    rw [show (3 : Int32) = nI 3 from rfl, ps_ma_pd (by decide) G hg4]
    exact hk
  · rw [if_neg q0, if_neg q1, if_neg q2, if_neg q3, if_neg q4, if_pos q] at hk
    refine c_M_manyAt hM' hD hG ?_
    simp only [pv_st, hM, eq_self, true_and]
    refine c_M_manyAt hM' hD hG ?_
    have p1 := ps_ma_pd (μ := μ) (d := 1) (by decide) G hg4
    have p2 := ps_ma_pd (μ := μ) (d := 2) (by decide) G hg4
    rw [← ps_pd_12, ← p1, ← p2] at hk
    exact hk
  · rw [if_neg q0, if_neg q1, if_neg q2, if_neg q3, if_neg q4, if_neg q5, if_pos q] at hk
    refine c_M_manyAt hM' hD hG ?_
    rw [show (4 : Int32) = nI 4 from rfl, ps_ma_pd (by decide) G hg4]
    exact hk
  · rw [if_neg q0, if_neg q1, if_neg q2, if_neg q3, if_neg q4, if_neg q5, if_neg q6] at hk
    refine c_M_in (fun z1 z2 => ⟨fun q => absurd q (by decide), fun _ => ?_⟩) (fun z => ⟨fun _ => ?_, fun q => absurd rfl q⟩)
    · rw [if_neg (fa_nlt' z1), if_neg (fa_nlt' z2)] at hk
      have hx0 : ¬ x < 0 := by
        rw [fa_lt', show (0 : Int32).toInt = 0 from rfl]
        rw [fa_le', show (11 : Int32).toInt = 11 from rfl] at z1
        omega
      obtain ⟨j, hj, rfl⟩ := nI_of hx0
      rw [show (11 : Int32) = nI 11 from rfl, pn_le (by decide) hj] at z1
      rw [show (16 : Int32) = nI 16 from rfl, pn_le hj (by decide)] at z2
      rw [pn_cl hj] at hk
      rw [show (10 : Int32) = nI 10 from rfl, pn_sub (by omega)]
      simp (disch := omega) only [pv_st, hM, eq_self, true_and, true_or, pn_at, pn_cl, e]
      exact ⟨by omega, hk⟩
    · by_cases z1 : x < 11
      · rw [if_pos z1] at hk; exact hk
      · have z2 : 16 < x := by
          have : ¬ x ≤ 16 := fun w => z ⟨fa_of_nlt' z1, w⟩
          rw [fa_lt']; rw [fa_le'] at this; omega
        rw [if_neg z1, if_pos z2] at hk; exact hk
set_option maxHeartbeats 4000000 in
set_option maxRecDepth 100000 in
theorem c_M_row_b {x y z : Int32} {k : Int32 → pw_Hp → Prop} (hM : ps_MS h) (hD : ps_Md R G m σ μ ρ) (hR : R ≤ 8) (hb : x < 0 ∨ nI R ≤ x) (hk : ∀ τ, ps_Md R G m τ (ps_ref μ 1) ρ → ps_Ofm σ τ → k (-1) (pw_st h τ)) : pw_Ci 93 [.inr 7, .inl x, .inl y, .inl z] (pw_st h σ) k := by
  have hM' := hM
  unfold ps_MS at hM
  refine pw_intro (M := pm_M_row) rfl (by decide) (Nat.le_of_ble_eq_true rfl) (ls := [some (.inr 7), some (.inl x), some (.inl y), some (.inl z), none, none]) rfl ?_
  refine pw_sound pw_tok pk_M_row 400 _ _ _ _ _ _ ?_
  simp only [pv_all, pv_stp, pe_M_row, pv_st, Nat.reduceAdd, eq_self, true_and, and_true, true_or, or_true, hM]
  refine c_M_isRide_o hM' hD hR hb ⟨fun q => absurd rfl q, fun _ => ?_⟩
  simp only [pv_st, hM, eq_self, true_and]
  exact c_M_ref hM' hD (c := 1) (by decide) (by decide) hk
set_option maxHeartbeats 4000000 in
set_option maxRecDepth 100000 in
theorem c_M_row_34n {r : Nat} {y z g : Int32} {k : Int32 → pw_Hp → Prop} (hM : ps_MS h) (hz : z < 0) (hk : k (-9) (pw_st h σ)) : pw_J pm_M_row (pw_qi k) 34 [some (.inr 7), some (.inl (nI r)), some (.inl y), some (.inl z), some (.inl g), some (.inl 0)] [] (pw_st h σ) 0 0 := by
  unfold ps_MS at hM
  refine pw_sound pw_tok pk_M_row 400 _ _ _ _ _ _ ?_
  simp only [pv_all, pv_stp, pe_M_row, pv_st, Nat.reduceAdd, eq_self, true_and, and_true, true_or, or_true, hM]
  refine ⟨fun _ => ⟨fun _ => hk, fun _ => ⟨fun q => absurd hz (fa_nlt' q), fun _ => hk⟩⟩, fun q => absurd ?_ q⟩
  rw [fa_lt'] at hz
  rw [fa_le']
  omega
set_option maxHeartbeats 4000000 in
set_option maxRecDepth 100000 in
theorem c_M_row_34 {r b i : Nat} {y : Int32} {L : List Nat} {k : Int32 → pw_Hp → Prop} (hM : ps_MS h) (hG : G ≤ 60) (h14 : σ 7 14 = nI G) (hm : m < 100000) (hb : b = if y = 0 then 0 else 1) (hi : i < 2147483648) (ro : ps_Ro G m σ r b L) (hl : L.length ≤ 60) (h1 : ∀ x, L[i]? = some x → k (nI x) (pw_st h σ)) (ho : L.length ≤ i → k (-9) (pw_st h σ)) :
    ∀ (B A : List Nat), L = A ++ B → A.length ≤ i → pw_J pm_M_row (pw_qi k) 34 [some (.inr 7), some (.inl (nI r)), some (.inl y), some (.inl (nI i)), some (.inl (ps_hd B)), some (.inl (nI A.length))] [] (pw_st h σ) 0 0 := by
  have hM' := hM
  unfold ps_MS at hM
  intro B
  induction B with
  | nil =>
    intro A hL hA
    have fin : k (-9) (pw_st h σ) := ho (by rw [hL, List.append_nil]; exact hA)
    refine pw_sound pw_tok pk_M_row 400 _ _ _ _ _ _ ?_
    simp only [pv_all, pv_stp, pe_M_row, pv_st, Nat.reduceAdd, eq_self, true_and, and_true, true_or, or_true, hM]
    show _ ∧ _
    have hd : ps_hd [] < 0 := by decide
    exact ⟨fun _ => ⟨fun _ => fin, fun q => absurd hd q⟩, fun _ => ⟨fun _ => ⟨fun _ => fin, fun q => absurd hd q⟩, fun q => absurd hd q⟩⟩
  | cons x B ih =>
    intro A hL hA
    have hxL : x ∈ L := by rw [hL]; exact List.mem_append.mpr (Or.inr (List.mem_cons_self ..))
    have hx := ro.2.1 x hxL
    have hlA : A.length < 60 := by
      rw [hL, List.length_append, List.length_cons] at hl
      omega
    have hd : ¬ ps_hd (x :: B) < 0 := nI_pos (by omega)
    have nx : A.length < i → pw_J pm_M_row (pw_qi k) 34 [some (.inr 7), some (.inl (nI r)), some (.inl y), some (.inl (nI i)), some (.inl (ps_hd B)), some (.inl (nI (A.length + 1)))] [] (pw_st h σ) 0 0 := fun q => by
      have := ih (A ++ [x]) (by rw [List.append_assoc]; exact hL) (by rw [List.length_append]; exact q)
      rw [List.length_append] at this
      exact this
    rw [hL] at ro
    refine pw_sound pw_tok pk_M_row 400 _ _ _ _ _ _ ?_
    simp only [pv_all, pv_stp, pe_M_row, pv_st, Nat.reduceAdd, eq_self, true_and, and_true, true_or, or_true, hM, nI_1]
    rw [pn_le hi (by omega)]
    refine ⟨fun q => ⟨fun q2 => absurd q2 hd, fun _ => ⟨fun _ => ?_, fun q2 => absurd ?_ q2⟩⟩, fun q => ⟨fun q2 => absurd q2 hd, fun _ => ⟨fun qy => ⟨?_, ?_⟩, fun qy => ⟨?_, ?_⟩⟩⟩⟩
    · refine h1 x ?_
      rw [hL, List.getElem?_append_right (by omega), show i - A.length = 0 by omega]
      rfl
    · rw [show (0 : Int32) = nI 0 from rfl, pn_le (by decide) hi]; omega
    · show pw_at (nI x) 60
      rw [pn_at (by omega)]; omega
    · rw [if_pos qy] at hb
      subst hb
      show pw_Ci 26 [.inr 7, .inl (nI r), .inl 1, .inl (σ 22 (nI x).toNatClampNeg)] (pw_st h σ) _
      rw [pn_cl (by omega)]
      exact c_M_nextg (b := 0) hM' hG h14 hm ro (nx (by omega))
    · show pw_at (nI x) 60
      rw [pn_at (by omega)]; omega
    · rw [if_neg qy] at hb
      subst hb
      show pw_Ci 26 [.inr 7, .inl (nI r), .inl 2, .inl (σ 22 (nI x).toNatClampNeg)] (pw_st h σ) _
      rw [pn_cl (by omega)]
      exact c_M_nextg (b := 1) hM' hG h14 hm ro (nx (by omega))
set_option maxHeartbeats 4000000 in
set_option maxRecDepth 100000 in
theorem c_M_row {r : Nat} {y z : Int32} {k : Int32 → pw_Hp → Prop} (hM : ps_MS h) (hD : ps_Md R G m σ μ ρ) (hW : ps_Wf R G Nw μ ρ n) (hm : m < 100000) (hr : r < R) (hi : ∀ i x, z = nI i → (ρ (2 * r + (if y = 0 then 0 else 1)))[i]? = some x → k (nI x) (pw_st h σ)) (ho : (z < 0 ∨ nI (ρ (2 * r + (if y = 0 then 0 else 1))).length ≤ z) → k (-9) (pw_st h σ)) : pw_Ci 93 [.inr 7, .inl (nI r), .inl y, .inl z] (pw_st h σ) k := by
  have hM' := hM
  have hR := hW.1.1
  have hG := hW.1.2.1
  have v := hD.2.1.2.2.2.1
  have hb2 : (if y = 0 then 0 else 1) < 2 := by split <;> omega
  have ro := ps_Ro_of hD hW hr hb2
  have hl : (ρ (2 * r + (if y = 0 then 0 else 1))).length ≤ 60 := by
    have := ps_nodup_len G _ (ps_So_nodup ro.2.2) ro.2.1
    omega
  unfold ps_MS at hM
  have go : pw_J pm_M_row (pw_qi k) 34 [some (.inr 7), some (.inl (nI r)), some (.inl y), some (.inl z), some (.inl (ps_hd (ρ (2 * r + (if y = 0 then 0 else 1))))), some (.inl 0)] [] (pw_st h σ) 0 0 := by
    by_cases hz : z < 0
    · exact c_M_row_34n hM' hz (ho (Or.inl hz))
    · obtain ⟨i, hi2, rfl⟩ := nI_of hz
      exact c_M_row_34 hM' hG v hm rfl hi2 ro hl (fun x hx => hi i x rfl hx) (fun q => ho (Or.inr (by rw [pn_le (by omega) hi2]; exact q))) _ [] rfl (Nat.zero_le i)
  refine pw_intro (M := pm_M_row) rfl (by decide) (Nat.le_of_ble_eq_true rfl) (ls := [some (.inr 7), some (.inl (nI r)), some (.inl y), some (.inl z), none, none]) rfl ?_
  refine pw_sound pw_tok pk_M_row 400 _ _ _ _ _ _ ?_
  simp only [pv_all, pv_stp, pe_M_row, pv_st, Nat.reduceAdd, eq_self, true_and, and_true, true_or, or_true, hM]
  refine c_M_isRide hM' hD hR hr ⟨fun _ => ?_, fun q => absurd q (by decide)⟩
  simp only [pv_st, hM, eq_self, true_and]
  refine ⟨fun qy => ?_, fun qy => ?_⟩
  · rw [if_pos qy] at ro go
    exact c_M_next0 (b := 0) hM' hG v hm ro go
  · rw [if_neg qy] at ro go
    exact c_M_next0 (b := 1) hM' hG v hm ro go
set_option maxHeartbeats 4000000 in
set_option maxRecDepth 100000 in
theorem c_M_wait_67 {r g al : Nat} {L : List Nat} {k : Int32 → pw_Hp → Prop} (hM : ps_MS h) (hD : ps_Md R G m σ μ ρ) (hW : ps_Wf R G Nw μ ρ n) (hm : m < 100000) (hg : g < G) (hal : al ≤ 40) (ro : ps_Ro G m σ r 0 L) :
    ∀ (B A : List Nat) (f c : Nat), L = A ++ B → g ∈ B → f ≤ al → c ≤ 1000 + A.length → L.length ≤ 60 → (ps_wt μ g al B f c = none → ∀ τ, ps_Md R G m τ (ps_ref μ 3) ρ → ps_Ofm σ τ → k (-3) (pw_st h τ)) → (∀ x, ps_wt μ g al B f c = some x → k (nI x) (pw_st h σ)) → pw_J pm_M_wait (pw_qi k) 67 [some (.inr 7), some (.inl (nI g)), some (.inl (nI r)), some (.inl (nI al)), some (.inl (nI c)), some (.inl (nI f)), some (.inl (ps_hd B))] [] (pw_st h σ) 0 0 := by
  have hM' := hM
  have e := ps_Md_e hD
  have hG := hW.1.2.1
  have v := hD.2.1.2.2.2.1
  unfold ps_MS at hM
  intro B
  induction B with
  | nil => intro A f c _ hgB; cases hgB
  | cons x B ih =>
    intro A f c hL hgB hf hc hl h1 h2
    have hxL : x ∈ L := by rw [hL]; exact List.mem_append.mpr (Or.inr (List.mem_cons_self ..))
    have hx := ro.2.1 x hxL
    obtain ⟨u1, u2, u3, -⟩ := hW.2.2.1 x hx
    have hlA : A.length < 60 := by
      have := hl
      rw [hL, List.length_append, List.length_cons] at this
      omega
    have nx : ∀ f' c', x ≠ g → f' ≤ al → c' ≤ 1000 + A.length + 1 → (ps_wt μ g al B f' c' = none → ∀ τ, ps_Md R G m τ (ps_ref μ 3) ρ → ps_Ofm σ τ → k (-3) (pw_st h τ)) → (∀ x, ps_wt μ g al B f' c' = some x → k (nI x) (pw_st h σ)) → pw_Ci 26 [.inr 7, .inl (nI r), .inl 1, .inl (σ 22 x)] (pw_st h σ) (fun y h' => pw_J pm_M_wait (pw_qi k) 67 [some (.inr 7), some (.inl (nI g)), some (.inl (nI r)), some (.inl (nI al)), some (.inl (nI c')), some (.inl (nI f')), some (.inl y)] [] h' 0 0) := fun f' c' z z1 z2 z3 z4 => by
      have ro' := ro
      rw [hL] at ro'
      refine c_M_nextg (b := 0) hM' hG v hm ro' ?_
      refine ih (A ++ [x]) f' c' (by rw [List.append_assoc]; exact hL) ?_ z1 (by rw [List.length_append, List.length_singleton]; omega) hl z3 z4
      rcases List.mem_cons.mp hgB with q | q
      · exact absurd q.symm z
      · exact q
    unfold ps_wt at h1 h2
    refine pw_sound pw_tok pk_M_wait 400 _ _ _ _ _ _ ?_
    simp only [pv_all, pv_stp, pe_M_wait, pv_st, Nat.reduceAdd, eq_self, true_and, and_true, true_or, or_true, hM]
    show pw_at (nI x) 60 ∧ _
    have hdx : ps_hd (x :: B) = nI x := rfl
    simp (disch := omega) only [hdx, pn_at, pn_cl, e, u1, pn_le, pn_eq, nI_1]
    refine ⟨by omega, fun q => ⟨by omega, fun q2 => ⟨fun q3 => ⟨by omega, by omega, ?_⟩, fun q3 => ?_⟩, fun q2 => ⟨fun q3 => ⟨by omega, by omega, ?_⟩, fun q3 => ?_⟩⟩, fun q => ?_⟩
    · rw [if_neg (by omega), if_neg q3, if_neg (by omega)] at h1 h2
      rw [pn_sub (by omega)]
      exact nx _ _ q3 (by omega) (by omega) h1 h2
    · rw [if_neg (by omega), if_pos q3, if_neg (by omega)] at h2
      exact h2 c rfl
    · rw [if_neg (by omega), if_neg q3, if_pos (by omega)] at h1 h2
      rw [pn_sub (by omega)]
      exact nx _ _ q3 (by omega) (by omega) h1 h2
    · rw [if_neg (by omega), if_pos q3, if_pos (by omega)] at h2
      exact h2 (c + 1) rfl
    · rw [if_pos (by omega)] at h1
      exact c_M_ref hM' hD (c := 3) (by decide) (by decide) (h1 rfl)
set_option maxHeartbeats 4000000 in
set_option maxRecDepth 100000 in
theorem c_M_wait_b {x : Int32} {k : Int32 → pw_Hp → Prop} (hM : ps_MS h) (hD : ps_Md R G m σ μ ρ) (hG : G ≤ 60) (hb : x < 0 ∨ nI G ≤ x) (hk : ∀ τ, ps_Md R G m τ (ps_ref μ 1) ρ → ps_Ofm σ τ → k (-1) (pw_st h τ)) : pw_Ci 88 [.inr 7, .inl x] (pw_st h σ) k := by
  have hM' := hM
  unfold ps_MS at hM
  refine pw_intro (M := pm_M_wait) rfl (by decide) (Nat.le_of_ble_eq_true rfl) (ls := [some (.inr 7), some (.inl x), none, none, none, none, none]) rfl ?_
  refine pw_sound pw_tok pk_M_wait 400 _ _ _ _ _ _ ?_
  simp only [pv_all, pv_stp, pe_M_wait, pv_st, Nat.reduceAdd, eq_self, true_and, and_true, true_or, or_true, hM]
  refine c_M_isGroup_o hM' hD hG hb ⟨fun q => absurd rfl q, fun _ => ?_⟩
  simp only [pv_st, hM, eq_self, true_and]
  exact c_M_ref hM' hD (c := 1) (by decide) (by decide) hk
set_option maxHeartbeats 4000000 in
set_option maxRecDepth 100000 in
theorem c_M_wait {g : Nat} {k : Int32 → pw_Hp → Prop} (hM : ps_MS h) (hD : ps_Md R G m σ μ ρ) (hW : ps_Wf R G Nw μ ρ n) (hm : m < 100000) (hg : g < G) (hk : ∀ τ, ps_Md R G m τ (ps_wait μ ρ g).2 ρ → ps_Ofm σ τ → k (ps_wait μ ρ g).1 (pw_st h τ)) : pw_Ci 88 [.inr 7, .inl (nI g)] (pw_st h σ) k := by
  have hM' := hM
  have e := ps_Md_e hD
  have hR := hW.1.1
  have hG := hW.1.2.1
  have v := hD.2.1.2.2.2.1
  obtain ⟨-, -, -, w4, w5, -, -, -, -, -, -, w12, -⟩ := hW.2.2.1 g hg
  unfold ps_MS at hM
  unfold ps_wait at hk
  refine pw_intro (M := pm_M_wait) rfl (by decide) (Nat.le_of_ble_eq_true rfl) (ls := [some (.inr 7), some (.inl (nI g)), none, none, none, none, none]) rfl ?_
  refine pw_sound pw_tok pk_M_wait 400 _ _ _ _ _ _ ?_
  simp only [pv_all, pv_stp, pe_M_wait, pv_st, Nat.reduceAdd, eq_self, true_and, and_true, true_or, or_true, hM]
  refine c_M_isGroup hM' hD hG hg ⟨fun _ => ?_, fun q => absurd q (by decide)⟩
  by_cases q : ps_N μ 20 g = 1
  · obtain ⟨u1, u2⟩ := w12 (by omega) (by omega)
    obtain ⟨s1, s2, s3, -, -, -, s7, s8, -⟩ := (hW.2.1 _ u2).1
    rw [if_neg (fun z => z q)] at hk
    have ro := ps_Ro_of hD hW u2 (b := 0) (by decide)
    have hmem : g ∈ ρ (2 * ps_N μ 21 g + 0) := ((hW.2.2.2.1 _ 0 u2 (by decide)).2 g).mpr ⟨hg, by rw [w4, q], u1⟩
    have hl : (ρ (2 * ps_N μ 21 g + 0)).length ≤ 60 := by
      have := ps_nodup_len G _ (ps_So_nodup ro.2.2) ro.2.1
      omega
    simp (disch := omega) only [pv_st, hM, eq_self, true_and, true_or, pn_at, pn_cl, e, w4, u1, s1, s7, pn_sub, pn_c, pn_eq]
    refine ⟨by omega, fun _ => ⟨by omega, by omega, by omega, ?_⟩, fun z => absurd q z⟩
    refine c_M_next0 (b := 0) hM' hG v hm ro ?_
    refine c_M_wait_67 hM' hD hW hm hg (by omega) ro _ [] _ 1 rfl hmem (Nat.le_refl _) (by omega) hl (fun z => ?_) (fun x z => ?_)
    · rw [show ρ (2 * ps_N μ 21 g + 0) = ρ (2 * ps_N μ 21 g) from rfl] at z
      rw [z] at hk
      exact hk
    · rw [show ρ (2 * ps_N μ 21 g + 0) = ρ (2 * ps_N μ 21 g) from rfl] at z
      rw [z] at hk
      exact hk σ hD (ps_Ofm_rf σ)
  · rw [if_pos q] at hk
    simp (disch := omega) only [pv_st, hM, eq_self, true_and, true_or, pn_at, pn_cl, e, w4, pn_c, pn_eq]
    refine ⟨by omega, fun z => absurd z q, fun _ => ?_⟩
    exact c_M_ref hM' hD (c := 2) (by decide) (by decide) hk
end PMZ
