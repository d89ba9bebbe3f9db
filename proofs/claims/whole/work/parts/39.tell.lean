/-! ParkRows: groupOf, rideOf, count, wait. -/
def ps_gof (μ : ps_S) (ρ : ps_P) (g : Nat) (x : Int32) : Int32 := if x = 0 then μ 19 g else if x = 1 then μ 20 g else if x = 2 then μ 21 g else if x = 3 then (if ps_N μ 20 g = 1 ∨ ps_N μ 20 g = 2 then nI ((ρ (2 * ps_N μ 21 g + (ps_N μ 20 g - 1))).idxOf g) else -9) else if x = 4 then μ 24 g else if x = 5 then μ 27 g else if x = 6 then μ 28 g else if x = 7 then μ 29 g else if x = 8 then μ 30 g else -9
def ps_rof (μ : ps_S) (ρ : ps_P) (r : Nat) (x : Int32) : Int32 := if x = 0 then μ 8 r else if x = 1 then μ 9 r else if x = 2 then μ 10 r else if x = 3 then μ 11 r else if x = 4 then μ 12 r else if x = 5 then (if ps_runs (μ 13 r) (μ 12 r) (μ 7 1) = true then 1 else 0) else if x = 6 then nI (ρ (2 * r)).length else if x = 7 then nI (ρ (2 * r + 1)).length else if x = 8 then μ 32 r else if x = 9 then μ 14 r else if x = 10 then μ 15 r else if x = 11 then nI (ps_N μ 7 0 / ps_wd μ r) else if x = 12 then μ 16 r else -9
def ps_pd (μ : ps_S) (lo hi : Nat) : Nat → Int32
  | 0 => 0
  | g + 1 => ps_pd μ lo hi g + (if lo ≤ ps_N μ 20 g ∧ ps_N μ 20 g ≤ hi then μ 19 g else 0)
def ps_cnt (μ : ps_S) (G : Nat) (x : Int32) : Int32 := if x = 0 then μ 7 0 else if x = 1 then μ 7 2 else if x = 2 then μ 7 14 else if x = 3 then ps_pd μ 0 4 G else if x = 4 then ps_pd μ 3 3 G else if x = 5 then ps_pd μ 1 2 G else if x = 6 then ps_pd μ 4 4 G else if x < 11 then -9 else if 16 < x then -9 else μ 31 (x.toNatClampNeg - 10)
-- rounds till g is on: (al seats at each round; f left in this one, n rounds so far)
def ps_wt (μ : ps_S) (g al : Nat) : List Nat → Nat → Nat → Option Nat
  | [], _, _ => none
  | x :: L, f, n => if al < ps_N μ 19 x then none else if x = g then some (if f < ps_N μ 19 x then n + 1 else n) else if f < ps_N μ 19 x then ps_wt μ g al L (al - ps_N μ 19 x) (n + 1) else ps_wt μ g al L (f - ps_N μ 19 x) n
def ps_wait (μ : ps_S) (ρ : ps_P) (g : Nat) : Int32 × ps_S := if ps_N μ 20 g ≠ 1 then (-2, ps_ref μ 2) else match ps_wt μ g (ps_N μ 8 (ps_N μ 21 g) - ps_N μ 10 (ps_N μ 21 g)) (ρ (2 * ps_N μ 21 g)) (ps_N μ 8 (ps_N μ 21 g) - ps_N μ 10 (ps_N μ 21 g)) 1 with
  | some m => (nI m, μ)
  | none => (-3, ps_ref μ 3)
theorem ps_wt_le {μ : ps_S} {g al : Nat} : ∀ (L : List Nat) (f n m : Nat), ps_wt μ g al L f n = some m → m ≤ n + L.length := by
  intro L
  induction L with
  | nil => intro f n m h; cases h
  | cons x L ih =>
    intro f n m h
    unfold ps_wt at h
    rw [List.length_cons]
    split at h
    · cases h
    · split at h
      · cases h
        split <;> omega
      · split at h
        · have := ih _ _ _ h; omega
        · have := ih _ _ _ h; omega
section PTE
variable {h : pw_Hp} {R G : Nat} {aR aG Nw : Nat → Nat} {σ μ : ps_S} {ρ : ps_P} {n : Nat}
set_option maxHeartbeats 4000000 in
set_option maxRecDepth 100000 in
theorem c_P_placeInRow {g : Nat} {k : Int32 → pw_Hp → Prop} (hC : ps_CS h R G aR aG Nw) (hV : ps_Rv R G aR aG Nw σ μ ρ) (hW : ps_Wf R G Nw μ ρ n) (hg : g < G) (hk : k (if ps_N μ 20 g = 1 ∨ ps_N μ 20 g = 2 then nI ((ρ (2 * ps_N μ 21 g + (ps_N μ 20 g - 1))).idxOf g) else -9) (pw_st h σ)) : pw_Ci 71 [.inr 2, .inr (aG g)] (pw_st h σ) k := by
  have hT := hC.1.1
  have hG60 := hC.2.2.1
  obtain ⟨-, s2, a40, -⟩ := hC.2.2.2.2.1 g hg
  obtain ⟨m1, m2, m3, w4, w5, w6, w7, w8, w9, -, -, w11, -⟩ := hW.2.2.1 g hg
  obtain ⟨e0, e1, e4, e5, e6, -⟩ := hV.2.2 g hg
  refine pw_intro (M := pm_P_placeInRow) rfl (by decide) (Nat.le_of_ble_eq_true rfl) (ls := [some (.inr 2), some (.inr (aG g)), none]) rfl ?_
  refine pw_sound pw_tok pk_P_placeInRow 400 _ _ _ _ _ _ ?_
  simp only [pv_all, pv_stp, pe_P_placeInRow, pv_st, Nat.reduceAdd, eq_self, true_and, and_true, true_or, or_true, hT]
  by_cases hd : ps_N μ 20 g = 1 ∨ ps_N μ 20 g = 2
  · rw [if_pos hd] at hk
    obtain ⟨v1, hr⟩ := w11 (by omega) (by omega)
    generalize hre : ps_N μ 21 g = r at hk v1 hr
    obtain ⟨b, hb, hbe⟩ : ∃ b, b < 2 ∧ ps_N μ 20 g = b + 1 := ⟨ps_N μ 20 g - 1, by omega, by omega⟩
    have h20 : μ 20 g = nI (b + 1) := by rw [w4, hbe]
    rw [hbe, Nat.add_sub_cancel] at hk
    obtain ⟨-, d2, w1, w3, -, b40, -⟩ := hC.2.2.2.1 r hr
    obtain ⟨l1, l2⟩ := hW.2.2.2.1 r b hr hb
    have hmem : g ∈ ρ (2 * r + b) := (l2 g).mpr ⟨hg, h20, v1⟩
    obtain ⟨i1, i2, i3, i4⟩ := ps_idx hmem
    have hws : ps_WS h (aR r + 1 + 2 * b) := by
      rcases (show b = 0 ∨ b = 1 by omega) with rfl | rfl
      · exact w1
      · exact w3
    have hRw : ps_Rw σ (aR r + 1 + 2 * b) (ρ (2 * r + b)) := by
      have q := hV.2.1 r hr
      rcases (show b = 0 ∨ b = 1 by omega) with rfl | rfl
      · exact q.2.1
      · exact q.2.2.1
    refine c_P_rowOf hC hV hg hr hb h20 v1 ⟨fun _ => ⟨s2.1, hws.1, ?_⟩, fun q => absurd q (by omega)⟩
    simp only [pv_st, e0]
    exact c_W_placeOf hws hRw (fun x hx => by have := ((l2 x).mp hx).1; omega) (by omega) i1 i2 hk
  · rw [if_neg hd] at hk
    exact c_P_rowOf_o hC hV hW hg (by omega) (by omega) ⟨fun q => absurd rfl q, fun _ => hk⟩
set_option maxHeartbeats 4000000 in
set_option maxRecDepth 100000 in
theorem c_P_groupOf_b {x y : Int32} {k : Int32 → pw_Hp → Prop} (hC : ps_CS h R G aR aG Nw) (hV : ps_Rv R G aR aG Nw σ μ ρ) (hb : x < 0 ∨ nI G ≤ x) (hk : ∀ τ, ps_Rv R G aR aG Nw τ (ps_ref μ 1) ρ → ps_Off σ τ → k (-1) (pw_st h τ)) : pw_Ci 98 [.inr 2, .inl x, .inl y] (pw_st h σ) k := by
  have hT := hC.1.1
  refine pw_intro (M := pm_P_groupOf) rfl (by decide) (Nat.le_of_ble_eq_true rfl) (ls := [some (.inr 2), some (.inl x), some (.inl y), none]) rfl ?_
  refine pw_sound pw_tok pk_P_groupOf 400 _ _ _ _ _ _ ?_
  simp only [pv_all, pv_stp, pe_P_groupOf, pv_st, Nat.reduceAdd, eq_self, true_and, and_true, true_or, or_true, hT]
  exact c_P_groupAt_o hC hV hb ⟨fun q => absurd rfl q, fun _ => ⟨hT, c_P_ref hC hV (c := 0) (by decide) (by decide) hk⟩⟩
set_option maxHeartbeats 4000000 in
set_option maxRecDepth 100000 in
theorem c_P_groupOf {g : Nat} {y : Int32} {k : Int32 → pw_Hp → Prop} (hC : ps_CS h R G aR aG Nw) (hV : ps_Rv R G aR aG Nw σ μ ρ) (hW : ps_Wf R G Nw μ ρ n) (hg : g < G) (hk : k (ps_gof μ ρ g y) (pw_st h σ)) : pw_Ci 98 [.inr 2, .inl (nI g), .inl y] (pw_st h σ) k := by
  have hT := hC.1.1
  obtain ⟨-, s2, a40, -⟩ := hC.2.2.2.2.1 g hg
  obtain ⟨e0, e1, e4, e5, e6, e7, e8, e9, e10, e11, -⟩ := hV.2.2 g hg
  refine pw_intro (M := pm_P_groupOf) rfl (by decide) (Nat.le_of_ble_eq_true rfl) (ls := [some (.inr 2), some (.inl (nI g)), some (.inl y), none]) rfl ?_
  refine pw_sound pw_tok pk_P_groupOf 400 _ _ _ _ _ _ ?_
  simp only [pv_all, pv_stp, pe_P_groupOf, pv_st, Nat.reduceAdd, eq_self, true_and, and_true, true_or, or_true, hT]
  refine c_P_groupAt hC hV hg ⟨fun _ => ?_, fun q => absurd q (by omega)⟩
  simp only [pv_st, s2.1, hT, e1, e4, e5, e6, e8, e9, e10, e11, true_and]
  unfold ps_gof at hk
  refine ⟨fun q => ?_, fun q0 => ⟨fun q => ?_, fun q1 => ⟨fun q => ?_, fun q2 => ⟨fun q => ?_, fun q3 => ⟨fun q => ?_, fun q4 => ⟨fun q => ?_, fun q5 => ⟨fun q => ?_, fun q6 => ⟨fun q => ?_, fun q7 => ⟨fun q => ?_, fun q8 => ?_⟩⟩⟩⟩⟩⟩⟩⟩⟩
  · rw [if_pos q] at hk; exact hk
  · rw [if_neg q0, if_pos q] at hk; exact hk
  · rw [if_neg q0, if_neg q1, if_pos q] at hk; exact hk
  · rw [if_neg q0, if_neg q1, if_neg q2, if_pos q] at hk; exact c_P_placeInRow hC hV hW hg hk
  · rw [if_neg q0, if_neg q1, if_neg q2, if_neg q3, if_pos q] at hk; exact hk
  · rw [if_neg q0, if_neg q1, if_neg q2, if_neg q3, if_neg q4, if_pos q] at hk; exact hk
  · rw [if_neg q0, if_neg q1, if_neg q2, if_neg q3, if_neg q4, if_neg q5, if_pos q] at hk; exact hk
  · rw [if_neg q0, if_neg q1, if_neg q2, if_neg q3, if_neg q4, if_neg q5, if_neg q6, if_pos q] at hk; exact hk
  · rw [if_neg q0, if_neg q1, if_neg q2, if_neg q3, if_neg q4, if_neg q5, if_neg q6, if_neg q7, if_pos q] at hk; exact hk
  · rw [if_neg q0, if_neg q1, if_neg q2, if_neg q3, if_neg q4, if_neg q5, if_neg q6, if_neg q7, if_neg q8] at hk; exact hk
set_option maxHeartbeats 4000000 in
set_option maxRecDepth 100000 in
theorem c_P_rideOf_b {x y : Int32} {k : Int32 → pw_Hp → Prop} (hC : ps_CS h R G aR aG Nw) (hV : ps_Rv R G aR aG Nw σ μ ρ) (hb : x < 0 ∨ nI R ≤ x) (hk : ∀ τ, ps_Rv R G aR aG Nw τ (ps_ref μ 1) ρ → ps_Off σ τ → k (-1) (pw_st h τ)) : pw_Ci 46 [.inr 2, .inl x, .inl y] (pw_st h σ) k := by
  have hT := hC.1.1
  refine pw_intro (M := pm_P_rideOf) rfl (by decide) (Nat.le_of_ble_eq_true rfl) (ls := [some (.inr 2), some (.inl x), some (.inl y), none]) rfl ?_
  refine pw_sound pw_tok pk_P_rideOf 400 _ _ _ _ _ _ ?_
  simp only [pv_all, pv_stp, pe_P_rideOf, pv_st, Nat.reduceAdd, eq_self, true_and, and_true, true_or, or_true, hT]
  exact c_P_rideAt_o hC hV hb ⟨fun q => absurd rfl q, fun _ => ⟨hT, c_P_ref hC hV (c := 0) (by decide) (by decide) hk⟩⟩
set_option maxHeartbeats 4000000 in
set_option maxRecDepth 100000 in
theorem c_P_rideOf {r : Nat} {y : Int32} {k : Int32 → pw_Hp → Prop} (hC : ps_CS h R G aR aG Nw) (hV : ps_Rv R G aR aG Nw σ μ ρ) (hW : ps_Wf R G Nw μ ρ n) (hr : r < R) (hk : k (ps_rof μ ρ r y) (pw_st h σ)) : pw_Ci 46 [.inr 2, .inl (nI r), .inl y] (pw_st h σ) k := by
  have hT := hC.1.1
  obtain ⟨-, d2, w1, w3, -, b40, -⟩ := hC.2.2.2.1 r hr
  obtain ⟨wr, -⟩ := hW.2.1 r hr
  have p2 := ps_wd_pos wr
  have tb := hW.1.2.2.2.1
  have et := hV.1.2.2.2.2.1
  rw [hW.1.2.2.1] at et
  have er := hV.1.2.2.2.2.2.1
  obtain ⟨⟨u0, u1, u2, u3, u4, u5, u9, u10, u11, u12, u13, u14, u15⟩, r1, r2, -⟩ := hV.2.1 r hr
  have d2' := d2
  unfold ps_DS at d2'
  refine pw_intro (M := pm_P_rideOf) rfl (by decide) (Nat.le_of_ble_eq_true rfl) (ls := [some (.inr 2), some (.inl (nI r)), some (.inl y), none]) rfl ?_
  refine pw_sound pw_tok pk_P_rideOf 400 _ _ _ _ _ _ ?_
  simp only [pv_all, pv_stp, pe_P_rideOf, pv_st, Nat.reduceAdd, eq_self, true_and, and_true, true_or, or_true, hT]
  refine c_P_rideAt hC hV hr ⟨fun _ => ?_, fun q => absurd q (by omega)⟩
  simp only [pv_st, d2', w1.1, w3.1, hT, u1, u2, u3, u9, u10, u12, u13, u14, u15, et, er, r1.1, r2.1, true_and, eq_self]
  unfold ps_rof at hk
  refine ⟨fun q => ?_, fun q0 => ⟨fun q => ?_, fun q1 => ⟨fun q => ?_, fun q2 => ⟨fun q => ?_, fun q3 => ⟨fun q => ?_, fun q4 => ⟨fun q => ?_, fun q5 => ⟨fun q => ?_, fun q6 => ⟨fun q => ?_, fun q7 => ⟨fun q => ?_, fun q8 => ⟨fun q => ?_, fun q9 => ⟨fun q => ?_, fun q10 => ⟨fun q => ?_, fun q11 => ⟨fun q => ?_, fun q12 => ?_⟩⟩⟩⟩⟩⟩⟩⟩⟩⟩⟩⟩⟩
  · rw [if_pos q] at hk; exact hk
  · rw [if_neg q0, if_pos q] at hk; exact hk
  · rw [if_neg q0, if_neg q1, if_pos q] at hk; exact hk
  · rw [if_neg q0, if_neg q1, if_neg q2, if_pos q] at hk; exact hk
  · rw [if_neg q0, if_neg q1, if_neg q2, if_neg q3, if_pos q] at hk; exact hk
  · rw [if_neg q0, if_neg q1, if_neg q2, if_neg q3, if_neg q4, if_pos q] at hk
    refine c_D_runs d2 ?_
    rw [u11, u3]
    by_cases z : ps_runs (μ 13 r) (μ 12 r) (μ 7 1) = true
    · rw [if_pos z] at hk ⊢
      exact ⟨fun q => absurd q (by decide), fun _ => hk⟩
    · rw [if_neg z] at hk ⊢
      exact ⟨fun _ => hk, fun q => absurd rfl q⟩
  · rw [if_neg q0, if_neg q1, if_neg q2, if_neg q3, if_neg q4, if_neg q5, if_pos q] at hk; exact hk
  · rw [if_neg q0, if_neg q1, if_neg q2, if_neg q3, if_neg q4, if_neg q5, if_neg q6, if_pos q] at hk; exact hk
  · rw [if_neg q0, if_neg q1, if_neg q2, if_neg q3, if_neg q4, if_neg q5, if_neg q6, if_neg q7, if_pos q] at hk; exact hk
  · rw [if_neg q0, if_neg q1, if_neg q2, if_neg q3, if_neg q4, if_neg q5, if_neg q6, if_neg q7, if_neg q8, if_pos q] at hk; exact hk
  · rw [if_neg q0, if_neg q1, if_neg q2, if_neg q3, if_neg q4, if_neg q5, if_neg q6, if_neg q7, if_neg q8, if_neg q9, if_pos q] at hk; exact hk
  · rw [if_neg q0, if_neg q1, if_neg q2, if_neg q3, if_neg q4, if_neg q5, if_neg q6, if_neg q7, if_neg q8, if_neg q9, if_neg q10, if_pos q] at hk
    exact c_D_windowAt d2 u5 (by omega) (by omega) tb hk
  · rw [if_neg q0, if_neg q1, if_neg q2, if_neg q3, if_neg q4, if_neg q5, if_neg q6, if_neg q7, if_neg q8, if_neg q9, if_neg q10, if_neg q11, if_pos q] at hk; exact hk
  · rw [if_neg q0, if_neg q1, if_neg q2, if_neg q3, if_neg q4, if_neg q5, if_neg q6, if_neg q7, if_neg q8, if_neg q9, if_neg q10, if_neg q11, if_neg q12] at hk; exact hk
set_option maxHeartbeats 4000000 in
set_option maxRecDepth 100000 in
theorem c_P_peopleDoing_5 {lo hi : Nat} {k : Int32 → pw_Hp → Prop} (hC : ps_CS h R G aR aG Nw) (hV : ps_Rv R G aR aG Nw σ μ ρ) (hW : ps_Wf R G Nw μ ρ n) (hlo : lo ≤ 4) (hhi : hi ≤ 4) (hk : k (ps_pd μ lo hi G) (pw_st h σ)) :
    ∀ (m g : Nat) (y : Option pw_A), g + m = G → pw_J pm_P_peopleDoing (pw_qi k) 5 [some (.inr 2), some (.inl (nI lo)), some (.inl (nI hi)), some (.inl (ps_pd μ lo hi g)), some (.inl (nI g)), y] [] (pw_st h σ) 0 0 := by
  have hT := hC.1.1
  have hG60 := hC.2.2.1
  have v := hV.1.2.1
  intro m
  induction m with
  | zero =>
    intro g y hm
    refine pw_sound pw_tok pk_P_peopleDoing 400 _ _ _ _ _ _ ?_
    simp only [pv_all, pv_stp, pe_P_peopleDoing, pv_st, Nat.reduceAdd, eq_self, true_and, and_true, true_or, or_true, hT, v]
    simp (disch := omega) only [pn_le]
    exact ⟨fun _ => by rw [show G = g by omega] at hk; exact hk, fun q => absurd q (by omega)⟩
  | succ m ih =>
    intro g y hm
    have hg : g < G := by omega
    obtain ⟨-, s2, a40, -⟩ := hC.2.2.2.2.1 g hg
    obtain ⟨m1, m2, m3, w4, w5, -⟩ := hW.2.2.1 g hg
    obtain ⟨e0, e1, e4, e5, -⟩ := hV.2.2 g hg
    rw [w4] at e5
    have ihg := fun y => ih (g + 1) y (by omega)
    unfold ps_pd at ihg
    refine pw_sound pw_tok pk_P_peopleDoing 400 _ _ _ _ _ _ ?_
    simp only [pv_all, pv_stp, pe_P_peopleDoing, pv_st, Nat.reduceAdd, eq_self, true_and, and_true, true_or, or_true, hT, v]
    simp (disch := omega) only [pn_le]
    refine ⟨fun q => absurd q (by omega), fun _ => ?_⟩
    refine c_P_groupAt hC hV hg ⟨fun q => absurd q (by omega), fun _ => ⟨s2.1, ?_⟩⟩
    simp only [pv_st, s2.1, e5, e1, true_and]
    simp (disch := omega) only [pn_lt, nI_1]
    refine ⟨fun q => ?_, fun q => ⟨fun q2 => ?_, fun q2 => ?_⟩⟩
    · have := ihg (some (.inr (aG g)))
      rw [if_neg (by omega), Int32.add_zero] at this
      exact this
    · have := ihg (some (.inr (aG g)))
      rw [if_neg (by omega), Int32.add_zero] at this
      exact this
    · have := ihg (some (.inr (aG g)))
      rw [if_pos (by omega)] at this
      exact this
set_option maxHeartbeats 4000000 in
set_option maxRecDepth 100000 in
theorem c_P_peopleDoing {lo hi : Nat} {k : Int32 → pw_Hp → Prop} (hC : ps_CS h R G aR aG Nw) (hV : ps_Rv R G aR aG Nw σ μ ρ) (hW : ps_Wf R G Nw μ ρ n) (hlo : lo ≤ 4) (hhi : hi ≤ 4) (hk : k (ps_pd μ lo hi G) (pw_st h σ)) : pw_Ci 49 [.inr 2, .inl (nI lo), .inl (nI hi)] (pw_st h σ) k := by
  refine pw_intro (M := pm_P_peopleDoing) rfl (by decide) (Nat.le_of_ble_eq_true rfl) (ls := [some (.inr 2), some (.inl (nI lo)), some (.inl (nI hi)), none, none, none]) rfl ?_
  refine pw_sound pw_tok pk_P_peopleDoing 400 _ _ _ _ _ _ ?_
  simp only [pv_all, pv_stp, pe_P_peopleDoing, pv_st, Nat.reduceAdd, eq_self, true_and, and_true, true_or, or_true]
  exact c_P_peopleDoing_5 hC hV hW hlo hhi hk G 0 none (by omega)
set_option maxHeartbeats 4000000 in
set_option maxRecDepth 100000 in
theorem c_P_count {x : Int32} {k : Int32 → pw_Hp → Prop} (hC : ps_CS h R G aR aG Nw) (hV : ps_Rv R G aR aG Nw σ μ ρ) (hW : ps_Wf R G Nw μ ρ n) (hk : k (ps_cnt μ G x) (pw_st h σ)) : pw_Ci 70 [.inr 2, .inl x] (pw_st h σ) k := by
  have hT := hC.1.1
  obtain ⟨t1, t2, t3, t4, t5, -⟩ := hV.1
  rw [← t3] at t1
  rw [← t4] at t2
  unfold ps_cnt at hk
  have hcase : ∀ (j : Int32) (a b : Prop), True := fun _ _ _ => trivial
  refine pw_intro (M := pm_P_count) rfl (by decide) (Nat.le_of_ble_eq_true rfl) (ls := [some (.inr 2), some (.inl x)]) rfl ?_
  refine pw_sound pw_tok pk_P_count 400 _ _ _ _ _ _ ?_
  simp only [pv_all, pv_stp, pe_P_count, pv_st, Nat.reduceAdd, eq_self, true_and, and_true, true_or, or_true, hT, t1, t2, t5]
  have small : (x = 0 ∨ x = 1 ∨ x = 2 ∨ x = 3 ∨ x = 4 ∨ x = 5 ∨ x = 6 → False) → ¬ (¬ x < 11 ∧ ¬ 16 < x) → k (-9) (pw_st h σ) := by
    intro z1 z2
    rw [if_neg (fun q => z1 (by simp [q])), if_neg (fun q => z1 (by simp [q])), if_neg (fun q => z1 (by simp [q])), if_neg (fun q => z1 (by simp [q])), if_neg (fun q => z1 (by simp [q])), if_neg (fun q => z1 (by simp [q])), if_neg (fun q => z1 (by simp [q]))] at hk
    by_cases z3 : x < 11
    · rw [if_pos z3] at hk; exact hk
    · by_cases z4 : 16 < x
      · rw [if_neg z3, if_pos z4] at hk; exact hk
      · exact absurd ⟨z3, z4⟩ z2
  have body : ¬ (¬ x < 11 ∧ ¬ 16 < x) → (x = 0 → k (μ 7 0) (pw_st h σ)) ∧ (¬x = 0 → (x = 1 → k (μ 7 2) (pw_st h σ)) ∧ (¬x = 1 → (x = 2 → k (μ 7 14) (pw_st h σ)) ∧ (¬x = 2 → (x = 3 → pw_Ci 49 [.inr 2, .inl 0, .inl 4] (pw_st h σ) k) ∧ (¬x = 3 → (x = 4 → pw_Ci 49 [.inr 2, .inl 3, .inl 3] (pw_st h σ) k) ∧ (¬x = 4 → (x = 5 → pw_Ci 49 [.inr 2, .inl 1, .inl 2] (pw_st h σ) k) ∧ (¬x = 5 → (x = 6 → pw_Ci 49 [.inr 2, .inl 4, .inl 4] (pw_st h σ) k) ∧ (¬x = 6 → k (-9) (pw_st h σ)))))))) := by
    intro z
    refine ⟨fun q => ?_, fun q0 => ⟨fun q => ?_, fun q1 => ⟨fun q => ?_, fun q2 => ⟨fun q => ?_, fun q3 => ⟨fun q => ?_, fun q4 => ⟨fun q => ?_, fun q5 => ⟨fun q => ?_, fun q6 => ?_⟩⟩⟩⟩⟩⟩⟩
    · rw [if_pos q] at hk; exact hk
    · rw [if_neg q0, if_pos q] at hk; exact hk
    · rw [if_neg q0, if_neg q1, if_pos q] at hk; exact hk
    · rw [if_neg q0, if_neg q1, if_neg q2, if_pos q] at hk; exact c_P_peopleDoing (lo := 0) (hi := 4) hC hV hW (by decide) (by decide) hk
    · rw [if_neg q0, if_neg q1, if_neg q2, if_neg q3, if_pos q] at hk; exact c_P_peopleDoing (lo := 3) (hi := 3) hC hV hW (by decide) (by decide) hk
    · rw [if_neg q0, if_neg q1, if_neg q2, if_neg q3, if_neg q4, if_pos q] at hk; exact c_P_peopleDoing (lo := 1) (hi := 2) hC hV hW (by decide) (by decide) hk
    · rw [if_neg q0, if_neg q1, if_neg q2, if_neg q3, if_neg q4, if_neg q5, if_pos q] at hk; exact c_P_peopleDoing (lo := 4) (hi := 4) hC hV hW (by decide) (by decide) hk
    · exact small (fun w => by rcases w with w | w | w | w | w | w | w; exact q0 w; exact q1 w; exact q2 w; exact q3 w; exact q4 w; exact q5 w; exact q6 w) z
  refine ⟨fun q => body (fun z => z.1 q), fun q => ⟨fun q2 => body (fun z => z.2 q2), fun q2 => ?_⟩⟩
  have hx0 : ¬ x < 0 := by
    intro z
    apply q
    rw [fa_lt'] at z ⊢
    have h0 : (0 : Int32).toInt = 0 := by decide
    have h11 : (11 : Int32).toInt = 11 := by decide
    omega
  obtain ⟨j, hj, rfl⟩ := nI_of hx0
  rw [show (11 : Int32) = nI 11 from rfl, pn_lt hj (by decide)] at q
  rw [show (16 : Int32) = nI 16 from rfl, pn_lt (by decide) hj] at q2
  have hsm : ∀ c : Nat, c < 11 → ¬ nI j = nI c := fun c hc z => by rw [pn_eq hj (by omega)] at z; omega
  rw [if_neg (show ¬ nI j = (0 : Int32) from hsm 0 (by decide)), if_neg (show ¬ nI j = (1 : Int32) from hsm 1 (by decide)), if_neg (show ¬ nI j = (2 : Int32) from hsm 2 (by decide)), if_neg (show ¬ nI j = (3 : Int32) from hsm 3 (by decide)), if_neg (show ¬ nI j = (4 : Int32) from hsm 4 (by decide)), if_neg (show ¬ nI j = (5 : Int32) from hsm 5 (by decide)), if_neg (show ¬ nI j = (6 : Int32) from hsm 6 (by decide)), if_neg (by rw [show (11 : Int32) = nI 11 from rfl, pn_lt hj (by decide)]; exact q), if_neg (by rw [show (16 : Int32) = nI 16 from rfl, pn_lt (by decide) hj]; exact q2), nI_clamp hj] at hk
  rw [show (11 : Int32) = nI 11 from rfl, pn_sub (by omega)]
  exact c_P_refusalsAt hC hV (by omega) (by rw [show j - 11 + 1 = j - 10 by omega]; exact hk)
end PTE
