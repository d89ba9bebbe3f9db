/-! ParkRows: boarding. -/
theorem ps_ur_ur (ρ : ps_P) (c : Nat) (K L : List Nat) : ps_ur (ps_ur ρ c K) c L = ps_ur ρ c L := by
  funext d
  unfold ps_ur
  by_cases h : d = c <;> simp [h]
theorem ps_ur_id (ρ : ps_P) (c : Nat) : ps_ur ρ c (ρ c) = ρ := by
  funext d
  unfold ps_ur
  by_cases h : d = c <;> simp [h]
-- from the front of a row, as long as the next fits into what is left (m): (numbers, the rest of the row, people)
def ps_fill (r : Nat) : List Nat → ps_S → Nat → ps_S × List Nat × Nat
  | [], μ, _ => (μ, [], 0)
  | g :: L, μ, m => if ps_N μ 19 g ≤ m then ((ps_fill r L (ps_bd μ g r) (m - ps_N μ 19 g)).1, (ps_fill r L (ps_bd μ g r) (m - ps_N μ 19 g)).2.1, (ps_fill r L (ps_bd μ g r) (m - ps_N μ 19 g)).2.2 + ps_N μ 19 g) else (μ, g :: L, 0)
-- groups of one, wherever they stand, as long as a seat is left
def ps_sing (r : Nat) : List Nat → ps_S → Nat → ps_S × List Nat × Nat
  | [], μ, _ => (μ, [], 0)
  | g :: L, μ, m => if m = 0 then (μ, g :: L, 0) else if ps_N μ 19 g = 1 then ((ps_sing r L (ps_bd μ g r) (m - 1)).1, (ps_sing r L (ps_bd μ g r) (m - 1)).2.1, (ps_sing r L (ps_bd μ g r) (m - 1)).2.2 + 1) else ((ps_sing r L μ m).1, g :: (ps_sing r L μ m).2.1, (ps_sing r L μ m).2.2)
theorem ps_fill_le {r : Nat} : ∀ (L : List Nat) (μ : ps_S) (m : Nat), (ps_fill r L μ m).2.2 ≤ m ∧ (ps_fill r L μ m).2.1.length ≤ L.length := by
  intro L
  induction L with
  | nil => intro μ m; exact ⟨Nat.zero_le _, Nat.le_refl _⟩
  | cons g L ih =>
    intro μ m
    unfold ps_fill
    split
    · have := ih (ps_bd μ g r) (m - ps_N μ 19 g)
      simp only [List.length_cons]
      omega
    · exact ⟨Nat.zero_le _, Nat.le_refl _⟩
theorem ps_sing_le {r : Nat} : ∀ (L : List Nat) (μ : ps_S) (m : Nat), (ps_sing r L μ m).2.2 ≤ m := by
  intro L
  induction L with
  | nil => intro μ m; exact Nat.zero_le _
  | cons g L ih =>
    intro μ m
    unfold ps_sing
    split
    · exact Nat.zero_le _
    · split
      · have := ih (ps_bd μ g r) (m - 1)
        simp only
        omega
      · exact ih μ m
section PBD
variable {h : pw_Hp} {R G : Nat} {aR aG Nw : Nat → Nat} {σ μ : ps_S} {ρ : ps_P} {n : Nat}
theorem ps_rowat (hC : ps_CS h R G aR aG Nw) (hV : ps_Rv R G aR aG Nw σ μ ρ) {r b : Nat} (hr : r < R) (hb : b < 2) : ps_WS h (aR r + 1 + 2 * b) ∧ ps_Rw σ (aR r + 1 + 2 * b) (ρ (2 * r + b)) := by
  obtain ⟨-, -, w1, w3, -, -, -⟩ := hC.2.2.2.1 r hr
  have q := hV.2.1 r hr
  rcases (show b = 0 ∨ b = 1 by omega) with rfl | rfl
  · exact ⟨w1, q.2.1⟩
  · exact ⟨w3, q.2.2.1⟩
set_option maxHeartbeats 4000000 in
set_option maxRecDepth 100000 in
theorem c_P_board {g r b p : Nat} {k : Int32 → pw_Hp → Prop} (hC : ps_CS h R G aR aG Nw) (hV : ps_Rv R G aR aG Nw σ μ ρ) (hg : g < G) (hr : r < R) (hb : b < 2) (hp : p < (ρ (2 * r + b)).length) (hk : ∀ τ, ps_Rv R G aR aG Nw τ (ps_bd μ g r) (ps_ur ρ (2 * r + b) ((ρ (2 * r + b)).eraseIdx p)) → ps_Off σ τ → k (μ 19 g) (pw_st h τ)) : pw_Ci 52 [.inr 2, .inr (aR r), .inr (aR r + 1 + 2 * b), .inl (nI p), .inr (aG g)] (pw_st h σ) k := by
  have hT := hC.1.1
  obtain ⟨-, s2, a40, -⟩ := hC.2.2.2.2.1 g hg
  obtain ⟨-, d2, -, -, -, b40, -⟩ := hC.2.2.2.1 r hr
  have hlay := hC.2.2.2.2.2.2.2 r g hr hg
  obtain ⟨hws, hRw⟩ := ps_rowat hC hV hr hb
  refine pw_intro (M := pm_P_board) rfl (by decide) (Nat.le_of_ble_eq_true rfl) (ls := [some (.inr 2), some (.inr (aR r)), some (.inr (aR r + 1 + 2 * b)), some (.inl (nI p)), some (.inr (aG g))]) rfl ?_
  refine pw_sound pw_tok pk_P_board 400 _ _ _ _ _ _ ?_
  simp only [pv_all, pv_stp, pe_P_board, pv_st, Nat.reduceAdd, eq_self, true_and, and_true, true_or, or_true, hws.1]
  refine c_W_removeAt hws hRw hp (fun τ ht1 ht2 => ⟨d2.1, s2.1, ?_⟩)
  have hV1 := ru_row hC hV hr hb ht1 ht2
  have e0 := (hV1.2.1 r hr).1.1
  simp only [pv_st, e0]
  refine c_G_turnTo s2 ?_
  have hV2 := ru_G6 (x := nI r) hC (ru_G5 (x := 3) hC hV1 hg) hg
  have et := hV2.1.2.2.2.2.1
  have hV3 := ru_G7 (x := μ 7 0) hC hV2 hg
  have e9 := (hV3.2.2 g hg).2.2.2.2.2.2.2.1
  have hV4 := ru_G9 (x := μ 28 g + 1) hC hV3 hg
  have u12 := (hV4.2.1 r hr).1.2.2.2.2.2.2.2.2.2.1
  have e1 := (hV4.2.2 g hg).2.1
  have hV5 := ru_D12 (x := μ 32 r + μ 19 g) hC hV4 hr
  have u13 := (hV5.2.1 r hr).1.2.2.2.2.2.2.2.2.2.2.1
  have e1b := (hV5.2.2 g hg).2.1
  have hV6 := ru_D13 (x := μ 14 r + μ 19 g) hC hV5 hr
  have e1c := (hV6.2.2 g hg).2.1
  have x1 : (ps_up (ps_up μ 20 g 3) 21 g (nI r)) 7 0 = μ 7 0 := by rw [ps_up_n (Or.inl (by decide)), ps_up_n (Or.inl (by decide))]
  have x2 : (ps_up (ps_up (ps_up μ 20 g 3) 21 g (nI r)) 23 g (μ 7 0)) 28 g = μ 28 g := by rw [ps_up_n (Or.inl (by decide)), ps_up_n (Or.inl (by decide)), ps_up_n (Or.inl (by decide))]
  have x3 : ∀ i, (ps_up (ps_up (ps_up (ps_up μ 20 g 3) 21 g (nI r)) 23 g (μ 7 0)) 28 g (μ 28 g + 1)) 32 i = μ 32 i := fun i => by rw [ps_up_n (Or.inl (by decide)), ps_up_n (Or.inl (by decide)), ps_up_n (Or.inl (by decide)), ps_up_n (Or.inl (by decide))]
  have x4 : ∀ i, (ps_up (ps_up (ps_up (ps_up μ 20 g 3) 21 g (nI r)) 23 g (μ 7 0)) 28 g (μ 28 g + 1)) 19 i = μ 19 i := fun i => by rw [ps_up_n (Or.inl (by decide)), ps_up_n (Or.inl (by decide)), ps_up_n (Or.inl (by decide)), ps_up_n (Or.inl (by decide))]
  have x5 : ∀ i, (ps_up (ps_up (ps_up (ps_up (ps_up μ 20 g 3) 21 g (nI r)) 23 g (μ 7 0)) 28 g (μ 28 g + 1)) 32 r (μ 32 r + μ 19 g)) 14 i = μ 14 i := fun i => by rw [ps_up_n (Or.inl (by decide)), ps_up_n (Or.inl (by decide)), ps_up_n (Or.inl (by decide)), ps_up_n (Or.inl (by decide)), ps_up_n (Or.inl (by decide))]
  have x6 : ∀ i, (ps_up (ps_up (ps_up (ps_up (ps_up μ 20 g 3) 21 g (nI r)) 23 g (μ 7 0)) 28 g (μ 28 g + 1)) 32 r (μ 32 r + μ 19 g)) 19 i = μ 19 i := fun i => by rw [ps_up_n (Or.inl (by decide)), x4]
  have x7 : ∀ i, (ps_up (ps_up (ps_up (ps_up (ps_up (ps_up μ 20 g 3) 21 g (nI r)) 23 g (μ 7 0)) 28 g (μ 28 g + 1)) 32 r (μ 32 r + μ 19 g)) 14 r (μ 14 r + μ 19 g)) 19 i = μ 19 i := fun i => by rw [ps_up_n (Or.inl (by decide)), x6]
  rw [x1] at et
  rw [x2] at e9
  rw [x3] at u12
  rw [x4] at e1
  rw [x5] at u13
  rw [x6] at e1b
  rw [x7] at e1c
  simp only [pv_st, hT, s2.1, d2.1, true_and, et, e9, u12, e1, u13, e1b, e1c]
  refine hk _ hV6 ?_
  intro f f1 f2
  rw [ps_up_f (by omega), ps_up_f (by omega), ps_up_f (by omega), ps_up_f (by omega), ps_up_f (by omega), ps_up_f (by omega)]
  exact ht2 f (by omega) (by omega)
set_option maxHeartbeats 4000000 in
set_option maxRecDepth 100000 in
theorem c_P_boardInOrder_6 {r b s : Nat} {k : Int32 → pw_Hp → Prop} (hC : ps_CS h R G aR aG Nw) (hr : r < R) (hb : b < 2) (hs : s ≤ 40) :
    ∀ (L : List Nat) (σ μ : ps_S) (ρ : ps_P) (t i : Nat) (y : Option pw_A), ps_Rv R G aR aG Nw σ μ ρ → ps_Wf R G Nw μ ρ n → ρ (2 * r + b) = L → t ≤ s → i + L.length ≤ 60 →
    (∀ τ, ps_Rv R G aR aG Nw τ (ps_fill r L μ (s - t)).1 (ps_ur ρ (2 * r + b) (ps_fill r L μ (s - t)).2.1) → ps_Off σ τ → k (nI (t + (ps_fill r L μ (s - t)).2.2)) (pw_st h τ)) →
    pw_J pm_P_boardInOrder (pw_qi k) 6 [some (.inr 2), some (.inr (aR r)), some (.inr (aR r + 1 + 2 * b)), some (.inl (nI s)), some (.inl (nI t)), some (.inl (nI i)), y] [] (pw_st h σ) 0 0 := by
  have hT := hC.1.1
  intro L
  induction L with
  | nil =>
    intro σ μ ρ t i y hV hW hL hts hi hk
    obtain ⟨hws, hRw⟩ := ps_rowat hC hV hr hb
    have hid := ps_ur_id ρ (2 * r + b)
    rw [hL] at hRw hid
    have fin := hk σ (by rw [show (ps_fill r [] μ (s - t)).2.1 = [] from rfl, hid]; exact hV) (ps_Off_rf σ)
    rw [show t + (ps_fill r [] μ (s - t)).2.2 = t from rfl] at fin
    refine pw_sound pw_tok pk_P_boardInOrder 400 _ _ _ _ _ _ ?_
    simp only [pv_all, pv_stp, pe_P_boardInOrder, pv_st, Nat.reduceAdd, eq_self, true_and, and_true, true_or, or_true, hws.1]
    refine ⟨fun _ => fin, fun _ => ?_⟩
    refine c_W_at_o hws hRw (Or.inr (by decide)) ⟨hT, ?_⟩
    exact c_P_groupAt_o hC hV (Or.inl (by decide)) ⟨fun _ => fin, fun q => absurd rfl q⟩
  | cons g L ih =>
    intro σ μ ρ t i y hV hW hL hts hi hk
    obtain ⟨hws, hRw⟩ := ps_rowat hC hV hr hb
    obtain ⟨l1, l2⟩ := hW.2.2.2.1 r b hr hb
    have hid := ps_ur_id ρ (2 * r + b)
    rw [List.length_cons] at hi
    have hmem : g ∈ ρ (2 * r + b) := by rw [hL]; exact List.mem_cons_self
    have hg := ((l2 g).mp hmem).1
    obtain ⟨-, s2, a40, -⟩ := hC.2.2.2.2.1 g hg
    obtain ⟨m1, m2, m3, -⟩ := hW.2.2.1 g hg
    have e1 := (hV.2.2 g hg).2.1
    have hRw' := hRw
    rw [hL] at hRw' hid
    unfold ps_fill at hk
    refine pw_sound pw_tok pk_P_boardInOrder 400 _ _ _ _ _ _ ?_
    simp only [pv_all, pv_stp, pe_P_boardInOrder, pv_st, Nat.reduceAdd, eq_self, true_and, and_true, true_or, or_true, hws.1]
    rw [show ((60 : Int32) ≤ nI i) = (60 ≤ i) from pn_le (a := 60) (by omega) (by omega)]
    refine ⟨fun q => absurd q (by omega), fun _ => ?_⟩
    refine c_W_at (i := 0) (x := g) hws hRw' rfl ⟨hT, ?_⟩
    refine c_P_groupAt hC hV hg ⟨fun q => absurd q (by omega), fun _ => ⟨s2.1, ?_⟩⟩
    simp only [pv_st, e1]
    rw [pn_sub hts, m1, pn_le (by omega) (by omega)]
    refine ⟨fun q => ⟨hT, ?_⟩, fun q => ?_⟩
    · rw [if_pos (by omega)] at hk
      have hW2 := ps_wf_board hW hr hb hmem
      refine c_P_board (p := 0) hC hV hg hr hb (by rw [hL]; simp) (fun τ hτ ho => ?_)
      have he : (ρ (2 * r + b)).erase g = L := by rw [hL]; simp
      have he2 : (ρ (2 * r + b)).eraseIdx 0 = L := by rw [hL]; rfl
      rw [he] at hW2
      rw [he2] at hτ
      rw [m1, pn_add, nI_1]
      refine ih τ _ _ (t + ps_N μ 19 g) (i + 1) _ hτ hW2 (ps_ur_s _ _ _) (by omega) (by omega) (fun υ hυ ho2 => ?_)
      rw [ps_ur_ur] at hυ
      rw [show s - (t + ps_N μ 19 g) = s - t - ps_N μ 19 g by omega] at hυ ⊢
      have := hk υ hυ (ps_Off_tr ho ho2)
      rw [show t + ((ps_fill r L (ps_bd μ g r) (s - t - ps_N μ 19 g)).2.2 + ps_N μ 19 g) = t + ps_N μ 19 g + (ps_fill r L (ps_bd μ g r) (s - t - ps_N μ 19 g)).2.2 by omega] at this
      exact this
    · rw [if_neg (by omega)] at hk
      exact hk σ (by rw [hid]; exact hV) (ps_Off_rf σ)
set_option maxHeartbeats 4000000 in
set_option maxRecDepth 100000 in
theorem c_P_boardInOrder {r b s : Nat} {k : Int32 → pw_Hp → Prop} (hC : ps_CS h R G aR aG Nw) (hV : ps_Rv R G aR aG Nw σ μ ρ) (hW : ps_Wf R G Nw μ ρ n) (hr : r < R) (hb : b < 2) (hs : s ≤ 40)
    (hk : ∀ τ, ps_Rv R G aR aG Nw τ (ps_fill r (ρ (2 * r + b)) μ s).1 (ps_ur ρ (2 * r + b) (ps_fill r (ρ (2 * r + b)) μ s).2.1) → ps_Off σ τ → k (nI (ps_fill r (ρ (2 * r + b)) μ s).2.2) (pw_st h τ)) : pw_Ci 74 [.inr 2, .inr (aR r), .inr (aR r + 1 + 2 * b), .inl (nI s)] (pw_st h σ) k := by
  obtain ⟨hws, hRw⟩ := ps_rowat hC hV hr hb
  refine pw_intro (M := pm_P_boardInOrder) rfl (by decide) (Nat.le_of_ble_eq_true rfl) (ls := [some (.inr 2), some (.inr (aR r)), some (.inr (aR r + 1 + 2 * b)), some (.inl (nI s)), none, none, none]) rfl ?_
  refine pw_sound pw_tok pk_P_boardInOrder 400 _ _ _ _ _ _ ?_
  simp only [pv_all, pv_stp, pe_P_boardInOrder, pv_st, Nat.reduceAdd, eq_self, true_and, and_true, true_or, or_true]
  refine c_P_boardInOrder_6 hC hr hb hs _ σ μ ρ 0 0 none hV hW rfl (Nat.zero_le _) (by have := hRw.2.1; omega) (fun τ hτ ho => ?_)
  rw [Nat.zero_add]
  exact hk τ hτ ho
set_option maxHeartbeats 4000000 in
set_option maxRecDepth 100000 in
theorem c_P_boardSingles_8 {r s : Nat} {k : Int32 → pw_Hp → Prop} (hC : ps_CS h R G aR aG Nw) (hr : r < R) (hs : s ≤ 40) :
    ∀ (L P : List Nat) (σ μ : ps_S) (ρ : ps_P) (t i : Nat) (y : Option pw_A), ps_Rv R G aR aG Nw σ μ ρ → ps_Wf R G Nw μ ρ n → ρ (2 * r) = P ++ L → t ≤ s → i + L.length ≤ 60 →
    (∀ τ, ps_Rv R G aR aG Nw τ (ps_sing r L μ (s - t)).1 (ps_ur ρ (2 * r) (P ++ (ps_sing r L μ (s - t)).2.1)) → ps_Off σ τ → k (nI (t + (ps_sing r L μ (s - t)).2.2)) (pw_st h τ)) →
    pw_J pm_P_boardSingles (pw_qi k) 8 [some (.inr 2), some (.inr (aR r)), some (.inl (nI s)), some (.inl (nI t)), some (.inl (nI P.length)), some (.inl (nI i)), y] [] (pw_st h σ) 0 0 := by
  have hT := hC.1.1
  obtain ⟨-, d2, w1, -, -, b40, -⟩ := hC.2.2.2.1 r hr
  have d6 := d2.2.1
  intro L
  induction L with
  | nil =>
    intro P σ μ ρ t i y hV hW hL hts hi hk
    obtain ⟨hws, hRw⟩ := ps_rowat hC hV hr (b := 0) (by decide)
    have hid := ps_ur_id ρ (2 * r)
    have hRw : ps_Rw σ (aR r + 1) (ρ (2 * r)) := hRw
    rw [hL, List.append_nil] at hRw hid
    have fin := hk σ (by rw [show (ps_sing r [] μ (s - t)).2.1 = [] from rfl, List.append_nil, hid]; exact hV) (ps_Off_rf σ)
    rw [show t + (ps_sing r [] μ (s - t)).2.2 = t from rfl] at fin
    refine pw_sound pw_tok pk_P_boardSingles 400 _ _ _ _ _ _ ?_
    simp only [pv_all, pv_stp, pe_P_boardSingles, pv_st, Nat.reduceAdd, eq_self, true_and, and_true, true_or, or_true, d2.1, d6, w1.1]
    refine ⟨fun _ => fin, fun _ => ⟨fun _ => fin, fun _ => ?_⟩⟩
    refine c_W_at_o w1 hRw (Or.inr (by rw [fa_le']; exact Int.le_refl _)) ⟨hT, ?_⟩
    exact c_P_groupAt_o hC hV (Or.inl (by decide)) ⟨fun q => absurd rfl q, fun _ => fin⟩
  | cons g L ih =>
    intro P σ μ ρ t i y hV hW hL hts hi hk
    obtain ⟨hws, hRw⟩ := ps_rowat hC hV hr (b := 0) (by decide)
    have hRw : ps_Rw σ (aR r + 1) (ρ (2 * r)) := hRw
    obtain ⟨l1, l2⟩ := hW.2.2.2.1 r 0 hr (by decide)
    rw [Nat.add_zero] at l1 l2
    have hid := ps_ur_id ρ (2 * r)
    rw [List.length_cons] at hi
    have hmem : g ∈ ρ (2 * r) := by rw [hL]; simp
    have hg := ((l2 g).mp hmem).1
    obtain ⟨-, s2, a40, -⟩ := hC.2.2.2.2.1 g hg
    obtain ⟨m1, m2, m3, -⟩ := hW.2.2.1 g hg
    have e1 := (hV.2.2 g hg).2.1
    have hat : (ρ (2 * r))[P.length]? = some g := by rw [hL]; simp
    have hgP : g ∉ P := by
      rw [hL] at l1
      have := List.nodup_append.mp l1
      exact fun q => (this.2.2 g q g List.mem_cons_self) rfl
    rw [hL] at hid
    unfold ps_sing at hk
    refine pw_sound pw_tok pk_P_boardSingles 400 _ _ _ _ _ _ ?_
    simp only [pv_all, pv_stp, pe_P_boardSingles, pv_st, Nat.reduceAdd, eq_self, true_and, and_true, true_or, or_true, d2.1, d6, w1.1]
    rw [show ((60 : Int32) ≤ nI i) = (60 ≤ i) from pn_le (a := 60) (by omega) (by omega), pn_le (by omega) (by omega)]
    refine ⟨fun q => absurd q (by omega), fun _ => ⟨fun q => ?_, fun q => ?_⟩⟩
    · rw [if_pos (by omega)] at hk
      exact hk σ (by rw [hid]; exact hV) (ps_Off_rf σ)
    · rw [if_neg (by omega)] at hk
      refine c_W_at w1 hRw hat ⟨hT, ?_⟩
      refine c_P_groupAt hC hV hg ⟨fun _ => ⟨s2.1, ?_⟩, fun q => absurd q (by omega)⟩
      simp only [pv_st, e1, d6]
      rw [m1, show (nI (ps_N μ 19 g) = (1 : Int32)) = (ps_N μ 19 g = 1) from pn_eq (b := 1) (by omega) (by omega), nI_1]
      refine ⟨fun q2 => ?_, fun q2 => ⟨d2.1, hT, ?_⟩⟩
      · rw [if_neg q2] at hk
        rw [nI_1, show P.length + 1 = (P ++ [g]).length by simp]
        refine ih (P ++ [g]) σ μ ρ t (i + 1) _ hV hW (by rw [hL]; simp) hts (by omega) (fun τ hτ ho => ?_)
        rw [List.append_assoc] at hτ
        exact hk τ hτ ho
      · rw [if_pos q2] at hk
        have hW2 := ps_wf_board hW hr (b := 0) (by decide) hmem
        refine c_P_board (b := 0) hC hV hg hr (by decide) (p := P.length) (by rw [Nat.add_zero, hL]; simp) (fun τ hτ ho => ?_)
        rw [Nat.add_zero] at hW2 hτ
        have he : (ρ (2 * r)).erase g = P ++ L := by rw [hL, List.erase_append_right _ hgP]; simp
        have he2 : (ρ (2 * r)).eraseIdx P.length = P ++ L := by rw [hL, List.eraseIdx_append_of_length_le (Nat.le_refl _)]; simp
        rw [he] at hW2
        rw [he2] at hτ
        rw [m1, q2, show nI t + nI 1 = nI (t + 1) from pn_add _ _, nI_1 i]
        refine ih P τ _ _ (t + 1) (i + 1) _ hτ hW2 (ps_ur_s _ _ _) (by omega) (by omega) (fun υ hυ ho2 => ?_)
        rw [ps_ur_ur] at hυ
        rw [show s - (t + 1) = s - t - 1 by omega] at hυ ⊢
        have := hk υ hυ (ps_Off_tr ho ho2)
        rw [show t + ((ps_sing r L (ps_bd μ g r) (s - t - 1)).2.2 + 1) = t + 1 + (ps_sing r L (ps_bd μ g r) (s - t - 1)).2.2 by omega] at this
        exact this
set_option maxHeartbeats 4000000 in
set_option maxRecDepth 100000 in
theorem c_P_boardSingles {r s : Nat} {k : Int32 → pw_Hp → Prop} (hC : ps_CS h R G aR aG Nw) (hV : ps_Rv R G aR aG Nw σ μ ρ) (hW : ps_Wf R G Nw μ ρ n) (hr : r < R) (hs : s ≤ 40)
    (hk : ∀ τ, ps_Rv R G aR aG Nw τ (ps_sing r (ρ (2 * r)) μ s).1 (ps_ur ρ (2 * r) (ps_sing r (ρ (2 * r)) μ s).2.1) → ps_Off σ τ → k (nI (ps_sing r (ρ (2 * r)) μ s).2.2) (pw_st h τ)) : pw_Ci 75 [.inr 2, .inr (aR r), .inl (nI s)] (pw_st h σ) k := by
  obtain ⟨hws, hRw⟩ := ps_rowat hC hV hr (b := 0) (by decide)
  refine pw_intro (M := pm_P_boardSingles) rfl (by decide) (Nat.le_of_ble_eq_true rfl) (ls := [some (.inr 2), some (.inr (aR r)), some (.inl (nI s)), none, none, none, none]) rfl ?_
  refine pw_sound pw_tok pk_P_boardSingles 400 _ _ _ _ _ _ ?_
  simp only [pv_all, pv_stp, pe_P_boardSingles, pv_st, Nat.reduceAdd, eq_self, true_and, and_true, true_or, or_true]
  refine c_P_boardSingles_8 hC hr hs (ρ (2 * r)) [] σ μ ρ 0 0 none hV hW rfl (Nat.zero_le _) (by have := hRw.2.1; rw [Nat.add_zero] at this; omega) (fun τ hτ ho => ?_)
  rw [Nat.zero_add]
  exact hk τ hτ ho
end PBD
