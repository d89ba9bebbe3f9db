/-! ParkRows: stand, come, leave, go. -/
theorem ps_nodup_len : ∀ (n : Nat) (L : List Nat), L.Nodup → (∀ x ∈ L, x < n) → L.length ≤ n := by
  intro n
  induction n with
  | zero =>
    intro L _ h
    cases L with
    | nil => exact Nat.le_refl 0
    | cons a r => exact absurd (h a List.mem_cons_self) (by omega)
  | succ n ih =>
    intro L hn h
    have h1 : (L.erase n).length ≤ n := ih (L.erase n) (hn.erase n) (fun x hx => by
      have h2 := h x (List.mem_of_mem_erase hx)
      have h3 : x ≠ n := fun e => by
        subst e
        exact (List.Nodup.not_mem_erase hn) hx
      omega)
    have h2 : L.length ≤ (L.erase n).length + 1 := by
      rw [List.length_erase]
      split <;> omega
    omega
def ps_sr (μ : ps_S) (g : Nat) (d x : Int32) : ps_S := ps_up (ps_up μ 20 g d) 21 g x
def ps_stand (μ : ps_S) (ρ : ps_P) (g r : Nat) : Int32 × ps_S × ps_P := if ps_N μ 20 g ≠ 0 then (-2, ps_ref μ 2, ρ) else if ps_N μ 8 r - ps_N μ 10 r < ps_N μ 19 g then (-6, ps_ref μ 6, ρ) else (nI (ρ (2 * r)).length, ps_sr μ g 1 (nI r), ps_ur ρ (2 * r) (ρ (2 * r) ++ [g]))
def ps_mt (μ : ps_S) (g r i : Nat) : Bool := decide (μ 25 (2 * g + i) = nI r) && decide (μ 26 (2 * g + i) = nI (ps_N μ 7 0 / ps_wd μ r))
def ps_cm (μ : ps_S) (ρ : ps_P) (g r : Nat) (μ1 : ps_S) : Int32 × ps_S × ps_P := (nI (ρ (2 * r + 1)).length, ps_sr μ1 g 2 (nI r), ps_ur ρ (2 * r + 1) (ρ (2 * r + 1) ++ [g]))
def ps_lv (μ : ps_S) (ρ : ps_P) (g : Nat) : Int32 × ps_S × ps_P := (μ 21 g, ps_sr μ g 0 (-9), ps_ur ρ (2 * ps_N μ 21 g + (ps_N μ 20 g - 1)) ((ρ (2 * ps_N μ 21 g + (ps_N μ 20 g - 1))).erase g))
section PRW
variable {h : pw_Hp} {R G : Nat} {aR aG Nw : Nat → Nat} {σ μ : ps_S} {ρ : ps_P} {n : Nat}
-- a row is not full while somebody is elsewhere
theorem ps_row_lt (hW : ps_Wf R G Nw μ ρ n) {r b g : Nat} (hr : r < R) (hb : b < 2) (hg : g < G) (hd : μ 20 g ≠ nI (b + 1)) : (ρ (2 * r + b)).length < 60 ∧ g ∉ ρ (2 * r + b) := by
  obtain ⟨l1, l2⟩ := hW.2.2.2.1 r b hr hb
  have hG := hW.1.2.1
  have hn : g ∉ ρ (2 * r + b) := fun q => hd ((l2 g).mp q).2.1
  refine ⟨?_, hn⟩
  have h1 := ps_nodup_len G (g :: ρ (2 * r + b)) (List.nodup_cons.mpr ⟨hn, l1⟩) (fun x hx => by
    rcases List.mem_cons.mp hx with rfl | hx
    · exact hg
    · exact ((l2 x).mp hx).1)
  rw [List.length_cons] at h1
  omega
-- into a row: what it does, where, and the row
theorem c_into {g r b : Nat} {k : Int32 → pw_Hp → Prop} (hC : ps_CS h R G aR aG Nw) (hV : ps_Rv R G aR aG Nw σ μ ρ) (hg : g < G) (hr : r < R) (hb : b < 2) (hl : (ρ (2 * r + b)).length < 60)
    (hk : ∀ τ, ps_Rv R G aR aG Nw τ (ps_sr μ g (nI (b + 1)) (nI r)) (ps_ur ρ (2 * r + b) (ρ (2 * r + b) ++ [g])) → ps_Off σ τ → k (nI (ρ (2 * r + b)).length) (pw_st h τ)) :
    pw_Cv 0 [.inr (aG g), .inl (nI (b + 1)), .inl (nI r)] (pw_st h σ) (fun h' => pw_k h' (aR r) = 11 ∧ pw_k h' (aG g) = 10 ∧ pw_k h' (pw_r h' (aR r) (6 + b)) = 12 ∧ pw_Ci 10 [.inr (pw_r h' (aR r) (6 + b)), .inl (pw_i h' (aG g) 0)] h' k) := by
  obtain ⟨-, s2, a40, -⟩ := hC.2.2.2.2.1 g hg
  obtain ⟨-, d2, w1, w3, -, b40, -⟩ := hC.2.2.2.1 r hr
  have hlay := hC.2.2.2.2.2.2.2 r g hr hg
  refine c_G_turnTo s2 ?_
  have hV2 := ru_G6 (x := nI r) hC (ru_G5 (x := nI (b + 1)) hC hV hg) hg
  have e0 := (hV2.2.2 g hg).1
  have hrow : pw_r h (aR r) (6 + b) = aR r + 1 + 2 * b ∧ ps_WS h (aR r + 1 + 2 * b) := by
    rcases (show b = 0 ∨ b = 1 by omega) with rfl | rfl
    · exact ⟨d2.2.1, w1⟩
    · exact ⟨d2.2.2.1, w3⟩
  have hRw : ps_Rw (ps_up (ps_up σ (aG g) 5 (nI (b + 1))) (aG g) 6 (nI r)) (aR r + 1 + 2 * b) (ρ (2 * r + b)) := by
    have q := hV2.2.1 r hr
    rcases (show b = 0 ∨ b = 1 by omega) with rfl | rfl
    · exact q.2.1
    · exact q.2.2.1
  simp only [pv_st, hrow.1, e0]
  refine ⟨d2.1, s2.1, hrow.2.1, ?_⟩
  refine c_W_append hrow.2 hRw hl (hk _ (ru_row hC hV2 hr hb (ps_Rw_app hRw hl) (fun f f1 f2 => by rw [ps_up_f f1, ps_up_f f2])) ?_)
  refine ps_Off_tr (ps_Off_up (by omega)) (ps_Off_tr (ps_Off_up (by omega)) (ps_Off_tr (ps_Off_up (by omega)) (ps_Off_up (by omega))))
set_option maxHeartbeats 4000000 in
set_option maxRecDepth 100000 in
theorem c_P_stand_b {x y : Int32} {k : Int32 → pw_Hp → Prop} (hC : ps_CS h R G aR aG Nw) (hV : ps_Rv R G aR aG Nw σ μ ρ) (hb : ps_bad2 G R x y) (hk : ∀ τ, ps_Rv R G aR aG Nw τ (ps_ref μ 1) ρ → ps_Off σ τ → k (-1) (pw_st h τ)) : pw_Ci 44 [.inr 2, .inl x, .inl y] (pw_st h σ) k := by
  have hT := hC.1.1
  refine pw_intro (M := pm_P_stand) rfl (by decide) (Nat.le_of_ble_eq_true rfl) (ls := [some (.inr 2), some (.inl x), some (.inl y), none, none]) rfl ?_
  refine pw_sound pw_tok pk_P_stand 400 _ _ _ _ _ _ ?_
  simp only [pv_all, pv_stp, pe_P_stand, pv_st, Nat.reduceAdd, eq_self, true_and, and_true, true_or, or_true, hT]
  refine c_P_two hC hV hb (fun a b hab => ?_)
  have ref := c_P_ref (k := k) hC hV (x := -1) (c := 0) (by decide) (by decide) hk
  exact ⟨fun _ => ⟨hT, ref⟩, fun q => ⟨fun q2 => absurd hab (fun z => z.elim q q2), fun _ => ⟨hT, ref⟩⟩⟩
set_option maxHeartbeats 4000000 in
set_option maxRecDepth 100000 in
theorem c_P_stand {g r : Nat} {k : Int32 → pw_Hp → Prop} (hC : ps_CS h R G aR aG Nw) (hV : ps_Rv R G aR aG Nw σ μ ρ) (hW : ps_Wf R G Nw μ ρ n) (hg : g < G) (hr : r < R) (hk : ∀ τ, ps_Rv R G aR aG Nw τ (ps_stand μ ρ g r).2.1 (ps_stand μ ρ g r).2.2 → ps_Off σ τ → k (ps_stand μ ρ g r).1 (pw_st h τ)) : pw_Ci 44 [.inr 2, .inl (nI g), .inl (nI r)] (pw_st h σ) k := by
  have hT := hC.1.1
  obtain ⟨-, s2, a40, -⟩ := hC.2.2.2.2.1 g hg
  obtain ⟨-, d2, w1, w3, -, b40, -⟩ := hC.2.2.2.1 r hr
  obtain ⟨m1, m2, m3, w4, w5, -⟩ := hW.2.2.1 g hg
  obtain ⟨wr, -⟩ := hW.2.1 r hr
  obtain ⟨x1, x2, x3, -, -, -, x7, x8, -⟩ := id wr
  obtain ⟨-, e1, -, e5, -⟩ := hV.2.2 g hg
  obtain ⟨u0, u1, -, -, -, -, u9, -⟩ := (hV.2.1 r hr).1
  rw [w4] at e5
  rw [m1] at e1
  rw [x1] at u1
  rw [x7] at u9
  refine pw_intro (M := pm_P_stand) rfl (by decide) (Nat.le_of_ble_eq_true rfl) (ls := [some (.inr 2), some (.inl (nI g)), some (.inl (nI r)), none, none]) rfl ?_
  refine pw_sound pw_tok pk_P_stand 400 _ _ _ _ _ _ ?_
  simp only [pv_all, pv_stp, pe_P_stand, pv_st, Nat.reduceAdd, eq_self, true_and, and_true, true_or, or_true, hT]
  refine c_P_groupAt hC hV hg ⟨hT, ?_⟩
  refine c_P_rideAt hC hV hr ⟨fun q => absurd q (by omega), fun _ => ⟨fun _ => ⟨s2.1, ?_⟩, fun q => absurd q (by omega)⟩⟩
  simp only [pv_st, s2.1, d2.1, hT, e5, e1, u1, u9, u0, true_and]
  simp (disch := omega) only [pn_c, pn_eq, pn_sub, pn_le]
  unfold ps_stand at hk
  refine ⟨fun q => ⟨fun q2 => ?_, fun q2 => ?_⟩, fun q => ?_⟩
  · rw [if_neg (fun z => z q), if_neg (by omega)] at hk
    obtain ⟨l1, -⟩ := ps_row_lt hW hr (b := 0) (by decide) hg (by rw [w4, q]; decide)
    exact c_into (b := 0) hC hV hg hr (by decide) l1 hk
  · rw [if_neg (fun z => z q), if_pos (by omega)] at hk
    exact c_P_ref hC hV (c := 5) (by decide) (by decide) hk
  · rw [if_pos q] at hk
    exact c_P_ref hC hV (c := 1) (by decide) (by decide) hk
end PRW
