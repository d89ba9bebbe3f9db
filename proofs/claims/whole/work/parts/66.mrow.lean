/-! The reference: rows in their order. -/
def ps_cn (P : Nat → Bool) : Nat → Nat
  | 0 => 0
  | g + 1 => ps_cn P g + (if P g = true then 1 else 0)
theorem ps_cn_len : ∀ (n : Nat) (L : List Nat) (P : Nat → Bool), L.Nodup → (∀ x, x ∈ L → x < n) → (∀ x, x < n → (P x = true ↔ x ∈ L)) → ps_cn P n = L.length := by
  intro n
  induction n with
  | zero =>
    intro L P _ hb _
    cases L with
    | nil => rfl
    | cons a L => exact absurd (hb a (List.mem_cons_self ..)) (Nat.not_lt_zero a)
  | succ n ih =>
    intro L P hd hb hp
    unfold ps_cn
    by_cases q : n ∈ L
    · rw [if_pos ((hp n (by omega)).mpr q), ih (L.erase n) P (hd.erase n) (fun x hx => ?_) (fun x hx => ?_), List.length_erase_of_mem q]
      · have := List.length_pos_of_mem q
        omega
      · have h1 := hb x (List.mem_of_mem_erase hx)
        have h2 : x ≠ n := fun z => by subst z; exact absurd hx (hd.not_mem_erase)
        omega
      · rw [hp x (by omega), hd.mem_erase_iff]
        exact ⟨fun z => ⟨by omega, z⟩, fun z => z.2⟩
    · rw [if_neg (fun z => q ((hp n (by omega)).mp z)), Nat.add_zero]
      refine ih L P hd (fun x hx => ?_) (fun x hx => hp x (by omega))
      have h1 := hb x hx
      have h2 : x ≠ n := fun z => q (z ▸ hx)
      omega
section PMR
variable {h : pw_Hp} {R G m n : Nat} {Nw : Nat → Nat} {σ μ : ps_S} {ρ : ps_P}
-- what the places of a row ask: its members, in order
def ps_Ro (G m : Nat) (σ : ps_S) (r b : Nat) (L : List Nat) : Prop := (∀ g, g < G → ((σ 20 g = nI (b + 1) ∧ σ 21 g = nI r) ↔ g ∈ L)) ∧ (∀ g, g ∈ L → g < G) ∧ ps_So σ m L
theorem ps_So_nodup {L : List Nat} (hs : ps_So σ m L) : L.Nodup := hs.2.imp (fun {a b} hab => fun z => by subst z; exact Nat.lt_irrefl _ hab)
theorem ps_Ro_of (hD : ps_Md R G m σ μ ρ) (hW : ps_Wf R G Nw μ ρ n) {r b : Nat} (hr : r < R) (hb : b < 2) : ps_Ro G m σ r b (ρ (2 * r + b)) := by
  have e := (ps_Md_e hD).2
  obtain ⟨w1, w2⟩ := hW.2.2.2.1 r b hr hb
  refine ⟨fun g hg => ?_, fun g hg => ((w2 g).mp hg).1, hD.2.2 _ (by omega)⟩
  rw [e.1, e.2.1, w2 g]
  exact ⟨fun z => ⟨hg, z⟩, fun z => z.2⟩
set_option maxHeartbeats 4000000 in
set_option maxRecDepth 100000 in
theorem c_M_placeOf_4 {g : Nat} {A B : List Nat} {r b : Nat} {k : Int32 → pw_Hp → Prop} (hM : ps_MS h) (hG : G ≤ 60) (h14 : σ 7 14 = nI G) (hm : m < 100000) (hR : ps_Ro G m σ r b (A ++ g :: B)) (hk : k (nI A.length) (pw_st h σ)) :
    ∀ (c i : Nat), i + c = G → pw_J pm_M_placeOf (pw_qi k) 4 [some (.inr 7), some (.inl (nI g)), some (.inl (nI (ps_cn (fun x => decide (x ∈ A)) i))), some (.inl (nI i))] [] (pw_st h σ) 0 0 := by
  have hM' := hM
  unfold ps_MS at hM
  obtain ⟨r1, r2, r3⟩ := hR
  have hgm : g ∈ A ++ g :: B := List.mem_append.mpr (Or.inr (List.mem_cons_self ..))
  have hg := r2 g hgm
  obtain ⟨g1, g2⟩ := (r1 g hg).mpr hgm
  have pw := List.pairwise_append.mp r3.2
  have hgo := r3.1 g hgm
  have mA : ∀ x, x ∈ A → ps_N σ 22 x < ps_N σ 22 g := fun x hx => pw.2.2 x hx g (List.mem_cons_self ..)
  have mB : ∀ x, x ∈ B → ps_N σ 22 g < ps_N σ 22 x := fun x hx => (List.pairwise_cons.mp pw.2.1).1 x hx
  have inA : ∀ x, x ∈ A ++ g :: B → (x ∈ A ↔ ps_N σ 22 x < ps_N σ 22 g) := fun x hx => ⟨mA x, fun z => by
    rcases List.mem_append.mp hx with q | q
    · exact q
    · rcases List.mem_cons.mp q with q | q
      · subst q; omega
      · have := mB x q; omega⟩
  intro c
  induction c with
  | zero =>
    intro i hi
    have hl : ps_cn (fun x => decide (x ∈ A)) G = A.length := ps_cn_len G A _ (List.nodup_append.mp (ps_So_nodup r3)).1 (fun x hx => r2 x (List.mem_append.mpr (Or.inl hx))) (fun x _ => decide_eq_true_iff)
    refine pw_sound pw_tok pk_M_placeOf 400 _ _ _ _ _ _ ?_
    simp only [pv_all, pv_stp, pe_M_placeOf, pv_st, Nat.reduceAdd, eq_self, true_and, and_true, true_or, or_true, hM, h14]
    rw [pn_le (by omega) (by omega), show i = G by omega, hl]
    exact ⟨fun _ => hk, fun q => absurd (Nat.le_refl _) q⟩
  | succ c ih =>
    intro i hi
    have nx := ih (i + 1) (by omega)
    unfold ps_cn at nx
    refine pw_sound pw_tok pk_M_placeOf 400 _ _ _ _ _ _ ?_
    simp only [pv_all, pv_stp, pe_M_placeOf, pv_st, Nat.reduceAdd, eq_self, true_and, and_true, true_or, or_true, hM, h14]
    simp (disch := omega) only [pn_le, pn_at, pn_cl, nI_1, Int32.add_zero]
    have no : i ∉ A → pw_J pm_M_placeOf (pw_qi k) 4 [some (.inr 7), some (.inl (nI g)), some (.inl (nI (ps_cn (fun x => decide (x ∈ A)) i))), some (.inl (nI (i + 1)))] [] (pw_st h σ) 0 0 := fun z => by
      rw [if_neg (by rw [decide_eq_true_iff]; exact z), Nat.add_zero] at nx
      exact nx
    have out : ¬ (σ 20 i = nI (b + 1) ∧ σ 21 i = nI r) → i ∉ A := fun z q => z ((r1 i (by omega)).mpr (List.mem_append.mpr (Or.inl q)))
    refine ⟨fun q => absurd q (by omega), fun _ => ⟨by omega, by omega, fun q => no (out (fun z => q (z.1.trans g1.symm))), fun q1 => ⟨by omega, by omega, fun q => no (out (fun z => q (z.2.trans g2.symm))), fun q2 => ⟨by omega, by omega, fun q => ?_, fun q => ?_⟩⟩⟩⟩
    · have hiL := (r1 i (by omega)).mp ⟨q1.trans g1, q2.trans g2⟩
      have hio := r3.1 i hiL
      rw [hgo.1, hio.1, pn_le (by omega) (by omega)] at q
      exact no (fun z => by have := (inA i hiL).mp z; omega)
    · have hiL := (r1 i (by omega)).mp ⟨q1.trans g1, q2.trans g2⟩
      have hio := r3.1 i hiL
      rw [hgo.1, hio.1, pn_le (by omega) (by omega)] at q
      rw [if_pos (by rw [decide_eq_true_iff]; exact (inA i hiL).mpr (by omega))] at nx
      exact nx
set_option maxHeartbeats 4000000 in
set_option maxRecDepth 100000 in
theorem c_M_placeOf {g : Nat} {A B : List Nat} {r b : Nat} {k : Int32 → pw_Hp → Prop} (hM : ps_MS h) (hG : G ≤ 60) (h14 : σ 7 14 = nI G) (hm : m < 100000) (hR : ps_Ro G m σ r b (A ++ g :: B)) (hk : k (nI A.length) (pw_st h σ)) : pw_Ci 25 [.inr 7, .inl (nI g)] (pw_st h σ) k := by
  have hM' := hM
  unfold ps_MS at hM
  refine pw_intro (M := pm_M_placeOf) rfl (by decide) (Nat.le_of_ble_eq_true rfl) (ls := [some (.inr 7), some (.inl (nI g)), none, none]) rfl ?_
  refine pw_sound pw_tok pk_M_placeOf 400 _ _ _ _ _ _ ?_
  simp only [pv_all, pv_stp, pe_M_placeOf, pv_st, Nat.reduceAdd, eq_self, true_and, and_true, true_or, or_true, hM]
  exact c_M_placeOf_4 hM' hG h14 hm hR hk G 0 (Nat.zero_add G)
def ps_hd : List Nat → Int32
  | [] => -1
  | x :: _ => nI x
set_option maxHeartbeats 4000000 in
set_option maxRecDepth 100000 in
theorem c_M_next_6 {A B : List Nat} {r b bh : Nat} {k : Int32 → pw_Hp → Prop} (hM : ps_MS h) (hG : G ≤ 60) (h14 : σ 7 14 = nI G) (hm : m < 100000) (hbh : bh ≤ m) (hR : ps_Ro G m σ r b (A ++ B)) (hA : ∀ x, x ∈ A → ps_N σ 22 x ≤ bh) (hB : ∀ x, x ∈ B → bh < ps_N σ 22 x) (hk : k (ps_hd B) (pw_st h σ)) :
    ∀ (c i : Nat) (y : Int32) (z : Option pw_A), i + c = G → ((y = -1 ∧ ∀ x, x < i → x ∉ B) ∨ ∃ x, y = nI x ∧ x < i ∧ x ∈ B ∧ ∀ w, w < i → w ∈ B → ps_N σ 22 x ≤ ps_N σ 22 w) → pw_J pm_M_next (pw_qi k) 6 [some (.inr 7), some (.inl (nI r)), some (.inl (nI (b + 1))), some (.inl (nI bh)), some (.inl y), some (.inl (nI i)), z] [] (pw_st h σ) 0 0 := by
  have hM' := hM
  unfold ps_MS at hM
  obtain ⟨r1, r2, r3⟩ := hR
  have pw := List.pairwise_append.mp r3.2
  have bL : ∀ x, x ∈ B → x ∈ A ++ B := fun x hx => List.mem_append.mpr (Or.inr hx)
  intro c
  induction c with
  | zero =>
    intro i y z hi hy
    have fin : y = ps_hd B := by
      rcases hy with ⟨rfl, hy⟩ | ⟨x, rfl, hx, hxB, hmin⟩
      · cases B with
        | nil => rfl
        | cons a B => exact absurd (List.mem_cons_self ..) (hy a (by have := r2 a (bL a (List.mem_cons_self ..)); omega))
      · cases B with
        | nil => cases hxB
        | cons a B =>
          rcases List.mem_cons.mp hxB with q | q
          · subst q; rfl
          · have h1 := (List.pairwise_cons.mp pw.2.1).1 x q
            have h2 := hmin a (by have := r2 a (bL a (List.mem_cons_self ..)); omega) (List.mem_cons_self ..)
            omega
    refine pw_sound pw_tok pk_M_next 400 _ _ _ _ _ _ ?_
    simp only [pv_all, pv_stp, pe_M_next, pv_st, Nat.reduceAdd, eq_self, true_and, and_true, true_or, or_true, hM, h14]
    rw [pn_le (by omega) (by omega), fin]
    exact ⟨fun _ => hk, fun q => absurd (by omega) q⟩
  | succ c ih =>
    intro i y z hi hy
    have hy0 : (y < 0 ∧ y = -1 ∧ ∀ x, x < i → x ∉ B) ∨ (¬ y < 0 ∧ ∃ x, y = nI x ∧ x < i ∧ x ∈ B ∧ ∀ w, w < i → w ∈ B → ps_N σ 22 x ≤ ps_N σ 22 w) := by
      rcases hy with ⟨rfl, hy⟩ | ⟨x, rfl, hx, hxB, hmin⟩
      · exact Or.inl ⟨by decide, rfl, hy⟩
      · exact Or.inr ⟨nI_pos (by omega), x, rfl, hx, hxB, hmin⟩
    -- i is not taken
    have keep : ∀ z', (i ∈ B → ∃ x, y = nI x ∧ x < i ∧ x ∈ B ∧ (∀ w, w < i → w ∈ B → ps_N σ 22 x ≤ ps_N σ 22 w) ∧ ps_N σ 22 x ≤ ps_N σ 22 i) → pw_J pm_M_next (pw_qi k) 6 [some (.inr 7), some (.inl (nI r)), some (.inl (nI (b + 1))), some (.inl (nI bh)), some (.inl y), some (.inl (nI (i + 1))), z'] [] (pw_st h σ) 0 0 := fun z' hn => by
      refine ih (i + 1) y z' (by omega) ?_
      by_cases q : i ∈ B
      · obtain ⟨x, x1, x2, x3, x4, x5⟩ := hn q
        refine Or.inr ⟨x, x1, by omega, x3, fun w hw hwB => ?_⟩
        rcases Nat.lt_or_ge w i with q2 | q2
        · exact x4 w q2 hwB
        · rw [show w = i by omega]; exact x5
      · rcases hy with ⟨y1, y2⟩ | ⟨x, x1, x2, x3, x4⟩
        · refine Or.inl ⟨y1, fun x hx => ?_⟩
          rcases Nat.lt_or_ge x i with q2 | q2
          · exact y2 x q2
          · rw [show x = i by omega]; exact q
        · refine Or.inr ⟨x, x1, by omega, x3, fun w hw hwB => ?_⟩
          rcases Nat.lt_or_ge w i with q2 | q2
          · exact x4 w q2 hwB
          · exact absurd (show w = i by omega) (fun z => q (z ▸ hwB))
    have tak : ∀ z', i ∈ B → (∀ x, y = nI x → x < i → x ∈ B → (∀ w, w < i → w ∈ B → ps_N σ 22 x ≤ ps_N σ 22 w) → ps_N σ 22 i < ps_N σ 22 x) → pw_J pm_M_next (pw_qi k) 6 [some (.inr 7), some (.inl (nI r)), some (.inl (nI (b + 1))), some (.inl (nI bh)), some (.inl (nI i)), some (.inl (nI (i + 1))), z'] [] (pw_st h σ) 0 0 := fun z' hiB hlt => by
      refine ih (i + 1) (nI i) z' (by omega) (Or.inr ⟨i, rfl, by omega, hiB, fun w hw hwB => ?_⟩)
      rcases Nat.lt_or_ge w i with q2 | q2
      · rcases hy with ⟨y1, y2⟩ | ⟨x, x1, x2, x3, x4⟩
        · exact absurd hwB (y2 w q2)
        · have h1 := x4 w q2 hwB
          have h2 := hlt x x1 x2 x3 x4
          omega
      · rw [show w = i by omega]; exact Nat.le_refl _
    have out : ¬ (σ 20 i = nI (b + 1) ∧ σ 21 i = nI r) → i ∉ B := fun z q => z ((r1 i (by omega)).mpr (bL i q))
    refine pw_sound pw_tok pk_M_next 400 _ _ _ _ _ _ ?_
    simp only [pv_all, pv_stp, pe_M_next, pv_st, Nat.reduceAdd, eq_self, true_and, and_true, true_or, or_true, hM, h14]
    simp (disch := omega) only [pn_le, pn_at, pn_cl, nI_1]
    refine ⟨fun q => absurd q (by omega), fun _ => ⟨by omega, fun q => ⟨fun _ => keep _ (fun w => absurd w (out (fun v => q v.1))), fun q => absurd trivial q⟩, fun q1 => ⟨by omega, fun q => ⟨fun _ => keep _ (fun w => absurd w (out (fun v => q v.2))), fun q => absurd trivial q⟩, fun q2 => ⟨by omega, fun q => ⟨fun _ => keep _ (fun w => ?_), fun q => absurd trivial q⟩, fun q => ⟨fun q => absurd q (by decide), fun _ => ?_⟩⟩⟩⟩⟩
    · exfalso
      have hiL := bL i w
      have hio := r3.1 i hiL
      rw [hio.1, pn_le (by omega) (by omega)] at q
      have := hB i w
      omega
    · have hiL := (r1 i (by omega)).mp ⟨q1, q2⟩
      have hio := r3.1 i hiL
      rw [hio.1, pn_le (by omega) (by omega)] at q
      have hiB : i ∈ B := by
        rcases List.mem_append.mp hiL with w | w
        · have := hA i w; omega
        · exact w
      rcases hy0 with ⟨y0, y1, y2⟩ | ⟨y0, x, x1, x2, x3, x4⟩
      · exact ⟨fun _ => tak _ hiB (fun x hx hxi hxB _ => absurd hxB (y2 x hxi)), fun w => absurd y0 w⟩
      · refine ⟨fun w => absurd w y0, fun _ => ?_⟩
        subst x1
        have hxo := r3.1 x (bL x x3)
        simp (disch := omega) only [pn_at, pn_cl]
        rw [hio.1, hxo.1, pn_le (by omega) (by omega)]
        refine ⟨by omega, by omega, fun w => keep _ (fun _ => ⟨x, rfl, x2, x3, x4, w⟩), fun w => tak _ hiB (fun x' hx' _ _ _ => ?_)⟩
        rw [pn_eq (by omega) (by omega)] at hx'
        subst hx'
        omega
set_option maxHeartbeats 4000000 in
set_option maxRecDepth 100000 in
theorem c_M_next {A B : List Nat} {r b bh : Nat} {k : Int32 → pw_Hp → Prop} (hM : ps_MS h) (hG : G ≤ 60) (h14 : σ 7 14 = nI G) (hm : m < 100000) (hbh : bh ≤ m) (hR : ps_Ro G m σ r b (A ++ B)) (hA : ∀ x, x ∈ A → ps_N σ 22 x ≤ bh) (hB : ∀ x, x ∈ B → bh < ps_N σ 22 x) (hk : k (ps_hd B) (pw_st h σ)) : pw_Ci 26 [.inr 7, .inl (nI r), .inl (nI (b + 1)), .inl (nI bh)] (pw_st h σ) k := by
  have hM' := hM
  unfold ps_MS at hM
  refine pw_intro (M := pm_M_next) rfl (by decide) (Nat.le_of_ble_eq_true rfl) (ls := [some (.inr 7), some (.inl (nI r)), some (.inl (nI (b + 1))), some (.inl (nI bh)), none, none, none]) rfl ?_
  refine pw_sound pw_tok pk_M_next 400 _ _ _ _ _ _ ?_
  simp only [pv_all, pv_stp, pe_M_next, pv_st, Nat.reduceAdd, eq_self, true_and, and_true, true_or, or_true, hM]
  exact c_M_next_6 hM' hG h14 hm hbh hR hA hB hk G 0 _ none (Nat.zero_add G) (Or.inl ⟨rfl, fun x hx => absurd hx (Nat.not_lt_zero x)⟩)
-- the first one; the one behind g
theorem c_M_next0 {L : List Nat} {r b : Nat} {k : Int32 → pw_Hp → Prop} (hM : ps_MS h) (hG : G ≤ 60) (h14 : σ 7 14 = nI G) (hm : m < 100000) (hR : ps_Ro G m σ r b L) (hk : k (ps_hd L) (pw_st h σ)) : pw_Ci 26 [.inr 7, .inl (nI r), .inl (nI (b + 1)), .inl 0] (pw_st h σ) k :=
  c_M_next (A := []) (B := L) (bh := 0) hM hG h14 hm (Nat.zero_le m) hR (fun x hx => by cases hx) (fun x hx => (hR.2.2.1 x hx).2.1) hk
theorem c_M_nextg {A B : List Nat} {g r b : Nat} {k : Int32 → pw_Hp → Prop} (hM : ps_MS h) (hG : G ≤ 60) (h14 : σ 7 14 = nI G) (hm : m < 100000) (hR : ps_Ro G m σ r b (A ++ g :: B)) (hk : k (ps_hd B) (pw_st h σ)) : pw_Ci 26 [.inr 7, .inl (nI r), .inl (nI (b + 1)), .inl (σ 22 g)] (pw_st h σ) k := by
  have hgm : g ∈ A ++ g :: B := List.mem_append.mpr (Or.inr (List.mem_cons_self ..))
  have hgo := hR.2.2.1 g hgm
  have pw := List.pairwise_append.mp hR.2.2.2
  rw [hgo.1]
  refine c_M_next (A := A ++ [g]) (B := B) hM hG h14 hm hgo.2.2 (by rw [List.append_assoc]; exact hR) (fun x hx => ?_) (fun x hx => (List.pairwise_cons.mp pw.2.1).1 x hx) hk
  rcases List.mem_append.mp hx with q | q
  · exact Nat.le_of_lt (pw.2.2 x q g (List.mem_cons_self ..))
  · rw [List.mem_singleton.mp q]; exact Nat.le_refl _
end PMR
