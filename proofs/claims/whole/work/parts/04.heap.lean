/-! The rows for cells. -/
set_option maxRecDepth 100000 in
theorem pw_clok0 : (∀ w ∈ u_ws pw_R0 pw_T0 12, w ∈ pw_tb) ∧ (∀ k, k < 12 → parseFieldDescriptor (pw_T0 k).2.2.1 = some (pw_fty 0 k)) ∧ (∀ a, a < 12 → ∀ b, b < 12 → a ≠ b → (pw_T0 a).2.1 ≠ (pw_T0 b).2.1) ∧ (∀ k, k < 12 → (pw_T0 k).1 = pw_R0) := ⟨by decide +kernel, by decide +kernel, by decide +kernel, by decide +kernel⟩
set_option maxRecDepth 100000 in
theorem pw_clok1 : (∀ w ∈ u_ws pw_R1 pw_T1 16, w ∈ pw_tb) ∧ (∀ k, k < 16 → parseFieldDescriptor (pw_T1 k).2.2.1 = some (pw_fty 1 k)) ∧ (∀ a, a < 16 → ∀ b, b < 16 → a ≠ b → (pw_T1 a).2.1 ≠ (pw_T1 b).2.1) ∧ (∀ k, k < 16 → (pw_T1 k).1 = pw_R1) := ⟨by decide +kernel, by decide +kernel, by decide +kernel, by decide +kernel⟩
set_option maxRecDepth 100000 in
theorem pw_clok2 : (∀ w ∈ u_ws pw_R2 pw_T2 2, w ∈ pw_tb) ∧ (∀ k, k < 2 → parseFieldDescriptor (pw_T2 k).2.2.1 = some (pw_fty 2 k)) ∧ (∀ a, a < 2 → ∀ b, b < 2 → a ≠ b → (pw_T2 a).2.1 ≠ (pw_T2 b).2.1) ∧ (∀ k, k < 2 → (pw_T2 k).1 = pw_R2) := ⟨by decide +kernel, by decide +kernel, by decide +kernel, by decide +kernel⟩
set_option maxRecDepth 100000 in
theorem pw_clok3 : (∀ w ∈ u_ws pw_R3 pw_T3 8, w ∈ pw_tb) ∧ (∀ k, k < 8 → parseFieldDescriptor (pw_T3 k).2.2.1 = some (pw_fty 3 k)) ∧ (∀ a, a < 8 → ∀ b, b < 8 → a ≠ b → (pw_T3 a).2.1 ≠ (pw_T3 b).2.1) ∧ (∀ k, k < 8 → (pw_T3 k).1 = pw_R3) := ⟨by decide +kernel, by decide +kernel, by decide +kernel, by decide +kernel⟩
set_option maxRecDepth 100000 in
theorem pw_clok4 : (∀ w ∈ u_ws pw_R4 pw_T4 30, w ∈ pw_tb) ∧ (∀ k, k < 30 → parseFieldDescriptor (pw_T4 k).2.2.1 = some (pw_fty 4 k)) ∧ (∀ a, a < 30 → ∀ b, b < 30 → a ≠ b → (pw_T4 a).2.1 ≠ (pw_T4 b).2.1) ∧ (∀ k, k < 30 → (pw_T4 k).1 = pw_R4) := ⟨by decide +kernel, by decide +kernel, by decide +kernel, by decide +kernel⟩
theorem pw_clok (ci : Nat) (r : vw_C) (hc : pw_cl[ci]? = some r) : (∀ w ∈ u_ws r.1 r.2.1 r.2.2, w ∈ pw_tb) ∧ (∀ k, k < r.2.2 → parseFieldDescriptor (r.2.1 k).2.2.1 = some (pw_fty ci k)) ∧ (∀ a, a < r.2.2 → ∀ b, b < r.2.2 → a ≠ b → (r.2.1 a).2.1 ≠ (r.2.1 b).2.1) ∧ (∀ k, k < r.2.2 → (r.2.1 k).1 = r.1) := by
  match ci, hc with
  | 0, hc => cases hc; exact pw_clok0
  | 1, hc => cases hc; exact pw_clok1
  | 2, hc => cases hc; exact pw_clok2
  | 3, hc => cases hc; exact pw_clok3
  | 4, hc => cases hc; exact pw_clok4
  | n + 5, hc => simp [pw_cl] at hc
theorem pw_good : ∀ w ∈ pw_tb, w ∈ lw_tbl ∧ ((w.onTables && w.keeps) = true ∨ ∃ ty, w = .arrayClass ty) := fun w hw => ⟨(List.mem_filter.mp hw).1, good_of_word (List.mem_filter.mp hw).2⟩
/-- heaps that differ in one cell -/
theorem pw_H_upd {Ω : pw_O} {s : State} {h h' : pw_Hp} {H H' : Heap} {n : Nat} (hH : pw_H Ω s h H) (h2 : 2 ≤ n) (e1 : h'.1 = h.1) (e2 : h'.2.1 = h.2.1) (e3 : ∀ a, a ≠ n → ∀ j, pw_i h' a j = pw_i h a j) (e4 : ∀ a, a ≠ n → ∀ j, pw_r h' a j = pw_r h a j)
    (z : H'.size = H.size) (oq : ∀ q : Nat, q ≠ Ω.2.2.1 + (n - 2) → H'[q]? = H[q]?) (hc : pw_cell Ω h' n H') : pw_H Ω s h' H' := by
  obtain ⟨a1, a2, a3, a4⟩ := hH
  have hk : ∀ a, pw_k h' a = pw_k h a := fun a => by unfold pw_k; rw [e2]
  have hn : ∀ a, pw_n h' a = pw_n h a := fun a => by unfold pw_n; rw [e2]
  refine ⟨by rw [z, e1]; exact a1, fun a ha => ?_, fun a ha => ?_, fun h5 => ?_⟩
  · rw [hk] at ha ⊢
    rw [e1]
    exact a2 a ha
  · by_cases han : a = n
    · rw [han]; exact hc
    · have hq : H'[Ω.2.2.1 + (a - 2)]? = H[Ω.2.2.1 + (a - 2)]? := oq _ (by omega)
      have hi : pw_i h' a = pw_i h a := funext (e3 a han)
      have hr : pw_r h' a = pw_r h a := funext (e4 a han)
      have hfv : ∀ ci, pw_fv Ω h' ci a = pw_fv Ω h ci a := fun ci => funext fun k => by unfold pw_fv; rw [hi, hr]
      obtain ⟨c1, c2, c3⟩ := a3 a ha
      refine ⟨fun hq1 => ?_, fun hq1 => ?_, fun ci hq1 => ?_⟩
      · rw [hq, hk, hn, hi]
        exact c1 (by rw [← hk]; exact hq1)
      · rw [hq, hk, hn, hr]
        exact c2 (by rw [← hk]; exact hq1)
      · obtain ⟨r, g1, g2⟩ := c3 ci (by rw [← hk]; exact hq1)
        rw [hfv]
        exact ⟨r, g1, g2.kept hq⟩
  · rw [hk] at h5
    obtain ⟨x1, x2⟩ := a4 h5
    rw [hn, show pw_i h' 1 = pw_i h 1 from funext (e3 1 (by omega))]
    exact ⟨x1.kept (oq _ (by omega)), x2⟩
theorem pw_wi_i (h : pw_Hp) (n k : Nat) (x : Int32) (a j : Nat) : pw_i (pw_wi h n k x) a j = if a = n ∧ j = k then x else pw_i h a j := rfl
theorem pw_wi_r (h : pw_Hp) (n k : Nat) (x : Int32) (a j : Nat) : pw_r (pw_wi h n k x) a j = pw_r h a j := rfl
theorem pw_wi_k (h : pw_Hp) (n k : Nat) (x : Int32) (a : Nat) : pw_k (pw_wi h n k x) a = pw_k h a := rfl
theorem pw_wi_n (h : pw_Hp) (n k : Nat) (x : Int32) (a : Nat) : pw_n (pw_wi h n k x) a = pw_n h a := rfl
theorem pw_wr_i (h : pw_Hp) (n k : Nat) (x : Nat) (a j : Nat) : pw_i (pw_wr h n k x) a j = pw_i h a j := rfl
theorem pw_wr_r (h : pw_Hp) (n k : Nat) (x : Nat) (a j : Nat) : pw_r (pw_wr h n k x) a j = if a = n ∧ j = k then x else pw_r h a j := rfl
theorem pw_wr_k (h : pw_Hp) (n k : Nat) (x : Nat) (a : Nat) : pw_k (pw_wr h n k x) a = pw_k h a := rfl
theorem pw_wr_n (h : pw_Hp) (n k : Nat) (x : Nat) (a : Nat) : pw_n (pw_wr h n k x) a = pw_n h a := rfl
theorem pw_nw_k (h : pw_Hp) (kd len a : Nat) : pw_k (pw_nw h kd len) a = if a = h.1 + 2 then kd else pw_k h a := by
  unfold pw_k pw_nw
  by_cases q : a = h.1 + 2 <;> simp [q]
theorem pw_nw_n (h : pw_Hp) (kd len a : Nat) : pw_n (pw_nw h kd len) a = if a = h.1 + 2 then len else pw_n h a := by
  unfold pw_n pw_nw
  by_cases q : a = h.1 + 2 <;> simp [q]
theorem pw_nw_i (h : pw_Hp) (kd len a j : Nat) : pw_i (pw_nw h kd len) a j = if a = h.1 + 2 then 0 else pw_i h a j := rfl
theorem pw_nw_r (h : pw_Hp) (kd len a j : Nat) : pw_r (pw_nw h kd len) a j = if a = h.1 + 2 then 0 else pw_r h a j := rfl
theorem pw_nw_1 (h : pw_Hp) (kd len : Nat) : (pw_nw h kd len).1 = h.1 + 1 := rfl
/-- a new cell -/
theorem pw_H_new {Ω : pw_O} {s : State} {h : pw_Hp} {H H' : Heap} {kd len : Nat} (hH : pw_H Ω s h H) (h0 : kd ≠ 0) (h5 : kd ≠ 5) (z : H'.size = H.size + 1) (oq : ∀ q : Nat, q < H.size → H'[q]? = H[q]?) (hc : pw_cell Ω (pw_nw h kd len) (h.1 + 2) H') : pw_H Ω s (pw_nw h kd len) H' := by
  obtain ⟨a1, a2, a3, a4⟩ := hH
  refine ⟨by rw [z, a1, pw_nw_1]; omega, fun a ha => ?_, fun a ha => ?_, fun q5 => ?_⟩
  · rw [pw_nw_k] at ha ⊢
    rw [pw_nw_1]
    by_cases q : a = h.1 + 2
    · rw [if_pos q]
      exact Or.inr ⟨by omega, by omega, h5⟩
    · rw [if_neg q] at ha ⊢
      rcases a2 a ha with g | ⟨g1, g2, g3⟩
      · exact Or.inl g
      · exact Or.inr ⟨g1, by omega, g3⟩
  · by_cases q : a = h.1 + 2
    · rw [q]; exact hc
    · have hk : pw_k (pw_nw h kd len) a = pw_k h a := by rw [pw_nw_k, if_neg q]
      have hn : pw_n (pw_nw h kd len) a = pw_n h a := by rw [pw_nw_n, if_neg q]
      have hi : pw_i (pw_nw h kd len) a = pw_i h a := funext fun j => by rw [pw_nw_i, if_neg q]
      have hr : pw_r (pw_nw h kd len) a = pw_r h a := funext fun j => by rw [pw_nw_r, if_neg q]
      have hfv : ∀ ci, pw_fv Ω (pw_nw h kd len) ci a = pw_fv Ω h ci a := fun ci => funext fun k => by unfold pw_fv; rw [hi, hr]
      have hlt : pw_k h a ≠ 0 → H'[Ω.2.2.1 + (a - 2)]? = H[Ω.2.2.1 + (a - 2)]? := fun hz => by
        rcases a2 a hz with ⟨g, -⟩ | ⟨g1, g2, g3⟩
        · omega
        · exact oq _ (by omega)
      obtain ⟨c1, c2, c3⟩ := a3 a ha
      refine ⟨fun hq1 => ?_, fun hq1 => ?_, fun ci hq1 => ?_⟩
      · rw [hk] at hq1
        rw [hlt (by omega), hk, hn, hi]
        exact c1 hq1
      · rw [hk] at hq1
        rw [hlt (by omega), hk, hn, hr]
        exact c2 hq1
      · rw [hk] at hq1
        obtain ⟨r, g1, g2⟩ := c3 ci hq1
        rw [hfv]
        exact ⟨r, g1, g2.kept (hlt (by omega))⟩
  · rw [pw_nw_k, if_neg (by omega)] at q5
    obtain ⟨x1, x2⟩ := a4 q5
    rw [pw_nw_n, if_neg (by omega), show pw_i (pw_nw h kd len) 1 = pw_i h 1 from funext fun j => by rw [pw_nw_i, if_neg (by omega)]]
    exact ⟨x1.kept (oq _ (by omega)), x2⟩
def pw_flk (own : String) (idx : Nat) (r : vw_C) (k : Nat) : Prop := Cond.fieldLink own idx r.1 (r.2.1 k).2.1 (r.2.1 k).2.2.1 ∈ pw_tb ∨ ∃ host, Cond.fieldLinkNest own idx r.1 (r.2.1 k).2.1 (r.2.1 k).2.2.1 host ∈ pw_nl
section PWY
variable {M : pw_M} {Q : Option pw_A → pw_Hp → Prop} {pc : Nat} {ls : pw_Ls} {st : List pw_A} {h : pw_Hp} {bc bs : Nat}
theorem pw_x_get {idx n ci k : Nat} {r : vw_C} {v : pw_A} (hd : decode M.2.1 pc = .ok (.getfield idx, 3)) (hc : pw_cl[ci]? = some r) (hk : k < r.2.2) (hl : pw_flk M.1.cls idx r k) (hkd : pw_k h n = 10 + ci) (hv : ∀ Ω, pw_fv Ω h ci n k = pw_V Ω v) (kk : pw_J M Q (pc + 3) ls (v :: st) h bc bs) : pw_J M Q pc ls (.inr n :: st) h bc bs := by
  intro p l e R s m args below meth c Z Ω C H locs cells slots Sl hH hS hc' hs hL
  have k2 := kk p l e R s m args below meth c Z Ω C H locs cells slots Sl hH hS hc' hs hL
  obtain ⟨hx, hb, hml, hown, hts, ⟨hK, hN⟩, -⟩ := C
  obtain ⟨n2, nl, hV⟩ := pw_kin hH (n := n) (by omega) (by omega)
  rw [List.map_cons, hV]
  rw [List.map_cons, ← hv] at k2
  obtain ⟨c1, c2, c3, c4⟩ := pw_clok ci r hc
  obtain ⟨r', hr', cell, q1, q2, q3, q4⟩ := (hH.2.2.1 n n2).2.2 ci hkd
  cases hr'.symm.trans hc
  obtain ⟨hSl, hfc, kC, hkC, hkind⟩ := hK.1 ci r hc
  obtain ⟨cf, kf, fi, f, hi, hsl⟩ := hSl k hk
  have hst := (u_facts hfc hkC (u_lays hts c1 hk) hi).1
  have hslot : cell.slots[f.slot]? = some (pw_fv Ω h ci n k) := by rw [hsl]; exact q4 k hk
  rw [c4 k hk] at hi
  rcases hl with hl | ⟨host, hl⟩
  · exact W.getf hx hb hown (hts _ hl) hi hst q1 (by rw [q3]; exact fun h => by cases h) hslot rfl rfl hd k2
  · exact va_Wgetf hx hb hown (va_Nw.use rfl (hN _ hl)) hi hst q1 (by rw [q3]; exact fun h => by cases h) hslot rfl rfl hd k2
theorem pw_x_put {idx n ci k : Nat} {r : vw_C} {v : pw_A} {h' : pw_Hp} (hd : decode M.2.1 pc = .ok (.putfield idx, 3)) (hc : pw_cl[ci]? = some r) (hk : k < r.2.2) (hl : pw_flk M.1.cls idx r k) (hfin : (r.2.1 k).2.2.2 = false ∨ (M.1.name = "<init>" ∧ M.1.cls = r.1 ∧ Cond.fieldLink M.1.cls idx r.1 (r.2.1 k).2.1 (r.2.1 k).2.2.1 ∈ pw_tb)) (hkd : pw_k h n = 10 + ci)
    (hn : ∀ Ω, narrow (pw_fty ci k) (pw_V Ω v) = pw_V Ω v ∧ fits (pw_fty ci k) (pw_V Ω v) = true) (e1 : h'.1 = h.1) (e2 : h'.2.1 = h.2.1) (e3 : ∀ a, a ≠ n → ∀ j, pw_i h' a j = pw_i h a j) (e4 : ∀ a, a ≠ n → ∀ j, pw_r h' a j = pw_r h a j) (e5 : ∀ Ω j, updV (pw_fv Ω h ci n) k (pw_V Ω v) j = pw_fv Ω h' ci n j)
    (kk : pw_J M Q (pc + 3) ls st h' bc bs) : pw_J M Q pc ls (v :: .inr n :: st) h bc bs := by
  intro p l e R s m args below meth c Z Ω C H locs cells slots Sl hH hS hc' hs hL
  have k2 := fun H1 locs1 a b => kk p l e R s m args below meth c Z Ω C H1 locs1 cells slots Sl a b hc' hs hL
  obtain ⟨hx, hb, hml, hown, hts, ⟨hK, hN⟩, hnm, -⟩ := C
  obtain ⟨n2, nl, hV⟩ := pw_kin hH (n := n) (by omega) (by omega)
  rw [List.map_cons, List.map_cons, hV]
  obtain ⟨c1, c2, c3, c4⟩ := pw_clok ci r hc
  obtain ⟨r', hr', cell, q1, q2, q3, q4⟩ := (hH.2.2.1 n n2).2.2 ci hkd
  cases hr'.symm.trans hc
  have hap := va_apart (own := M.1.cls) hts c1 (pw_fty ci) c2 c3 hK hc
  obtain ⟨hSl, hfc, kC, hkC, hkind⟩ := hK.1 ci r hc
  obtain ⟨cf, kf, fi, f, hi, hsl⟩ := hSl k hk
  have hst := (u_facts hfc hkC (u_lays hts c1 hk) hi).1
  have hlay := hts _ (c1 _ (u_in_lay hk))
  unfold u_lay at hlay
  have done : ∀ H' : Heap, H'[Ω.2.2.1 + (n - 2)]? = some (cell.setSlot f.slot (pw_V Ω v)) → H'.size = H.size → (∀ q, q ≠ Ω.2.2.1 + (n - 2) → H'[q]? = H[q]?) → W p l e R s m args below meth c H' (locs ++ [⟨Ω.2.2.1 + (n - 2), f.slot⟩]) cells slots Z (F0 m (pc + 3) Sl (st.map (pw_V Ω))) := by
    intro H' g1 g2 g3
    refine k2 H' _ (pw_H_upd hH n2 e1 e2 e3 e4 g2 g3 ?_) (hS.put g2 g3 (Nat.le_add_right _ _))
    have hk' : pw_k h' n = 10 + ci := by unfold pw_k at hkd ⊢; rw [e2]; exact hkd
    refine ⟨fun z => by omega, fun z => by omega, fun cj z => ?_⟩
    have : cj = ci := by omega
    subst this
    rw [hsl] at g1
    exact ⟨r, hc, t_OB.to ⟨_, g1, q2, q3, t_set q4 hap hk _⟩ (fun j _ => e5 Ω j)⟩
  by_cases hf : (r.2.1 k).2.2.2 = false
  · rw [if_neg (by rw [hf]; decide)] at hlay
    have h6 := u_store hfc hkC hkind hlay hi (c2 k hk) (hn Ω).1 (hn Ω).2
    rw [c4 k hk] at hi
    rcases hl with hl | ⟨host, hl⟩
    · exact W.putK hx hb (f := f) ⟨hown, hts _ hl, ⟨_, _, _, hi⟩, hst⟩ (by rw [q2]; exact h6) q1 q3 (by rw [hsl]; exact k2_hasslot (q4 k hk)) rfl rfl hd done
    · exact va_WputK hx hb (f := f) hown (va_Nw.use rfl (hN _ hl)) hi hst (by rw [q2]; exact h6) q1 q3 (by rw [hsl]; exact k2_hasslot (q4 k hk)) rfl rfl hd done
  · rcases hfin with hfin | ⟨g1, g2, g3⟩
    · exact absurd hfin hf
    · rw [if_pos (by simpa using hf)] at hlay
      have hcf : m.cls = cf := by
        obtain ⟨_, _, c', _, _, _, -, -, hf', -, -, -, hown2, -⟩ := Cond.laysFinal_spec hlay
        have w1 : c' = cf := by have := hi.symm.trans hf'; simp at this; exact this.1.symm
        rw [c4 k hk, ← g2] at hown2
        rw [← w1]; exact Option.some.inj (hown.symm.trans hown2)
      have h6 := u_fits hfc hkC hkind (Or.inr hlay) hi (c2 k hk) (hn Ω).1 (hn Ω).2
      rw [c4 k hk] at hi
      exact W.putFinK hx hb hown (hts _ g3) hi hst hcf (hnm.trans g1) (by rw [q2]; exact h6) q1 q3 (by rw [hsl]; exact k2_hasslot (q4 k hk)) rfl rfl hd done
end PWY
