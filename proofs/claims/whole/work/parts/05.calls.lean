/-! The rows for arrays, new cells, switches, calls. -/
theorem pw_at_in {i : Int32} {n N : Nat} (h : pw_at i n) (e : N = n) : ¬ (i < 0 ∨ N ≤ i.toNatClampNeg) := fun q => q.elim h.1 (fun z => by have := h.2; omega)
theorem pw_nar01 {x : Int32} (h : x = 0 ∨ x = 1) : narrow .boolean (.int x) = .int x ∧ fits .boolean (.int x) = true := by
  rcases h with rfl | rfl <;> exact ⟨by decide, by decide⟩
theorem pw_arr {Ω : pw_O} {s : State} (hK : pw_Kn Ω s) (kd : Nat) (h : kd = 1 ∨ kd = 2 ∨ kd = 3 ∨ kd = 4) : ArrOfT s (Ω.2.1 kd) (pw_aty kd) ∧ va_RA s (Ω.2.1 kd) (pw_aty kd) := by
  rcases h with rfl | rfl | rfl | rfl
  · exact hK.1.2 1 _ rfl
  · exact hK.1.2 2 _ rfl
  · exact hK.1.2 3 _ rfl
  · exact hK.1.2 4 _ rfl
theorem pw_dfl (ci : Nat) (r : vw_C) (hc : pw_cl[ci]? = some r) : ∀ k, k < r.2.2 → defaultValue (pw_fty ci k) = if pw_rf ci k = true then .null else .int 0 := by
  match ci, hc with
  | 0, hc => cases hc; decide +kernel
  | 1, hc => cases hc; decide +kernel
  | 2, hc => cases hc; decide +kernel
  | 3, hc => cases hc; decide +kernel
  | 4, hc => cases hc; decide +kernel
  | n + 5, hc => simp [pw_cl] at hc
theorem pw_Kn_moved {Ω : pw_O} {s U : State} (hW : s.WarmedH U.vm) (h : pw_Kn Ω s) : pw_Kn Ω U := by
  refine ⟨va_K.moved hW.alike h.1, fun w hw => ?_⟩
  have h1 := (List.mem_filter.mp hw).2
  have h2 := h.2 w hw
  cases w with
  | fieldLinkNest a i b n d k => exact va_Nw.warmF hW h2
  | methodLinkNest a i x k => exact va_Nw.warmM hW h2
  | arrayOver ty =>
    cases ty with
    | object C0 => exact va_AO.moved hW.alike h2
    | _ => exact absurd h1 (by simp [pw_isN])
  | _ => exact absurd h1 (by simp [pw_isN])
theorem pw_Kn_same {Ω : pw_O} {s U : State} (hv : s.vm = U.vm) (h : pw_Kn Ω s) : pw_Kn Ω U := by
  refine ⟨va_K.moved (by rw [← hv]; exact Vm.Alike.refl _) h.1, fun w hw => ?_⟩
  have h1 := (List.mem_filter.mp hw).2
  have h2 := h.2 w hw
  cases w with
  | fieldLinkNest a i b n d k => exact va_Nw.same rfl hv h2
  | methodLinkNest a i x k => exact va_Nw.same rfl hv h2
  | arrayOver ty =>
    cases ty with
    | object C0 => exact va_AO.moved (by rw [← hv]; exact Vm.Alike.refl _) h2
    | _ => exact absurd h1 (by simp [pw_isN])
  | _ => exact absurd h1 (by simp [pw_isN])
theorem pw_H_moved {Ω : pw_O} {s U : State} {h : pw_Hp} {H : Heap} (hvm : s.vm.Alike U.vm) (hH : pw_H Ω s h H) : pw_H Ω U h H := ⟨hH.1, hH.2.1, hH.2.2.1, fun h5 => ⟨va_X.moved hvm (hH.2.2.2 h5).1, (hH.2.2.2 h5).2⟩⟩
theorem pw_blind (Ω : pw_O) (as : List pw_A) (h : pw_Hp) : FrameBlind (pw_Pc Ω as h) := by
  intro a U g mk q
  obtain ⟨q1, q2, q3, q4⟩ := q
  exact ⟨q1, pw_Kn_same (s := U) (U := U.calling g mk a) rfl q2, q3, pw_H_moved (U := U.calling g mk a) (Vm.Alike.refl U.vm) q4⟩
/-- what a callee must be -/
def pw_jok (j n : Nat) : Prop := Cond.code (pw_md j).1 (pw_md j).2.1 (pw_md j).2.2.1 (pw_md j).2.2.2.1 ∈ pw_tb ∧ Cond.initialized (pw_md j).1.cls ∈ pw_tb ∧ ((pw_md j).1.cls ≠ "java/lang/invoke/MethodHandle" ∧ (pw_md j).1.cls ≠ "java/lang/invoke/VarHandle" ∧ (parseMethodDescriptor (pw_md j).1.desc).map (fun d => d.parameters.length) = some n) ∧ (pw_md j).2.2.1 ≤ 18
def pw_mlk (own : String) (idx : Nat) (y : MethodName) : Prop := Cond.methodLink own idx y ∈ pw_tb ∨ ∃ host, Cond.methodLinkNest own idx y host ∈ pw_nl
section PWZ
variable {M : pw_M} {Q : Option pw_A → pw_Hp → Prop} {pc : Nat} {ls : pw_Ls} {st : List pw_A} {h : pw_Hp} {bc bs : Nat}
theorem pw_x_iald {n : Nat} {i : Int32} (hd : decode M.2.1 pc = .ok (.iaload, 1)) (hkd : pw_k h n = 1 ∨ pw_k h n = 5) (ha : pw_at i (pw_n h n)) (kk : pw_J M Q (pc + 1) ls (.inl (pw_i h n i.toNatClampNeg) :: st) h bc bs) : pw_J M Q pc ls (.inl i :: .inr n :: st) h bc bs := by
  intro p l e R s m args below meth c Z Ω C H locs cells slots Sl hH hS hc hs hL
  have k2 := kk p l e R s m args below meth c Z Ω C H locs cells slots Sl hH hS hc hs hL
  rcases hkd with hkd | hkd
  · obtain ⟨n2, nl, hV⟩ := pw_kin hH (n := n) (by omega) (by omega)
    have hcell := (hH.2.2.1 n n2).1 (Or.inl hkd)
    rw [hkd] at hcell
    rw [List.map_cons, List.map_cons, hV]
    exact W.iald C.1 C.2.1 hcell ((pw_arr C.2.2.2.2.2.1 1 (by omega)).1 _ _) (fun q => by cases q) (pw_at_in ha (arrV_size _ _ _)) (arrV_read _ _ ha.2) rfl rfl hd k2
  · have hn : n = 1 := by
      rcases hH.2.1 n (by omega) with ⟨q, -⟩ | ⟨-, -, q⟩
      · exact q
      · exact absurd hkd q
    subst hn
    obtain ⟨⟨scr, x1, x2, x3, x4, x5⟩, -⟩ := hH.2.2.2 hkd
    exact W.iald C.1 C.2.1 x1 x2 x3 (pw_at_in ha x4) (x5 _ ha.2) rfl rfl hd k2
theorem pw_x_bald {n : Nat} {i : Int32} (hd : decode M.2.1 pc = .ok (.baload, 1)) (hkd : pw_k h n = 2) (ha : pw_at i (pw_n h n)) (kk : pw_J M Q (pc + 1) ls (.inl (pw_i h n i.toNatClampNeg) :: st) h bc bs) : pw_J M Q pc ls (.inl i :: .inr n :: st) h bc bs := by
  intro p l e R s m args below meth c Z Ω C H locs cells slots Sl hH hS hc hs hL
  have k2 := kk p l e R s m args below meth c Z Ω C H locs cells slots Sl hH hS hc hs hL
  obtain ⟨n2, nl, hV⟩ := pw_kin hH (n := n) (by omega) (by omega)
  have hcell := (hH.2.2.1 n n2).1 (Or.inr hkd)
  rw [hkd] at hcell
  rw [List.map_cons, List.map_cons, hV]
  exact W.zald C.1 C.2.1 hcell ((pw_arr C.2.2.2.2.2.1 2 (by omega)).1 _ _) (fun q => by cases q) (pw_at_in ha (arrV_size _ _ _)) (arrV_read _ _ ha.2) rfl rfl hd k2
theorem pw_x_aald {n : Nat} {i : Int32} (hd : decode M.2.1 pc = .ok (.aaload, 1)) (hkd : pw_k h n = 3 ∨ pw_k h n = 4) (ha : pw_at i (pw_n h n)) (kk : pw_J M Q (pc + 1) ls (.inr (pw_r h n i.toNatClampNeg) :: st) h bc bs) : pw_J M Q pc ls (.inl i :: .inr n :: st) h bc bs := by
  intro p l e R s m args below meth c Z Ω C H locs cells slots Sl hH hS hc hs hL
  have k2 := kk p l e R s m args below meth c Z Ω C H locs cells slots Sl hH hS hc hs hL
  obtain ⟨n2, nl, hV⟩ := pw_kin hH (n := n) (by omega) (by omega)
  have hcell := (hH.2.2.1 n n2).2.1 hkd
  rw [List.map_cons, List.map_cons, hV]
  refine W.aald C.1 C.2.1 hcell ((pw_arr C.2.2.2.2.2.1 (pw_k h n) (by omega)).1 _ _) ?_ (fun q => by cases q) (pw_at_in ha (arrV_size _ _ _)) (arrV_read _ _ ha.2) rfl rfl hd k2
  rcases hkd with q | q <;> rw [q] <;> rfl
theorem pw_x_iast {n : Nat} {i x : Int32} (hd : decode M.2.1 pc = .ok (.iastore, 1)) (hkd : pw_k h n = 1) (ha : pw_at i (pw_n h n)) (kk : pw_J M Q (pc + 1) ls st (pw_wi h n i.toNatClampNeg x) bc bs) : pw_J M Q pc ls (.inl x :: .inl i :: .inr n :: st) h bc bs := by
  intro p l e R s m args below meth c Z Ω C H locs cells slots Sl hH hS hc hs hL
  have k2 := fun H1 locs1 a b => kk p l e R s m args below meth c Z Ω C H1 locs1 cells slots Sl a b hc hs hL
  obtain ⟨n2, nl, hV⟩ := pw_kin hH (n := n) (by omega) (by omega)
  have hcell := (hH.2.2.1 n n2).1 (Or.inl hkd)
  rw [hkd] at hcell
  rw [List.map_cons, List.map_cons, List.map_cons, hV]
  refine W.iast C.1 C.2.1 hcell ((pw_arr C.2.2.2.2.2.1 1 (by omega)).1 _ _) (fun q => by cases q) (pw_at_in ha (arrV_size _ _ _)) rfl rfl hd fun H1 g1 g2 g3 => ?_
  refine k2 H1 _ (pw_H_upd hH n2 rfl rfl (fun a ha j => by rw [pw_wi_i, if_neg (fun q => ha q.1)]) (fun a _ j => rfl) g2 g3 ?_) (hS.put g2 g3 (Nat.le_add_right _ _))
  refine ⟨fun _ => ?_, fun z => ?_, fun ci z => ?_⟩
  · rw [g1, arrV_store, pw_wi_k, pw_wi_n, hkd]
    congr 2
    funext j
    rw [pw_wi_i]
    by_cases q : j = i.toNatClampNeg <;> simp [updV, q]
  · rw [pw_wi_k] at z; omega
  · rw [pw_wi_k] at z; omega
theorem pw_x_bast {n : Nat} {i x : Int32} (hd : decode M.2.1 pc = .ok (.bastore, 1)) (hkd : pw_k h n = 2) (ha : pw_at i (pw_n h n)) (h01 : x = 0 ∨ x = 1) (kk : pw_J M Q (pc + 1) ls st (pw_wi h n i.toNatClampNeg x) bc bs) : pw_J M Q pc ls (.inl x :: .inl i :: .inr n :: st) h bc bs := by
  intro p l e R s m args below meth c Z Ω C H locs cells slots Sl hH hS hc hs hL
  have k2 := fun H1 locs1 a b => kk p l e R s m args below meth c Z Ω C H1 locs1 cells slots Sl a b hc hs hL
  obtain ⟨n2, nl, hV⟩ := pw_kin hH (n := n) (by omega) (by omega)
  have hcell := (hH.2.2.1 n n2).1 (Or.inr hkd)
  rw [hkd] at hcell
  rw [List.map_cons, List.map_cons, List.map_cons, hV]
  refine W.zast C.1 C.2.1 hcell ((pw_arr C.2.2.2.2.2.1 2 (by omega)).1 _ _) (fun q => by cases q) (pw_at_in ha (arrV_size _ _ _)) rfl rfl hd fun H1 g1 g2 g3 => ?_
  rw [(pw_nar01 h01).1] at g1
  refine k2 H1 _ (pw_H_upd hH n2 rfl rfl (fun a ha j => by rw [pw_wi_i, if_neg (fun q => ha q.1)]) (fun a _ j => rfl) g2 g3 ?_) (hS.put g2 g3 (Nat.le_add_right _ _))
  refine ⟨fun _ => ?_, fun z => ?_, fun ci z => ?_⟩
  · rw [g1, arrV_store, pw_wi_k, pw_wi_n, hkd]
    congr 2
    funext j
    rw [pw_wi_i]
    by_cases q : j = i.toNatClampNeg <;> simp [updV, q]
  · rw [pw_wi_k] at z; omega
  · rw [pw_wi_k] at z; omega
theorem pw_x_aast {n q : Nat} {i : Int32} (hd : decode M.2.1 pc = .ok (.aastore, 1)) (hkd : (pw_k h n = 3 ∧ pw_k h q = 11) ∨ (pw_k h n = 4 ∧ pw_k h q = 10)) (ha : pw_at i (pw_n h n)) (kk : pw_J M Q (pc + 1) ls st (pw_wr h n i.toNatClampNeg q) bc bs) : pw_J M Q pc ls (.inr q :: .inl i :: .inr n :: st) h bc bs := by
  intro p l e R s m args below meth c Z Ω C H locs cells slots Sl hH hS hc hs hL
  have k2 := fun H1 locs1 a b => kk p l e R s m args below meth c Z Ω C H1 locs1 cells slots Sl a b hc hs hL
  obtain ⟨n2, nl, hV⟩ := pw_kin hH (n := n) (by omega) (by omega)
  obtain ⟨m2, ml, hVq⟩ := pw_kin hH (n := q) (by omega) (by omega)
  have hcell := (hH.2.2.1 n n2).2.1 (by omega)
  have hb2 := C.2.2.2.2.2.1
  have key : ∃ (kA kC : Class) (comp : ClassId) (cellV : Cell) (C0 : String), s.vm.classes[Ω.2.1 (pw_k h n)]? = some kA ∧ kA.kind = .array comp (.object C0) ∧ s.vm.classes[comp]? = some kC ∧ H[Ω.2.2.1 + (q - 2)]? = some cellV ∧ cellV.vm = .none ∧ s.vm.classes[cellV.cls]? = some kC ∧ s.vm.assignable cellV.cls comp = true := by
    rcases hkd with ⟨w1, w2⟩ | ⟨w1, w2⟩
    · obtain ⟨r', hr', cellV, g1, g2, g3, -⟩ := (hH.2.2.1 q m2).2.2 1 w2
      have hcls := (hb2.1.1 1 _ rfl).2
      obtain ⟨kA, comp, k1, k2', k3, -⟩ := (pw_arr hb2 3 (by omega)).2
      have hcomp : comp = Ω.1.1 1 := Option.some.inj (k3.symm.trans hcls.1)
      subst hcomp
      obtain ⟨kC, hkC, -⟩ := hcls.2
      rw [w1]
      exact ⟨kA, kC, _, cellV, _, k1, k2', hkC, g1, g3, by rw [g2]; exact hkC, by rw [g2]; exact va_assign hcls⟩
    · obtain ⟨r', hr', cellV, g1, g2, g3, -⟩ := (hH.2.2.1 q m2).2.2 0 w2
      have hcls := (hb2.1.1 0 _ rfl).2
      obtain ⟨kA, comp, k1, k2', k3, -⟩ := (pw_arr hb2 4 (by omega)).2
      have hcomp : comp = Ω.1.1 0 := Option.some.inj (k3.symm.trans hcls.1)
      subst hcomp
      obtain ⟨kC, hkC, -⟩ := hcls.2
      rw [w1]
      exact ⟨kA, kC, _, cellV, _, k1, k2', hkC, g1, g3, by rw [g2]; exact hkC, by rw [g2]; exact va_assign hcls⟩
  obtain ⟨kA, kC, comp, cellV, C0, y1, y2, y3, y4, y5, y6, y7⟩ := key
  rw [List.map_cons, List.map_cons, List.map_cons, hV, hVq]
  refine W.aast C.1 C.2.1 hcell (fun q h => by cases h) (fun h => by cases h) y1 y2 rfl y3 ⟨ha.1, by rw [arrV_size]; exact ha.2⟩ y4 (fun q h => by rw [y5] at h; cases h) y6 y7 rfl rfl hd fun H1 g1 g2 g3 => ?_
  refine k2 H1 _ (pw_H_upd hH n2 rfl rfl (fun a _ j => rfl) (fun a ha j => by rw [pw_wr_r, if_neg (fun q => ha q.1)]) g2 g3 ?_) (hS.put g2 g3 (Nat.le_add_right _ _))
  refine ⟨fun z => ?_, fun _ => ?_, fun ci z => ?_⟩
  · rw [pw_wr_k] at z; omega
  · rw [g1, arrV_store, pw_wr_k, pw_wr_n]
    congr 2
    funext j
    rw [pw_wr_r]
    by_cases w : j = i.toNatClampNeg
    · simp [updV, w, hVq]
    · simp [updV, w]
  · rw [pw_wr_k] at z; omega
theorem pw_x_alen {n : Nat} (hd : decode M.2.1 pc = .ok (.arraylength, 1)) (hkd : pw_k h n = 1 ∨ pw_k h n = 2 ∨ pw_k h n = 3 ∨ pw_k h n = 4 ∨ pw_k h n = 5) (kk : pw_J M Q (pc + 1) ls (.inl (nI (pw_n h n)) :: st) h bc bs) : pw_J M Q pc ls (.inr n :: st) h bc bs := by
  intro p l e R s m args below meth c Z Ω C H locs cells slots Sl hH hS hc hs hL
  have k2 := kk p l e R s m args below meth c Z Ω C H locs cells slots Sl hH hS hc hs hL
  by_cases h5 : pw_k h n = 5
  · have hn : n = 1 := by
      rcases hH.2.1 n (by omega) with ⟨q, -⟩ | ⟨-, -, q⟩
      · exact q
      · exact absurd h5 q
    subst hn
    obtain ⟨⟨scr, x1, x2, x3, x4, x5⟩, -⟩ := hH.2.2.2 h5
    exact W.alen C.1 C.2.1 x1 x2 (by rw [x4]; rfl) rfl rfl hd k2
  · obtain ⟨n2, nl, hV⟩ := pw_kin hH (n := n) (by omega) h5
    rw [List.map_cons, hV]
    have har := (pw_arr C.2.2.2.2.2.1 (pw_k h n) (by omega)).1
    by_cases h12 : pw_k h n = 1 ∨ pw_k h n = 2
    · exact W.alen C.1 C.2.1 ((hH.2.2.1 n n2).1 h12) (har _ _) (by rw [arrV_size]; rfl) rfl rfl hd k2
    · exact W.alen C.1 C.2.1 ((hH.2.2.1 n n2).2.1 (by omega)) (har _ _) (by rw [arrV_size]; rfl) rfl rfl hd k2
theorem pw_S_new {Ω : pw_O} {H0 H H' : Heap} {locs : List Loc} (hS : va_S (pw_Af Ω) H0 H locs) (z : H'.size = H.size + 1) (oq : ∀ q : Nat, q < H.size → H'[q]? = H[q]?) : va_S (pw_Af Ω) H0 H' locs :=
  ⟨Nat.le_trans hS.1 (by omega), fun x h1 h2 => (oq x (Nat.lt_of_lt_of_le h1 hS.1)).trans (hS.2.1 x h1 h2), hS.2.2⟩
theorem pw_x_newa {at' : ArrayType} {kd : Nat} {x : Int32} (hd : decode M.2.1 pc = .ok (.newarray at', 2)) (hkd : (at' = .int ∧ kd = 1) ∨ (at' = .boolean ∧ kd = 2)) (hw : Cond.arrayClass (newarray.typeOf at') ∈ pw_tb) (hx0 : ¬ x < 0 ∧ x.toNatClampNeg ≤ 10000) (hb1 : 1 ≤ bc) (hb2 : x.toNatClampNeg ≤ bs) (kk : pw_J M Q (pc + 2) ls (.inr (h.1 + 2) :: st) (pw_nw h kd x.toNatClampNeg) (bc - 1) (bs - x.toNatClampNeg)) : pw_J M Q pc ls (.inl x :: st) h bc bs := by
  intro p l e R s m args below meth c Z Ω C H locs cells slots Sl hH hS hc hs hL
  have k2 := fun H1 a b => kk p l e R s m args below meth c Z Ω C H1 locs (cells + 1) (slots + x.toNatClampNeg) Sl a b (by omega) (by omega) hL
  have hR := C.2.2.2.2.2.2.2.1
  have hty : newarray.typeOf at' = pw_aty kd ∧ (kd = 1 ∨ kd = 2) := by
    rcases hkd with ⟨rfl, rfl⟩ | ⟨rfl, rfl⟩
    · exact ⟨rfl, Or.inl rfl⟩
    · exact ⟨rfl, Or.inr rfl⟩
  refine va_newaK C.1 C.2.1 (C.2.2.2.2.1 _ hw) rfl hd rfl hx0.1 rfl ?_ (by omega) (by omega) rfl fun H1 cA e1 z1 o1 hAr hNm => ?_
  · have : componentBytes (newarray.typeOf at') ≤ 4 := by rcases hkd with ⟨rfl, -⟩ | ⟨rfl, -⟩ <;> decide
    have h1 := hx0.2
    have h2 : x.toNatClampNeg * componentBytes (newarray.typeOf at') ≤ 10000 * 4 := Nat.mul_le_mul h1 this
    omega
  · have hcA : cA = Ω.2.1 kd := by
      have w := (pw_arr C.2.2.2.2.2.1 kd (by omega)).2
      rcases hkd with ⟨rfl, rfl⟩ | ⟨rfl, rfl⟩
      · exact Option.some.inj (hNm.symm.trans w)
      · exact Option.some.inj (hNm.symm.trans w)
    subst hcA
    have k3 := k2 H1 (pw_H_new hH (by omega) (by omega) z1 o1 ?_) (pw_S_new hS z1 o1)
    · rw [List.map_cons, pw_V2 Ω (by omega), show Ω.2.2.1 + (h.1 + 2 - 2) = H.size from by rw [hH.1]; omega] at k3
      exact k3
    · have hk' : pw_k (pw_nw h kd x.toNatClampNeg) (h.1 + 2) = kd := by rw [pw_nw_k, if_pos rfl]
      refine ⟨fun _ => ?_, fun z => by omega, fun ci z => by omega⟩
      rw [hk', pw_nw_n, if_pos rfl, show Ω.2.2.1 + (h.1 + 2 - 2) = H.size from by rw [hH.1]; omega, e1]
      congr 2
      funext j
      rw [pw_nw_i, if_pos rfl, hty.1]
      rcases hty.2 with q | q <;> rw [q] <;> rfl
theorem pw_x_anew {idx kd : Nat} {x : Int32} (hd : decode M.2.1 pc = .ok (.anewarray idx, 3)) (C0 : String) (hkd : kd = 3 ∨ kd = 4) (hty : pw_aty kd = .object C0) (hw : Cond.classLink M.1.cls idx C0 ∈ pw_tb) (hov : Cond.arrayOver (.object C0) ∈ pw_nl) (hx0 : ¬ x < 0 ∧ x.toNatClampNeg ≤ 10000) (hb1 : 1 ≤ bc) (hb2 : x.toNatClampNeg ≤ bs) (kk : pw_J M Q (pc + 3) ls (.inr (h.1 + 2) :: st) (pw_nw h kd x.toNatClampNeg) (bc - 1) (bs - x.toNatClampNeg)) : pw_J M Q pc ls (.inl x :: st) h bc bs := by
  intro p l e R s m args below meth c Z Ω C H locs cells slots Sl hH hS hc hs hL
  have k2 := fun H1 a b => kk p l e R s m args below meth c Z Ω C H1 locs (cells + 1) (slots + x.toNatClampNeg) Sl a b (by omega) (by omega) hL
  have hR := C.2.2.2.2.2.2.2.1
  refine W.anew C.1 C.2.1 C.2.2.2.1 (C.2.2.2.2.1 _ hw) (va_AO.use (C.2.2.2.2.2.1.2 _ hov)) rfl hd rfl hx0.1 (by have := hx0.2; omega) (by omega) (by omega) fun cA kA comp f1 f2 f3 f4 => ?_
  have w := (pw_arr C.2.2.2.2.2.1 kd (by omega)).2
  rw [hty] at w
  obtain ⟨_, _, -, -, -, w4⟩ := w
  have hcA : cA = Ω.2.1 kd := Option.some.inj (f1.symm.trans w4)
  subst hcA
  generalize hH1 : H.push ({ cls := Ω.2.1 kd, slots := Array.replicate x.toNatClampNeg .null, vm := .none } : Cell) = H1
  have z1 : H1.size = H.size + 1 := by rw [← hH1, Array.size_push]
  have e1 : H1[H.size]? = some (arrV (Ω.2.1 kd) x.toNatClampNeg (fun _ => .null)) := by rw [← hH1, Array.getElem?_push_size, ← arrV_new]
  have o1 : ∀ q : Nat, q < H.size → H1[q]? = H[q]? := fun q hq => by rw [← hH1, Array.getElem?_push, if_neg (Nat.ne_of_lt hq)]
  have k3 := k2 H1 (pw_H_new hH (by omega) (by omega) z1 o1 ?_) (pw_S_new hS z1 o1)
  · rw [List.map_cons, pw_V2 Ω (by omega), show Ω.2.2.1 + (h.1 + 2 - 2) = H.size from by rw [hH.1]; omega] at k3
    exact k3
  · have hk' : pw_k (pw_nw h kd x.toNatClampNeg) (h.1 + 2) = kd := by rw [pw_nw_k, if_pos rfl]
    refine ⟨fun z => by omega, fun _ => ?_, fun ci z => by omega⟩
    rw [hk', pw_nw_n, if_pos rfl, show Ω.2.2.1 + (h.1 + 2 - 2) = H.size from by rw [hH.1]; omega, e1]
    congr 2
    funext j
    rw [pw_nw_r, if_pos rfl]
    rfl
theorem pw_x_new {idx ci : Nat} {r : vw_C} (hd : decode M.2.1 pc = .ok (.new idx, 3)) (hc0 : pw_cl[ci]? = some r) (hw : Cond.classLink M.1.cls idx r.1 ∈ pw_tb ∧ Cond.instantiable r.1 r.2.2 ∈ pw_tb ∧ Cond.initialized r.1 ∈ pw_tb) (hb1 : 1 ≤ bc) (hb2 : r.2.2 ≤ bs) (kk : pw_J M Q (pc + 3) ls (.inr (h.1 + 2) :: st) (pw_nw h (10 + ci) r.2.2) (bc - 1) (bs - r.2.2)) : pw_J M Q pc ls st h bc bs := by
  intro p l e R s m args below meth c Z Ω C H locs cells slots Sl hH hS hc hs hL
  have k2 := fun H1 a b => kk p l e R s m args below meth c Z Ω C H1 locs (cells + 1) (slots + r.2.2) Sl a b (by omega) (by omega) hL
  have hR := C.2.2.2.2.2.2.2.1
  have hts := C.2.2.2.2.1
  have hKn := C.2.2.2.2.2.1.1.1 ci r hc0
  obtain ⟨c1, c2, c3, c4⟩ := pw_clok ci r hc0
  refine W.newcK C.1 C.2.1 C.2.2.2.1 (hts _ hw.1) (hts _ hw.2.1) (hts _ hw.2.2) rfl hd (by omega) (by omega) hKn.2.1 rfl fun H1 kC hkC e1 z1 o1 => ?_
  have k3 := k2 H1 (pw_H_new hH (by omega) (by omega) z1 o1 ?_) (pw_S_new hS z1 o1)
  · rw [List.map_cons, pw_V2 Ω (by omega), show Ω.2.2.1 + (h.1 + 2 - 2) = H.size from by rw [hH.1]; omega] at k3
    exact k3
  · have hk' : pw_k (pw_nw h (10 + ci) r.2.2) (h.1 + 2) = 10 + ci := by rw [pw_nw_k, if_pos rfl]
    refine ⟨fun z => by omega, fun z => by omega, fun cj z => ?_⟩
    have : cj = ci := by omega
    subst this
    refine ⟨r, hc0, ?_⟩
    rw [show Ω.2.2.1 + (h.1 + 2 - 2) = H.size from by rw [hH.1]; omega]
    refine (u_born (pw_fty cj) hts c1 hKn hkC e1 c2).to (fun k hk => ?_)
    rw [pw_dfl cj r hc0 k hk]
    unfold pw_fv
    rw [pw_nw_i, pw_nw_r, if_pos rfl, if_pos rfl]
    rfl
/-- behind a call -/
theorem pw_aft {p : Program} {l : Launch} {e : Env} {R : Room} {s : State} {m : MethodId} {args : Array Value} {below : List Frame} {meth : Method} {c : Code} {Z : State → Prop} {Ω : pw_O} {H : Heap} {locs : List Loc} {cells slots mc ms : Nat} {Sl : Array Slot} {st0 : List Value} {rest : List pw_A} {Q' : Option pw_A → pw_Hp → Prop} {a : Array Value}
    (hr : va_Run p l e R s m args below meth c H locs cells slots mc ms (F0 m pc Sl st0) (rest.map (pw_V Ω)) (pw_Qc Ω Q' a) (pw_Af Ω)) (hS : va_S (pw_Af Ω) s.heap H locs)
    (kk : ∀ (v : Option pw_A) (h' : pw_Hp) (H1 : Heap) (locs1 : List Loc), Q' v h' → pw_H Ω s h' H1 → va_S (pw_Af Ω) s.heap H1 locs1 → W p l e R s m args below meth c H1 locs1 (cells + mc) (slots + ms) Z (F0 m (pc + 3) Sl ((v.toList ++ rest).map (pw_V Ω)))) : W p l e R s m args below meth c H locs cells slots Z (F0 m pc Sl st0) := by
  intro T hT X
  obtain ⟨v, st₀, t, T', L, h0, X', hL, e1, e2, ⟨⟨v', h', hv, hQ, hH'⟩, hz, hk⟩, st⟩ := hr T hT X
  have hvv : v = v'.map (pw_V Ω) := by injection hv
  subst hvv
  rw [h0] at hz hk
  have hal : s.vm.Alike t.vm := by rw [← e2]; exact X'.warmed.alike
  obtain ⟨t2, a1, b1⟩ := kk v' h' T'.heap (locs ++ L) hQ (by rw [e1]; exact pw_H_moved hal.symm hH')
    ⟨Nat.le_trans hS.1 (by rw [e1]; exact hz), fun q h1 h2 => by rw [e1, hk q (Nat.lt_of_lt_of_le h1 hS.1) h2]; exact hS.2.1 q h1 h2, fun q hq => by
      rcases List.mem_append.mp hq with h | h
      · exact hS.2.2 q h
      · exact hL q h⟩ T' rfl X'
  refine ⟨t2, st t2 ?_, b1⟩
  have : (v'.toList ++ rest).map (pw_V Ω) = (v'.map (pw_V Ω)).toList ++ rest.map (pw_V Ω) := by cases v' <;> simp
  rw [← this]
  exact a1
theorem pw_pay {s : State} {args : Array Value} (hts : ∀ w ∈ pw_tb, w.before args s = true) {M2 : pw_M} (hc : Cond.code M2.1 M2.2.1 M2.2.2.1 M2.2.2.2.1 ∈ pw_tb) : GoodIn pw_tb (pw_ws M2) := by
  intro w hw
  rcases List.mem_cons.mp hw with rfl | hw
  · exact ⟨hc, (pw_good _ hc).2⟩
  · exact ⟨hw, (pw_good _ hw).2⟩
theorem pw_x_virt {idx j ci n : Nat} {r : vw_C} {as rest : List pw_A} (hd : decode M.2.1 pc = .ok (.invokevirtual idx, 3)) (hj : pw_jok j as.length) (hl : pw_mlk M.1.cls idx (pw_md j).1) (hi : Cond.instanceMethod (pw_md j).1 ∈ pw_tb) (hsel : Cond.selects r.1 (pw_md j).1 (pw_md j).1 ∈ pw_tb) (hc0 : pw_cl[ci]? = some r) (hkd : pw_k h n = 10 + ci) (hlev : (pw_md j).2.2.2.2.1 + 1 ≤ M.2.2.2.2.1) (hrl : rest.length ≤ 8)
    (hb1 : (pw_md j).2.2.2.2.2.1 ≤ bc) (hb2 : (pw_md j).2.2.2.2.2.2 ≤ bs) (kk : pw_C j (.inr n :: as) h (fun v h' => pw_J M Q (pc + 3) ls (v.toList ++ rest) h' (bc - (pw_md j).2.2.2.2.2.1) (bs - (pw_md j).2.2.2.2.2.2))) : pw_J M Q pc ls (as.reverse ++ .inr n :: rest) h bc bs := by
  intro p l e R s m args below meth c Z Ω C H locs cells slots Sl hH hS hc hs hL
  have hts := C.2.2.2.2.1
  have hR := C.2.2.2.2.2.2.2.1
  obtain ⟨n2, nl, hV⟩ := pw_kin hH (n := n) (by omega) (by omega)
  obtain ⟨j1, j2, j3, j4⟩ := hj
  obtain ⟨r', hr', cell, q1, q2, q3, q4⟩ := (hH.2.2.1 n n2).2.2 ci hkd
  cases hr'.symm.trans hc0
  have hfc := (C.2.2.2.2.2.1.1.1 ci r hc0).2.1
  have hG := pw_pay hts j1
  have hp : PreV s H r.1 (Ω.2.2.1 + (n - 2)) (pw_Pc Ω (.inr n :: as) h) (as.map (pw_V Ω)) := by
    refine ⟨pw_blind Ω _ h, ⟨cell, q1, by rw [q3]; rfl, by rw [q2]; exact hfc⟩, fun U hU hW => ⟨?_, pw_Kn_moved hW C.2.2.2.2.2.1, ?_, ?_⟩⟩
    · rw [List.map_cons, hV]
    · rw [hU]; exact Nat.le_trans C.2.2.2.2.2.2.2.2.1 hS.1
    · rw [hU]; exact pw_H_moved hW.alike hH
  have hstk : (as.reverse ++ .inr n :: rest).map (pw_V Ω) = (as.map (pw_V Ω)).reverse ++ .ref (Ω.2.2.1 + (n - 2)) :: rest.map (pw_V Ω) := by
    rw [List.map_append, List.map_cons, hV, List.map_reverse]
  have hroom : 2 * (F0 m pc Sl ((as.reverse ++ .inr n :: rest).map (pw_V Ω))).monitorRoom + ((rest.map (pw_V Ω)).map fun v => v.category).sum ≤ 8 := lv_room (by rw [pw_sumc]; exact hrl)
  have hfin : ∀ (v : Option pw_A) (h' : pw_Hp) (H1 : Heap) (locs1 : List Loc), pw_J M Q (pc + 3) ls (v.toList ++ rest) h' (bc - (pw_md j).2.2.2.2.2.1) (bs - (pw_md j).2.2.2.2.2.2) → pw_H Ω s h' H1 → va_S (pw_Af Ω) s.heap H1 locs1 → W p l e R s m args below meth c H1 locs1 (cells + (pw_md j).2.2.2.2.2.1) (slots + (pw_md j).2.2.2.2.2.2) Z (F0 m (pc + 3) Sl ((v.toList ++ rest).map (pw_V Ω))) := fun v h' H1 locs1 hJ a b => hJ p l e R s m args below meth c Z Ω C H1 locs1 _ _ Sl a b (by omega) (by omega) hL
  have hrm : (pw_rm (pw_md j)).frames + 1 ≤ R.frames ∧ 8 + ((pw_md j).2.2.1 + 11) + (pw_rm (pw_md j)).locals ≤ R.locals := by
    refine ⟨Nat.le_trans hlev hR.1, ?_⟩
    show 8 + ((pw_md j).2.2.1 + 11) + 37 * (pw_md j).2.2.2.2.1 ≤ R.locals
    omega
  have hbud : cells + (pw_md j).2.2.2.2.2.1 ≤ R.cells ∧ slots + (pw_md j).2.2.2.2.2.2 ≤ R.slots := ⟨by omega, by omega⟩
  rcases hl with hl | ⟨host, hl⟩
  · exact pw_aft (va_runV (As := as.map (pw_V Ω)) (rest := rest.map (pw_V Ω)) (g := F0 m pc Sl ((as.reverse ++ .inr n :: rest).map (pw_V Ω))) ⟨C.1, C.2.1, C.2.2.1, C.2.2.2.1, hts⟩ (kk l Ω) ⟨callB_of as.length hts hG rfl rfl rfl (hts _ j2) (hts _ hl) j3 hrm, hts _ hi, hts _ hsel⟩ hp rfl (by rw [List.length_map]) hL.1 hstk hroom hd hbud) hS hfin
  · exact pw_aft (va_runVN (As := as.map (pw_V Ω)) (rest := rest.map (pw_V Ω)) (g := F0 m pc Sl ((as.reverse ++ .inr n :: rest).map (pw_V Ω))) ⟨C.1, C.2.1, C.2.2.1, C.2.2.2.1, hts⟩ (kk l Ω) ⟨va_cnB as.length hts hG rfl rfl rfl (C.2.2.2.2.2.1.2 _ hl) (hts _ j2) j3 hrm, hts _ hi, hts _ hsel⟩ hp rfl (by rw [List.length_map]) hL.1 hstk hroom hd hbud) hS hfin
theorem pw_x_stat {idx j : Nat} {as rest : List pw_A} (hd : decode M.2.1 pc = .ok (.invokestatic idx, 3)) (hj : pw_jok j as.length) (hl : Cond.methodLink M.1.cls idx (pw_md j).1 ∈ pw_tb) (hi : Cond.static (pw_md j).1 ∈ pw_tb) (hlev : (pw_md j).2.2.2.2.1 + 1 ≤ M.2.2.2.2.1) (hrl : rest.length ≤ 8)
    (hb1 : (pw_md j).2.2.2.2.2.1 ≤ bc) (hb2 : (pw_md j).2.2.2.2.2.2 ≤ bs) (kk : pw_C j as h (fun v h' => pw_J M Q (pc + 3) ls (v.toList ++ rest) h' (bc - (pw_md j).2.2.2.2.2.1) (bs - (pw_md j).2.2.2.2.2.2))) : pw_J M Q pc ls (as.reverse ++ rest) h bc bs := by
  intro p l e R s m args below meth c Z Ω C H locs cells slots Sl hH hS hc hs hL
  have hts := C.2.2.2.2.1
  have hR := C.2.2.2.2.2.2.2.1
  obtain ⟨j1, j2, j3, j4⟩ := hj
  have hG := pw_pay hts j1
  have hp : PreS s H (pw_Pc Ω as h) (as.map (pw_V Ω)) := by
    refine ⟨pw_blind Ω _ h, fun U hU hW => ⟨rfl, pw_Kn_moved hW C.2.2.2.2.2.1, ?_, ?_⟩⟩
    · rw [hU]; exact Nat.le_trans C.2.2.2.2.2.2.2.2.1 hS.1
    · rw [hU]; exact pw_H_moved hW.alike hH
  have hstk : (as.reverse ++ rest).map (pw_V Ω) = (as.map (pw_V Ω)).reverse ++ rest.map (pw_V Ω) := by
    rw [List.map_append, List.map_reverse]
  have hroom : 2 * (F0 m pc Sl ((as.reverse ++ rest).map (pw_V Ω))).monitorRoom + ((rest.map (pw_V Ω)).map fun v => v.category).sum ≤ 8 := lv_room (by rw [pw_sumc]; exact hrl)
  have hrm : (pw_rm (pw_md j)).frames + 1 ≤ R.frames ∧ 8 + ((pw_md j).2.2.1 + 11) + (pw_rm (pw_md j)).locals ≤ R.locals := by
    refine ⟨Nat.le_trans hlev hR.1, ?_⟩
    show 8 + ((pw_md j).2.2.1 + 11) + 37 * (pw_md j).2.2.2.2.1 ≤ R.locals
    omega
  have hbud : cells + (pw_md j).2.2.2.2.2.1 ≤ R.cells ∧ slots + (pw_md j).2.2.2.2.2.2 ≤ R.slots := ⟨by omega, by omega⟩
  exact pw_aft (va_runS (As := as.map (pw_V Ω)) (rest := rest.map (pw_V Ω)) (g := F0 m pc Sl ((as.reverse ++ rest).map (pw_V Ω))) ⟨C.1, C.2.1, C.2.2.1, C.2.2.2.1, hts⟩ (kk l Ω) ⟨callB_of as.length hts hG rfl rfl rfl (hts _ j2) (hts _ hl) j3 hrm, hts _ hi⟩ hp rfl (by rw [List.length_map]) hL.1 hstk hroom hd hbud) hS (fun v h' H1 locs1 hJ a b => hJ p l e R s m args below meth c Z Ω C H1 locs1 _ _ Sl a b (by omega) (by omega) hL)
theorem pw_x_spec {idx j n : Nat} {as rest : List pw_A} (hd : decode M.2.1 pc = .ok (.invokespecial idx, 3)) (hj : pw_jok j as.length) (hl : pw_mlk M.1.cls idx (pw_md j).1) (hi : Cond.instanceMethod (pw_md j).1 ∈ pw_tb) (hin : (pw_md j).1.name = "<init>") (hret : (pw_md j).2.2.2.1 = none) (hkd : pw_k h n ≠ 0 ∧ pw_k h n ≠ 5) (hlev : (pw_md j).2.2.2.2.1 + 1 ≤ M.2.2.2.2.1) (hrl : rest.length ≤ 8)
    (hb1 : (pw_md j).2.2.2.2.2.1 ≤ bc) (hb2 : (pw_md j).2.2.2.2.2.2 ≤ bs) (kk : pw_C j (.inr n :: as) h (fun v h' => pw_J M Q (pc + 3) ls (v.toList ++ rest) h' (bc - (pw_md j).2.2.2.2.2.1) (bs - (pw_md j).2.2.2.2.2.2))) : pw_J M Q pc ls (as.reverse ++ .inr n :: rest) h bc bs := by
  intro p l e R s m args below meth c Z Ω C H locs cells slots Sl hH hS hc hs hL
  have hts := C.2.2.2.2.1
  have hR := C.2.2.2.2.2.2.2.1
  obtain ⟨n2, nl, hV⟩ := pw_kin hH (n := n) hkd.1 hkd.2
  obtain ⟨j1, j2, j3, j4⟩ := hj
  have hG := pw_pay hts j1
  have hp : PreS s H (pw_Pc Ω (.inr n :: as) h) (.ref (Ω.2.2.1 + (n - 2)) :: as.map (pw_V Ω)) := by
    refine ⟨pw_blind Ω _ h, fun U hU hW => ⟨?_, pw_Kn_moved hW C.2.2.2.2.2.1, ?_, ?_⟩⟩
    · rw [List.map_cons, hV]
    · rw [hU]; exact Nat.le_trans C.2.2.2.2.2.2.2.2.1 hS.1
    · rw [hU]; exact pw_H_moved hW.alike hH
  have hstk : (as.reverse ++ .inr n :: rest).map (pw_V Ω) = (as.map (pw_V Ω)).reverse ++ .ref (Ω.2.2.1 + (n - 2)) :: rest.map (pw_V Ω) := by
    rw [List.map_append, List.map_cons, hV, List.map_reverse]
  have hroom : 2 * (F0 m pc Sl ((as.reverse ++ .inr n :: rest).map (pw_V Ω))).monitorRoom + ((rest.map (pw_V Ω)).map fun v => v.category).sum ≤ 8 := lv_room (by rw [pw_sumc]; exact hrl)
  have hfin : ∀ (v : Option pw_A) (h' : pw_Hp) (H1 : Heap) (locs1 : List Loc), pw_J M Q (pc + 3) ls (v.toList ++ rest) h' (bc - (pw_md j).2.2.2.2.2.1) (bs - (pw_md j).2.2.2.2.2.2) → pw_H Ω s h' H1 → va_S (pw_Af Ω) s.heap H1 locs1 → W p l e R s m args below meth c H1 locs1 (cells + (pw_md j).2.2.2.2.2.1) (slots + (pw_md j).2.2.2.2.2.2) Z (F0 m (pc + 3) Sl ((v.toList ++ rest).map (pw_V Ω))) := fun v h' H1 locs1 hJ a b => hJ p l e R s m args below meth c Z Ω C H1 locs1 _ _ Sl a b (by omega) (by omega) hL
  have hrm : (pw_rm (pw_md j)).frames + 1 ≤ R.frames ∧ 8 + ((pw_md j).2.2.1 + 11) + (pw_rm (pw_md j)).locals ≤ R.locals := by
    refine ⟨Nat.le_trans hlev hR.1, ?_⟩
    show 8 + ((pw_md j).2.2.1 + 11) + 37 * (pw_md j).2.2.2.2.1 ≤ R.locals
    omega
  have hbud : cells + (pw_md j).2.2.2.2.2.1 ≤ R.cells ∧ slots + (pw_md j).2.2.2.2.2.2 ≤ R.slots := ⟨by omega, by omega⟩
  have hMet := kk l Ω
  rw [show pw_ws (pw_md j) = .code (pw_md j).1 (pw_md j).2.1 (pw_md j).2.2.1 none :: pw_tb from by unfold pw_ws; rw [hret]] at hMet
  rw [show pw_ws (pw_md j) = .code (pw_md j).1 (pw_md j).2.1 (pw_md j).2.2.1 none :: pw_tb from by unfold pw_ws; rw [hret]] at hG
  rcases hl with hl | ⟨host, hl⟩
  · exact pw_aft (va_runI (As := as.map (pw_V Ω)) (rest := rest.map (pw_V Ω)) (g := F0 m pc Sl ((as.reverse ++ .inr n :: rest).map (pw_V Ω))) ⟨C.1, C.2.1, C.2.2.1, C.2.2.2.1, hts⟩ hMet ⟨callB_of as.length hts hG rfl rfl rfl (hts _ j2) (hts _ hl) j3 hrm, hin, hts _ hi⟩ hp rfl (by rw [List.length_map]) hL.1 hstk hroom hd hbud) hS hfin
  · exact pw_aft (va_runIN (As := as.map (pw_V Ω)) (rest := rest.map (pw_V Ω)) (g := F0 m pc Sl ((as.reverse ++ .inr n :: rest).map (pw_V Ω))) ⟨C.1, C.2.1, C.2.2.1, C.2.2.2.1, hts⟩ hMet ⟨va_cnB as.length hts hG rfl rfl rfl (C.2.2.2.2.2.1.2 _ hl) (hts _ j2) j3 hrm, hin, hts _ hi⟩ hp rfl (by rw [List.length_map]) hL.1 hstk hroom hd hbud) hS hfin
theorem pw_x_obj {idx n : Nat} (hd : decode M.2.1 pc = .ok (.invokespecial idx, 3)) (hw : Cond.methodLink M.1.cls idx Lib.objectInit ∈ pw_tb ∧ Cond.instanceMethod Lib.objectInit ∈ pw_tb ∧ Cond.code Lib.objectInit ⟨#[0xb1]⟩ 1 none ∈ pw_tb) (hlev : 1 ≤ M.2.2.2.2.1) (hrl : st.length ≤ 8) (h0 : ¬ n = 0) (kk : pw_J M Q (pc + 3) ls st h bc bs) : pw_J M Q pc ls (.inr n :: st) h bc bs := by
  intro p l e R s m args below meth c Z Ω C H locs cells slots Sl hH hS hc hs hL
  have hts := C.2.2.2.2.1
  have hR := C.2.2.2.2.2.2.2.1
  have k2 := kk p l e R s m args below meth c Z Ω C H locs cells slots Sl hH hS hc hs hL
  rw [List.map_cons]
  rcases pw_Vr Ω n with ⟨z, -⟩ | ⟨-, a, hv⟩
  · exact absurd z h0
  · rw [hv]
    refine W.objInit C.1 C.2.1 C.2.2.2.1 (hts _ hw.1) (hts _ hw.2.1) (hts _ hw.2.2) rfl (hL.1.trans C.2.2.1.symm) rfl hd (by omega) ?_ k2
    rw [pw_sumc]
    show 2 * 0 + st.length + 12 ≤ R.locals
    omega
theorem pw_x_max {idx : Nat} {x y : Int32} (hd : decode M.2.1 pc = .ok (.invokestatic idx, 3)) (hw : Cond.methodLink M.1.cls idx Lib.Math.max.name ∈ pw_tb ∧ Cond.static Lib.Math.max.name ∈ pw_tb ∧ Cond.initialized "java/lang/Math" ∈ pw_tb ∧ Cond.code Lib.Math.max.name Lib.Math.max.code 2 (some .int) ∈ pw_tb) (hlev : 1 ≤ M.2.2.2.2.1) (hrl : st.length ≤ 8) (kk : pw_J M Q (pc + 3) ls (.inl (if x < y then y else x) :: st) h bc bs) : pw_J M Q pc ls (.inl y :: .inl x :: st) h bc bs := by
  intro p l e R s m args below meth c Z Ω C H locs cells slots Sl hH hS hc hs hL
  have hts := C.2.2.2.2.1
  have hR := C.2.2.2.2.2.2.2.1
  have k2 := kk p l e R s m args below meth c Z Ω C H locs cells slots Sl hH hS hc hs hL
  exact va_mmax C.1 C.2.1 (C.2.2.1.trans hL.1.symm) C.2.2.2.1 (hts _ hw.1) (hts _ hw.2.1) (hts _ hw.2.2.1) (hts _ hw.2.2.2) (by omega) (by rw [pw_sumc]; omega) (by omega) (by omega) hd k2
end PWZ
