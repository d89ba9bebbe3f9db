theorem pw_fck_inv {M : pw_M} {idx : Nat} {e : pw_E} (h : pw_fck M idx e = true) : ∃ r, pw_cl[e.2.2.2.1.1]? = some r ∧ e.2.2.2.1.2.1 < r.2.2 ∧ pw_flk M.1.cls idx r e.2.2.2.1.2.1 ∧ e.2.2.2.1.2.2 = pw_rc e.2.2.2.1.1 e.2.2.2.1.2.1 ∧ pw_rc e.2.2.2.1.1 e.2.2.2.1.2.1 < 3 := by
  unfold pw_fck at h
  split at h
  · rename_i r hr
    simp only [Bool.and_eq_true, Bool.or_eq_true, decide_eq_true_eq] at h
    obtain ⟨⟨⟨h1, h2⟩, h3⟩, h4⟩ := h
    refine ⟨r, hr, h1, ?_, h3, h4⟩
    rcases h2 with h2 | h2
    · exact Or.inl (pw_lkw_in h2)
    · exact Or.inr ⟨_, pw_lkn_in h2⟩
  · cases h
theorem pw_pck_inv {M : pw_M} {idx : Nat} {e : pw_E} {r : vw_C} (h : pw_pck M idx e = true) (hr : pw_cl[e.2.2.2.1.1]? = some r) : (r.2.1 e.2.2.2.1.2.1).2.2.2 = false ∨ (M.1.name = "<init>" ∧ M.1.cls = r.1 ∧ Cond.fieldLink M.1.cls idx r.1 (r.2.1 e.2.2.2.1.2.1).2.1 (r.2.1 e.2.2.2.1.2.1).2.2.1 ∈ pw_tb) := by
  unfold pw_pck at h
  rw [hr] at h
  simp only [Bool.and_eq_true, Bool.or_eq_true, decide_eq_true_eq] at h
  rcases h with h | ⟨⟨h1, h2⟩, h3⟩
  · exact Or.inl h
  · exact Or.inr ⟨h1, h2, pw_lkw_in h3⟩
theorem pw_rc_rf {ci k : Nat} (h : pw_rc ci k < 3) : (pw_rf ci k = true ↔ pw_rc ci k = 1) ∧ (pw_rc ci k = 0 → pw_fty ci k = .int) ∧ (pw_rc ci k = 2 → pw_fty ci k = .boolean) ∧ (pw_rc ci k = 1 → (∃ t, pw_fty ci k = .array t) ∨ ∃ C, pw_fty ci k = .object C) := by
  unfold pw_rc at h ⊢
  unfold pw_rf
  cases hf : pw_fty ci k <;> rw [hf] at h <;> simp at h ⊢
theorem pw_get_fv {ci k rk : Nat} {h : pw_Hp} {n : Nat} (hr : rk = pw_rc ci k) (h3 : pw_rc ci k < 3) (Ω : pw_O) : pw_fv Ω h ci n k = pw_V Ω (pw_get rk h n k) := by
  have h1 := (pw_rc_rf h3).1
  unfold pw_fv
  by_cases hq : pw_rf ci k = true
  · rw [if_pos hq, hr, h1.mp hq]
    rfl
  · rw [if_neg hq]
    have hne : rk ≠ 1 := by rw [hr]; exact fun z => hq (h1.mpr z)
    match rk, hne with
    | 0, _ => rfl
    | 1, z => exact absurd rfl z
    | n + 2, _ => rfl
theorem pw_jall_inv {t : List pw_Jt} {j : Nat} (h : pw_jall t j = true) : ∃ q, t[j]? = some q ∧ pw_jok j q.1 ∧ plainName (pw_md j).1.cls = true ∧ (q.2.2.1 = 0 → Cond.static (pw_md j).1 ∈ pw_tb) ∧ (q.2.2.1 = 1 → Cond.instanceMethod (pw_md j).1 ∈ pw_tb ∧ Cond.selects (pw_md j).1.cls (pw_md j).1 (pw_md j).1 ∈ pw_tb) ∧ (q.2.2.1 = 2 → Cond.instanceMethod (pw_md j).1 ∈ pw_tb ∧ (pw_md j).1.name = "<init>" ∧ (pw_md j).2.2.2.1 = none) := by
  unfold pw_jall at h
  split at h
  · rename_i q hq
    rw [Bool.and_eq_true] at h
    obtain ⟨h1, h2⟩ := h
    unfold pw_jck at h1
    simp only [Bool.and_eq_true, decide_eq_true_eq] at h1
    obtain ⟨⟨⟨⟨⟨⟨a1, a2⟩, a3⟩, a4⟩, a5⟩, a6⟩, a7⟩ := h1
    refine ⟨q, hq, ⟨pw_lkw_in a1, pw_lkw_in a2, ⟨a3, a4, a5⟩, a6⟩, a7, fun z => ?_, fun z => ?_, fun z => ?_⟩
    · rw [z] at h2
      exact pw_lkw_in h2
    · rw [z] at h2
      simp only [Bool.and_eq_true] at h2
      exact ⟨pw_lkw_in h2.1, pw_lkw_in h2.2⟩
    · rw [z] at h2
      simp only [Bool.and_eq_true, decide_eq_true_eq] at h2
      exact ⟨pw_lkw_in h2.1.1, h2.1.2, h2.2⟩
  · cases h
theorem pw_cck_inv {M : pw_M} {t : List pw_Jt} {idx kind extra : Nat} {e : pw_E} (h : pw_cck M t idx e kind extra = true) : ∃ q, t[e.2.2.2.1.1]? = some q ∧ q.2.2.1 = kind ∧ e.2.2.2.1.2.1 = q.1 + extra ∧ e.2.2.2.2.1.1 = (pw_md e.2.2.2.1.1).2.2.2.2.2.1 ∧ e.2.2.2.2.1.2.1 = (pw_md e.2.2.2.1.1).2.2.2.2.2.2 ∧ (pw_md e.2.2.2.1.1).2.2.2.2.1 + 1 ≤ M.2.2.2.2.1 ∧ (Cond.methodLink M.1.cls idx (pw_md e.2.2.2.1.1).1 ∈ pw_tb ∨ (kind ≠ 0 ∧ Cond.methodLinkNest M.1.cls idx (pw_md e.2.2.2.1.1).1 "ParkRows" ∈ pw_nl)) := by
  unfold pw_cck at h
  split at h
  · rename_i q hq
    simp only [Bool.and_eq_true, Bool.or_eq_true, decide_eq_true_eq] at h
    obtain ⟨⟨⟨⟨⟨a1, a2⟩, a3⟩, a4⟩, a5⟩, a6⟩ := h
    refine ⟨q, hq, a1, a2, a3, a4, a5, ?_⟩
    rcases a6 with a6 | ⟨a6, a7⟩
    · exact Or.inl (pw_lkw_in a6)
    · exact Or.inr ⟨a6, pw_lkn_in a7⟩
  · cases h
theorem pw_pop_eq {n : Nat} {st : List pw_A} (hn : n ≤ st.length) : st = (pw_pop n st).1.reverse ++ (pw_pop n st).2 := by
  unfold pw_pop
  simp
theorem pw_pop_len {n : Nat} {st : List pw_A} (hn : n ≤ st.length) : (pw_pop n st).1.length = n := by
  unfold pw_pop
  simp
  omega
theorem pw_short_inv : ∀ {n : Nat} {st : List pw_A}, pw_short n st → n ≤ st.length ∧ (pw_pop n st).2.length ≤ 8
  | 0, st, h => ⟨Nat.zero_le _, h⟩
  | n + 1, a :: r, h => by
    have g := pw_short_inv (n := n) (st := r) h
    exact ⟨Nat.succ_le_succ g.1, g.2⟩
theorem pw_rcv_inv {ci : Nat} {h : pw_Hp} {as : List pw_A} (hr : pw_rcv ci h as) : ∃ n r, as = .inr n :: r ∧ pw_k h n = 10 + ci := by
  match as, hr with
  | .inr n :: r, hr => exact ⟨n, r, rfl, hr⟩
/-- what callees' rows must hold: every method that is called -/
def pw_Tok (t : List pw_Jt) : Prop := ∀ j q, t[j]? = some q → pw_jall t j = true
theorem pw_step {t : List pw_Jt} (ht : pw_Tok t) {M : pw_M} {Q : Option pw_A → pw_Hp → Prop} {pc : Nat} {e : pw_E} {K : pw_Kt} {ls : pw_Ls} {st : List pw_A} {h : pw_Hp} {bc bs : Nat} (hc : pw_chk t M pc e = true)
    (hK : ∀ b q ls st h bc bs, K (b, q) ls st h bc bs → pw_J M Q q ls st h bc bs) (hs : pw_stp Q e K ls st h bc bs) : pw_J M Q pc ls st h bc bs := by
  have hKn : ∀ (q : Bool × Nat) {x : Nat} {ls st h bc bs}, q.2 = x → K q ls st h bc bs → pw_J M Q x ls st h bc bs := fun q x ls st h bc bs e1 k => by subst e1; exact hK q.1 q.2 _ _ _ _ _ k
  obtain ⟨i, nx, tg, ax, bx, sw⟩ := e
  have hkt : ∀ {ls st h bc bs}, K tg ls st h bc bs → pw_J M Q tg.2 ls st h bc bs := fun k => hKn tg rfl k
  cases i with
  | iload_n k =>
    obtain ⟨d1, d2⟩ := pw_dc_inv (show pw_dc M pc _ 1 = true from hc)
    obtain ⟨x, h1, h2⟩ := pw_li_inv (show pw_li (pw_nth k.val ls) _ from hs)
    exact pw_x_iload_n d1 h1 (hKn nx d2 h2)
  | iload k =>
    obtain ⟨d1, d2⟩ := pw_dc_inv (show pw_dc M pc _ 2 = true from hc)
    obtain ⟨x, h1, h2⟩ := pw_li_inv (show pw_li (pw_nth k ls) _ from hs)
    exact pw_x_iload d1 h1 (hKn nx d2 h2)
  | aload_n k =>
    obtain ⟨d1, d2⟩ := pw_dc_inv (show pw_dc M pc _ 1 = true from hc)
    obtain ⟨x, h1, h2⟩ := pw_lr_inv (show pw_lr (pw_nth k.val ls) _ from hs)
    exact pw_x_aload_n d1 h1 (hKn nx d2 h2)
  | aload k =>
    obtain ⟨d1, d2⟩ := pw_dc_inv (show pw_dc M pc _ 2 = true from hc)
    obtain ⟨x, h1, h2⟩ := pw_lr_inv (show pw_lr (pw_nth k ls) _ from hs)
    exact pw_x_aload d1 h1 (hKn nx d2 h2)
  | istore_n k =>
    obtain ⟨hc1, hc2⟩ := Bool.and_eq_true_iff.mp (show (pw_dc M pc _ 1 && decide (k.val < M.2.2.1)) = true from hc)
    obtain ⟨d1, d2⟩ := pw_dc_inv hc1
    obtain ⟨x, r, rfl, h2⟩ := pw_s1_inv (show pw_s1 st _ from hs)
    exact pw_x_istore_n d1 (of_decide_eq_true hc2) (hKn nx d2 h2)
  | istore k =>
    obtain ⟨hc1, hc2⟩ := Bool.and_eq_true_iff.mp (show (pw_dc M pc _ 2 && decide (k < M.2.2.1)) = true from hc)
    obtain ⟨d1, d2⟩ := pw_dc_inv hc1
    obtain ⟨x, r, rfl, h2⟩ := pw_s1_inv (show pw_s1 st _ from hs)
    exact pw_x_istore d1 (of_decide_eq_true hc2) (hKn nx d2 h2)
  | astore_n k =>
    obtain ⟨hc1, hc2⟩ := Bool.and_eq_true_iff.mp (show (pw_dc M pc _ 1 && decide (k.val < M.2.2.1)) = true from hc)
    obtain ⟨d1, d2⟩ := pw_dc_inv hc1
    obtain ⟨x, r, rfl, h2⟩ := pw_sr_inv (show pw_sr st _ from hs)
    exact pw_x_astore_n d1 (of_decide_eq_true hc2) (hKn nx d2 h2)
  | astore k =>
    obtain ⟨hc1, hc2⟩ := Bool.and_eq_true_iff.mp (show (pw_dc M pc _ 2 && decide (k < M.2.2.1)) = true from hc)
    obtain ⟨d1, d2⟩ := pw_dc_inv hc1
    obtain ⟨x, r, rfl, h2⟩ := pw_sr_inv (show pw_sr st _ from hs)
    exact pw_x_astore d1 (of_decide_eq_true hc2) (hKn nx d2 h2)
  | iinc k n =>
    have hc' : ((pw_dc M pc _ 3 && decide (k < M.2.2.1)) && decide (Int32.ofInt n = pw_cv sw)) = true := hc
    simp only [Bool.and_eq_true, decide_eq_true_eq] at hc'
    obtain ⟨⟨c1, c2⟩, c3⟩ := hc'
    obtain ⟨d1, d2⟩ := pw_dc_inv c1
    obtain ⟨x, h1, h2⟩ := pw_li_inv (show pw_li (pw_nth k ls) _ from hs)
    exact pw_x_iinc d1 h1 c2 c3 (hKn nx d2 h2)
  | iconst n =>
    obtain ⟨hc1, hc2⟩ := Bool.and_eq_true_iff.mp (show (pw_dc M pc _ 1 && decide (Int32.ofInt n = pw_cv sw)) = true from hc)
    obtain ⟨d1, d2⟩ := pw_dc_inv hc1
    exact pw_x_iconst d1 (of_decide_eq_true hc2) (hKn nx d2 hs)
  | bipush n =>
    obtain ⟨hc1, hc2⟩ := Bool.and_eq_true_iff.mp (show (pw_dc M pc _ 2 && decide ((Int8.ofInt n).toInt32 = pw_cv sw)) = true from hc)
    obtain ⟨d1, d2⟩ := pw_dc_inv hc1
    exact pw_x_bipush d1 (of_decide_eq_true hc2) (hKn nx d2 hs)
  | sipush n =>
    obtain ⟨hc1, hc2⟩ := Bool.and_eq_true_iff.mp (show (pw_dc M pc _ 3 && decide ((Int16.ofInt n).toInt32 = pw_cv sw)) = true from hc)
    obtain ⟨d1, d2⟩ := pw_dc_inv hc1
    exact pw_x_sipush d1 (of_decide_eq_true hc2) (hKn nx d2 hs)
  | aconst_null =>
    obtain ⟨d1, d2⟩ := pw_dc_inv (show pw_dc M pc _ 1 = true from hc)
    exact pw_x_null d1 (hKn nx d2 hs)
  | iadd =>
    obtain ⟨d1, d2⟩ := pw_dc_inv (show pw_dc M pc _ 1 = true from hc)
    obtain ⟨x, y, r, rfl, h2⟩ := pw_s2_inv (show pw_s2 st _ from hs)
    exact pw_x_iadd d1 (hKn nx d2 h2)
  | isub =>
    obtain ⟨d1, d2⟩ := pw_dc_inv (show pw_dc M pc _ 1 = true from hc)
    obtain ⟨x, y, r, rfl, h2⟩ := pw_s2_inv (show pw_s2 st _ from hs)
    exact pw_x_isub d1 (hKn nx d2 h2)
  | imul =>
    obtain ⟨d1, d2⟩ := pw_dc_inv (show pw_dc M pc _ 1 = true from hc)
    obtain ⟨x, y, r, rfl, h2⟩ := pw_s2_inv (show pw_s2 st _ from hs)
    exact pw_x_imul d1 (hKn nx d2 h2)
  | iand =>
    obtain ⟨d1, d2⟩ := pw_dc_inv (show pw_dc M pc _ 1 = true from hc)
    obtain ⟨x, y, r, rfl, h2⟩ := pw_s2_inv (show pw_s2 st _ from hs)
    exact pw_x_iand d1 (hKn nx d2 h2)
  | idiv =>
    obtain ⟨d1, d2⟩ := pw_dc_inv (show pw_dc M pc _ 1 = true from hc)
    obtain ⟨x, y, r, rfl, h1, h2⟩ := pw_s2_inv (show pw_s2 st _ from hs)
    exact pw_x_idiv d1 h1 (hKn nx d2 h2)
  | irem =>
    obtain ⟨d1, d2⟩ := pw_dc_inv (show pw_dc M pc _ 1 = true from hc)
    obtain ⟨x, y, r, rfl, h1, h2⟩ := pw_s2_inv (show pw_s2 st _ from hs)
    exact pw_x_irem d1 h1 (hKn nx d2 h2)
  | ineg =>
    obtain ⟨d1, d2⟩ := pw_dc_inv (show pw_dc M pc _ 1 = true from hc)
    obtain ⟨x, r, rfl, h2⟩ := pw_s1_inv (show pw_s1 st _ from hs)
    exact pw_x_ineg d1 (hKn nx d2 h2)
  | dup =>
    obtain ⟨d1, d2⟩ := pw_dc_inv (show pw_dc M pc _ 1 = true from hc)
    obtain ⟨v, r, rfl, h2⟩ := pw_sa_inv (show pw_sa st _ from hs)
    exact pw_x_dup d1 (hKn nx d2 h2)
  | pop =>
    obtain ⟨d1, d2⟩ := pw_dc_inv (show pw_dc M pc _ 1 = true from hc)
    obtain ⟨v, r, rfl, h2⟩ := pw_sa_inv (show pw_sa st _ from hs)
    exact pw_x_pop d1 (hKn nx d2 h2)
  | dup2 =>
    obtain ⟨d1, d2⟩ := pw_dc_inv (show pw_dc M pc _ 1 = true from hc)
    obtain ⟨v, r, rfl, h2⟩ := pw_sa_inv (show pw_sa st _ from hs)
    obtain ⟨w, r2, rfl, h3⟩ := pw_sa_inv h2
    exact pw_x_dup2 d1 (hKn nx d2 h3)
  | if_icmp cd o =>
    obtain ⟨hc1, hc2⟩ := Bool.and_eq_true_iff.mp (show (pw_dc M pc _ 3 && decide ((pc : Int) + o = (tg.2 : Int))) = true from hc)
    obtain ⟨d1, d2⟩ := pw_dc_inv hc1
    obtain ⟨x, y, r, rfl, h2⟩ := pw_s2_inv (show pw_s2 st _ from hs)
    exact pw_x_icmp d1 (of_decide_eq_true hc2) (pw_cc_mono h2 hkt (fun q => hKn nx d2 q))
  | ifCond cd o =>
    obtain ⟨hc1, hc2⟩ := Bool.and_eq_true_iff.mp (show (pw_dc M pc _ 3 && decide ((pc : Int) + o = (tg.2 : Int))) = true from hc)
    obtain ⟨d1, d2⟩ := pw_dc_inv hc1
    obtain ⟨x, r, rfl, h2⟩ := pw_s1_inv (show pw_s1 st _ from hs)
    exact pw_x_if d1 (of_decide_eq_true hc2) (pw_cc_mono h2 hkt (fun q => hKn nx d2 q))
  | ifnull o =>
    obtain ⟨hc1, hc2⟩ := Bool.and_eq_true_iff.mp (show (pw_dc M pc _ 3 && decide ((pc : Int) + o = (tg.2 : Int))) = true from hc)
    obtain ⟨d1, d2⟩ := pw_dc_inv hc1
    obtain ⟨x, r, rfl, h1, h2⟩ := pw_sr_inv (show pw_sr st _ from hs)
    exact pw_x_ifnull d1 (of_decide_eq_true hc2) ⟨fun q => hkt (h1 q), fun q => hKn nx d2 (h2 q)⟩
  | ifnonnull o =>
    obtain ⟨hc1, hc2⟩ := Bool.and_eq_true_iff.mp (show (pw_dc M pc _ 3 && decide ((pc : Int) + o = (tg.2 : Int))) = true from hc)
    obtain ⟨d1, d2⟩ := pw_dc_inv hc1
    obtain ⟨x, r, rfl, h1, h2⟩ := pw_sr_inv (show pw_sr st _ from hs)
    exact pw_x_ifnonnull d1 (of_decide_eq_true hc2) ⟨fun q => hkt (h1 q), fun q => hKn nx d2 (h2 q)⟩
  | goto o =>
    obtain ⟨hc1, hc2⟩ := Bool.and_eq_true_iff.mp (show (pw_dc M pc _ 3 && decide ((pc : Int) + o = (tg.2 : Int))) = true from hc)
    obtain ⟨d1, d2⟩ := pw_dc_inv hc1
    exact pw_x_goto d1 (of_decide_eq_true hc2) (hkt hs)
  | tableswitch d lo hi os =>
    have hc' : (((pw_dc M pc _ (nx.2 - pc) && decide ((pc : Int) + d = (tg.2 : Int))) && pw_tsk pc lo os.toList sw) && decide (hi + 1 = lo + (os.toList.length : Int))) = true := hc
    simp only [Bool.and_eq_true, decide_eq_true_eq] at hc'
    obtain ⟨⟨⟨c1, c2⟩, c3⟩, c4⟩ := hc'
    obtain ⟨d1, d2⟩ := pw_dc_inv c1
    obtain ⟨x, r, rfl, h2⟩ := pw_s1_inv (show pw_s1 st _ from hs)
    rcases pw_tab_inv sw lo os.toList c3 h2 with ⟨i, o, tt, w1, w2, w3, w4⟩ | ⟨w1, w2⟩
    · have hk := hKn tt rfl w4
      have hil : i < os.toList.length := (List.getElem?_eq_some_iff.mp w1).1
      intro p l e R s m args below meth c Z Ω C H locs cells slots Sl hH hS hc hs hL
      refine lv_tableIn C.1 C.2.1 d1 (by omega) (by omega) (off := o) ?_ w3 (hk p l e R s m args below meth c Z Ω C H locs cells slots Sl hH hS hc hs hL)
      rw [show (x.toInt - lo).toNat = i by omega, ← Array.getElem?_toList]
      exact w1
    · have hk := hkt w2
      intro p l e R s m args below meth c Z Ω C H locs cells slots Sl hH hS hc hs hL
      exact lv_tableOut C.1 C.2.1 d1 (by omega) c2 (hk p l e R s m args below meth c Z Ω C H locs cells slots Sl hH hS hc hs hL)
  | lookupswitch d ps =>
    have hc' : (((pw_dc M pc _ (nx.2 - pc) && decide ((pc : Int) + d = (tg.2 : Int))) && pw_lsk pc ps.toList sw) && (ps.toList.zip (ps.toList.drop 1)).all (fun (a, next) => decide (a.1 < next.1))) = true := hc
    simp only [Bool.and_eq_true, decide_eq_true_eq] at hc'
    obtain ⟨⟨⟨c1, c2⟩, c3⟩, c4⟩ := hc'
    obtain ⟨d1, d2⟩ := pw_dc_inv c1
    obtain ⟨x, r, rfl, h2⟩ := pw_s1_inv (show pw_s1 st _ from hs)
    obtain ⟨tt, w1, w2⟩ := pw_look_inv c2 sw ps.toList c3 h2
    have hk := hKn tt rfl w2
    intro p l e R s m args below meth c Z Ω C H locs cells slots Sl hH hS hc hs hL
    exact lv_lookup C.1 C.2.1 d1 c4 rfl w1 (hk p l e R s m args below meth c Z Ω C H locs cells slots Sl hH hS hc hs hL)
  | getfield idx =>
    obtain ⟨hc1, hc2⟩ := Bool.and_eq_true_iff.mp (show (pw_dc M pc _ 3 && pw_fck M idx _) = true from hc)
    obtain ⟨d1, d2⟩ := pw_dc_inv hc1
    obtain ⟨r, f1, f2, f3, f4, f5⟩ := pw_fck_inv hc2
    obtain ⟨n, rr, rfl, h1, h2⟩ := pw_sr_inv (show pw_sr st _ from hs)
    exact pw_x_get d1 f1 f2 f3 h1 (fun Ω => pw_get_fv f4 f5 Ω) (hKn nx d2 h2)
  | putfield idx =>
    have hc' : ((pw_dc M pc _ 3 && pw_fck M idx _) && pw_pck M idx _) = true := hc
    simp only [Bool.and_eq_true] at hc'
    obtain ⟨⟨c1, c2⟩, c3⟩ := hc'
    obtain ⟨d1, d2⟩ := pw_dc_inv c1
    obtain ⟨r, f1, f2, f3, f4, f5⟩ := pw_fck_inv c2
    have f6 := pw_pck_inv c3 f1
    obtain ⟨ci, k, rk⟩ := ax
    dsimp only at f1 f2 f3 f4 f5 f6
    have hs : pw_put rk st ci k h (fun r h' => K nx ls r h' bc bs) := hs
    have g := pw_rc_rf f5
    have e5i : ∀ (n : Nat) (x : Int32) (Ω : pw_O) (j : Nat), pw_rc ci k ≠ 1 → updV (pw_fv Ω h ci n) k (.int x) j = pw_fv Ω (pw_wi h n k x) ci n j := by
      intro n x Ω j hne
      unfold updV pw_fv
      rw [pw_wi_i, pw_wi_r]
      by_cases hj : j = k
      · subst hj
        rw [if_pos rfl, if_neg (fun z => hne (g.1.mp z)), if_pos ⟨rfl, rfl⟩]
      · simp [hj]
    match rk, f4, hs with
    | 0, f4, hs =>
      obtain ⟨n, x, rr, rfl, h1, h2⟩ := pw_sir_inv (show pw_sir st _ from hs)
      exact pw_x_put (v := .inl x) (h' := pw_wi h n k x) d1 f1 f2 f3 f6 h1 (fun Ω => by rw [g.2.1 f4.symm]; exact ⟨rfl, rfl⟩) rfl rfl (fun a ha j => by rw [pw_wi_i, if_neg (fun q => ha q.1)]) (fun a _ j => rfl) (fun Ω j => e5i n x Ω j (by omega)) (hKn nx d2 h2)
    | 1, f4, hs =>
      obtain ⟨n, x, rr, rfl, h1, h2⟩ := pw_srr_inv (show pw_srr st _ from hs)
      refine pw_x_put (v := .inr x) (h' := pw_wr h n k x) d1 f1 f2 f3 f6 h1 (fun Ω => ?_) rfl rfl (fun a ha j => rfl) (fun a ha j => by rw [pw_wr_r, if_neg (fun q => ha q.1)]) (fun Ω j => ?_) (hKn nx d2 h2)
      · rcases g.2.2.2 f4.symm with ⟨t, q⟩ | ⟨C, q⟩ <;> rcases pw_Vr Ω x with ⟨-, z⟩ | ⟨-, a, z⟩ <;> rw [q, z] <;> exact ⟨rfl, rfl⟩
      · unfold updV pw_fv
        rw [pw_wr_i, pw_wr_r]
        by_cases hj : j = k
        · subst hj
          rw [if_pos rfl, if_pos (g.1.mpr f4.symm), if_pos ⟨rfl, rfl⟩]
        · simp [hj]
    | m + 2, f4, hs =>
      obtain ⟨n, x, rr, rfl, h1, h01, h2⟩ := pw_sir_inv (show pw_sir st _ from hs)
      exact pw_x_put (v := .inl x) (h' := pw_wi h n k x) d1 f1 f2 f3 f6 h1 (fun Ω => by rw [g.2.2.1 (by omega)]; exact pw_nar01 h01) rfl rfl (fun a ha j => by rw [pw_wi_i, if_neg (fun q => ha q.1)]) (fun a _ j => rfl) (fun Ω j => e5i n x Ω j (by omega)) (hKn nx d2 h2)
  | iaload =>
    obtain ⟨d1, d2⟩ := pw_dc_inv (show pw_dc M pc _ 1 = true from hc)
    obtain ⟨n, i, r, rfl, h1, h2, h3⟩ := pw_sir_inv (show pw_sir st _ from hs)
    exact pw_x_iald d1 h1 h2 (hKn nx d2 h3)
  | baload =>
    obtain ⟨d1, d2⟩ := pw_dc_inv (show pw_dc M pc _ 1 = true from hc)
    obtain ⟨n, i, r, rfl, h1, h2, h3⟩ := pw_sir_inv (show pw_sir st _ from hs)
    exact pw_x_bald d1 h1 h2 (hKn nx d2 h3)
  | aaload =>
    obtain ⟨d1, d2⟩ := pw_dc_inv (show pw_dc M pc _ 1 = true from hc)
    obtain ⟨n, i, r, rfl, h1, h2, h3⟩ := pw_sir_inv (show pw_sir st _ from hs)
    exact pw_x_aald d1 h1 h2 (hKn nx d2 h3)
  | iastore =>
    obtain ⟨d1, d2⟩ := pw_dc_inv (show pw_dc M pc _ 1 = true from hc)
    obtain ⟨n, i, x, r, rfl, h1, h2, h3⟩ := pw_siir_inv (show pw_siir st _ from hs)
    exact pw_x_iast d1 h1 h2 (hKn nx d2 h3)
  | bastore =>
    obtain ⟨d1, d2⟩ := pw_dc_inv (show pw_dc M pc _ 1 = true from hc)
    obtain ⟨n, i, x, r, rfl, h1, h2, h3, h4⟩ := pw_siir_inv (show pw_siir st _ from hs)
    exact pw_x_bast d1 h1 h2 h3 (hKn nx d2 h4)
  | aastore =>
    obtain ⟨d1, d2⟩ := pw_dc_inv (show pw_dc M pc _ 1 = true from hc)
    obtain ⟨n, i, x, r, rfl, h1, h2, h3⟩ := pw_srir_inv (show pw_srir st _ from hs)
    exact pw_x_aast d1 h1 h2 (hKn nx d2 h3)
  | arraylength =>
    obtain ⟨d1, d2⟩ := pw_dc_inv (show pw_dc M pc _ 1 = true from hc)
    obtain ⟨n, r, rfl, h1, h2⟩ := pw_sr_inv (show pw_sr st _ from hs)
    exact pw_x_alen d1 h1 (hKn nx d2 h2)
  | newarray a =>
    have hc' : ((pw_dc M pc _ 2 && ((decide (a = .int) && decide (ax.1 = 1)) || (decide (a = .boolean) && decide (ax.1 = 2)))) && pw_lkw bx.2.2 (.arrayClass (newarray.typeOf a))) = true := hc
    simp only [Bool.and_eq_true, Bool.or_eq_true, decide_eq_true_eq] at hc'
    obtain ⟨⟨c1, c2⟩, c3⟩ := hc'
    obtain ⟨d1, d2⟩ := pw_dc_inv c1
    obtain ⟨x, r, rfl, h1, h2, h3, h4⟩ := pw_s1_inv (show pw_s1 st _ from hs)
    exact pw_x_newa d1 c2 (pw_lkw_in c3) h1 h2 h3 (hKn nx d2 h4)
  | anewarray idx =>
    have hc' : (pw_dc M pc _ 3 && ((decide (ax.1 = 3) && pw_lkw bx.2.2 (.classLink M.1.cls idx "ParkRows$Ride") && pw_lkn ax.2.1 (.arrayOver (.object "ParkRows$Ride"))) || (decide (ax.1 = 4) && pw_lkw bx.2.2 (.classLink M.1.cls idx "ParkRows$Group") && pw_lkn ax.2.1 (.arrayOver (.object "ParkRows$Group"))))) = true := hc
    simp only [Bool.and_eq_true, Bool.or_eq_true, decide_eq_true_eq] at hc'
    obtain ⟨c1, c2⟩ := hc'
    obtain ⟨d1, d2⟩ := pw_dc_inv c1
    obtain ⟨x, r, rfl, h1, h2, h3, h4⟩ := pw_s1_inv (show pw_s1 st _ from hs)
    rcases c2 with ⟨⟨e1, e2⟩, e3⟩ | ⟨⟨e1, e2⟩, e3⟩
    · exact pw_x_anew d1 "ParkRows$Ride" (Or.inl e1) (by rw [e1]; rfl) (pw_lkw_in e2) (pw_lkn_in e3) h1 h2 h3 (hKn nx d2 h4)
    · exact pw_x_anew d1 "ParkRows$Group" (Or.inr e1) (by rw [e1]; rfl) (pw_lkw_in e2) (pw_lkn_in e3) h1 h2 h3 (hKn nx d2 h4)
  | new idx =>
    obtain ⟨hc1, hc2⟩ := Bool.and_eq_true_iff.mp (show (pw_dc M pc _ 3 && (match pw_cl[ax.1]? with
      | some r => decide (ax.2.1 = r.2.2) && pw_lkw bx.2.2 (.classLink M.1.cls idx r.1) && pw_lkw bx.1 (.instantiable r.1 r.2.2) && pw_lkw bx.2.1 (.initialized r.1)
      | none => false)) = true from hc)
    obtain ⟨d1, d2⟩ := pw_dc_inv hc1
    split at hc2
    · rename_i r hr
      simp only [Bool.and_eq_true, decide_eq_true_eq] at hc2
      obtain ⟨⟨⟨e1, e2⟩, e3⟩, e4⟩ := hc2
      obtain ⟨h1, h2, h3⟩ := (show 1 ≤ bc ∧ ax.2.1 ≤ bs ∧ K nx ls (.inr (h.1 + 2) :: st) (pw_nw h (10 + ax.1) ax.2.1) (bc - 1) (bs - ax.2.1) from hs)
      rw [e1] at h2 h3
      exact pw_x_new d1 hr ⟨pw_lkw_in e2, pw_lkw_in e3, pw_lkw_in e4⟩ h1 h2 (hKn nx d2 h3)
    · cases hc2
  | invokevirtual idx =>
    have hc' : ((pw_dc M pc _ 3 && pw_cck M t idx _ 1 1) && pw_clk tg.2 (pw_md ax.1).1.cls) = true := hc
    simp only [Bool.and_eq_true] at hc'
    obtain ⟨⟨c1, c2⟩, c3⟩ := hc'
    obtain ⟨d1, d2⟩ := pw_dc_inv c1
    obtain ⟨q, g1, g2, g3, g4, g5, g6, g7⟩ := pw_cck_inv c2
    obtain ⟨q', j1, j2, j3, j4, j5, j6⟩ := pw_jall_inv (ht _ _ g1)
    cases j1.symm.trans g1
    obtain ⟨i1, i2⟩ := j5 g2
    obtain ⟨w1, w2, w3, w4, w5⟩ := (show pw_short ax.2.1 st ∧ bx.1 ≤ bc ∧ bx.2.1 ≤ bs ∧ pw_rcv tg.2 h (pw_pop ax.2.1 st).1 ∧ pw_ret ax.2.2 ax.1 (pw_pop ax.2.1 st).1 (pw_pop ax.2.1 st).2 h (fun r h' => K nx ls r h' (bc - bx.1) (bs - bx.2.1)) from hs)
    obtain ⟨n, as, ha, hkd⟩ := pw_rcv_inv w4
    obtain ⟨hlen, w1⟩ := pw_short_inv w1
    dsimp only at g3 g4 g5
    rw [g4] at w2 w5
    rw [g5] at w3 w5
    unfold pw_clk at c3
    split at c3
    · rename_i r hr
      have hr1 : r.1 = (pw_md ax.1).1.cls := of_decide_eq_true c3
      have hst := pw_pop_eq hlen
      have hln := pw_pop_len hlen
      rw [ha] at hst hln w5
      have hC := pw_C_mono (pw_ret_C w5) (Q' := fun v h' => pw_J M Q (pc + 3) ls (v.toList ++ (pw_pop ax.2.1 st).2) h' (bc - (pw_md ax.1).2.2.2.2.2.1) (bs - (pw_md ax.1).2.2.2.2.2.2)) (fun v h' z => hKn nx d2 z)
      have key := pw_x_virt d1 (as := as) (by rw [show as.length = q.1 by rw [List.length_cons] at hln; omega]; exact j2) (g7.elim Or.inl (fun z => Or.inr ⟨_, z.2⟩)) i1 (by rw [hr1]; exact i2) hr hkd g6 w1 w2 w3 hC
      rw [hst]
      simpa using key
    · cases c3
  | invokespecial idx =>
    obtain ⟨c1, c2⟩ := Bool.and_eq_true_iff.mp (show (pw_dc M pc _ 3 && (match ax.1 with
      | 1001 => pw_lkw bx.2.2 (.methodLink M.1.cls idx Lib.objectInit) && pw_lkw bx.1 (.instanceMethod Lib.objectInit) && pw_lkw bx.2.1 (.code Lib.objectInit ⟨#[0xb1]⟩ 1 none) && decide (1 ≤ M.2.2.2.2.1)
      | _ => pw_cck M t idx (.invokespecial idx, nx, tg, ax, bx, sw) 2 1)) = true from hc)
    obtain ⟨d1, d2⟩ := pw_dc_inv c1
    by_cases hax : ax.1 = 1001
    · obtain ⟨ax1, ax2⟩ := ax
      dsimp only at hax
      subst hax
      simp only [Bool.and_eq_true, decide_eq_true_eq] at c2
      obtain ⟨⟨⟨e1, e2⟩, e3⟩, e4⟩ := c2
      obtain ⟨n, r, rfl, h1, h2, h3⟩ := pw_sr_inv (show pw_sr st (fun n r => pw_short 0 r ∧ ¬ n = 0 ∧ K nx ls r h bc bs) from hs)
      exact pw_x_obj d1 ⟨pw_lkw_in e1, pw_lkw_in e2, pw_lkw_in e3⟩ e4 h1 h2 (hKn nx d2 h3)
    · have c2' : pw_cck M t idx (.invokespecial idx, nx, tg, ax, bx, sw) 2 1 = true := by
        split at c2
        · rename_i z; exact absurd z hax
        · exact c2
      obtain ⟨q, g1, g2, g3, g4, g5, g6, g7⟩ := pw_cck_inv c2'
      obtain ⟨q', j1, j2, j3, j4, j5, j6⟩ := pw_jall_inv (ht _ _ g1)
      cases j1.symm.trans g1
      obtain ⟨i1, i2, i3⟩ := j6 g2
      have hs' : pw_short ax.2.1 st ∧ bx.1 ≤ bc ∧ bx.2.1 ≤ bs ∧ pw_rcv tg.2 h (pw_pop ax.2.1 st).1 ∧ pw_ret ax.2.2 ax.1 (pw_pop ax.2.1 st).1 (pw_pop ax.2.1 st).2 h (fun r h' => K nx ls r h' (bc - bx.1) (bs - bx.2.1)) := by
        unfold pw_stp at hs
        dsimp only at hs
        split at hs
        · rename_i z; exact absurd z hax
        · exact hs
      obtain ⟨w1, w2, w3, w4, w5⟩ := hs'
      obtain ⟨n, as, ha, hkd⟩ := pw_rcv_inv w4
      obtain ⟨hlen, w1⟩ := pw_short_inv w1
      dsimp only at g3 g4 g5
      rw [g4] at w2 w5
      rw [g5] at w3 w5
      have hst := pw_pop_eq hlen
      have hln := pw_pop_len hlen
      rw [ha] at hst hln w5
      have hC := pw_C_mono (pw_ret_C w5) (Q' := fun v h' => pw_J M Q (pc + 3) ls (v.toList ++ (pw_pop ax.2.1 st).2) h' (bc - (pw_md ax.1).2.2.2.2.2.1) (bs - (pw_md ax.1).2.2.2.2.2.2)) (fun v h' z => hKn nx d2 z)
      have key := pw_x_spec d1 (as := as) (by rw [show as.length = q.1 by rw [List.length_cons] at hln; omega]; exact j2) (g7.elim Or.inl (fun z => Or.inr ⟨_, z.2⟩)) i1 i2 i3 (by omega) g6 w1 w2 w3 hC
      rw [hst]
      simpa using key
  | invokestatic idx =>
    obtain ⟨c1, c2⟩ := Bool.and_eq_true_iff.mp (show (pw_dc M pc _ 3 && (match ax.1 with
      | 1000 => pw_lkw bx.2.2 (.methodLink M.1.cls idx Lib.Math.max.name) && pw_lkw bx.1 (.static Lib.Math.max.name) && pw_lkw bx.2.1 (.initialized "java/lang/Math") && pw_lkw ax.2.1 (.code Lib.Math.max.name Lib.Math.max.code 2 (some .int)) && decide (1 ≤ M.2.2.2.2.1)
      | _ => pw_cck M t idx (.invokestatic idx, nx, tg, ax, bx, sw) 0 0)) = true from hc)
    obtain ⟨d1, d2⟩ := pw_dc_inv c1
    by_cases hax : ax.1 = 1000
    · obtain ⟨ax1, ax2⟩ := ax
      dsimp only at hax
      subst hax
      simp only [Bool.and_eq_true, decide_eq_true_eq] at c2
      obtain ⟨⟨⟨⟨e1, e2⟩, e3⟩, e4⟩, e5⟩ := c2
      obtain ⟨x, y, r, rfl, h1, h2⟩ := pw_s2_inv (show pw_s2 st (fun x y r => pw_short 0 r ∧ K nx ls (.inl (if x < y then y else x) :: r) h bc bs) from hs)
      exact pw_x_max d1 ⟨pw_lkw_in e1, pw_lkw_in e2, pw_lkw_in e3, pw_lkw_in e4⟩ e5 h1 (hKn nx d2 h2)
    · have c2' : pw_cck M t idx (.invokestatic idx, nx, tg, ax, bx, sw) 0 0 = true := by
        split at c2
        · rename_i z; exact absurd z hax
        · exact c2
      obtain ⟨q, g1, g2, g3, g4, g5, g6, g7⟩ := pw_cck_inv c2'
      obtain ⟨q', j1, j2, j3, j4, j5, j6⟩ := pw_jall_inv (ht _ _ g1)
      cases j1.symm.trans g1
      have i1 := j4 g2
      have hs' : pw_short ax.2.1 st ∧ bx.1 ≤ bc ∧ bx.2.1 ≤ bs ∧ pw_ret ax.2.2 ax.1 (pw_pop ax.2.1 st).1 (pw_pop ax.2.1 st).2 h (fun r h' => K nx ls r h' (bc - bx.1) (bs - bx.2.1)) := by
        unfold pw_stp at hs
        dsimp only at hs
        split at hs
        · rename_i z; exact absurd z hax
        · exact hs
      obtain ⟨w1, w2, w3, w5⟩ := hs'
      obtain ⟨hlen, w1⟩ := pw_short_inv w1
      dsimp only at g3 g4 g5
      rw [g4] at w2 w5
      rw [g5] at w3 w5
      have hst := pw_pop_eq hlen
      have hln := pw_pop_len hlen
      have hC := pw_C_mono (pw_ret_C w5) (Q' := fun v h' => pw_J M Q (pc + 3) ls (v.toList ++ (pw_pop ax.2.1 st).2) h' (bc - (pw_md ax.1).2.2.2.2.2.1) (bs - (pw_md ax.1).2.2.2.2.2.2)) (fun v h' z => hKn nx d2 z)
      have key := pw_x_stat d1 (by rw [hln, show ax.2.1 = q.1 by omega]; exact j2) (g7.elim id (fun z => absurd rfl z.1)) i1 g6 w1 w2 w3 hC
      rw [hst]
      exact key
  | ireturn =>
    obtain ⟨c1, c2⟩ := Bool.and_eq_true_iff.mp (show (pw_dc M pc _ 1 && ((decide (M.2.2.2.1 = some .int) && decide (ax.2.2 = 0)) || (decide (M.2.2.2.1 = some .boolean) && decide (ax.2.2 = 2)))) = true from hc)
    obtain ⟨d1, d2⟩ := pw_dc_inv c1
    simp only [Bool.and_eq_true, Bool.or_eq_true, decide_eq_true_eq] at c2
    have hs : pw_irt ax.2.2 st (fun v => Q (some (.inl v)) h) := hs
    match st, hs with
    | [.inl v], hs =>
      rcases c2 with ⟨e1, e2⟩ | ⟨e1, e2⟩
      · rw [e2] at hs
        exact pw_x_iret d1 (Or.inl e1) hs
      · rw [e2] at hs
        exact pw_x_iret d1 (Or.inr ⟨e1, hs.1⟩) hs.2
  | areturn =>
    obtain ⟨c1, c2⟩ := Bool.and_eq_true_iff.mp (show (pw_dc M pc _ 1 && (match M.2.2.2.1 with
      | some (.object _) => true
      | _ => false)) = true from hc)
    obtain ⟨d1, d2⟩ := pw_dc_inv c1
    have hs : pw_art st (fun v => Q (some (.inr v)) h) := hs
    match st, hs with
    | [.inr v], hs =>
      split at c2
      · rename_i C hC
        exact pw_x_aret d1 ⟨_, hC⟩ hs
      · cases c2
  | return_ =>
    obtain ⟨c1, c2⟩ := Bool.and_eq_true_iff.mp (show (pw_dc M pc _ 1 && decide (M.2.2.2.1 = none)) = true from hc)
    obtain ⟨d1, d2⟩ := pw_dc_inv c1
    have hs : pw_vrt st (Q none h) := hs
    match st, hs with
    | [], hs => exact pw_x_vret d1 (of_decide_eq_true c2) hs
  | _ => exact False.elim hs
def pw_fnd : List (Nat × pw_E) → Nat → pw_E
  | [], _ => (.nop, (false, 0), (false, 0), (0, 0, 0), (0, 0, 0), [])
  | q :: r, pc => match Nat.beq pc q.1 with
    | true => q.2
    | false => pw_fnd r pc
theorem pw_fnd_in : ∀ (P : List (Nat × pw_E)) (pc : Nat), (pc, pw_fnd P pc) ∈ P ∨ (pw_fnd P pc).1 = .nop
  | [], _ => Or.inr rfl
  | q :: r, pc => by
    unfold pw_fnd
    cases h : Nat.beq pc q.1 with
    | true => exact Or.inl (by rw [Nat.eq_of_beq_eq_true h]; exact List.mem_cons_self)
    | false => exact (pw_fnd_in r pc).imp (List.mem_cons_of_mem _) id
theorem pw_sound {t : List pw_Jt} (ht : pw_Tok t) {M : pw_M} {P : List (Nat × pw_E)} (hP : P.all (fun q => pw_chk t M q.1 q.2) = true) {Q : Option pw_A → pw_Hp → Prop} : ∀ (n pc : Nat) (ls : pw_Ls) (st : List pw_A) (h : pw_Hp) (bc bs : Nat), pw_wp (pw_fnd P) Q (pw_J M Q) n pc ls st h bc bs → pw_J M Q pc ls st h bc bs := by
  intro n
  induction n with
  | zero => intro pc ls st h bc bs hw; exact hw
  | succ n ih =>
    intro pc ls st h bc bs hw
    rcases pw_fnd_in P pc with hin | hnop
    · refine pw_step ht (e := pw_fnd P pc) (K := pw_go (pw_J M Q) (pw_wp (pw_fnd P) Q (pw_J M Q) n)) (List.all_eq_true.mp hP _ hin) (fun b q ls st h bc bs hk => ?_) hw
      cases b with
      | true => exact hk
      | false => exact ih q ls st h bc bs hk
    · have hw : pw_stp Q (pw_fnd P pc) (pw_go (pw_J M Q) (pw_wp (pw_fnd P) Q (pw_J M Q) n)) ls st h bc bs := hw
      unfold pw_stp at hw
      rw [hnop] at hw
      exact hw.elim
theorem pw_lgsl (Ω : pw_O) (as : List pw_A) : lg_sl (as.map (pw_V Ω)) = as.map (fun v => Slot.val (pw_V Ω v)) := by
  unfold lg_sl
  induction as with
  | nil => rfl
  | cons a r ih => rw [List.map_cons, List.flatMap_cons, ih, if_neg (by rw [pw_Vc]; decide)]; rfl
theorem pw_args_in (Ω : pw_O) : ∀ (as : List pw_A) (i k : Nat) (v : pw_A), as[k]? = some v → (i + k, pw_V Ω v) ∈ lv_args i (as.map (pw_V Ω))
  | [], i, k, v, h => by simp at h
  | a :: r, i, 0, v, h => by
    have : a = v := by simpa using h
    subst this
    rw [List.map_cons]
    unfold lv_args
    exact List.mem_cons_self
  | a :: r, i, k + 1, v, h => by
    have h' : r[k]? = some v := by simpa using h
    have g := pw_args_in Ω r (i + 1) k v h'
    rw [List.map_cons]
    unfold lv_args
    rw [if_neg (by rw [pw_Vc]; decide)]
    refine List.mem_cons_of_mem _ ?_
    rw [show i + (k + 1) = i + 1 + k by omega]
    exact g
/-- a method's contract out of its body -/
theorem pw_intro {j : Nat} {M : pw_M} {as : List pw_A} {ls : pw_Ls} {h : pw_Hp} {Q : Option pw_A → pw_Hp → Prop} (hM : pw_md j = M) (hpl : plainName M.1.cls = true) (hlen : as.length ≤ M.2.2.1) (hls : ls = as.map some ++ List.replicate (M.2.2.1 - as.length) none) (hJ : pw_J M Q 0 ls [] h M.2.2.2.2.2.1 M.2.2.2.2.2.2) : pw_C j as h Q := by
  intro l Ω
  rw [hM]
  refine Met.ofW (cc := M.2.1) (maxL := M.2.2.1) (ret := M.2.2.2.1) hpl rfl ?_
  intro p e s m args below meth c s₁ B hml hv
  obtain ⟨rfl, hK, hB, hH⟩ := hv
  have hx := B.exec
  have hb := B.bytes
  have hr := B.returns
  have hts := atoms_spec (ws := pw_ws M) B.pre
  have hown : s.vm.findClass M.1.cls = some m.cls := findClass_of_methodNamed B.named
  have hlocks := B.notSynchronized
  have hnm : meth.name = M.1.name := (name_of_methodNamed B.named B.method).1
  rw [lg_entry_eq]
  have hl := lv_entry (as.map (pw_V Ω)) (n := M.2.2.1) (by rw [pw_lgsl, List.length_map]; exact hlen)
  refine hJ p l e _ s m _ below meth c _ Ω ⟨hx, hb, hml, hown, fun w hw => hts w (List.mem_cons_of_mem _ hw), hK, hnm, ⟨Nat.le_refl _, Nat.le_refl _, Nat.le_refl _, Nat.le_refl _⟩, hB, ?_⟩ s.heap [] 0 0 _ hH va_S.rf (by omega) (by omega) ⟨hl.1, hl.2.1, fun k v hk => ?_, ?_⟩
  · intro H locs Sl pc h' hS hH'
    refine ⟨fun v hd hrv hq => ?_, fun v hd hrv hq => ?_, fun hd hrv hq => ?_⟩
    · rcases hrv with g | ⟨g, g2⟩
      · exact W.iret hx hb (hr.trans g) (fun t ht hW => ⟨⟨some (.inl v), h', rfl, hq, by rw [ht]; exact pw_H_moved hW.alike hH'⟩, hS.F ht⟩) hS.2.2 hd
      · exact W.zret hx hb (hr.trans g) (pw_nar01 g2).1 (fun t ht hW => ⟨⟨some (.inl v), h', rfl, hq, by rw [ht]; exact pw_H_moved hW.alike hH'⟩, hS.F ht⟩) hS.2.2 hd
    · obtain ⟨C, g⟩ := hrv
      refine W.aret hx hb (hr.trans g) (Or.inl ⟨_, rfl⟩) ?_ (fun t ht hW => ⟨⟨some (.inr v), h', rfl, hq, by rw [ht]; exact pw_H_moved hW.alike hH'⟩, hS.F ht⟩) hS.2.2 hd
      rcases pw_Vr Ω v with ⟨-, z⟩ | ⟨-, a, z⟩
      · exact Or.inl z
      · exact Or.inr ⟨a, z⟩
    · exact W.vret hx hb (hr.trans hrv) (fun t ht hW => ⟨⟨none, h', rfl, hq, by rw [ht]; exact pw_H_moved hW.alike hH'⟩, hS.F ht⟩) hS.2.2 hd
  · have hk2 : as[k]? = some v := by
      rw [hls] at hk
      unfold pw_nth at hk
      by_cases hkl : k < as.length
      · rw [List.getElem?_append_left (by rw [List.length_map]; exact hkl), List.getElem?_map] at hk
        cases hq : as[k]? with
        | none => rw [hq] at hk; simp at hk
        | some w => rw [hq] at hk; simp at hk; rw [hk]
      · rw [List.getElem?_append_right (by rw [List.length_map]; omega)] at hk
        rw [List.getElem?_replicate] at hk
        split at hk <;> simp at hk
    have g := pw_args_in Ω as 0 k v hk2
    rw [Nat.zero_add] at g
    exact hl.2.2 _ g
  · rw [hls]
    simp
    omega
