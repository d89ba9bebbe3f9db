/-! What is made: groups, rows, rides. -/
def ps_Fr (H H' : pw_Hp) (N : Nat) : Prop := ∀ n, n < N → pw_k H' n = pw_k H n ∧ pw_n H' n = pw_n H n ∧ (∀ j, pw_i H' n j = pw_i H n j) ∧ ∀ j, pw_r H' n j = pw_r H n j
theorem ps_Fr_tr {H H' H'' : pw_Hp} {N : Nat} (h1 : ps_Fr H H' N) (h2 : ps_Fr H' H'' N) : ps_Fr H H'' N := fun n hn => ⟨(h2 n hn).1.trans (h1 n hn).1, (h2 n hn).2.1.trans (h1 n hn).2.1, fun j => ((h2 n hn).2.2.1 j).trans ((h1 n hn).2.2.1 j), fun j => ((h2 n hn).2.2.2 j).trans ((h1 n hn).2.2.2 j)⟩
theorem ps_Fr_le {H H' : pw_Hp} {N M : Nat} (h1 : ps_Fr H H' N) (h2 : M ≤ N) : ps_Fr H H' M := fun n hn => h1 n (by omega)
theorem pa_all : (∀ (h : pw_Hp) (n k : Nat) (x : Int32) (m : Nat), pw_k (pw_wi h n k x) m = pw_k h m) ∧ (∀ (h : pw_Hp) (n k : Nat) (x : Int32) (m : Nat), pw_n (pw_wi h n k x) m = pw_n h m) ∧ (∀ (h : pw_Hp) (n k : Nat) (x : Int32) (m j : Nat), pw_i (pw_wi h n k x) m j = if m = n ∧ j = k then x else pw_i h m j) ∧ (∀ (h : pw_Hp) (n k : Nat) (x : Int32) (m j : Nat), pw_r (pw_wi h n k x) m j = pw_r h m j) ∧ (∀ (h : pw_Hp) (n k : Nat) (x : Int32), (pw_wi h n k x).1 = h.1) ∧
    (∀ (h : pw_Hp) (n k x m : Nat), pw_k (pw_wr h n k x) m = pw_k h m) ∧ (∀ (h : pw_Hp) (n k x m : Nat), pw_n (pw_wr h n k x) m = pw_n h m) ∧ (∀ (h : pw_Hp) (n k x m j : Nat), pw_i (pw_wr h n k x) m j = pw_i h m j) ∧ (∀ (h : pw_Hp) (n k x m j : Nat), pw_r (pw_wr h n k x) m j = if m = n ∧ j = k then x else pw_r h m j) ∧ (∀ (h : pw_Hp) (n k x : Nat), (pw_wr h n k x).1 = h.1) ∧
    (∀ (h : pw_Hp) (kd l m j : Nat), pw_i (pw_nw h kd l) m j = if m = h.1 + 2 then 0 else pw_i h m j) ∧ (∀ (h : pw_Hp) (kd l m j : Nat), pw_r (pw_nw h kd l) m j = if m = h.1 + 2 then 0 else pw_r h m j) ∧ (∀ (h : pw_Hp) (kd l : Nat), (pw_nw h kd l).1 = h.1 + 1) :=
  ⟨fun _ _ _ _ _ => rfl, fun _ _ _ _ _ => rfl, fun _ _ _ _ _ _ => rfl, fun _ _ _ _ _ _ => rfl, fun _ _ _ _ => rfl, fun _ _ _ _ _ => rfl, fun _ _ _ _ _ => rfl, fun _ _ _ _ _ _ => rfl, fun _ _ _ _ _ _ => rfl, fun _ _ _ _ => rfl, fun _ _ _ _ _ => rfl, fun _ _ _ _ _ => rfl, fun _ _ _ => rfl⟩
theorem pa_nk (h : pw_Hp) (kd l m : Nat) : pw_k (pw_nw h kd l) m = if m = h.1 + 2 then kd else pw_k h m := by
  unfold pw_k pw_nw
  by_cases q : m = h.1 + 2
  · rw [if_pos q]; simp only [if_pos q]
  · rw [if_neg q]; simp only [if_neg q]
theorem pa_nn (h : pw_Hp) (kd l m : Nat) : pw_n (pw_nw h kd l) m = if m = h.1 + 2 then l else pw_n h m := by
  unfold pw_n pw_nw
  by_cases q : m = h.1 + 2
  · rw [if_pos q]; simp only [if_pos q]
  · rw [if_neg q]; simp only [if_neg q]
set_option maxHeartbeats 4000000 in
set_option maxRecDepth 100000 in
theorem c_G_init {H : pw_Hp} {a : Nat} {x1 x2 : Int32} {k : pw_Hp → Prop} (ha : a + 1 = H.1 + 2) (ha0 : a ≠ 0) (hz : ∀ j, pw_i H a j = 0) (hk10 : pw_k H a = 10) (hk : ∀ H', H'.1 = H.1 + 2 → ps_Fr H H' a → ps_GS H' a → (pw_i H' a 0 = x1 ∧ pw_i H' a 1 = x2 ∧ pw_i H' a 6 = -9 ∧ ∀ j, j ≠ 0 → j ≠ 1 → j ≠ 6 → pw_i H' a j = 0) → k H') : pw_Cv 31 [.inr a, .inl x1, .inl x2] H k := by
  have c2 : (2 : Int32).toNatClampNeg = 2 := rfl
  have q1 : ∀ (X : pw_Hp) (i : Nat) (x : Int32) (b : Nat), pw_k (pw_wi X b i x) a = pw_k X a := fun _ _ _ _ => rfl
  have q2 : ∀ (X : pw_Hp) (i : Nat) (x : Nat) (b : Nat), pw_k (pw_wr X b i x) a = pw_k X a := fun _ _ _ _ => rfl
  have q3 : ∀ (X : pw_Hp) (kd l : Nat), a ≠ X.1 + 2 → pw_k (pw_nw X kd l) a = pw_k X a := fun X kd l hne => by
    rw [pa_nk, if_neg hne]
  refine pw_intro (M := pm_G_init) rfl (by decide) (Nat.le_of_ble_eq_true rfl) (ls := [some (.inr a), some (.inl x1), some (.inl x2)]) rfl ?_
  refine pw_sound pw_tok pk_G_init 400 _ _ _ _ _ _ ?_
  simp only [pv_all, pv_stp, pe_G_init, pv_st, Nat.reduceAdd, eq_self, true_and, and_true, true_or, or_true, c2, q1, q2, hk10]
  refine ⟨ha0, ⟨by decide, by decide⟩, by decide, by decide, ?_⟩
  have n1 : a ≠ (pw_wi (pw_wi H a 0 x1) a 1 x2).1 + 2 := by show a ≠ H.1 + 2; omega
  have n2 : a ≠ (pw_wr (pw_nw (pw_wi (pw_wi H a 0 x1) a 1 x2) 1 2) a 2 ((pw_wi (pw_wi H a 0 x1) a 1 x2).1 + 2)).1 + 2 := by show a ≠ H.1 + 1 + 2; omega
  simp only [q1, q2, q3 _ _ _ n1, q3 _ _ _ n2, hk10, eq_self, true_and]
  refine ⟨⟨by decide, by decide⟩, by decide, by decide, hk _ ?_ (fun n hn => ⟨?_, ?_, fun j => ?_, fun j => ?_⟩) ⟨?_, ?_, ?_, ?_, ?_, ?_, ?_⟩ ⟨?_, ?_, ?_, fun j h0 h1 h6 => ?_⟩⟩
  · simp only [pa_all]
  · simp (disch := omega) only [pa_all, pa_nk, pa_nn, if_neg, if_pos, and_self, ite_true]
  · simp (disch := omega) only [pa_all, pa_nk, pa_nn, if_neg, if_pos, and_self, ite_true]
  · simp (disch := omega) only [pa_all, pa_nk, pa_nn, if_neg, if_pos, and_self, ite_true]
  · simp (disch := omega) only [pa_all, pa_nk, pa_nn, if_neg, if_pos, and_self, ite_true]
  · simp (disch := omega) only [pa_all, pa_nk, pa_nn, if_neg, if_pos, and_self, ite_true]; exact hk10
  · simp (disch := omega) only [pa_all, pa_nk, pa_nn, if_neg, if_pos, and_self, ite_true]; omega
  · simp (disch := omega) only [pa_all, pa_nk, pa_nn, if_neg, if_pos, and_self, ite_true]; omega
  · simp (disch := omega) only [pa_all, pa_nk, pa_nn, if_neg, if_pos, and_self, ite_true]
  · simp (disch := omega) only [pa_all, pa_nk, pa_nn, if_neg, if_pos, and_self, ite_true]
  · simp (disch := omega) only [pa_all, pa_nk, pa_nn, if_neg, if_pos, and_self, ite_true]
  · simp (disch := omega) only [pa_all, pa_nk, pa_nn, if_neg, if_pos, and_self, ite_true]
  · simp (disch := omega) only [pa_all, pa_nk, pa_nn, if_neg, if_pos, and_self, ite_true]
  · simp (disch := omega) only [pa_all, pa_nk, pa_nn, if_neg, if_pos, and_self, ite_true]
  · simp (disch := omega) only [pa_all, pa_nk, pa_nn, if_neg, if_pos, and_self, ite_true]
  · by_cases h5 : j = 5
    · subst h5
      simp (disch := omega) only [pa_all, pa_nk, pa_nn, if_neg, if_pos, and_self, ite_true]
    · simp (disch := omega) only [pa_all, pa_nk, pa_nn, if_neg, if_pos, and_self, ite_true]
      exact hz j
set_option maxHeartbeats 4000000 in
set_option maxRecDepth 100000 in
theorem c_W_init {H : pw_Hp} {a : Nat} {k : pw_Hp → Prop} (ha : a + 1 = H.1 + 2) (ha0 : a ≠ 0) (hz : ∀ j, pw_i H a j = 0) (hk12 : pw_k H a = 12) (hk : ∀ H', H'.1 = H.1 + 1 → ps_Fr H H' a → ps_WS H' a → pw_i H' a 1 = 0 → k H') : pw_Cv 39 [.inr a] H k := by
  have c2 : (60 : Int32).toNatClampNeg = 60 := rfl
  have q3 : pw_k (pw_nw H 1 60) a = pw_k H a := by
    rw [pa_nk, if_neg (by omega)]
  refine pw_intro (M := pm_W_init) rfl (by decide) (Nat.le_of_ble_eq_true rfl) (ls := [some (.inr a)]) rfl ?_
  refine pw_sound pw_tok pk_W_init 400 _ _ _ _ _ _ ?_
  simp only [pv_all, pv_stp, pe_W_init, pv_st, Nat.reduceAdd, eq_self, true_and, and_true, true_or, or_true, c2, q3, hk12]
  refine ⟨ha0, ⟨by decide, by decide⟩, by decide, by decide, hk _ ?_ (fun n hn => ⟨?_, ?_, fun j => ?_, fun j => ?_⟩) ⟨?_, ?_, ?_, ?_⟩ ?_⟩
  · simp only [pa_all]
  · simp (disch := omega) only [pa_all, pa_nk, pa_nn, if_neg, if_pos, and_self, ite_true]
  · simp (disch := omega) only [pa_all, pa_nk, pa_nn, if_neg, if_pos, and_self, ite_true]
  · simp (disch := omega) only [pa_all, pa_nk, pa_nn, if_neg, if_pos, and_self, ite_true]
  · simp (disch := omega) only [pa_all, pa_nk, pa_nn, if_neg, if_pos, and_self, ite_true]
  · simp (disch := omega) only [pa_all, pa_nk, pa_nn, if_neg, if_pos, and_self, ite_true]; exact hk12
  · simp (disch := omega) only [pa_all, pa_nk, pa_nn, if_neg, if_pos, and_self, ite_true]; omega
  · simp (disch := omega) only [pa_all, pa_nk, pa_nn, if_neg, if_pos, and_self, ite_true]
  · simp (disch := omega) only [pa_all, pa_nk, pa_nn, if_neg, if_pos, and_self, ite_true]
  · simp (disch := omega) only [pa_all, pa_nk, pa_nn, if_neg, if_pos, and_self, ite_true]
    exact hz 1
