/-! The heap with its ints apart; numbers. -/
abbrev ps_S : Type := Nat → Nat → Int32
def ps_up (σ : ps_S) (f i : Nat) (x : Int32) : ps_S := fun a j => if a = f ∧ j = i then x else σ a j
def pw_st (h : pw_Hp) (σ : ps_S) : pw_Hp := (h.1, h.2.1, σ, h.2.2.2)
theorem pv_st : (∀ (h : pw_Hp) (σ : ps_S) (n k : Nat) (x : Int32), pw_wi (pw_st h σ) n k x = pw_st h (ps_up σ n k x)) ∧ (∀ (h : pw_Hp) (σ : ps_S) (n k : Nat), pw_i (pw_st h σ) n k = σ n k) ∧ (∀ (h : pw_Hp) (σ : ps_S) (n k : Nat), pw_r (pw_st h σ) n k = pw_r h n k) ∧ (∀ (h : pw_Hp) (σ : ps_S) (n : Nat), pw_k (pw_st h σ) n = pw_k h n) ∧ (∀ (h : pw_Hp) (σ : ps_S) (n : Nat), pw_n (pw_st h σ) n = pw_n h n) ∧ (∀ (h : pw_Hp) (σ : ps_S), (pw_st h σ).1 = h.1) ∧ (∀ (h : pw_Hp) (σ τ : ps_S), pw_st (pw_st h σ) τ = pw_st h τ) :=
  ⟨fun _ _ _ _ _ => rfl, fun _ _ _ _ => rfl, fun _ _ _ _ => rfl, fun _ _ _ => rfl, fun _ _ _ => rfl, fun _ _ => rfl, fun _ _ _ => rfl⟩
theorem pw_st_self (h : pw_Hp) : pw_st h (pw_i h) = h := rfl
theorem ps_up_at (σ : ps_S) (f i : Nat) (x : Int32) (a j : Nat) : ps_up σ f i x a j = if a = f ∧ j = i then x else σ a j := rfl
theorem ps_up_s (σ : ps_S) (f i : Nat) (x : Int32) : ps_up σ f i x f i = x := by rw [ps_up_at, if_pos ⟨rfl, rfl⟩]
theorem ps_up_n {σ : ps_S} {f i : Nat} {x : Int32} {a j : Nat} (h : a ≠ f ∨ j ≠ i) : ps_up σ f i x a j = σ a j := by
  rw [ps_up_at, if_neg]
  rintro ⟨h1, h2⟩
  rcases h with h | h
  · exact h h1
  · exact h h2
theorem ps_up_f {σ : ps_S} {f i : Nat} {x : Int32} {a : Nat} (h : a ≠ f) : ps_up σ f i x a = σ a := funext fun j => ps_up_n (Or.inl h)
theorem pn_c : (0 : Int32) = nI 0 ∧ (1 : Int32) = nI 1 ∧ (2 : Int32) = nI 2 ∧ (3 : Int32) = nI 3 ∧ (4 : Int32) = nI 4 ∧ (5 : Int32) = nI 5 ∧ (6 : Int32) = nI 6 ∧ (7 : Int32) = nI 7 ∧ (8 : Int32) = nI 8 ∧ (9 : Int32) = nI 9 ∧ (10 : Int32) = nI 10 ∧ (11 : Int32) = nI 11 ∧ (12 : Int32) = nI 12 ∧ (13 : Int32) = nI 13 ∧ (14 : Int32) = nI 14 ∧ (15 : Int32) = nI 15 ∧ (16 : Int32) = nI 16 ∧ (20 : Int32) = nI 20 ∧ (31 : Int32) = nI 31 ∧ (40 : Int32) = nI 40 ∧ (50 : Int32) = nI 50 ∧ (60 : Int32) = nI 60 ∧ (64 : Int32) = nI 64 ∧ (99 : Int32) = nI 99 ∧ (1100 : Int32) = nI 1100 ∧ (5000 : Int32) = nI 5000 := ⟨rfl, rfl, rfl, rfl, rfl, rfl, rfl, rfl, rfl, rfl, rfl, rfl, rfl, rfl, rfl, rfl, rfl, rfl, rfl, rfl, rfl, rfl, rfl, rfl, rfl, rfl⟩
theorem pn_lt {a b : Nat} (ha : a < 2147483648) (hb : b < 2147483648) : (nI a < nI b) = (a < b) := propext (nI_ltI ha hb)
theorem pn_le {a b : Nat} (ha : a < 2147483648) (hb : b < 2147483648) : (nI a ≤ nI b) = (a ≤ b) := propext (nI_leI ha hb)
theorem pn_eq {a b : Nat} (ha : a < 2147483648) (hb : b < 2147483648) : (nI a = nI b) = (a = b) := propext (nI_eq ha hb)
theorem pn_cl {a : Nat} (ha : a < 2147483648) : (nI a).toNatClampNeg = a := nI_clamp ha
theorem pn_at {a n : Nat} (ha : a < 2147483648) : pw_at (nI a) n = (a < n) := propext ⟨fun h => by have := h.2; rwa [nI_clamp ha] at this, fun h => ⟨nI_pos ha, by rw [nI_clamp ha]; exact h⟩⟩
theorem pn_add (a b : Nat) : nI a + nI b = nI (a + b) := nI_add a b
theorem pn_mul (a b : Nat) : nI a * nI b = nI (a * b) := pk_mul a b
theorem pn_sub {a b : Nat} (h : b ≤ a) : nI a - nI b = nI (a - b) := pk_sub h
theorem pn_div {a d : Nat} (ha : a < 2147483648) (h0 : 0 < d) (hd : d < 2147483648) : nI a / nI d = nI (a / d) := pk_div ha h0 hd
theorem pn_rem {a d : Nat} (ha : a < 2147483648) (h0 : 0 < d) (hd : d < 2147483648) : nI a - nI a / nI d * nI d = nI (a % d) := pk_rem ha h0 hd
theorem pn_neg1 : ∀ n : Nat, n < 2147483648 → (-9 : Int32) ≠ nI n := by
  intro n hn h
  have := congrArg Int32.toInt h
  rw [nI_toInt hn] at this
  have h9 : (-9 : Int32).toInt = -9 := by decide
  omega
theorem pn_out {x : Int32} {t : Nat} (h : x < 0 ∨ nI t ≤ x) (ht : t < 2147483648) : ∀ j, j < t → x ≠ nI j := by
  intro j hj e
  subst e
  rcases h with h | h
  · exact nI_pos (by omega) h
  · exact nI_ge hj ht h
theorem fa_lt' (a b : Int32) : a < b ↔ a.toInt < b.toInt := Int32.lt_iff_toInt_lt
theorem fa_le' (a b : Int32) : a ≤ b ↔ a.toInt ≤ b.toInt := Int32.le_iff_toInt_le
theorem fa_of_nlt' {a b : Int32} (h : ¬ a < b) : b ≤ a := by rw [fa_lt'] at h; rw [fa_le']; omega
theorem fa_nlt' {a b : Int32} (h : a ≤ b) : ¬ b < a := by rw [fa_lt']; rw [fa_le'] at h; omega
-- shapes
def ps_GS (h : pw_Hp) (a : Nat) : Prop := pw_k h a = 10 ∧ pw_r h a 2 = a + 1 ∧ pw_r h a 3 = a + 2 ∧ pw_k h (a + 1) = 1 ∧ pw_n h (a + 1) = 2 ∧ pw_k h (a + 2) = 1 ∧ pw_n h (a + 2) = 2
def ps_WS (h : pw_Hp) (a : Nat) : Prop := pw_k h a = 12 ∧ pw_r h a 0 = a + 1 ∧ pw_k h (a + 1) = 1 ∧ pw_n h (a + 1) = 60
section PSG
variable {h : pw_Hp} {σ : ps_S} {a : Nat}
theorem c_G_turnTo {d r : Int32} {k : pw_Hp → Prop} (hg : ps_GS h a) (hk : k (pw_st h (ps_up (ps_up σ a 5 d) a 6 r))) : pw_Cv 0 [.inr a, .inl d, .inl r] (pw_st h σ) k := by
  refine pw_intro (M := pm_G_turnTo) rfl (by decide) (Nat.le_of_ble_eq_true rfl) (ls := [some (.inr a), some (.inl d), some (.inl r)]) rfl ?_
  refine pw_sound pw_tok pk_G_turnTo 40 _ _ _ _ _ _ ?_
  unfold ps_GS at hg
  simp only [pv_all, pv_stp, pe_G_turnTo, pv_st, hg, Nat.reduceAdd, eq_self, true_and]
  exact hk
theorem c_G_hasTime_y {t j : Nat} {k : Int32 → pw_Hp → Prop} (hg : ps_GS h a) (ht : σ a 4 = nI t) (h2 : t ≤ 2) (hj : j < t) (hk : k 1 (pw_st h σ)) : pw_Ci 1 [.inr a, .inl (nI j)] (pw_st h σ) k := by
  refine pw_intro (M := pm_G_hasTime) rfl (by decide) (Nat.le_of_ble_eq_true rfl) (ls := [some (.inr a), some (.inl (nI j))]) rfl ?_
  refine pw_sound pw_tok pk_G_hasTime 40 _ _ _ _ _ _ ?_
  unfold ps_GS at hg
  simp only [pv_all, pv_stp, pe_G_hasTime, pv_st, hg, Nat.reduceAdd, eq_self, true_and, ht]
  simp (disch := omega) only [pn_c, pn_lt, pn_le]
  refine ⟨fun q => absurd q (by omega), fun _ => ⟨fun q => absurd q (by omega), fun _ => ⟨fun q => absurd q (by omega), fun _ => ⟨Or.inr (by first | rfl | trivial), hk⟩⟩⟩⟩
theorem c_G_hasTime_n {t : Nat} {x : Int32} {k : Int32 → pw_Hp → Prop} (hg : ps_GS h a) (ht : σ a 4 = nI t) (hx : x < 0 ∨ nI t ≤ x) (hk : k 0 (pw_st h σ)) : pw_Ci 1 [.inr a, .inl x] (pw_st h σ) k := by
  refine pw_intro (M := pm_G_hasTime) rfl (by decide) (Nat.le_of_ble_eq_true rfl) (ls := [some (.inr a), some (.inl x)]) rfl ?_
  refine pw_sound pw_tok pk_G_hasTime 40 _ _ _ _ _ _ ?_
  unfold ps_GS at hg
  simp only [pv_all, pv_stp, pe_G_hasTime, pv_st, hg, Nat.reduceAdd, eq_self, true_and, ht]
  refine ⟨fun _ => ⟨Or.inl trivial, hk⟩, fun q => ⟨fun _ => ⟨Or.inl trivial, hk⟩, fun q2 => ?_⟩⟩
  exact absurd hx (fun z => z.elim q q2)
end PSG
