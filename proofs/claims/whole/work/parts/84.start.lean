/-! The law's start. -/
def ps_h0 (L : Nat) (xs : Nat → Int32) : pw_Hp := (0, (fun n => if n = 1 then (5, L) else (0, 0)), (fun n j => if n = 1 then xs j else 0), fun _ _ => 0)
def ps_h1 (L : Nat) (xs : Nat → Int32) : pw_Hp := pw_nw (ps_h0 L xs) 13 8
def ps_h2 (L : Nat) (xs : Nat → Int32) : pw_Hp := pw_nw (ps_pi (ps_h1 L xs)) 14 30
def ps_h3 (L : Nat) (xs : Nat → Int32) : pw_Hp := ps_mi (ps_h2 L xs)
def ps_Z (H : pw_Hp) : Prop := ∀ f j, f ≠ 1 → pw_i H f j = 0
theorem ps_Z_nw {H : pw_Hp} {a b : Nat} (h : ps_Z H) : ps_Z (pw_nw H a b) := fun f j hf => by
  have := pa_all.2.2.2.2.2.2.2.2.2.2.1 H a b f j
  rw [this]
  split
  · rfl
  · exact h f j hf
theorem ps_Z_wr {H : pw_Hp} {a b c : Nat} (h : ps_Z H) : ps_Z (pw_wr H a b c) := h
section PST
variable {L : Nat} {xs : Nat → Int32}
theorem ps_h3_z : ps_Z (ps_h3 L xs) := by
  have h0 : ps_Z (ps_h0 L xs) := fun f j hf => by unfold pw_i ps_h0; exact if_neg hf
  unfold ps_h3 ps_h2 ps_h1 ps_mi ps_pi
  repeat (first | exact h0 | apply ps_Z_wr | apply ps_Z_nw)
theorem ps_h3_MS : ps_MS (ps_h3 L xs) := by
  unfold ps_MS
  refine ⟨?_, ?_, ?_, ?_, ?_, ?_, ?_, ?_, ?_, ?_, ?_, ?_, ?_, ?_, ?_, ?_, ?_, ?_, ?_, ?_, ?_, ?_, ?_, ?_, ?_, ?_, ?_, ?_, ?_, ?_, ?_, ?_, ?_, ?_, ?_, ?_, ?_, ?_, ?_, ?_, ?_, ?_, ?_, ?_, ?_, ?_, ?_, ?_, ?_, ?_, ?_, ?_, ?_, ?_, ?_, ?_, ?_, ?_, ?_, ?_, ?_, ?_, ?_, ?_, ?_, ?_, ?_, ?_, ?_, ?_, ?_, ?_, ?_⟩ <;> rfl
theorem ps_h3_TS : ps_TS (ps_h3 L xs) := by
  unfold ps_TS
  refine ⟨?_, ?_, ?_, ?_, ?_, ?_, ?_, ?_, ?_, ?_, ?_, ?_, ?_⟩ <;> rfl
theorem ps_h3_inv : ps_Inv L xs 0 (ps_h3 L xs) := by
  have z : ∀ f, f ≠ 1 → pw_i (ps_h3 L xs) f = fun _ => 0 := fun f hf => funext fun j => ps_h3_z f j hf
  refine ⟨⟨rfl, rfl, fun j => rfl, rfl, rfl⟩, (show 30 ≤ 30 from Nat.le_refl 30), ps_h3_MS, 0, 0, fun _ => 0, fun _ => 0, fun _ => 0, fun _ _ => 0, fun _ => [], 0, ?_, ?_, ?_, ?_, Nat.le_refl 0⟩
  · exact ⟨ps_h3_TS, by decide, by decide, fun r hr => absurd hr (Nat.not_lt_zero r), fun g hg => absurd hg (Nat.not_lt_zero g), fun r s hr => absurd hr (Nat.not_lt_zero r), fun g i hg => absurd hg (Nat.not_lt_zero g), fun r g hr => absurd hr (Nat.not_lt_zero r)⟩
  · refine ⟨?_, fun r hr => absurd hr (Nat.not_lt_zero r), fun g hg => absurd hg (Nat.not_lt_zero g)⟩
    rw [z 2 (by decide), z 5 (by decide), z 6 (by decide)]
    exact ⟨rfl, rfl, rfl, rfl, rfl, rfl, fun _ _ => rfl, fun _ _ => rfl⟩
  · refine ⟨fun f h1 h2 h3 => z f (by omega), ?_, fun c hc => absurd hc (by omega)⟩
    rw [z 7 (by decide)]
    exact ⟨rfl, rfl, rfl, rfl, rfl⟩
  · refine ⟨⟨by decide, by decide, rfl, by decide, Or.inl rfl, rfl, rfl⟩, fun r hr => absurd hr (Nat.not_lt_zero r), fun g hg => absurd hg (Nat.not_lt_zero g), fun r b hr => absurd hr (Nat.not_lt_zero r), fun r hr => absurd hr (Nat.not_lt_zero r), ⟨fun _ _ _ _ => rfl, fun _ _ => rfl, fun _ _ => ⟨rfl, by show (0 : Int32).toNatClampNeg ≤ 50; decide⟩⟩, fun _ _ _ _ _ => rfl, fun _ _ _ => ⟨rfl, rfl, rfl, rfl, rfl⟩, fun _ _ _ => ⟨rfl, rfl, rfl, rfl, rfl, rfl, rfl⟩⟩
set_option maxHeartbeats 4000000 in
set_option maxRecDepth 100000 in
theorem l_start {Q : Option pw_A → pw_Hp → Prop} (hQ : ∀ H, Q (some (.inl 1)) H) (hL : L ≤ 3072) : pw_J pm_L_law Q 0 [some (.inr 1), none, none, none] [] (ps_h0 L xs) 600000 7302250 := by
  have a1 : (ps_h0 L xs).1 = 0 := rfl
  have k1 : pw_k (pw_nw (ps_h0 L xs) 13 8) 2 = 13 := rfl
  refine pw_sound pw_tok pk_L_hd 400 _ _ _ _ _ _ ?_
  simp only [pv_all, pv_stp, pe_L_hd, pv_st, Nat.reduceAdd, eq_self, true_and, and_true, true_or, or_true, a1, k1]
  refine ⟨by decide, by decide, by decide, by decide, c_P_init (H := ps_h1 L xs) rfl rfl ⟨by decide, by decide, by decide, by decide, rfl, ?_⟩⟩
  show pw_Cv 53 [.inr 7] (ps_h2 L xs) _
  exact c_M_init rfl rfl (l_loop hQ hL 513 0 _ _ _ rfl ps_h3_inv (by decide) (by decide))
end PST
