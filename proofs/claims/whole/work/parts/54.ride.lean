/-! ParkRows: ride. -/
def ps_rbl (s ro p sp kd : Int32) : Prop := s < 1 ∨ ro < 1 ∨ p < 0 ∨ sp < 0 ∨ kd < 0
def ps_rab (s ro p sp kd : Int32) (R : Nat) : Prop := 40 < s ∨ 20 < ro ∨ s < p ∨ 99 < sp ∨ 3 < kd ∨ R = 8
section PRI
variable {h : pw_Hp} {R G : Nat} {aR aG Nw : Nat → Nat} {σ μ : ps_S} {ρ : ps_P} {n : Nat}
theorem ps_nr_f {s ro p sp kd : Int32} {f : Nat} (h7 : f ≠ 7) (h8 : f ≠ 8) (h9 : f ≠ 9) (h10 : f ≠ 10) (h11 : f ≠ 11) (h12 : f ≠ 12) : ps_nr μ R s ro p sp kd f = μ f := by
  unfold ps_nr
  rw [ps_up_f h7, ps_up_f h12, ps_up_f h11, ps_up_f h10, ps_up_f h9, ps_up_f h8]
theorem ps_nr_v {s ro p sp kd : Int32} (i : Nat) : ps_nr μ R s ro p sp kd 8 i = (if i = R then s else μ 8 i) ∧ ps_nr μ R s ro p sp kd 9 i = (if i = R then ro else μ 9 i) ∧ ps_nr μ R s ro p sp kd 10 i = (if i = R then p else μ 10 i) ∧ ps_nr μ R s ro p sp kd 11 i = (if i = R then sp else μ 11 i) ∧ ps_nr μ R s ro p sp kd 12 i = (if i = R then kd else μ 12 i) ∧ ps_nr μ R s ro p sp kd 7 i = (if i = 2 then nI (R + 1) else μ 7 i) := by
  have key : ∀ (f j : Nat) (ν : ps_S) (x : Int32), ps_up ν f j x f i = if i = j then x else ν f i := fun f j ν x => by
    rw [ps_up_at]
    by_cases q : i = j
    · rw [if_pos ⟨rfl, q⟩, if_pos q]
    · rw [if_neg (fun z => q z.2), if_neg q]
  unfold ps_nr
  refine ⟨?_, ?_, ?_, ?_, ?_, ?_⟩
  · repeat rw [ps_up_n (Or.inl (by decide))]
    exact key 8 R _ _
  · repeat rw [ps_up_n (Or.inl (by decide))]
    rw [key 9 R]; repeat rw [ps_up_n (Or.inl (by decide))]
  · repeat rw [ps_up_n (Or.inl (by decide))]
    rw [key 10 R]; repeat rw [ps_up_n (Or.inl (by decide))]
  · repeat rw [ps_up_n (Or.inl (by decide))]
    rw [key 11 R]; repeat rw [ps_up_n (Or.inl (by decide))]
  · repeat rw [ps_up_n (Or.inl (by decide))]
    rw [key 12 R]; repeat rw [ps_up_n (Or.inl (by decide))]
  · rw [key 7 2]; repeat rw [ps_up_n (Or.inl (by decide))]
theorem ps_nr_wd {s p sp kd ro : Int32} (i : Nat) : ps_turn (ps_nr μ R s ro p sp kd) i = (if i = R then (if kd = 2 then 3 * ro.toNatClampNeg else ro.toNatClampNeg) else ps_turn μ i) := by
  unfold ps_turn ps_N
  rw [(ps_nr_v i).2.1, (ps_nr_v i).2.2.2.2.1]
  by_cases q : i = R
  · rw [if_pos q, if_pos q, if_pos q]
  · rw [if_neg q, if_neg q, if_neg q]
set_option maxHeartbeats 4000000 in
set_option maxRecDepth 100000 in
theorem c_P_ride_b {s ro p sp kd : Int32} {k : Int32 → pw_Hp → Prop} (hC : ps_CS h R G aR aG Nw) (hV : ps_Rv R G aR aG Nw σ μ ρ) (h4 : ps_rbl s ro p sp kd → ∀ τ, ps_Rv R G aR aG Nw τ (ps_ref μ 4) ρ → ps_Off σ τ → k (-4) (pw_st h τ)) (h6 : ¬ ps_rbl s ro p sp kd → ps_rab s ro p sp kd R → ∀ τ, ps_Rv R G aR aG Nw τ (ps_ref μ 6) ρ → ps_Off σ τ → k (-6) (pw_st h τ)) (hx : ps_rbl s ro p sp kd ∨ ps_rab s ro p sp kd R) : pw_Ci 94 [.inr 2, .inl s, .inl ro, .inl p, .inl sp, .inl kd] (pw_st h σ) k := by
  have hT := hC.1
  have v := hV.1.1
  have hR8 := hC.2.1
  unfold ps_TS at hT
  have f4 : ps_rbl s ro p sp kd → pw_Ci 13 [.inr 2, .inl (-4)] (pw_st h σ) fun x h' => k x h' := fun q => c_P_ref hC hV (c := 3) (by decide) (by decide) (h4 q)
  have f6 : ¬ ps_rbl s ro p sp kd → ps_rab s ro p sp kd R → pw_Ci 13 [.inr 2, .inl (-6)] (pw_st h σ) fun x h' => k x h' := fun q q' => c_P_ref hC hV (c := 5) (by decide) (by decide) (h6 q q')
  refine pw_intro (M := pm_P_ride) rfl (by decide) (Nat.le_of_ble_eq_true rfl) (ls := [some (.inr 2), some (.inl s), some (.inl ro), some (.inl p), some (.inl sp), some (.inl kd), none, none]) rfl ?_
  refine pw_sound pw_tok pk_P_ride 400 _ _ _ _ _ _ ?_
  simp only [pv_all, pv_stp, pe_P_ride, pv_st, Nat.reduceAdd, eq_self, true_and, and_true, true_or, or_true, hT, v]
  refine ⟨fun q => f4 (Or.inl q), fun q1 => ⟨fun q => f4 (Or.inr (Or.inl q)), fun q2 => ⟨fun q => f4 (Or.inr (Or.inr (Or.inl q))), fun q3 => ⟨fun q => f4 (Or.inr (Or.inr (Or.inr (Or.inl q)))), fun q4 => ⟨fun q5 => ?_, fun q => f4 (Or.inr (Or.inr (Or.inr (Or.inr (by rw [fa_lt']; rw [fa_le'] at q; omega)))))⟩⟩⟩⟩⟩
  have nb : ¬ ps_rbl s ro p sp kd := by
    rintro (z | z | z | z | z)
    · exact q1 z
    · exact q2 z
    · exact q3 z
    · exact q4 z
    · exact fa_nlt' q5 z
  refine ⟨fun q => f6 nb (Or.inl q), fun w1 => ⟨fun q => f6 nb (Or.inr (Or.inl q)), fun w2 => ⟨fun q => f6 nb (Or.inr (Or.inr (Or.inl q))), fun w3 => ⟨fun q => f6 nb (Or.inr (Or.inr (Or.inr (Or.inl q)))), fun w4 => ⟨fun w5 => ?_, fun q => f6 nb (Or.inr (Or.inr (Or.inr (Or.inr (Or.inl (by rw [fa_lt']; rw [fa_le'] at q; omega))))))⟩⟩⟩⟩⟩
  have e8 : R = 8 := by
    rcases hx with z | (z | z | z | z | z | z)
    · exact absurd z nb
    · exact absurd z w1
    · exact absurd z w2
    · exact absurd z w3
    · exact absurd z w4
    · exact absurd z (fa_nlt' w5)
    · exact z
  have fin := f6 nb (Or.inr (Or.inr (Or.inr (Or.inr (Or.inr e8)))))
  refine ⟨fun _ => fin, fun _ => ⟨fun q => ?_, fun _ => fin⟩⟩
  rw [pn_lt (by omega) (by omega)] at q
  omega
end PRI
