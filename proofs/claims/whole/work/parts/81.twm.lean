section PTM
variable {L n : Nat} {xs : Nat → Int32}
theorem ps_MS_kp {H H' : pw_Hp} (hM : ps_MS H) (hk : ps_Kp H H') : ps_MS H' := by
  have k : ∀ f, 7 ≤ f → f ≤ 31 → pw_k H' f = pw_k H f ∧ pw_n H' f = pw_n H f ∧ ∀ j, pw_r H' f j = pw_r H f j := fun f a b => ⟨(hk.2 f b (Or.inr a)).1, (hk.2 f b (Or.inr a)).2.1, (hk.2 f b (Or.inr a)).2.2.2⟩
  unfold ps_MS at hM ⊢
  simp only [(k 7 (by decide) (by decide)).1, (k 7 (by decide) (by decide)).2.2, (k 8 (by decide) (by decide)).1, (k 8 (by decide) (by decide)).2.1, (k 9 (by decide) (by decide)).1, (k 9 (by decide) (by decide)).2.1, (k 10 (by decide) (by decide)).1, (k 10 (by decide) (by decide)).2.1, (k 11 (by decide) (by decide)).1, (k 11 (by decide) (by decide)).2.1, (k 12 (by decide) (by decide)).1, (k 12 (by decide) (by decide)).2.1, (k 13 (by decide) (by decide)).1, (k 13 (by decide) (by decide)).2.1, (k 14 (by decide) (by decide)).1, (k 14 (by decide) (by decide)).2.1, (k 15 (by decide) (by decide)).1, (k 15 (by decide) (by decide)).2.1, (k 16 (by decide) (by decide)).1, (k 16 (by decide) (by decide)).2.1, (k 17 (by decide) (by decide)).1, (k 17 (by decide) (by decide)).2.1, (k 18 (by decide) (by decide)).1, (k 18 (by decide) (by decide)).2.1, (k 19 (by decide) (by decide)).1, (k 19 (by decide) (by decide)).2.1, (k 20 (by decide) (by decide)).1, (k 20 (by decide) (by decide)).2.1, (k 21 (by decide) (by decide)).1, (k 21 (by decide) (by decide)).2.1, (k 22 (by decide) (by decide)).1, (k 22 (by decide) (by decide)).2.1, (k 23 (by decide) (by decide)).1, (k 23 (by decide) (by decide)).2.1, (k 24 (by decide) (by decide)).1, (k 24 (by decide) (by decide)).2.1, (k 25 (by decide) (by decide)).1, (k 25 (by decide) (by decide)).2.1, (k 26 (by decide) (by decide)).1, (k 26 (by decide) (by decide)).2.1, (k 27 (by decide) (by decide)).1, (k 27 (by decide) (by decide)).2.1, (k 28 (by decide) (by decide)).1, (k 28 (by decide) (by decide)).2.1, (k 29 (by decide) (by decide)).1, (k 29 (by decide) (by decide)).2.1, (k 30 (by decide) (by decide)).1, (k 30 (by decide) (by decide)).2.1, (k 31 (by decide) (by decide)).1, (k 31 (by decide) (by decide)).2.1]
  exact hM
theorem ps_off_kp {H H' : pw_Hp} (hk : ps_Kp H H') : ps_Off (pw_i H) (pw_i H') := fun f a b => funext fun j => (hk.2 f a b).2.2.1 j
theorem mid_kp {H H' : pw_Hp} (hm : ps_Mid L xs H) (hk : ps_Kp H H') (h2 : pw_k H' 2 = 13) : ps_Mid L xs H' := by
  obtain ⟨a, b, c, d, e⟩ := hm
  obtain ⟨k1, k2, k3, k4⟩ := hk.2 1 (by decide) (Or.inl rfl)
  exact ⟨k1.trans a, k2.trans b, fun j => (k3 j).trans (c j), h2, (hk.2 7 (by decide) (Or.inr (by decide))).1.trans e⟩
/-- as tw_gen, where the class has made cells -/
theorem tw_new {H : pw_Hp} {R G R' G' m : Nat} {aR' aG' Nw' : Nat → Nat} {μ ν : ps_S} {ρ π : ps_P} {jM : Nat} {as : List pw_A} {y : Int32} {K : Int32 → pw_Hp → Prop} (hm : ps_Mid L xs H) (h30 : 30 ≤ H.1) (hM : ps_MS H) (hD : ps_Md R G m (pw_i H) μ ρ) (hmn : m ≤ n) (hW : ps_Wf R' G' Nw' ν π (n + 1))
    (cM : ∀ H', ps_MS H' → ps_Md R G m (pw_i H') μ ρ → ∀ kk : Int32 → pw_Hp → Prop, (∀ υ, ps_Md R' G' m υ ν π → ps_Ofm (pw_i H') υ → kk y (pw_st H' υ)) → pw_Ci jM (.inr 7 :: as) (pw_st H' (pw_i H')) kk)
    (hk : ∀ y H1, ps_Mid L xs H1 → (∀ kk : Int32 → pw_Hp → Prop, (∀ H2, ps_Inv L xs (n + 1) H2 → kk y H2) → pw_Ci jM (.inr 7 :: as) H1 kk) → K y H1) : ∀ H', ps_CS H' R' G' aR' aG' Nw' → ps_Rv R' G' aR' aG' Nw' (pw_i H') ν π → ps_Kp H H' → K y H' := by
  intro H' hC hV hp
  have hmt := mid_kp hm hp hC.1.1
  have hM' := ps_MS_kp hM hp
  refine hk y H' hmt (fun kk hkk => ?_)
  refine cM H' hM' (md_off hD (ps_off_kp hp)) kk (fun υ d o => hkk _ ⟨mid_ofm (h := H') (σ := pw_i H') hmt o, Nat.le_trans h30 hp.1, hM', R', G', aR', aG', Nw', ν, π, m, hC, rv_ofm hC hV o, d, hW, by omega⟩)
theorem tw_group (hn : n < 600) (x : Int32) : ps_Two L xs n 65 57 [.inl x] := by
  intro H K hI hk
  obtain ⟨hm, h30, hM, R, G, aR, aG, Nw, μ, ρ, m, hC, hV, hD, hW, hmn⟩ := hI
  have hG := hW.1.2.1
  have wr : ∀ c, ps_Wf R G Nw (ps_ref μ c) ρ (n + 1) := fun c => ps_wf_ref hW (by omega)
  by_cases h1 : 1 ≤ x
  · by_cases h8 : 8 < x ∨ G = 60
    · refine c_P_group_b hC hV ?_ (tw_g1 hm h30 hM hC hD hmn (wr 6) (fun τ d kk hkk => c_M_group_b hM d h1 h8 hkk) hk)
      exact h8.imp id (fun z => ⟨h1, z⟩)
    · have hx0 : ¬ x < 0 := by
        rw [fa_lt', show (0 : Int32).toInt = 0 from rfl]
        rw [fa_le', show (1 : Int32).toInt = 1 from rfl] at h1
        omega
      obtain ⟨c, hc, rfl⟩ := nI_of hx0
      have c1 : 1 ≤ c := by rw [show (1 : Int32) = nI 1 from rfl, pn_le (by decide) hc] at h1; exact h1
      have c8 : c ≤ 8 := by
        have : ¬ 8 < nI c := fun z => h8 (Or.inl z)
        rw [show (8 : Int32) = nI 8 from rfl, pn_lt (by decide) hc] at this
        omega
      have g60 : G < 60 := by
        have : G ≠ 60 := fun z => h8 (Or.inr z)
        omega
      refine c_P_group (h := H) (σ := pw_i H) hC hV hW c1 c8 g60 h30 (fun H' _ a b c => tw_new hm h30 hM hD hmn (ps_wf_n (ps_wf_ng hW c1 c8 g60) (by omega)) (fun H'' hM'' d kk hkk => c_M_group hM'' d h1 (fun z => h8 (Or.inl z)) g60 hkk) hk H' a b c)
  · exact c_P_group_l hC hV h1 (tw_g1 hm h30 hM hC hD hmn (wr 4) (fun τ d kk hkk => c_M_group_l hM d h1 hkk) hk)
theorem tw_ride (hn : n < 600) (s ro p sp kd : Int32) : ps_Two L xs n 94 56 [.inl s, .inl ro, .inl p, .inl sp, .inl kd] := by
  intro H K hI hk
  obtain ⟨hm, h30, hM, R, G, aR, aG, Nw, μ, ρ, m, hC, hV, hD, hW, hmn⟩ := hI
  have hR := hW.1.1
  have wr : ∀ c, ps_Wf R G Nw (ps_ref μ c) ρ (n + 1) := fun c => ps_wf_ref hW (by omega)
  by_cases h4 : ps_rbl s ro p sp kd
  · exact c_P_ride_b hC hV (fun _ => tw_g1 hm h30 hM hC hD hmn (wr 4) (fun τ d kk hkk => c_M_ride_b hM d hR (fun _ => hkk) (fun q => absurd h4 q) (fun q => absurd h4 q)) hk) (fun q => absurd h4 q) (Or.inl h4)
  · by_cases h6 : ps_rab s ro p sp kd R
    · exact c_P_ride_b hC hV (fun q => absurd q h4) (fun _ _ => tw_g1 hm h30 hM hC hD hmn (wr 6) (fun τ d kk hkk => c_M_ride_b hM d hR (fun q => absurd q h4) (fun _ _ => hkk) (fun _ q => absurd h6 q)) hk) (Or.inr h6)
    · exact c_P_ride (h := H) (σ := pw_i H) hC hV hW h4 h6 h30 (fun H' _ a b c => tw_new hm h30 hM hD hmn (ps_wf_n (ps_wf_nr hW h4 h6) (by omega)) (fun H'' hM'' d kk hkk => c_M_ride_b hM'' d hR (fun q => absurd q h4) (fun _ q => absurd q h6) (fun _ _ => hkk)) hk H' a b c)
end PTM
