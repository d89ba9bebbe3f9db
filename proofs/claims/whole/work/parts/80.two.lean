/-! Both sides beside each other: what holds between two calls of the law. -/
-- what the law reads: its script; the two objects
def ps_Mid (L : Nat) (xs : Nat → Int32) (H : pw_Hp) : Prop := pw_k H 1 = 5 ∧ pw_n H 1 = L ∧ (∀ j, pw_i H 1 j = xs j) ∧ pw_k H 2 = 13 ∧ pw_k H 7 = 14
def ps_Inv (L : Nat) (xs : Nat → Int32) (n : Nat) (H : pw_Hp) : Prop := ps_Mid L xs H ∧ 30 ≤ H.1 ∧ ps_MS H ∧ ∃ (R G : Nat) (aR aG Nw : Nat → Nat) (μ : ps_S) (ρ : ps_P) (m : Nat), ps_CS H R G aR aG Nw ∧ ps_Rv R G aR aG Nw (pw_i H) μ ρ ∧ ps_Md R G m (pw_i H) μ ρ ∧ ps_Wf R G Nw μ ρ n ∧ m ≤ n
-- a call of the class, then the same call of the reference: one answer
def ps_Two (L : Nat) (xs : Nat → Int32) (n jP jM : Nat) (as : List pw_A) : Prop := ∀ (H : pw_Hp) (K : Int32 → pw_Hp → Prop), ps_Inv L xs n H → (∀ y H1, ps_Mid L xs H1 → (∀ kk : Int32 → pw_Hp → Prop, (∀ H2, ps_Inv L xs (n + 1) H2 → kk y H2) → pw_Ci jM (.inr 7 :: as) H1 kk) → K y H1) → pw_Ci jP (.inr 2 :: as) H K
section PTW
variable {h : pw_Hp} {L R G m n : Nat} {aR aG Nw : Nat → Nat} {xs : Nat → Int32} {σ τ υ μ ν : ps_S} {ρ π : ps_P}
theorem md_off (hD : ps_Md R G m σ μ ρ) (ho : ps_Off σ τ) : ps_Md R G m τ μ ρ := by
  obtain ⟨d1, d2, d3⟩ := hD
  refine ⟨fun f a b c => (ho f b (Or.inr (by omega))).trans (d1 f a b c), ?_, fun c hc => ps_So_22 (ho 22 (by decide) (Or.inr (by decide))) (d3 c hc)⟩
  rw [ho 7 (by decide) (Or.inr (by decide))]
  exact d2
theorem rv_ofm (hC : ps_CS h R G aR aG Nw) (hV : ps_Rv R G aR aG Nw τ ν π) (ho : ps_Ofm τ υ) : ps_Rv R G aR aG Nw υ ν π := by
  obtain ⟨-, -, -, c4, c5, -⟩ := hC
  obtain ⟨v0, vr, vg⟩ := hV
  refine ⟨?_, fun r hr => ?_, fun g hg => ?_⟩
  · rw [ho 2 (by omega), ho 5 (by omega), ho 6 (by omega)]; exact v0
  · have a := (c4 r hr).2.2.2.2.2.1
    obtain ⟨d1, d2, d3, d4⟩ := vr r hr
    refine ⟨?_, (ps_Rw_f (ho _ (by omega)) (ho _ (by omega))).mpr d2, (ps_Rw_f (ho _ (by omega)) (ho _ (by omega))).mpr d3, ?_⟩
    · unfold ps_Dv at d1 ⊢
      rw [ho (aR r) (by omega)]; exact d1
    · rw [ho (aR r + 5) (by omega)]; exact d4
  · have a := (c5 g hg).2.2.1
    have e := vg g hg
    unfold ps_Gv at e ⊢
    rw [ho (aG g) (by omega), ho (aG g + 1) (by omega), ho (aG g + 2) (by omega)]
    exact e
theorem mid_off (hm : ps_Mid L xs (pw_st h σ)) (ho : ps_Off σ τ) : ps_Mid L xs (pw_st h τ) := by
  obtain ⟨a, b, c, d, e⟩ := hm
  exact ⟨a, b, fun j => (congrFun (ho 1 (by decide) (Or.inl rfl)) j).trans (c j), d, e⟩
theorem mid_ofm (hm : ps_Mid L xs (pw_st h σ)) (ho : ps_Ofm σ τ) : ps_Mid L xs (pw_st h τ) := by
  obtain ⟨a, b, c, d, e⟩ := hm
  exact ⟨a, b, fun j => (congrFun (ho 1 (by omega)) j).trans (c j), d, e⟩
/-- the state that both sides hold, and the class's answer and new state: what is left is the reference's call -/
theorem tw_gen {jM : Nat} {as : List pw_A} {y : Int32} {K : Int32 → pw_Hp → Prop} (hm : ps_Mid L xs (pw_st h σ)) (h30 : 30 ≤ h.1) (hM : ps_MS h) (hC : ps_CS h R G aR aG Nw) (hD : ps_Md R G m σ μ ρ) (hmn : m ≤ n) (hW : ps_Wf R G Nw ν π (n + 1))
    (cM : ∀ τ, ps_Md R G m τ μ ρ → ∀ kk : Int32 → pw_Hp → Prop, (∀ υ m2, m2 ≤ m + 1 → ps_Md R G m2 υ ν π → ps_Ofm τ υ → kk y (pw_st h υ)) → pw_Ci jM (.inr 7 :: as) (pw_st h τ) kk)
    (hk : ∀ y H1, ps_Mid L xs H1 → (∀ kk : Int32 → pw_Hp → Prop, (∀ H2, ps_Inv L xs (n + 1) H2 → kk y H2) → pw_Ci jM (.inr 7 :: as) H1 kk) → K y H1) : ∀ τ, ps_Rv R G aR aG Nw τ ν π → ps_Off σ τ → K y (pw_st h τ) := by
  intro τ hV ho
  have hmt := mid_off hm ho
  refine hk y (pw_st h τ) hmt (fun kk hkk => ?_)
  refine cM τ (md_off hD ho) kk (fun υ m2 h2 d o => hkk _ ⟨mid_ofm hmt o, h30, hM, R, G, aR, aG, Nw, ν, π, m2, hC, rv_ofm hC hV o, d, hW, by omega⟩)
-- the same where neither side's rows come new
theorem tw_g1 {jM : Nat} {as : List pw_A} {y : Int32} {K : Int32 → pw_Hp → Prop} (hm : ps_Mid L xs (pw_st h σ)) (h30 : 30 ≤ h.1) (hM : ps_MS h) (hC : ps_CS h R G aR aG Nw) (hD : ps_Md R G m σ μ ρ) (hmn : m ≤ n) (hW : ps_Wf R G Nw ν π (n + 1))
    (cM : ∀ τ, ps_Md R G m τ μ ρ → ∀ kk : Int32 → pw_Hp → Prop, (∀ υ, ps_Md R G m υ ν π → ps_Ofm τ υ → kk y (pw_st h υ)) → pw_Ci jM (.inr 7 :: as) (pw_st h τ) kk)
    (hk : ∀ y H1, ps_Mid L xs H1 → (∀ kk : Int32 → pw_Hp → Prop, (∀ H2, ps_Inv L xs (n + 1) H2 → kk y H2) → pw_Ci jM (.inr 7 :: as) H1 kk) → K y H1) : ∀ τ, ps_Rv R G aR aG Nw τ ν π → ps_Off σ τ → K y (pw_st h τ) :=
  tw_gen hm h30 hM hC hD hmn hW (fun τ d kk hkk => cM τ d kk (fun υ a b => hkk υ m (by omega) a b)) hk
-- nothing changes
theorem tw_g0 {jM : Nat} {as : List pw_A} {y : Int32} {K : Int32 → pw_Hp → Prop} (hm : ps_Mid L xs (pw_st h σ)) (h30 : 30 ≤ h.1) (hM : ps_MS h) (hC : ps_CS h R G aR aG Nw) (hV : ps_Rv R G aR aG Nw σ μ ρ) (hD : ps_Md R G m σ μ ρ) (hmn : m ≤ n) (hW : ps_Wf R G Nw μ ρ n)
    (cM : ∀ kk : Int32 → pw_Hp → Prop, kk y (pw_st h σ) → pw_Ci jM (.inr 7 :: as) (pw_st h σ) kk)
    (hk : ∀ y H1, ps_Mid L xs H1 → (∀ kk : Int32 → pw_Hp → Prop, (∀ H2, ps_Inv L xs (n + 1) H2 → kk y H2) → pw_Ci jM (.inr 7 :: as) H1 kk) → K y H1) : K y (pw_st h σ) := by
  refine hk y (pw_st h σ) hm (fun kk hkk => cM kk (hkk _ ⟨hm, h30, hM, R, G, aR, aG, Nw, μ, ρ, m, hC, hV, hD, ps_wf_n hW (by omega), by omega⟩))
end PTW
section PTX
variable {L n : Nat} {xs : Nat → Int32}
theorem tw_walk (hn : n < 600) (x y z : Int32) : ps_Two L xs n 42 76 [.inl x, .inl y, .inl z] := by
  intro H K hI hk
  obtain ⟨hm, h30, hM, R, G, aR, aG, Nw, μ, ρ, m, hC, hV, hD, hW, hmn⟩ := hI
  have hR := hW.1.1
  have wr : ∀ c, ps_Wf R G Nw (ps_ref μ c) ρ (n + 1) := fun c => ps_wf_ref hW (by omega)
  have bad : ((x < 0 ∨ nI R ≤ x) ∨ (y < 0 ∨ nI R ≤ y) ∨ x = y) → pw_Ci 42 (.inr 2 :: [.inl x, .inl y, .inl z]) H K := fun hb => c_P_walk_b hC hV hb (tw_g1 hm h30 hM hC hD hmn (wr 1) (fun τ d kk q => c_M_walk_b hM d hR hb q) hk)
  rcases ps_cases x R (by omega) with q | ⟨a, ha, rfl⟩
  · exact bad (Or.inl q)
  rcases ps_cases y R (by omega) with q | ⟨b, hb, rfl⟩
  · exact bad (Or.inr (Or.inl q))
  by_cases hab : a = b
  · exact bad (Or.inr (Or.inr (by rw [hab])))
  refine c_P_walk hC hV ha hb hab (fun q => tw_g1 hm h30 hM hC hD hmn (wr 4) (fun τ d kk hkk => c_M_walk hM d hR ha hb hab (fun _ => hkk) (fun q5 => ?_) (fun q0 => absurd q q0)) hk) (fun q => tw_g1 hm h30 hM hC hD hmn (wr 6) (fun τ d kk hkk => c_M_walk hM d hR ha hb hab (fun q0 => ?_) (fun _ => hkk) (fun _ q5 => absurd q q5)) hk) (fun q0 q5 => tw_g1 hm h30 hM hC hD hmn (ps_wf_n (ps_wf_walk hW ha hb hab q0 q5) (by omega)) (fun τ d kk hkk => c_M_walk hM d hR ha hb hab (fun q => absurd q q0) (fun q => absurd q q5) (fun _ _ => hkk)) hk)
  · exfalso
    rw [fa_lt'] at q q5
    rw [show (0 : Int32).toInt = 0 from rfl] at q
    rw [show (50 : Int32).toInt = 50 from rfl] at q5
    omega
  · exfalso
    rw [fa_lt'] at q q0
    rw [show (0 : Int32).toInt = 0 from rfl] at q0
    rw [show (50 : Int32).toInt = 50 from rfl] at q
    omega
theorem tw_part (hn : n < 600) (x y z : Int32) : ps_Two L xs n 43 77 [.inl x, .inl y, .inl z] := by
  intro H K hI hk
  obtain ⟨hm, h30, hM, R, G, aR, aG, Nw, μ, ρ, m, hC, hV, hD, hW, hmn⟩ := hI
  have hR := hW.1.1
  have wr : ∀ c, ps_Wf R G Nw (ps_ref μ c) ρ (n + 1) := fun c => ps_wf_ref hW (by omega)
  rcases ps_cases x R (by omega) with q | ⟨a, ha, rfl⟩
  · exact c_P_part_b hC hV q (tw_g1 hm h30 hM hC hD hmn (wr 1) (fun τ d kk hkk => c_M_part_b hM d hR q hkk) hk)
  · exact c_P_part hC hV ha (fun q => tw_g1 hm h30 hM hC hD hmn (wr 4) (fun τ d kk hkk => c_M_part hM d hR ha (fun _ => hkk) (fun q' => absurd q q') (fun q' => absurd q q')) hk) (fun q q6 => tw_g1 hm h30 hM hC hD hmn (wr 6) (fun τ d kk hkk => c_M_part hM d hR ha (fun q' => absurd q' q) (fun _ _ => hkk) (fun _ q' => absurd q6 q')) hk) (fun q q6 => tw_g1 hm h30 hM hC hD hmn (ps_wf_n (ps_wf_part hW ha q q6) (by omega)) (fun τ d kk hkk => c_M_part hM d hR ha (fun q' => absurd q' q) (fun _ q' => absurd q' q6) (fun _ _ => hkk)) hk)
theorem tw_take (hn : n < 600) (x y : Int32) : ps_Two L xs n 109 107 [.inl x, .inl y] := by
  intro H K hI hk
  obtain ⟨hm, h30, hM, R, G, aR, aG, Nw, μ, ρ, m, hC, hV, hD, hW, hmn⟩ := hI
  have hR := hW.1.1
  have hG := hW.1.2.1
  have bad : ps_bad2 G R x y → pw_Ci 109 (.inr 2 :: [.inl x, .inl y]) H K := fun hb => c_P_take_b hC hV hb (tw_g1 hm h30 hM hC hD hmn (ps_wf_ref hW (by omega)) (fun τ d kk hkk => c_M_take_b hM d hR hG hb hkk) hk)
  rcases ps_cases x G (by omega) with q | ⟨g, hg, rfl⟩
  · exact bad (Or.inl q)
  rcases ps_cases y R (by omega) with q | ⟨r, hr, rfl⟩
  · exact bad (Or.inr q)
  exact c_P_take hC hV hW hg hr (tw_g1 hm h30 hM hC hD hmn (ps_wf_take hW (by omega) hg hr) (fun τ d kk hkk => c_M_take hM d hW hg hr hkk) hk)
theorem tw_free (hn : n < 600) (x y : Int32) : ps_Two L xs n 110 106 [.inl x, .inl y] := by
  intro H K hI hk
  obtain ⟨hm, h30, hM, R, G, aR, aG, Nw, μ, ρ, m, hC, hV, hD, hW, hmn⟩ := hI
  have hR := hW.1.1
  have hG := hW.1.2.1
  have bad : ps_bad2 G R x y → pw_Ci 110 (.inr 2 :: [.inl x, .inl y]) H K := fun hb => c_P_free_b hC hV hb (tw_g1 hm h30 hM hC hD hmn (ps_wf_ref hW (by omega)) (fun τ d kk hkk => c_M_free_b hM d hR hG hb hkk) hk)
  rcases ps_cases x G (by omega) with q | ⟨g, hg, rfl⟩
  · exact bad (Or.inl q)
  rcases ps_cases y R (by omega) with q | ⟨r, hr, rfl⟩
  · exact bad (Or.inr q)
  exact c_P_free hC hV hW hg hr (tw_g1 hm h30 hM hC hD hmn (ps_wf_n (ps_wf_free hW) (by omega)) (fun τ d kk hkk => c_M_free hM d hW hg hr hkk) hk)
theorem tw_give (hn : n < 600) (x y : Int32) : ps_Two L xs n 95 80 [.inl x, .inl y] := by
  intro H K hI hk
  obtain ⟨hm, h30, hM, R, G, aR, aG, Nw, μ, ρ, m, hC, hV, hD, hW, hmn⟩ := hI
  have hG := hW.1.2.1
  have bad : ((x < 0 ∨ nI G ≤ x) ∨ ∃ g, g < G ∧ x = nI g ∧ (y < 0 ∨ nI (ps_N μ 24 g) ≤ y)) → pw_Ci 95 (.inr 2 :: [.inl x, .inl y]) H K := fun hb => c_P_give_b hC hV hW hb (tw_g1 hm h30 hM hC hD hmn (ps_wf_ref hW (by omega)) (fun τ d kk hkk => c_M_give_b hM d hW hb hkk) hk)
  rcases ps_cases x G (by omega) with q | ⟨g, hg, rfl⟩
  · exact bad (Or.inl q)
  have w7 := (hW.2.2.1 g hg).2.2.2.2.2.2.1
  rcases ps_cases y (ps_N μ 24 g) (by omega) with q | ⟨j, hj, rfl⟩
  · exact bad (Or.inr ⟨g, hg, rfl, q⟩)
  exact c_P_give hC hV hW hg hj (tw_g1 hm h30 hM hC hD hmn (ps_wf_n (ps_wf_gv hW (by omega) hg hj) (by omega)) (fun τ d kk hkk => c_M_give hM d hW hg hj hkk) hk)
theorem tw_come (hn : n < 600) (x y : Int32) : ps_Two L xs n 96 81 [.inl x, .inl y] := by
  intro H K hI hk
  obtain ⟨hm, h30, hM, R, G, aR, aG, Nw, μ, ρ, m, hC, hV, hD, hW, hmn⟩ := hI
  have hR := hW.1.1
  have hG := hW.1.2.1
  have bad : ps_bad2 G R x y → pw_Ci 96 (.inr 2 :: [.inl x, .inl y]) H K := fun hb => c_P_come_b hC hV hb (tw_g1 hm h30 hM hC hD hmn (ps_wf_ref hW (by omega)) (fun τ d kk hkk => c_M_come_b hM d hR hG hb hkk) hk)
  rcases ps_cases x G (by omega) with q | ⟨g, hg, rfl⟩
  · exact bad (Or.inl q)
  rcases ps_cases y R (by omega) with q | ⟨r, hr, rfl⟩
  · exact bad (Or.inr q)
  exact c_P_come hC hV hW (by omega) hg hr (tw_gen hm h30 hM hC hD hmn (ps_wf_n (ps_wf_come hW (by omega) hg hr) (by omega)) (fun τ d kk hkk => c_M_come hM d hW (by omega) (by omega) hg hr hkk) hk)
theorem tw_stand (hn : n < 600) (x y : Int32) : ps_Two L xs n 44 82 [.inl x, .inl y] := by
  intro H K hI hk
  obtain ⟨hm, h30, hM, R, G, aR, aG, Nw, μ, ρ, m, hC, hV, hD, hW, hmn⟩ := hI
  have hR := hW.1.1
  have hG := hW.1.2.1
  have bad : ps_bad2 G R x y → pw_Ci 44 (.inr 2 :: [.inl x, .inl y]) H K := fun hb => c_P_stand_b hC hV hb (tw_g1 hm h30 hM hC hD hmn (ps_wf_ref hW (by omega)) (fun τ d kk hkk => c_M_stand_b hM d hR hG hb hkk) hk)
  rcases ps_cases x G (by omega) with q | ⟨g, hg, rfl⟩
  · exact bad (Or.inl q)
  rcases ps_cases y R (by omega) with q | ⟨r, hr, rfl⟩
  · exact bad (Or.inr q)
  exact c_P_stand hC hV hW hg hr (tw_gen hm h30 hM hC hD hmn (ps_wf_n (ps_wf_stand hW hg hr) (by omega)) (fun τ d kk hkk => c_M_stand hM d hW (by omega) hg hr hkk) hk)
theorem tw_leave (hn : n < 600) (x : Int32) : ps_Two L xs n 66 83 [.inl x] := by
  intro H K hI hk
  obtain ⟨hm, h30, hM, R, G, aR, aG, Nw, μ, ρ, m, hC, hV, hD, hW, hmn⟩ := hI
  have hG := hW.1.2.1
  rcases ps_cases x G (by omega) with q | ⟨g, hg, rfl⟩
  · exact c_P_leave_b hC hV q (tw_g1 hm h30 hM hC hD hmn (ps_wf_ref hW (by omega)) (fun τ d kk hkk => c_M_leave_b hM d hG q hkk) hk)
  · exact c_P_leave hC hV hW hg (tw_g1 hm h30 hM hC hD hmn (ps_wf_n (ps_wf_leave hW hg) (by omega)) (fun τ d kk hkk => c_M_leave hM d hW hg hkk) hk)
theorem tw_go (hn : n < 600) (x : Int32) : ps_Two L xs n 97 84 [.inl x] := by
  intro H K hI hk
  obtain ⟨hm, h30, hM, R, G, aR, aG, Nw, μ, ρ, m, hC, hV, hD, hW, hmn⟩ := hI
  have hG := hW.1.2.1
  rcases ps_cases x G (by omega) with q | ⟨g, hg, rfl⟩
  · exact c_P_go_b hC hV q (tw_g1 hm h30 hM hC hD hmn (ps_wf_ref hW (by omega)) (fun τ d kk hkk => c_M_go_b hM d hG q hkk) hk)
  · exact c_P_go hC hV hW (by omega) hg (tw_g1 hm h30 hM hC hD hmn (ps_wf_n (ps_wf_go hW (by omega) hg) (by omega)) (fun τ d kk hkk => c_M_go hM d hW hg hkk) hk)
theorem tw_stop (hn : n < 600) (x y : Int32) (hy : y = 0 ∨ y = 1) : ps_Two L xs n 45 85 [.inl x, .inl y] := by
  intro H K hI hk
  obtain ⟨hm, h30, hM, R, G, aR, aG, Nw, μ, ρ, m, hC, hV, hD, hW, hmn⟩ := hI
  have hR := hW.1.1
  rcases ps_cases x R (by omega) with q | ⟨r, hr, rfl⟩
  · exact c_P_stop_b hC hV q (tw_g0 hm h30 hM hC hV hD hmn hW (fun kk hkk => c_M_stop_b hM hD hR q hkk) hk)
  · exact c_P_stop hC hV hr hy (fun q => tw_g0 hm h30 hM hC hV hD hmn hW (fun kk hkk => c_M_stop hM hD hR hr hy (fun _ => hkk) (fun q' => absurd q q')) hk) (fun q => tw_g1 hm h30 hM hC hD hmn (ps_wf_n (ps_wf_stop hW hr hy) (by omega)) (fun τ d kk hkk => c_M_stop hM d hR hr hy (fun q' => absurd q' q) (fun _ => hkk)) hk)
theorem tw_rain (hn : n < 600) (y : Int32) (hy : y = 0 ∨ y = 1) : ps_Two L xs n 12 27 [.inl y] := by
  intro H K hI hk
  obtain ⟨hm, h30, hM, R, G, aR, aG, Nw, μ, ρ, m, hC, hV, hD, hW, hmn⟩ := hI
  exact c_P_rain hC hV hy (fun q => tw_g1 hm h30 hM hC hD hmn (ps_wf_n hW (by omega)) (fun τ d kk hkk => c_M_rain hM d hy (fun _ => hkk) (fun q' => absurd q q')) hk _ hV (ps_Off_rf _)) (fun q => tw_g1 hm h30 hM hC hD hmn (ps_wf_n (ps_wf_rain hW hy) (by omega)) (fun τ d kk hkk => c_M_rain hM d hy (fun q' => absurd q' q) (fun _ => hkk)) hk)
theorem tw_ticks (hn : n < 600) (x : Int32) : ps_Two L xs n 114 112 [.inl x] := by
  intro H K hI hk
  obtain ⟨hm, h30, hM, R, G, aR, aG, Nw, μ, ρ, m, hC, hV, hD, hW, hmn⟩ := hI
  exact c_P_ticks hC hV hW (by omega) (tw_g1 hm h30 hM hC hD hmn (ps_wf_n (ps_wf_ticks hW (by omega)) (by omega)) (fun τ d kk hkk => c_M_ticks hM (by omega) d hW (by omega) hkk) hk)
theorem tw_wait (hn : n < 600) (x : Int32) : ps_Two L xs n 67 88 [.inl x] := by
  intro H K hI hk
  obtain ⟨hm, h30, hM, R, G, aR, aG, Nw, μ, ρ, m, hC, hV, hD, hW, hmn⟩ := hI
  have hG := hW.1.2.1
  rcases ps_cases x G (by omega) with q | ⟨g, hg, rfl⟩
  · exact c_P_wait_b hC hV q (tw_g1 hm h30 hM hC hD hmn (ps_wf_ref hW (by omega)) (fun τ d kk hkk => c_M_wait_b hM d hG q hkk) hk)
  · exact c_P_wait hC hV hW hg (tw_g1 hm h30 hM hC hD hmn (ps_wf_n (ps_wf_wait hW) (by omega)) (fun τ d kk hkk => c_M_wait hM d hW (by omega) hg hkk) hk)
theorem tw_groupOf (hn : n < 600) (x y : Int32) : ps_Two L xs n 98 89 [.inl x, .inl y] := by
  intro H K hI hk
  obtain ⟨hm, h30, hM, R, G, aR, aG, Nw, μ, ρ, m, hC, hV, hD, hW, hmn⟩ := hI
  have hG := hW.1.2.1
  rcases ps_cases x G (by omega) with q | ⟨g, hg, rfl⟩
  · exact c_P_groupOf_b hC hV q (tw_g1 hm h30 hM hC hD hmn (ps_wf_ref hW (by omega)) (fun τ d kk hkk => c_M_groupOf_b hM d hG q hkk) hk)
  · exact c_P_groupOf hC hV hW hg (tw_g0 hm h30 hM hC hV hD hmn hW (fun kk hkk => c_M_groupOf hM hD hW (by omega) hg hkk) hk)
theorem tw_time (hn : n < 600) (x y z : Int32) : ps_Two L xs n 68 90 [.inl x, .inl y, .inl z] := by
  intro H K hI hk
  obtain ⟨hm, h30, hM, R, G, aR, aG, Nw, μ, ρ, m, hC, hV, hD, hW, hmn⟩ := hI
  have hG := hW.1.2.1
  have bad : ((x < 0 ∨ nI G ≤ x) ∨ ∃ g, g < G ∧ x = nI g ∧ (y < 0 ∨ nI (ps_N μ 24 g) ≤ y)) → pw_Ci 68 (.inr 2 :: [.inl x, .inl y, .inl z]) H K := fun hb => c_P_time_b hC hV hW hb (tw_g1 hm h30 hM hC hD hmn (ps_wf_ref hW (by omega)) (fun τ d kk hkk => c_M_time_b hM d hW hb hkk) hk)
  rcases ps_cases x G (by omega) with q | ⟨g, hg, rfl⟩
  · exact bad (Or.inl q)
  have w7 := (hW.2.2.1 g hg).2.2.2.2.2.2.1
  rcases ps_cases y (ps_N μ 24 g) (by omega) with q | ⟨j, hj, rfl⟩
  · exact bad (Or.inr ⟨g, hg, rfl, q⟩)
  exact c_P_time hC hV hW hg hj (tw_g0 hm h30 hM hC hV hD hmn hW (fun kk hkk => c_M_time hM hD hW hg hj hkk) hk)
theorem tw_rideOf (hn : n < 600) (x y : Int32) : ps_Two L xs n 46 91 [.inl x, .inl y] := by
  intro H K hI hk
  obtain ⟨hm, h30, hM, R, G, aR, aG, Nw, μ, ρ, m, hC, hV, hD, hW, hmn⟩ := hI
  have hR := hW.1.1
  rcases ps_cases x R (by omega) with q | ⟨r, hr, rfl⟩
  · exact c_P_rideOf_b hC hV q (tw_g1 hm h30 hM hC hD hmn (ps_wf_ref hW (by omega)) (fun τ d kk hkk => c_M_rideOf_b hM d hR q hkk) hk)
  · exact c_P_rideOf hC hV hW hr (tw_g0 hm h30 hM hC hV hD hmn hW (fun kk hkk => c_M_rideOf hM hD hW hr hkk) hk)
theorem tw_window (hn : n < 600) (x y z : Int32) : ps_Two L xs n 69 92 [.inl x, .inl y, .inl z] := by
  intro H K hI hk
  obtain ⟨hm, h30, hM, R, G, aR, aG, Nw, μ, ρ, m, hC, hV, hD, hW, hmn⟩ := hI
  have hR := hW.1.1
  have bad : ((x < 0 ∨ nI R ≤ x) ∨ y < 0) → pw_Ci 69 (.inr 2 :: [.inl x, .inl y, .inl z]) H K := fun hb => c_P_window_b hC hV hb (tw_g1 hm h30 hM hC hD hmn (ps_wf_ref hW (by omega)) (fun τ d kk hkk => c_M_window_b hM d hR hb hkk) hk)
  rcases ps_cases x R (by omega) with q | ⟨r, hr, rfl⟩
  · exact bad (Or.inl q)
  by_cases hy : y < 0
  · exact bad (Or.inr hy)
  exact c_P_window hC hV hW hr hy (tw_g0 hm h30 hM hC hV hD hmn hW (fun kk hkk => c_M_window hM hD hW hr hy hkk) hk)
theorem tw_count (hn : n < 600) (x : Int32) : ps_Two L xs n 70 61 [.inl x] := by
  intro H K hI hk
  obtain ⟨hm, h30, hM, R, G, aR, aG, Nw, μ, ρ, m, hC, hV, hD, hW, hmn⟩ := hI
  exact c_P_count hC hV hW (tw_g0 hm h30 hM hC hV hD hmn hW (fun kk hkk => c_M_count hM hD hW hkk) hk)
theorem tw_row (hn : n < 600) (x y z : Int32) : ps_Two L xs n 47 93 [.inl x, .inl y, .inl z] := by
  intro H K hI hk
  obtain ⟨hm, h30, hM, R, G, aR, aG, Nw, μ, ρ, m, hC, hV, hD, hW, hmn⟩ := hI
  have hR := hW.1.1
  rcases ps_cases x R (by omega) with q | ⟨r, hr, rfl⟩
  · exact c_P_row_b hC hV q (tw_g1 hm h30 hM hC hD hmn (ps_wf_ref hW (by omega)) (fun τ d kk hkk => c_M_row_b hM d hR q hkk) hk)
  have hl : (ρ (2 * r + (if y = 0 then 0 else 1))).length ≤ 60 := by
    split
    · exact (hV.2.1 r hr).2.1.2.1
    · exact (hV.2.1 r hr).2.2.1.2.1
  have lt : ∀ i w, (ρ (2 * r + (if y = 0 then 0 else 1)))[i]? = some w → i < (ρ (2 * r + (if y = 0 then 0 else 1))).length := fun i w hw => (List.getElem?_eq_some_iff.mp hw).1
  have no : ∀ i w, z = nI i → (ρ (2 * r + (if y = 0 then 0 else 1)))[i]? = some w → ¬ (z < 0 ∨ nI (ρ (2 * r + (if y = 0 then 0 else 1))).length ≤ z) := fun i w hz hw ho => by
    have := lt i w hw
    subst hz
    exact absurd rfl (pn_out ho (by omega) i this)
  refine c_P_row hC hV hr (fun i w hz hw => ?_) (fun ho => ?_)
  · refine tw_g0 hm h30 hM hC hV hD hmn hW (fun kk hkk => c_M_row hM hD hW (by omega) hr (fun i' w' hz' hw' => ?_) (fun ho => absurd ho (no i w hz hw))) hk
    have a := lt i w hw
    have b := lt i' w' hw'
    rw [hz, pn_eq (by omega) (by omega)] at hz'
    subst hz'
    rw [hw] at hw'
    cases hw'
    exact hkk
  · exact tw_g0 hm h30 hM hC hV hD hmn hW (fun kk hkk => c_M_row hM hD hW (by omega) hr (fun i' w' hz' hw' => absurd ho (no i' w' hz' hw')) (fun _ => hkk)) hk
end PTX
