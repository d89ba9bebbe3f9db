theorem tr_W_at {h : pw_Hp} {a : Nat} {x : Int32} {k : Int32 → pw_Hp → Prop} : pw_Ci 9 [.inr a, .inl x] h k := by
  refine pw_intro (M := pm_W_at) rfl (by decide) (Nat.le_of_ble_eq_true rfl) (ls := [some (.inr a), some (.inl x)]) rfl ?_
  refine pw_sound pw_tok pk_W_at 40 _ _ _ _ _ _ ?_
  simp only [pv_all, pv_stp, pe_W_at, Nat.reduceAdd]
  trace_state
  sorry
theorem tr_G_dropTime {h : pw_Hp} {a : Nat} {x : Int32} {k : pw_Hp → Prop} : pw_Cv 35 [.inr a, .inl x] h k := by
  refine pw_intro (M := pm_G_dropTime) rfl (by decide) (Nat.le_of_ble_eq_true rfl) (ls := [some (.inr a), some (.inl x), none]) rfl ?_
  refine pw_sound pw_tok pk_G_dropTime 60 _ _ _ _ _ _ ?_
  simp only [pv_all, pv_stp, pe_G_dropTime, Nat.reduceAdd]
  trace_state
  sorry
