theorem dX9_testWhere_0 : decode cX9_testWhere 0 = .ok (.aload_n 0, 1) := by decide +kernel
theorem dX9_testWhere_1 : decode cX9_testWhere 1 = .ok (.iload_n 1, 1) := by decide +kernel
theorem dX9_testWhere_2 : decode cX9_testWhere 2 = .ok (.iconst 0, 1) := by decide +kernel
theorem dX9_testWhere_3 : decode cX9_testWhere 3 = .ok (.iconst 1, 1) := by decide +kernel
theorem dX9_testWhere_4 : decode cX9_testWhere 4 = .ok (.invokevirtual 368, 3) := by decide +kernel
theorem dX9_testWhere_7 : decode cX9_testWhere 7 = .ok (.return_, 1) := by decide +kernel
theorem eX9_testWhere {G : GG} {d : Nat} {h : Hp} {o : OU} {h' : Hp} (r0 : Nat) (x1 : Int32) (hd : 1 ≤ d) (T : kH h r0 = 19 ∧ ((∃ h1, VM G mX9_testRange (d - 1) [.ref r0, .int x1, .int 0, .int 1] h (.inl none) h1 ∧ (o = .inl none ∧ h' = h1)) ∨ ∃ E, o = .inr E ∧ VM G mX9_testRange (d - 1) [.ref r0, .int x1, .int 0, .int 1] h (.inr E) h')) : VM G mX9_testWhere d [.ref r0, .int x1] h o h' := by
  refine V.toM rfl rfl (le_l rfl) (cat_all rfl) ?_
  show V G mX9_testWhere d 0 [.ref r0, .int x1] [] h o h'
  have hdd : d - 1 + 1 ≤ d := by omega
  refine v_aload_n (pc' := 1) dX9_testWhere_0 rfl rfl ?_
  refine v_iload_n (pc' := 2) dX9_testWhere_1 rfl rfl ?_
  refine v_iconst (pc' := 3) (v := 0) dX9_testWhere_2 rfl kI_0 ?_
  refine v_iconst (pc' := 4) (v := 1) dX9_testWhere_3 rfl kI_1 ?_
  obtain ⟨q3, T⟩ := T
  rcases T with T | ⟨E, rfl, k2⟩
  · obtain ⟨h1, k2, T⟩ := T
    refine v_callV (pc' := 7) (M1 := mX9_testRange) (as := [.int x1, .int 0, .int 1]) (r := r0) (rest := []) 9 dX9_testWhere_4 rfl ko_X9_368 kc_X9_testRange ki_X9_testRange ks_X9_testRange (by decide) (by decide) hdd rfl rfl (le_l rfl) q3 k2 ?_
    exact v_vret dX9_testWhere_7 rfl T
  · exact v_callVx (M1 := mX9_testRange) (as := [.int x1, .int 0, .int 1]) (r := r0) (rest := []) 9 dX9_testWhere_4 rfl ko_X9_368 kc_X9_testRange ki_X9_testRange ks_X9_testRange (by decide) (by decide) hdd rfl rfl (le_l rfl) q3 k2
