theorem dX1_init_0 : decode cX1_init 0 = .ok (.aload_n 0, 1) := by decide +kernel
theorem dX1_init_1 : decode cX1_init 1 = .ok (.invokespecial 1, 3) := by decide +kernel
theorem dX1_init_4 : decode cX1_init 4 = .ok (.aload_n 0, 1) := by decide +kernel
theorem dX1_init_5 : decode cX1_init 5 = .ok (.new 7, 3) := by decide +kernel
theorem dX1_init_8 : decode cX1_init 8 = .ok (.dup, 1) := by decide +kernel
theorem dX1_init_9 : decode cX1_init 9 = .ok (.invokespecial 9, 3) := by decide +kernel
theorem dX1_init_12 : decode cX1_init 12 = .ok (.putfield 10, 3) := by decide +kernel
theorem dX1_init_15 : decode cX1_init 15 = .ok (.aload_n 0, 1) := by decide +kernel
theorem dX1_init_16 : decode cX1_init 16 = .ok (.new 16, 3) := by decide +kernel
theorem dX1_init_19 : decode cX1_init 19 = .ok (.dup, 1) := by decide +kernel
theorem dX1_init_20 : decode cX1_init 20 = .ok (.invokespecial 18, 3) := by decide +kernel
theorem dX1_init_23 : decode cX1_init 23 = .ok (.putfield 19, 3) := by decide +kernel
theorem dX1_init_26 : decode cX1_init 26 = .ok (.return_, 1) := by decide +kernel
theorem eX1_init {G : GG} {d : Nat} {h : Hp} {o : OU} {h' : Hp} (r0 : Nat) (hd : 1 ≤ d) (T : r0 ≠ 0 ∧ (∀ h2 : Hp, h2 = (nwH h 15 0 16) → (nH h) ≠ 0 ∧ ∃ h4, VM G mX5_init (d - 1) [.ref (nH h)] h2 (.inl none) h4 ∧ kH h4 r0 = 11 ∧ (∀ h8 : Hp, h8 = (sR h4 r0 0 (nH h)) → (∀ h10 : Hp, h10 = (nwH h8 10 0 2) → (nH h8) ≠ 0 ∧ ∃ h12, VM G mX0_init (d - 1) [.ref (nH h8)] h10 (.inl none) h12 ∧ kH h12 r0 = 11 ∧ (∀ h16 : Hp, h16 = (sR h12 r0 1 (nH h8)) → (o = .inl none ∧ h' = h16)))))) : VM G mX1_init d [.ref r0] h o h' := by
  refine V.toM rfl rfl (le_l rfl) (cat_all rfl) ?_
  show V G mX1_init d 0 [.ref r0] [] h o h'
  have hdd : d - 1 + 1 ≤ d := by omega
  refine v_aload_n (pc' := 1) dX1_init_0 rfl rfl ?_
  obtain ⟨q1, T⟩ := T
  refine v_objInit (pc' := 4) dX1_init_1 rfl km_X1_1 kx_oi kx_oc hd (le_l rfl) q1 ?_
  refine v_aload_n (pc' := 5) dX1_init_4 rfl rfl ?_
  refine v_new (pc' := 8) 5 dX1_init_5 rfl (by decide) kk_X1_7 kb_X5 kn_X5 ?_
  show V G mX1_init d 8 [.ref r0] [.ref (nH h), .ref r0] (nwH h 15 0 16) o h'
  obtain ⟨h2, e3⟩ : ∃ z : Hp, z = (nwH h 15 0 16) := ⟨_, rfl⟩
  rw [← e3]
  have T := T h2 e3
  refine v_dup (pc' := 9) dX1_init_8 rfl rfl ?_
  obtain ⟨q6, T⟩ := T
  obtain ⟨h4, k5, T⟩ := T
  refine v_callI (pc' := 12) (M1 := mX5_init) (as := []) (r := (nH h)) (rest := [.ref (nH h), .ref r0]) dX1_init_9 rfl rfl rfl ko_X1_9 kc_X5_init ki_X5_init (by decide) hdd rfl rfl (le_l rfl) q6 k5 ?_
  obtain ⟨q7, T⟩ := T
  refine v_putF (pc' := 15) 1 0 dX1_init_12 rfl (by decide) (by decide) rfl rfl rfl rfl kf_X1_10 q7 ?_
  show V G mX1_init d 15 [.ref r0] [] (sR h4 r0 0 (nH h)) o h'
  obtain ⟨h8, e9⟩ : ∃ z : Hp, z = (sR h4 r0 0 (nH h)) := ⟨_, rfl⟩
  rw [← e9]
  have T := T h8 e9
  refine v_aload_n (pc' := 16) dX1_init_15 rfl rfl ?_
  refine v_new (pc' := 19) 0 dX1_init_16 rfl (by decide) kk_X1_16 kb_X0 kn_X0 ?_
  show V G mX1_init d 19 [.ref r0] [.ref (nH h8), .ref r0] (nwH h8 10 0 2) o h'
  obtain ⟨h10, e11⟩ : ∃ z : Hp, z = (nwH h8 10 0 2) := ⟨_, rfl⟩
  rw [← e11]
  have T := T h10 e11
  refine v_dup (pc' := 20) dX1_init_19 rfl rfl ?_
  obtain ⟨q14, T⟩ := T
  obtain ⟨h12, k13, T⟩ := T
  refine v_callN (pc' := 23) (M1 := mX0_init) (as := []) (r := (nH h8)) (rest := [.ref (nH h8), .ref r0]) RX9 dX1_init_20 rfl rfl rfl (by decide) kn_X0 (by decide +kernel) kc_X0_init ki_X0_init (by decide) hdd rfl rfl (le_l rfl) q14 k13 ?_
  obtain ⟨q15, T⟩ := T
  refine v_putF (pc' := 26) 1 1 dX1_init_23 rfl (by decide) (by decide) rfl rfl rfl rfl kf_X1_19 q15 ?_
  show V G mX1_init d 26 [.ref r0] [] (sR h12 r0 1 (nH h8)) o h'
  obtain ⟨h16, e17⟩ : ∃ z : Hp, z = (sR h12 r0 1 (nH h8)) := ⟨_, rfl⟩
  rw [← e17]
  have T := T h16 e17
  exact v_vret dX1_init_26 rfl T
