theorem dX4_init_0 : decode cX4_init 0 = .ok (.aload_n 0, 1) := by decide +kernel
theorem dX4_init_1 : decode cX4_init 1 = .ok (.invokespecial 3, 3) := by decide +kernel
theorem dX4_init_4 : decode cX4_init 4 = .ok (.aload_n 0, 1) := by decide +kernel
theorem dX4_init_5 : decode cX4_init 5 = .ok (.bipush 64, 2) := by decide +kernel
theorem dX4_init_7 : decode cX4_init 7 = .ok (.newarray .int, 2) := by decide +kernel
theorem dX4_init_9 : decode cX4_init 9 = .ok (.putfield 9, 3) := by decide +kernel
theorem dX4_init_12 : decode cX4_init 12 = .ok (.aload_n 0, 1) := by decide +kernel
theorem dX4_init_13 : decode cX4_init 13 = .ok (.bipush 64, 2) := by decide +kernel
theorem dX4_init_15 : decode cX4_init 15 = .ok (.newarray .int, 2) := by decide +kernel
theorem dX4_init_17 : decode cX4_init 17 = .ok (.putfield 15, 3) := by decide +kernel
theorem dX4_init_20 : decode cX4_init 20 = .ok (.aload_n 0, 1) := by decide +kernel
theorem dX4_init_21 : decode cX4_init 21 = .ok (.bipush 64, 2) := by decide +kernel
theorem dX4_init_23 : decode cX4_init 23 = .ok (.newarray .int, 2) := by decide +kernel
theorem dX4_init_25 : decode cX4_init 25 = .ok (.putfield 18, 3) := by decide +kernel
theorem dX4_init_28 : decode cX4_init 28 = .ok (.aload_n 0, 1) := by decide +kernel
theorem dX4_init_29 : decode cX4_init 29 = .ok (.bipush 64, 2) := by decide +kernel
theorem dX4_init_31 : decode cX4_init 31 = .ok (.newarray .int, 2) := by decide +kernel
theorem dX4_init_33 : decode cX4_init 33 = .ok (.putfield 21, 3) := by decide +kernel
theorem dX4_init_36 : decode cX4_init 36 = .ok (.aload_n 0, 1) := by decide +kernel
theorem dX4_init_37 : decode cX4_init 37 = .ok (.bipush 64, 2) := by decide +kernel
theorem dX4_init_39 : decode cX4_init 39 = .ok (.newarray .int, 2) := by decide +kernel
theorem dX4_init_41 : decode cX4_init 41 = .ok (.putfield 24, 3) := by decide +kernel
theorem dX4_init_44 : decode cX4_init 44 = .ok (.aload_n 0, 1) := by decide +kernel
theorem dX4_init_45 : decode cX4_init 45 = .ok (.bipush 64, 2) := by decide +kernel
theorem dX4_init_47 : decode cX4_init 47 = .ok (.newarray .int, 2) := by decide +kernel
theorem dX4_init_49 : decode cX4_init 49 = .ok (.putfield 27, 3) := by decide +kernel
theorem dX4_init_52 : decode cX4_init 52 = .ok (.return_, 1) := by decide +kernel
theorem dX4_clear_0 : decode cX4_clear 0 = .ok (.aload_n 0, 1) := by decide +kernel
theorem dX4_clear_1 : decode cX4_clear 1 = .ok (.bipush 16, 2) := by decide +kernel
theorem dX4_clear_3 : decode cX4_clear 3 = .ok (.putfield 30, 3) := by decide +kernel
theorem dX4_clear_6 : decode cX4_clear 6 = .ok (.aload_n 0, 1) := by decide +kernel
theorem dX4_clear_7 : decode cX4_clear 7 = .ok (.iconst 0, 1) := by decide +kernel
theorem dX4_clear_8 : decode cX4_clear 8 = .ok (.putfield 34, 3) := by decide +kernel
theorem dX4_clear_11 : decode cX4_clear 11 = .ok (.return_, 1) := by decide +kernel
theorem dX4_add_0 : decode cX4_add 0 = .ok (.aload_n 0, 1) := by decide +kernel
theorem dX4_add_1 : decode cX4_add 1 = .ok (.getfield 34, 3) := by decide +kernel
theorem dX4_add_4 : decode cX4_add 4 = .ok (.bipush 64, 2) := by decide +kernel
theorem dX4_add_6 : decode cX4_add 6 = .ok (.if_icmp .ge 54, 3) := by decide +kernel
theorem dX4_add_9 : decode cX4_add 9 = .ok (.aload_n 0, 1) := by decide +kernel
theorem dX4_add_10 : decode cX4_add 10 = .ok (.getfield 9, 3) := by decide +kernel
theorem dX4_add_13 : decode cX4_add 13 = .ok (.aload_n 0, 1) := by decide +kernel
theorem dX4_add_14 : decode cX4_add 14 = .ok (.getfield 34, 3) := by decide +kernel
theorem dX4_add_17 : decode cX4_add 17 = .ok (.iload_n 1, 1) := by decide +kernel
theorem dX4_add_18 : decode cX4_add 18 = .ok (.iastore, 1) := by decide +kernel
theorem dX4_add_19 : decode cX4_add 19 = .ok (.aload_n 0, 1) := by decide +kernel
theorem dX4_add_20 : decode cX4_add 20 = .ok (.getfield 15, 3) := by decide +kernel
theorem dX4_add_23 : decode cX4_add 23 = .ok (.aload_n 0, 1) := by decide +kernel
theorem dX4_add_24 : decode cX4_add 24 = .ok (.getfield 34, 3) := by decide +kernel
theorem dX4_add_27 : decode cX4_add 27 = .ok (.iload_n 2, 1) := by decide +kernel
theorem dX4_add_28 : decode cX4_add 28 = .ok (.iastore, 1) := by decide +kernel
theorem dX4_add_29 : decode cX4_add 29 = .ok (.aload_n 0, 1) := by decide +kernel
theorem dX4_add_30 : decode cX4_add 30 = .ok (.getfield 18, 3) := by decide +kernel
theorem dX4_add_33 : decode cX4_add 33 = .ok (.aload_n 0, 1) := by decide +kernel
theorem dX4_add_34 : decode cX4_add 34 = .ok (.getfield 34, 3) := by decide +kernel
theorem dX4_add_37 : decode cX4_add 37 = .ok (.iload_n 3, 1) := by decide +kernel
theorem dX4_add_38 : decode cX4_add 38 = .ok (.iastore, 1) := by decide +kernel
theorem dX4_add_39 : decode cX4_add 39 = .ok (.aload_n 0, 1) := by decide +kernel
theorem dX4_add_40 : decode cX4_add 40 = .ok (.getfield 21, 3) := by decide +kernel
theorem dX4_add_43 : decode cX4_add 43 = .ok (.aload_n 0, 1) := by decide +kernel
theorem dX4_add_44 : decode cX4_add 44 = .ok (.getfield 34, 3) := by decide +kernel
theorem dX4_add_47 : decode cX4_add 47 = .ok (.iload 4, 2) := by decide +kernel
theorem dX4_add_49 : decode cX4_add 49 = .ok (.iastore, 1) := by decide +kernel
theorem dX4_add_50 : decode cX4_add 50 = .ok (.aload_n 0, 1) := by decide +kernel
theorem dX4_add_51 : decode cX4_add 51 = .ok (.dup, 1) := by decide +kernel
theorem dX4_add_52 : decode cX4_add 52 = .ok (.getfield 34, 3) := by decide +kernel
theorem dX4_add_55 : decode cX4_add 55 = .ok (.iconst 1, 1) := by decide +kernel
theorem dX4_add_56 : decode cX4_add 56 = .ok (.iadd, 1) := by decide +kernel
theorem dX4_add_57 : decode cX4_add 57 = .ok (.putfield 34, 3) := by decide +kernel
theorem dX4_add_60 : decode cX4_add 60 = .ok (.return_, 1) := by decide +kernel
theorem dX4_addEnd_0 : decode cX4_addEnd 0 = .ok (.aload_n 0, 1) := by decide +kernel
theorem dX4_addEnd_1 : decode cX4_addEnd 1 = .ok (.getfield 34, 3) := by decide +kernel
theorem dX4_addEnd_4 : decode cX4_addEnd 4 = .ok (.bipush 64, 2) := by decide +kernel
theorem dX4_addEnd_6 : decode cX4_addEnd 6 = .ok (.if_icmp .ge 44, 3) := by decide +kernel
theorem dX4_addEnd_9 : decode cX4_addEnd 9 = .ok (.iload_n 1, 1) := by decide +kernel
theorem dX4_addEnd_10 : decode cX4_addEnd 10 = .ok (.ifCond .lt 40, 3) := by decide +kernel
theorem dX4_addEnd_13 : decode cX4_addEnd 13 = .ok (.iload_n 1, 1) := by decide +kernel
theorem dX4_addEnd_14 : decode cX4_addEnd 14 = .ok (.aload_n 0, 1) := by decide +kernel
theorem dX4_addEnd_15 : decode cX4_addEnd 15 = .ok (.getfield 34, 3) := by decide +kernel
theorem dX4_addEnd_18 : decode cX4_addEnd 18 = .ok (.if_icmp .ge 32, 3) := by decide +kernel
theorem dX4_addEnd_21 : decode cX4_addEnd 21 = .ok (.aload_n 0, 1) := by decide +kernel
theorem dX4_addEnd_22 : decode cX4_addEnd 22 = .ok (.getfield 27, 3) := by decide +kernel
theorem dX4_addEnd_25 : decode cX4_addEnd 25 = .ok (.iload_n 1, 1) := by decide +kernel
theorem dX4_addEnd_26 : decode cX4_addEnd 26 = .ok (.aload_n 0, 1) := by decide +kernel
theorem dX4_addEnd_27 : decode cX4_addEnd 27 = .ok (.getfield 34, 3) := by decide +kernel
theorem dX4_addEnd_30 : decode cX4_addEnd 30 = .ok (.iastore, 1) := by decide +kernel
theorem dX4_addEnd_31 : decode cX4_addEnd 31 = .ok (.aload_n 0, 1) := by decide +kernel
theorem dX4_addEnd_32 : decode cX4_addEnd 32 = .ok (.getfield 27, 3) := by decide +kernel
theorem dX4_addEnd_35 : decode cX4_addEnd 35 = .ok (.aload_n 0, 1) := by decide +kernel
theorem dX4_addEnd_36 : decode cX4_addEnd 36 = .ok (.getfield 34, 3) := by decide +kernel
theorem dX4_addEnd_39 : decode cX4_addEnd 39 = .ok (.iload_n 1, 1) := by decide +kernel
theorem dX4_addEnd_40 : decode cX4_addEnd 40 = .ok (.iastore, 1) := by decide +kernel
theorem dX4_addEnd_41 : decode cX4_addEnd 41 = .ok (.aload_n 0, 1) := by decide +kernel
theorem dX4_addEnd_42 : decode cX4_addEnd 42 = .ok (.bipush 13, 2) := by decide +kernel
theorem dX4_addEnd_44 : decode cX4_addEnd 44 = .ok (.iconst 0, 1) := by decide +kernel
theorem dX4_addEnd_45 : decode cX4_addEnd 45 = .ok (.iconst 0, 1) := by decide +kernel
theorem dX4_addEnd_46 : decode cX4_addEnd 46 = .ok (.iconst 0, 1) := by decide +kernel
theorem dX4_addEnd_47 : decode cX4_addEnd 47 = .ok (.invokevirtual 37, 3) := by decide +kernel
theorem dX4_addEnd_50 : decode cX4_addEnd 50 = .ok (.return_, 1) := by decide +kernel
theorem dX4_afterAgain_0 : decode cX4_afterAgain 0 = .ok (.aload_n 0, 1) := by decide +kernel
theorem dX4_afterAgain_1 : decode cX4_afterAgain 1 = .ok (.getfield 24, 3) := by decide +kernel
theorem dX4_afterAgain_4 : decode cX4_afterAgain 4 = .ok (.iload_n 1, 1) := by decide +kernel
theorem dX4_afterAgain_5 : decode cX4_afterAgain 5 = .ok (.aload_n 0, 1) := by decide +kernel
theorem dX4_afterAgain_6 : decode cX4_afterAgain 6 = .ok (.getfield 15, 3) := by decide +kernel
theorem dX4_afterAgain_9 : decode cX4_afterAgain 9 = .ok (.iload_n 1, 1) := by decide +kernel
theorem dX4_afterAgain_10 : decode cX4_afterAgain 10 = .ok (.iaload, 1) := by decide +kernel
theorem dX4_afterAgain_11 : decode cX4_afterAgain 11 = .ok (.iastore, 1) := by decide +kernel
theorem dX4_afterAgain_12 : decode cX4_afterAgain 12 = .ok (.aload_n 0, 1) := by decide +kernel
theorem dX4_afterAgain_13 : decode cX4_afterAgain 13 = .ok (.getfield 24, 3) := by decide +kernel
theorem dX4_afterAgain_16 : decode cX4_afterAgain 16 = .ok (.iload_n 1, 1) := by decide +kernel
theorem dX4_afterAgain_17 : decode cX4_afterAgain 17 = .ok (.iaload, 1) := by decide +kernel
theorem dX4_afterAgain_18 : decode cX4_afterAgain 18 = .ok (.ifCond .ne 14, 3) := by decide +kernel
theorem dX4_afterAgain_21 : decode cX4_afterAgain 21 = .ok (.aload_n 0, 1) := by decide +kernel
theorem dX4_afterAgain_22 : decode cX4_afterAgain 22 = .ok (.getfield 27, 3) := by decide +kernel
theorem dX4_afterAgain_25 : decode cX4_afterAgain 25 = .ok (.iload_n 1, 1) := by decide +kernel
theorem dX4_afterAgain_26 : decode cX4_afterAgain 26 = .ok (.iaload, 1) := by decide +kernel
theorem dX4_afterAgain_27 : decode cX4_afterAgain 27 = .ok (.iconst 1, 1) := by decide +kernel
theorem dX4_afterAgain_28 : decode cX4_afterAgain 28 = .ok (.iadd, 1) := by decide +kernel
theorem dX4_afterAgain_29 : decode cX4_afterAgain 29 = .ok (.goto 6, 3) := by decide +kernel
theorem dX4_afterAgain_32 : decode cX4_afterAgain 32 = .ok (.iload_n 1, 1) := by decide +kernel
theorem dX4_afterAgain_33 : decode cX4_afterAgain 33 = .ok (.iconst 1, 1) := by decide +kernel
theorem dX4_afterAgain_34 : decode cX4_afterAgain 34 = .ok (.iadd, 1) := by decide +kernel
theorem dX4_afterAgain_35 : decode cX4_afterAgain 35 = .ok (.ireturn, 1) := by decide +kernel
theorem dX4_afterEnd_0 : decode cX4_afterEnd 0 = .ok (.aload_n 0, 1) := by decide +kernel
theorem dX4_afterEnd_1 : decode cX4_afterEnd 1 = .ok (.getfield 27, 3) := by decide +kernel
theorem dX4_afterEnd_4 : decode cX4_afterEnd 4 = .ok (.iload_n 1, 1) := by decide +kernel
theorem dX4_afterEnd_5 : decode cX4_afterEnd 5 = .ok (.iaload, 1) := by decide +kernel
theorem dX4_afterEnd_6 : decode cX4_afterEnd 6 = .ok (.istore_n 2, 1) := by decide +kernel
theorem dX4_afterEnd_7 : decode cX4_afterEnd 7 = .ok (.aload_n 0, 1) := by decide +kernel
theorem dX4_afterEnd_8 : decode cX4_afterEnd 8 = .ok (.getfield 24, 3) := by decide +kernel
theorem dX4_afterEnd_11 : decode cX4_afterEnd 11 = .ok (.iload_n 2, 1) := by decide +kernel
theorem dX4_afterEnd_12 : decode cX4_afterEnd 12 = .ok (.dup2, 1) := by decide +kernel
theorem dX4_afterEnd_13 : decode cX4_afterEnd 13 = .ok (.iaload, 1) := by decide +kernel
theorem dX4_afterEnd_14 : decode cX4_afterEnd 14 = .ok (.iconst 1, 1) := by decide +kernel
theorem dX4_afterEnd_15 : decode cX4_afterEnd 15 = .ok (.isub, 1) := by decide +kernel
theorem dX4_afterEnd_16 : decode cX4_afterEnd 16 = .ok (.iastore, 1) := by decide +kernel
theorem dX4_afterEnd_17 : decode cX4_afterEnd 17 = .ok (.aload_n 0, 1) := by decide +kernel
theorem dX4_afterEnd_18 : decode cX4_afterEnd 18 = .ok (.getfield 24, 3) := by decide +kernel
theorem dX4_afterEnd_21 : decode cX4_afterEnd 21 = .ok (.iload_n 2, 1) := by decide +kernel
theorem dX4_afterEnd_22 : decode cX4_afterEnd 22 = .ok (.iaload, 1) := by decide +kernel
theorem dX4_afterEnd_23 : decode cX4_afterEnd 23 = .ok (.ifCond .le 9, 3) := by decide +kernel
theorem dX4_afterEnd_26 : decode cX4_afterEnd 26 = .ok (.iload_n 2, 1) := by decide +kernel
theorem dX4_afterEnd_27 : decode cX4_afterEnd 27 = .ok (.iconst 1, 1) := by decide +kernel
theorem dX4_afterEnd_28 : decode cX4_afterEnd 28 = .ok (.iadd, 1) := by decide +kernel
theorem dX4_afterEnd_29 : decode cX4_afterEnd 29 = .ok (.goto 6, 3) := by decide +kernel
theorem dX4_afterEnd_32 : decode cX4_afterEnd 32 = .ok (.iload_n 1, 1) := by decide +kernel
theorem dX4_afterEnd_33 : decode cX4_afterEnd 33 = .ok (.iconst 1, 1) := by decide +kernel
theorem dX4_afterEnd_34 : decode cX4_afterEnd 34 = .ok (.iadd, 1) := by decide +kernel
theorem dX4_afterEnd_35 : decode cX4_afterEnd 35 = .ok (.ireturn, 1) := by decide +kernel
theorem eX4_init {G : GG} {d : Nat} {h : Hp} {o : OU} {h' : Hp} (r0 : Nat) (hd : 1 ≤ d) (T : r0 ≠ 0 ∧ (∀ h2 : Hp, h2 = (nwH h 1 64 64) → kH h2 r0 = 14 ∧ (∀ h5 : Hp, h5 = (sR h2 r0 2 (nH h)) → (∀ h7 : Hp, h7 = (nwH h5 1 64 64) → kH h7 r0 = 14 ∧ (∀ h10 : Hp, h10 = (sR h7 r0 3 (nH h5)) → (∀ h12 : Hp, h12 = (nwH h10 1 64 64) → kH h12 r0 = 14 ∧ (∀ h15 : Hp, h15 = (sR h12 r0 4 (nH h10)) → (∀ h17 : Hp, h17 = (nwH h15 1 64 64) → kH h17 r0 = 14 ∧ (∀ h20 : Hp, h20 = (sR h17 r0 5 (nH h15)) → (∀ h22 : Hp, h22 = (nwH h20 1 64 64) → kH h22 r0 = 14 ∧ (∀ h25 : Hp, h25 = (sR h22 r0 6 (nH h20)) → (∀ h27 : Hp, h27 = (nwH h25 1 64 64) → kH h27 r0 = 14 ∧ (∀ h30 : Hp, h30 = (sR h27 r0 7 (nH h25)) → (o = .inl none ∧ h' = h30)))))))))))))) : VM G mX4_init d [.ref r0] h o h' := by
  refine V.toM rfl rfl (le_l rfl) (cat_all rfl) ?_
  show V G mX4_init d 0 [.ref r0] [] h o h'
  have hdd : d - 1 + 1 ≤ d := by omega
  refine v_aload_n (pc' := 1) dX4_init_0 rfl rfl ?_
  obtain ⟨q1, T⟩ := T
  refine v_objInit (pc' := 4) dX4_init_1 rfl km_X4_3 kx_oi kx_oc hd (le_l rfl) q1 ?_
  refine v_aload_n (pc' := 5) dX4_init_4 rfl rfl ?_
  refine v_bipush (pc' := 7) (v := 64) dX4_init_5 rfl kB_64 ?_
  refine v_newa (pc' := 9) 1 (N := 64) dX4_init_7 rfl (by decide) rfl ka_int (by decide) (by decide) (by decide) ?_
  show V G mX4_init d 9 [.ref r0] [.ref (nH h), .ref r0] (nwH h 1 64 64) o h'
  obtain ⟨h2, e3⟩ : ∃ z : Hp, z = (nwH h 1 64 64) := ⟨_, rfl⟩
  rw [← e3]
  have T := T h2 e3
  obtain ⟨q4, T⟩ := T
  refine v_putF (pc' := 12) 4 2 dX4_init_9 rfl (by decide) (by decide) rfl rfl rfl rfl kf_X4_9 q4 ?_
  show V G mX4_init d 12 [.ref r0] [] (sR h2 r0 2 (nH h)) o h'
  obtain ⟨h5, e6⟩ : ∃ z : Hp, z = (sR h2 r0 2 (nH h)) := ⟨_, rfl⟩
  rw [← e6]
  have T := T h5 e6
  refine v_aload_n (pc' := 13) dX4_init_12 rfl rfl ?_
  refine v_bipush (pc' := 15) (v := 64) dX4_init_13 rfl kB_64 ?_
  refine v_newa (pc' := 17) 1 (N := 64) dX4_init_15 rfl (by decide) rfl ka_int (by decide) (by decide) (by decide) ?_
  show V G mX4_init d 17 [.ref r0] [.ref (nH h5), .ref r0] (nwH h5 1 64 64) o h'
  obtain ⟨h7, e8⟩ : ∃ z : Hp, z = (nwH h5 1 64 64) := ⟨_, rfl⟩
  rw [← e8]
  have T := T h7 e8
  obtain ⟨q9, T⟩ := T
  refine v_putF (pc' := 20) 4 3 dX4_init_17 rfl (by decide) (by decide) rfl rfl rfl rfl kf_X4_15 q9 ?_
  show V G mX4_init d 20 [.ref r0] [] (sR h7 r0 3 (nH h5)) o h'
  obtain ⟨h10, e11⟩ : ∃ z : Hp, z = (sR h7 r0 3 (nH h5)) := ⟨_, rfl⟩
  rw [← e11]
  have T := T h10 e11
  refine v_aload_n (pc' := 21) dX4_init_20 rfl rfl ?_
  refine v_bipush (pc' := 23) (v := 64) dX4_init_21 rfl kB_64 ?_
  refine v_newa (pc' := 25) 1 (N := 64) dX4_init_23 rfl (by decide) rfl ka_int (by decide) (by decide) (by decide) ?_
  show V G mX4_init d 25 [.ref r0] [.ref (nH h10), .ref r0] (nwH h10 1 64 64) o h'
  obtain ⟨h12, e13⟩ : ∃ z : Hp, z = (nwH h10 1 64 64) := ⟨_, rfl⟩
  rw [← e13]
  have T := T h12 e13
  obtain ⟨q14, T⟩ := T
  refine v_putF (pc' := 28) 4 4 dX4_init_25 rfl (by decide) (by decide) rfl rfl rfl rfl kf_X4_18 q14 ?_
  show V G mX4_init d 28 [.ref r0] [] (sR h12 r0 4 (nH h10)) o h'
  obtain ⟨h15, e16⟩ : ∃ z : Hp, z = (sR h12 r0 4 (nH h10)) := ⟨_, rfl⟩
  rw [← e16]
  have T := T h15 e16
  refine v_aload_n (pc' := 29) dX4_init_28 rfl rfl ?_
  refine v_bipush (pc' := 31) (v := 64) dX4_init_29 rfl kB_64 ?_
  refine v_newa (pc' := 33) 1 (N := 64) dX4_init_31 rfl (by decide) rfl ka_int (by decide) (by decide) (by decide) ?_
  show V G mX4_init d 33 [.ref r0] [.ref (nH h15), .ref r0] (nwH h15 1 64 64) o h'
  obtain ⟨h17, e18⟩ : ∃ z : Hp, z = (nwH h15 1 64 64) := ⟨_, rfl⟩
  rw [← e18]
  have T := T h17 e18
  obtain ⟨q19, T⟩ := T
  refine v_putF (pc' := 36) 4 5 dX4_init_33 rfl (by decide) (by decide) rfl rfl rfl rfl kf_X4_21 q19 ?_
  show V G mX4_init d 36 [.ref r0] [] (sR h17 r0 5 (nH h15)) o h'
  obtain ⟨h20, e21⟩ : ∃ z : Hp, z = (sR h17 r0 5 (nH h15)) := ⟨_, rfl⟩
  rw [← e21]
  have T := T h20 e21
  refine v_aload_n (pc' := 37) dX4_init_36 rfl rfl ?_
  refine v_bipush (pc' := 39) (v := 64) dX4_init_37 rfl kB_64 ?_
  refine v_newa (pc' := 41) 1 (N := 64) dX4_init_39 rfl (by decide) rfl ka_int (by decide) (by decide) (by decide) ?_
  show V G mX4_init d 41 [.ref r0] [.ref (nH h20), .ref r0] (nwH h20 1 64 64) o h'
  obtain ⟨h22, e23⟩ : ∃ z : Hp, z = (nwH h20 1 64 64) := ⟨_, rfl⟩
  rw [← e23]
  have T := T h22 e23
  obtain ⟨q24, T⟩ := T
  refine v_putF (pc' := 44) 4 6 dX4_init_41 rfl (by decide) (by decide) rfl rfl rfl rfl kf_X4_24 q24 ?_
  show V G mX4_init d 44 [.ref r0] [] (sR h22 r0 6 (nH h20)) o h'
  obtain ⟨h25, e26⟩ : ∃ z : Hp, z = (sR h22 r0 6 (nH h20)) := ⟨_, rfl⟩
  rw [← e26]
  have T := T h25 e26
  refine v_aload_n (pc' := 45) dX4_init_44 rfl rfl ?_
  refine v_bipush (pc' := 47) (v := 64) dX4_init_45 rfl kB_64 ?_
  refine v_newa (pc' := 49) 1 (N := 64) dX4_init_47 rfl (by decide) rfl ka_int (by decide) (by decide) (by decide) ?_
  show V G mX4_init d 49 [.ref r0] [.ref (nH h25), .ref r0] (nwH h25 1 64 64) o h'
  obtain ⟨h27, e28⟩ : ∃ z : Hp, z = (nwH h25 1 64 64) := ⟨_, rfl⟩
  rw [← e28]
  have T := T h27 e28
  obtain ⟨q29, T⟩ := T
  refine v_putF (pc' := 52) 4 7 dX4_init_49 rfl (by decide) (by decide) rfl rfl rfl rfl kf_X4_27 q29 ?_
  show V G mX4_init d 52 [.ref r0] [] (sR h27 r0 7 (nH h25)) o h'
  obtain ⟨h30, e31⟩ : ∃ z : Hp, z = (sR h27 r0 7 (nH h25)) := ⟨_, rfl⟩
  rw [← e31]
  have T := T h30 e31
  exact v_vret dX4_init_52 rfl T
theorem eX4_clear {G : GG} {d : Nat} {h : Hp} {o : OU} {h' : Hp} (r0 : Nat) (T : kH h r0 = 14 ∧ (o = .inl none ∧ h' = (h.1, (upI (upI h.2 r0 0 16) r0 1 0)))) : VM G mX4_clear d [.ref r0] h o h' := by
  refine V.toM rfl rfl (le_l rfl) (cat_all rfl) ?_
  show V G mX4_clear d 0 [.ref r0] [] h o h'
  refine v_aload_n (pc' := 1) dX4_clear_0 rfl rfl ?_
  refine v_bipush (pc' := 3) (v := 16) dX4_clear_1 rfl kB_16 ?_
  obtain ⟨q1, T⟩ := T
  refine v_putI (pc' := 6) 4 0 dX4_clear_3 rfl (by decide) (by decide) rfl rfl kf_X4_30 q1 ?_
  refine v_aload_n (pc' := 7) dX4_clear_6 rfl rfl ?_
  refine v_iconst (pc' := 8) (v := 0) dX4_clear_7 rfl kI_0 ?_
  refine v_putI (pc' := 11) 4 1 dX4_clear_8 rfl (by decide) (by decide) rfl rfl kf_X4_34 q1 ?_
  exact v_vret dX4_clear_11 rfl T
theorem eX4_add {G : GG} {d : Nat} {h : Hp} {o : OU} {h' : Hp} (r0 : Nat) (x1 : Int32) (x2 : Int32) (x3 : Int32) (x4 : Int32) (T : kH h r0 = 14 ∧ ((64 ≤ (h.2 r0 1) → (o = .inl none ∧ h' = h)) ∧ (¬ 64 ≤ (h.2 r0 1) → kH h (rH h r0 2) = 1 ∧ vp_in (h.2 r0 1) (lH h (rH h r0 2)) ∧ kH h (rH h r0 3) = 1 ∧ vp_in ((upI h.2 (rH h r0 2) (h.2 r0 1).toNatClampNeg x1) r0 1) (lH h (rH h r0 3)) ∧ (∀ i7 : Nat → Nat → Int32, i7 = (upI (upI h.2 (rH h r0 2) (h.2 r0 1).toNatClampNeg x1) (rH h r0 3) ((upI h.2 (rH h r0 2) (h.2 r0 1).toNatClampNeg x1) r0 1).toNatClampNeg x2) → kH h (rH h r0 4) = 1 ∧ vp_in (i7 r0 1) (lH h (rH h r0 4)) ∧ kH h (rH h r0 5) = 1 ∧ vp_in ((upI i7 (rH h r0 4) (i7 r0 1).toNatClampNeg x3) r0 1) (lH h (rH h r0 5)) ∧ (∀ i13 : Nat → Nat → Int32, i13 = (upI (upI i7 (rH h r0 4) (i7 r0 1).toNatClampNeg x3) (rH h r0 5) ((upI i7 (rH h r0 4) (i7 r0 1).toNatClampNeg x3) r0 1).toNatClampNeg x4) → (o = .inl none ∧ h' = (h.1, (upI i13 r0 1 ((i13 r0 1) + 1))))))))) : VM G mX4_add d [.ref r0, .int x1, .int x2, .int x3, .int x4] h o h' := by
  refine V.toM rfl rfl (le_l rfl) (cat_all rfl) ?_
  show V G mX4_add d 0 [.ref r0, .int x1, .int x2, .int x3, .int x4] [] h o h'
  refine v_aload_n (pc' := 1) dX4_add_0 rfl rfl ?_
  obtain ⟨q1, T⟩ := T
  refine v_getI (pc' := 4) 4 1 dX4_add_1 rfl (by decide) (by decide) rfl kf_X4_34 q1 ?_
  refine v_bipush (pc' := 6) (v := 64) dX4_add_4 rfl kB_64 ?_
  refine v_icmp_ge (tgt := 60) (pc' := 9) dX4_add_6 (by decide) rfl ⟨fun c2 => ?_, fun c2 => ?_⟩
  · have T := T.1 c2
    exact v_vret dX4_add_60 rfl T
  · have T := T.2 c2
    refine v_aload_n (pc' := 10) dX4_add_9 rfl rfl ?_
    refine v_getR (pc' := 13) 4 2 dX4_add_10 rfl (by decide) (by decide) rfl kf_X4_9 q1 ?_
    refine v_aload_n (pc' := 14) dX4_add_13 rfl rfl ?_
    refine v_getI (pc' := 17) 4 1 dX4_add_14 rfl (by decide) (by decide) rfl kf_X4_34 q1 ?_
    refine v_iload_n (pc' := 18) dX4_add_17 rfl rfl ?_
    obtain ⟨q3, T⟩ := T
    obtain ⟨q4, T⟩ := T
    refine v_iast (pc' := 19) dX4_add_18 rfl rfl q3 q4 ?_
    refine v_aload_n (pc' := 20) dX4_add_19 rfl rfl ?_
    refine v_getR (pc' := 23) 4 3 dX4_add_20 rfl (by decide) (by decide) rfl kf_X4_15 q1 ?_
    refine v_aload_n (pc' := 24) dX4_add_23 rfl rfl ?_
    refine v_getI (pc' := 27) 4 1 dX4_add_24 rfl (by decide) (by decide) rfl kf_X4_34 q1 ?_
    refine v_iload_n (pc' := 28) dX4_add_27 rfl rfl ?_
    obtain ⟨q5, T⟩ := T
    obtain ⟨q6, T⟩ := T
    refine v_iast (pc' := 29) dX4_add_28 rfl rfl q5 q6 ?_
    show V G mX4_add d 29 [.ref r0, .int x1, .int x2, .int x3, .int x4] [] (h.1, (upI (upI h.2 (rH h r0 2) (h.2 r0 1).toNatClampNeg x1) (rH h r0 3) ((upI h.2 (rH h r0 2) (h.2 r0 1).toNatClampNeg x1) r0 1).toNatClampNeg x2)) o h'
    obtain ⟨i7, e8⟩ : ∃ z : Nat → Nat → Int32, z = (upI (upI h.2 (rH h r0 2) (h.2 r0 1).toNatClampNeg x1) (rH h r0 3) ((upI h.2 (rH h r0 2) (h.2 r0 1).toNatClampNeg x1) r0 1).toNatClampNeg x2) := ⟨_, rfl⟩
    rw [← e8]
    have T := T i7 e8
    refine v_aload_n (pc' := 30) dX4_add_29 rfl rfl ?_
    refine v_getR (pc' := 33) 4 4 dX4_add_30 rfl (by decide) (by decide) rfl kf_X4_18 q1 ?_
    refine v_aload_n (pc' := 34) dX4_add_33 rfl rfl ?_
    refine v_getI (pc' := 37) 4 1 dX4_add_34 rfl (by decide) (by decide) rfl kf_X4_34 q1 ?_
    refine v_iload_n (pc' := 38) dX4_add_37 rfl rfl ?_
    obtain ⟨q9, T⟩ := T
    obtain ⟨q10, T⟩ := T
    refine v_iast (pc' := 39) dX4_add_38 rfl rfl q9 q10 ?_
    refine v_aload_n (pc' := 40) dX4_add_39 rfl rfl ?_
    refine v_getR (pc' := 43) 4 5 dX4_add_40 rfl (by decide) (by decide) rfl kf_X4_21 q1 ?_
    refine v_aload_n (pc' := 44) dX4_add_43 rfl rfl ?_
    refine v_getI (pc' := 47) 4 1 dX4_add_44 rfl (by decide) (by decide) rfl kf_X4_34 q1 ?_
    refine v_iload (pc' := 49) dX4_add_47 rfl rfl ?_
    obtain ⟨q11, T⟩ := T
    obtain ⟨q12, T⟩ := T
    refine v_iast (pc' := 50) dX4_add_49 rfl rfl q11 q12 ?_
    show V G mX4_add d 50 [.ref r0, .int x1, .int x2, .int x3, .int x4] [] (h.1, (upI (upI i7 (rH h r0 4) (i7 r0 1).toNatClampNeg x3) (rH h r0 5) ((upI i7 (rH h r0 4) (i7 r0 1).toNatClampNeg x3) r0 1).toNatClampNeg x4)) o h'
    obtain ⟨i13, e14⟩ : ∃ z : Nat → Nat → Int32, z = (upI (upI i7 (rH h r0 4) (i7 r0 1).toNatClampNeg x3) (rH h r0 5) ((upI i7 (rH h r0 4) (i7 r0 1).toNatClampNeg x3) r0 1).toNatClampNeg x4) := ⟨_, rfl⟩
    rw [← e14]
    have T := T i13 e14
    refine v_aload_n (pc' := 51) dX4_add_50 rfl rfl ?_
    refine v_dup (pc' := 52) dX4_add_51 rfl rfl ?_
    refine v_getI (pc' := 55) 4 1 dX4_add_52 rfl (by decide) (by decide) rfl kf_X4_34 q1 ?_
    refine v_iconst (pc' := 56) (v := 1) dX4_add_55 rfl kI_1 ?_
    refine v_iadd (pc' := 57) dX4_add_56 rfl ?_
    refine v_putI (pc' := 60) 4 1 dX4_add_57 rfl (by decide) (by decide) rfl rfl kf_X4_34 q1 ?_
    exact v_vret dX4_add_60 rfl T
theorem eX4_addEnd {G : GG} {d : Nat} {h : Hp} {o : OU} {h' : Hp} (r0 : Nat) (x1 : Int32) (hd : 1 ≤ d) (T : kH h r0 = 14 ∧ ((64 ≤ (h.2 r0 1) → (o = .inl none ∧ h' = h)) ∧ (¬ 64 ≤ (h.2 r0 1) → ((x1 < 0 → (o = .inl none ∧ h' = h)) ∧ (¬ x1 < 0 → (((h.2 r0 1) ≤ x1 → (o = .inl none ∧ h' = h)) ∧ (¬ (h.2 r0 1) ≤ x1 → kH h (rH h r0 7) = 1 ∧ vp_in x1 (lH h (rH h r0 7)) ∧ vp_in ((upI h.2 (rH h r0 7) x1.toNatClampNeg (h.2 r0 1)) r0 1) (lH h (rH h r0 7)) ∧ (∀ i8 : Nat → Nat → Int32, i8 = (upI (upI h.2 (rH h r0 7) x1.toNatClampNeg (h.2 r0 1)) (rH h r0 7) ((upI h.2 (rH h r0 7) x1.toNatClampNeg (h.2 r0 1)) r0 1).toNatClampNeg x1) → ∃ h10, VM G mX4_add (d - 1) [.ref r0, .int 13, .int 0, .int 0, .int 0] (h.1, i8) (.inl none) h10 ∧ (o = .inl none ∧ h' = h10))))))))) : VM G mX4_addEnd d [.ref r0, .int x1] h o h' := by
  refine V.toM rfl rfl (le_l rfl) (cat_all rfl) ?_
  show V G mX4_addEnd d 0 [.ref r0, .int x1] [] h o h'
  have hdd : d - 1 + 1 ≤ d := by omega
  refine v_aload_n (pc' := 1) dX4_addEnd_0 rfl rfl ?_
  obtain ⟨q1, T⟩ := T
  refine v_getI (pc' := 4) 4 1 dX4_addEnd_1 rfl (by decide) (by decide) rfl kf_X4_34 q1 ?_
  refine v_bipush (pc' := 6) (v := 64) dX4_addEnd_4 rfl kB_64 ?_
  refine v_icmp_ge (tgt := 50) (pc' := 9) dX4_addEnd_6 (by decide) rfl ⟨fun c2 => ?_, fun c2 => ?_⟩
  · have T := T.1 c2
    exact v_vret dX4_addEnd_50 rfl T
  · have T := T.2 c2
    refine v_iload_n (pc' := 10) dX4_addEnd_9 rfl rfl ?_
    refine v_if_lt (tgt := 50) (pc' := 13) dX4_addEnd_10 (by decide) rfl ⟨fun c3 => ?_, fun c3 => ?_⟩
    · have T := T.1 c3
      exact v_vret dX4_addEnd_50 rfl T
    · have T := T.2 c3
      refine v_iload_n (pc' := 14) dX4_addEnd_13 rfl rfl ?_
      refine v_aload_n (pc' := 15) dX4_addEnd_14 rfl rfl ?_
      refine v_getI (pc' := 18) 4 1 dX4_addEnd_15 rfl (by decide) (by decide) rfl kf_X4_34 q1 ?_
      refine v_icmp_ge (tgt := 50) (pc' := 21) dX4_addEnd_18 (by decide) rfl ⟨fun c4 => ?_, fun c4 => ?_⟩
      · have T := T.1 c4
        exact v_vret dX4_addEnd_50 rfl T
      · have T := T.2 c4
        refine v_aload_n (pc' := 22) dX4_addEnd_21 rfl rfl ?_
        refine v_getR (pc' := 25) 4 7 dX4_addEnd_22 rfl (by decide) (by decide) rfl kf_X4_27 q1 ?_
        refine v_iload_n (pc' := 26) dX4_addEnd_25 rfl rfl ?_
        refine v_aload_n (pc' := 27) dX4_addEnd_26 rfl rfl ?_
        refine v_getI (pc' := 30) 4 1 dX4_addEnd_27 rfl (by decide) (by decide) rfl kf_X4_34 q1 ?_
        obtain ⟨q5, T⟩ := T
        obtain ⟨q6, T⟩ := T
        refine v_iast (pc' := 31) dX4_addEnd_30 rfl rfl q5 q6 ?_
        refine v_aload_n (pc' := 32) dX4_addEnd_31 rfl rfl ?_
        refine v_getR (pc' := 35) 4 7 dX4_addEnd_32 rfl (by decide) (by decide) rfl kf_X4_27 q1 ?_
        refine v_aload_n (pc' := 36) dX4_addEnd_35 rfl rfl ?_
        refine v_getI (pc' := 39) 4 1 dX4_addEnd_36 rfl (by decide) (by decide) rfl kf_X4_34 q1 ?_
        refine v_iload_n (pc' := 40) dX4_addEnd_39 rfl rfl ?_
        obtain ⟨q7, T⟩ := T
        refine v_iast (pc' := 41) dX4_addEnd_40 rfl rfl q5 q7 ?_
        show V G mX4_addEnd d 41 [.ref r0, .int x1] [] (h.1, (upI (upI h.2 (rH h r0 7) x1.toNatClampNeg (h.2 r0 1)) (rH h r0 7) ((upI h.2 (rH h r0 7) x1.toNatClampNeg (h.2 r0 1)) r0 1).toNatClampNeg x1)) o h'
        obtain ⟨i8, e9⟩ : ∃ z : Nat → Nat → Int32, z = (upI (upI h.2 (rH h r0 7) x1.toNatClampNeg (h.2 r0 1)) (rH h r0 7) ((upI h.2 (rH h r0 7) x1.toNatClampNeg (h.2 r0 1)) r0 1).toNatClampNeg x1) := ⟨_, rfl⟩
        rw [← e9]
        have T := T i8 e9
        refine v_aload_n (pc' := 42) dX4_addEnd_41 rfl rfl ?_
        refine v_bipush (pc' := 44) (v := 13) dX4_addEnd_42 rfl kB_13 ?_
        refine v_iconst (pc' := 45) (v := 0) dX4_addEnd_44 rfl kI_0 ?_
        refine v_iconst (pc' := 46) (v := 0) dX4_addEnd_45 rfl kI_0 ?_
        refine v_iconst (pc' := 47) (v := 0) dX4_addEnd_46 rfl kI_0 ?_
        obtain ⟨h10, k11, T⟩ := T
        refine v_callV (pc' := 50) (M1 := mX4_add) (as := [.int 13, .int 0, .int 0, .int 0]) (r := r0) (rest := []) 4 dX4_addEnd_47 rfl ko_X4_37 kc_X4_add ki_X4_add ks_X4_add (by decide) (by decide) hdd rfl rfl (le_l rfl) q1 k11 ?_
        exact v_vret dX4_addEnd_50 rfl T
theorem eX4_afterAgain {G : GG} {d : Nat} {h : Hp} {o : OU} {h' : Hp} (r0 : Nat) (x1 : Int32) (T : kH h r0 = 14 ∧ kH h (rH h r0 3) = 1 ∧ vp_in x1 (lH h (rH h r0 3)) ∧ kH h (rH h r0 6) = 1 ∧ vp_in x1 (lH h (rH h r0 6)) ∧ ((¬ ((upI h.2 (rH h r0 6) x1.toNatClampNeg (h.2 (rH h r0 3) x1.toNatClampNeg)) (rH h r0 6) x1.toNatClampNeg) = 0 → (o = .inl (some (.int (x1 + 1))) ∧ h' = (h.1, (upI h.2 (rH h r0 6) x1.toNatClampNeg (h.2 (rH h r0 3) x1.toNatClampNeg))))) ∧ (((upI h.2 (rH h r0 6) x1.toNatClampNeg (h.2 (rH h r0 3) x1.toNatClampNeg)) (rH h r0 6) x1.toNatClampNeg) = 0 → kH h (rH h r0 7) = 1 ∧ vp_in x1 (lH h (rH h r0 7)) ∧ (o = .inl (some (.int (((upI h.2 (rH h r0 6) x1.toNatClampNeg (h.2 (rH h r0 3) x1.toNatClampNeg)) (rH h r0 7) x1.toNatClampNeg) + 1))) ∧ h' = (h.1, (upI h.2 (rH h r0 6) x1.toNatClampNeg (h.2 (rH h r0 3) x1.toNatClampNeg))))))) : VM G mX4_afterAgain d [.ref r0, .int x1] h o h' := by
  refine V.toM rfl rfl (le_l rfl) (cat_all rfl) ?_
  show V G mX4_afterAgain d 0 [.ref r0, .int x1] [] h o h'
  refine v_aload_n (pc' := 1) dX4_afterAgain_0 rfl rfl ?_
  obtain ⟨q1, T⟩ := T
  refine v_getR (pc' := 4) 4 6 dX4_afterAgain_1 rfl (by decide) (by decide) rfl kf_X4_24 q1 ?_
  refine v_iload_n (pc' := 5) dX4_afterAgain_4 rfl rfl ?_
  refine v_aload_n (pc' := 6) dX4_afterAgain_5 rfl rfl ?_
  refine v_getR (pc' := 9) 4 3 dX4_afterAgain_6 rfl (by decide) (by decide) rfl kf_X4_15 q1 ?_
  refine v_iload_n (pc' := 10) dX4_afterAgain_9 rfl rfl ?_
  obtain ⟨q2, T⟩ := T
  obtain ⟨q3, T⟩ := T
  refine v_iald (pc' := 11) dX4_afterAgain_10 rfl rfl q2 q3 ?_
  obtain ⟨q4, T⟩ := T
  obtain ⟨q5, T⟩ := T
  refine v_iast (pc' := 12) dX4_afterAgain_11 rfl rfl q4 q5 ?_
  refine v_aload_n (pc' := 13) dX4_afterAgain_12 rfl rfl ?_
  refine v_getR (pc' := 16) 4 6 dX4_afterAgain_13 rfl (by decide) (by decide) rfl kf_X4_24 q1 ?_
  refine v_iload_n (pc' := 17) dX4_afterAgain_16 rfl rfl ?_
  refine v_iald (pc' := 18) dX4_afterAgain_17 rfl rfl q4 q5 ?_
  refine v_if_ne (tgt := 32) (pc' := 21) dX4_afterAgain_18 (by decide) rfl ⟨fun c6 => ?_, fun c6 => ?_⟩
  · have T := T.1 c6
    refine v_iload_n (pc' := 33) dX4_afterAgain_32 rfl rfl ?_
    refine v_iconst (pc' := 34) (v := 1) dX4_afterAgain_33 rfl kI_1 ?_
    refine v_iadd (pc' := 35) dX4_afterAgain_34 rfl ?_
    exact v_iret dX4_afterAgain_35 rfl T
  · have T := T.2 c6
    refine v_aload_n (pc' := 22) dX4_afterAgain_21 rfl rfl ?_
    refine v_getR (pc' := 25) 4 7 dX4_afterAgain_22 rfl (by decide) (by decide) rfl kf_X4_27 q1 ?_
    refine v_iload_n (pc' := 26) dX4_afterAgain_25 rfl rfl ?_
    obtain ⟨q7, T⟩ := T
    obtain ⟨q8, T⟩ := T
    refine v_iald (pc' := 27) dX4_afterAgain_26 rfl rfl q7 q8 ?_
    refine v_iconst (pc' := 28) (v := 1) dX4_afterAgain_27 rfl kI_1 ?_
    refine v_iadd (pc' := 29) dX4_afterAgain_28 rfl ?_
    refine v_goto (pc' := 35) dX4_afterAgain_29 (by decide) ?_
    exact v_iret dX4_afterAgain_35 rfl T
theorem eX4_afterEnd {G : GG} {d : Nat} {h : Hp} {o : OU} {h' : Hp} (r0 : Nat) (x1 : Int32) (T : kH h r0 = 14 ∧ kH h (rH h r0 7) = 1 ∧ vp_in x1 (lH h (rH h r0 7)) ∧ kH h (rH h r0 6) = 1 ∧ vp_in (h.2 (rH h r0 7) x1.toNatClampNeg) (lH h (rH h r0 6)) ∧ (∀ i6 : Nat → Nat → Int32, i6 = (upI h.2 (rH h r0 6) (h.2 (rH h r0 7) x1.toNatClampNeg).toNatClampNeg ((h.2 (rH h r0 6) (h.2 (rH h r0 7) x1.toNatClampNeg).toNatClampNeg) - 1)) → (((i6 (rH h r0 6) (h.2 (rH h r0 7) x1.toNatClampNeg).toNatClampNeg) ≤ 0 → (o = .inl (some (.int (x1 + 1))) ∧ h' = (h.1, i6))) ∧ (¬ (i6 (rH h r0 6) (h.2 (rH h r0 7) x1.toNatClampNeg).toNatClampNeg) ≤ 0 → (o = .inl (some (.int ((h.2 (rH h r0 7) x1.toNatClampNeg) + 1))) ∧ h' = (h.1, i6)))))) : VM G mX4_afterEnd d [.ref r0, .int x1] h o h' := by
  refine V.toM rfl rfl (le_l rfl) (cat_all rfl) ?_
  show V G mX4_afterEnd d 0 [.ref r0, .int x1, uV] [] h o h'
  refine v_aload_n (pc' := 1) dX4_afterEnd_0 rfl rfl ?_
  obtain ⟨q1, T⟩ := T
  refine v_getR (pc' := 4) 4 7 dX4_afterEnd_1 rfl (by decide) (by decide) rfl kf_X4_27 q1 ?_
  refine v_iload_n (pc' := 5) dX4_afterEnd_4 rfl rfl ?_
  obtain ⟨q2, T⟩ := T
  obtain ⟨q3, T⟩ := T
  refine v_iald (pc' := 6) dX4_afterEnd_5 rfl rfl q2 q3 ?_
  refine v_istore_n (pc' := 7) (loc' := [.ref r0, .int x1, .int (h.2 (rH h r0 7) x1.toNatClampNeg)]) dX4_afterEnd_6 rfl (lt_l rfl) rfl ?_
  refine v_aload_n (pc' := 8) dX4_afterEnd_7 rfl rfl ?_
  refine v_getR (pc' := 11) 4 6 dX4_afterEnd_8 rfl (by decide) (by decide) rfl kf_X4_24 q1 ?_
  refine v_iload_n (pc' := 12) dX4_afterEnd_11 rfl rfl ?_
  refine v_dup2 (pc' := 13) dX4_afterEnd_12 rfl rfl rfl ?_
  obtain ⟨q4, T⟩ := T
  obtain ⟨q5, T⟩ := T
  refine v_iald (pc' := 14) dX4_afterEnd_13 rfl rfl q4 q5 ?_
  refine v_iconst (pc' := 15) (v := 1) dX4_afterEnd_14 rfl kI_1 ?_
  refine v_isub (pc' := 16) dX4_afterEnd_15 rfl ?_
  refine v_iast (pc' := 17) dX4_afterEnd_16 rfl rfl q4 q5 ?_
  show V G mX4_afterEnd d 17 [.ref r0, .int x1, .int (h.2 (rH h r0 7) x1.toNatClampNeg)] [] (h.1, (upI h.2 (rH h r0 6) (h.2 (rH h r0 7) x1.toNatClampNeg).toNatClampNeg ((h.2 (rH h r0 6) (h.2 (rH h r0 7) x1.toNatClampNeg).toNatClampNeg) - 1))) o h'
  obtain ⟨i6, e7⟩ : ∃ z : Nat → Nat → Int32, z = (upI h.2 (rH h r0 6) (h.2 (rH h r0 7) x1.toNatClampNeg).toNatClampNeg ((h.2 (rH h r0 6) (h.2 (rH h r0 7) x1.toNatClampNeg).toNatClampNeg) - 1)) := ⟨_, rfl⟩
  rw [← e7]
  have T := T i6 e7
  refine v_aload_n (pc' := 18) dX4_afterEnd_17 rfl rfl ?_
  refine v_getR (pc' := 21) 4 6 dX4_afterEnd_18 rfl (by decide) (by decide) rfl kf_X4_24 q1 ?_
  refine v_iload_n (pc' := 22) dX4_afterEnd_21 rfl rfl ?_
  refine v_iald (pc' := 23) dX4_afterEnd_22 rfl rfl q4 q5 ?_
  refine v_if_le (tgt := 32) (pc' := 26) dX4_afterEnd_23 (by decide) rfl ⟨fun c8 => ?_, fun c8 => ?_⟩
  · have T := T.1 c8
    refine v_iload_n (pc' := 33) dX4_afterEnd_32 rfl rfl ?_
    refine v_iconst (pc' := 34) (v := 1) dX4_afterEnd_33 rfl kI_1 ?_
    refine v_iadd (pc' := 35) dX4_afterEnd_34 rfl ?_
    exact v_iret dX4_afterEnd_35 rfl T
  · have T := T.2 c8
    refine v_iload_n (pc' := 27) dX4_afterEnd_26 rfl rfl ?_
    refine v_iconst (pc' := 28) (v := 1) dX4_afterEnd_27 rfl kI_1 ?_
    refine v_iadd (pc' := 29) dX4_afterEnd_28 rfl ?_
    refine v_goto (pc' := 35) dX4_afterEnd_29 (by decide) ?_
    exact v_iret dX4_afterEnd_35 rfl T
