theorem eX10_init {G : GG} {d : Nat} {h : Hp} {o : OU} {h' : Hp} (r0 : Nat) (hd : 1 ≤ d) (T : r0 ≠ 0 ∧ kH h r0 = 18 ∧ (∀ h3 : Hp, h3 = (nwH (h.1, (upI h.2 r0 3 (-1))) 1 600 600) → kH h3 r0 = 18 ∧ (∀ h6 : Hp, h6 = (sR h3 r0 9 (nH h)) → (∀ h8 : Hp, h8 = (nwH h6 1 4 4) → kH h8 r0 = 18 ∧ (∀ h11 : Hp, h11 = (sR h8 r0 10 (nH h6)) → (∀ h13 : Hp, h13 = (nwM h11 16 2) → kH h13 r0 = 18 ∧ (∀ h16 : Hp, h16 = (sR h13 r0 19 (nH h11)) → (∀ h18 : Hp, h18 = (nwM h16 16 2) → kH h18 r0 = 18 ∧ (∀ h21 : Hp, h21 = (sR h18 r0 20 (nH h16)) → (∀ h23 : Hp, h23 = (nwM h21 80 5) → kH h23 r0 = 18 ∧ (∀ h26 : Hp, h26 = (sR h23 r0 21 (nH h21)) → (∀ h28 : Hp, h28 = (nwH h26 1 3398 3398) → kH h28 r0 = 18 ∧ (∀ h31 : Hp, h31 = (sR h28 r0 22 (nH h26)) → (∀ h33 : Hp, h33 = (nwH h31 1 3398 3398) → kH h33 r0 = 18 ∧ (∀ h36 : Hp, h36 = (sR h33 r0 23 (nH h31)) → (∀ h38 : Hp, h38 = (nwM h36 16 3398) → kH h38 r0 = 18 ∧ (∀ h41 : Hp, h41 = (sR h38 r0 24 (nH h36)) → (∀ h43 : Hp, h43 = (nwM h41 3 57767) → kH h43 r0 = 18 ∧ (∀ h46 : Hp, h46 = (sR h43 r0 25 (nH h41)) → (∀ h48 : Hp, h48 = (nwM h46 5 3398) → kH h48 r0 = 18 ∧ (∀ h51 : Hp, h51 = (sR h48 r0 26 (nH h46)) → (∀ h53 : Hp, h53 = (nwH h51 3 200 200) → kH h53 r0 = 18 ∧ (∀ h56 : Hp, h56 = (sR h53 r0 27 (nH h51)) → (∀ h58 : Hp, h58 = (nwH h56 1 16 16) → kH h58 r0 = 18 ∧ (∀ h61 : Hp, h61 = (sR h58 r0 28 (nH h56)) → (∀ h63 : Hp, h63 = (nwH h61 1 200 200) → kH h63 r0 = 18 ∧ (∀ h66 : Hp, h66 = (sR h63 r0 29 (nH h61)) → (∀ h68 : Hp, h68 = (nwH h66 1 256 256) → kH h68 r0 = 18 ∧ (∀ h71 : Hp, h71 = (sR h68 r0 35 (nH h66)) → (∀ h73 : Hp, h73 = (nwH h71 1 5 5) → kH h73 r0 = 18 ∧ (∀ h76 : Hp, h76 = (sR h73 r0 37 (nH h71)) → kH h76 r0 = 18 ∧ ∃ h79, VM G mX10_beginsAnew (d - 1) [.ref r0] (h76.1, (upI (upI h76.2 r0 12 16) r0 18 0)) (.inl none) h79 ∧ (o = .inl none ∧ h' = h79)))))))))))))))))))))))))))))))) : VM G mX10_init d [.ref r0] h o h' := by
  refine V.toM rfl rfl (le_l rfl) (cat_all rfl) ?_
  show V G mX10_init d 0 [.ref r0] [] h o h'
  have hdd : d - 1 + 1 ≤ d := by omega
  refine v_aload_n (pc' := 1) dX10_init_0 rfl rfl ?_
  obtain ⟨q1, T⟩ := T
  refine v_objInit (pc' := 4) dX10_init_1 rfl km_X10_1 kx_oi kx_oc hd (le_l rfl) q1 ?_
  refine v_aload_n (pc' := 5) dX10_init_4 rfl rfl ?_
  refine v_iconst (pc' := 6) (v := (-1)) dX10_init_5 rfl kI_m1 ?_
  obtain ⟨q2, T⟩ := T
  refine v_putI (pc' := 9) 8 3 dX10_init_6 rfl (by decide) (by decide) rfl rfl kf_X10_9 q2 ?_
  refine v_aload_n (pc' := 10) dX10_init_9 rfl rfl ?_
  refine v_sipush (pc' := 13) (v := 600) dX10_init_10 rfl kS_600 ?_
  refine v_newa (pc' := 15) 1 (N := 600) dX10_init_13 rfl (by decide) rfl ka_int (by decide) (by decide) (by decide) ?_
  show V G mX10_init d 15 [.ref r0] [.ref (nH h), .ref r0] (nwH (h.1, (upI h.2 r0 3 (-1))) 1 600 600) o h'
  obtain ⟨h3, e4⟩ : ∃ z : Hp, z = (nwH (h.1, (upI h.2 r0 3 (-1))) 1 600 600) := ⟨_, rfl⟩
  rw [← e4]
  have T := T h3 e4
  obtain ⟨q5, T⟩ := T
  refine v_putF (pc' := 18) 8 9 dX10_init_15 rfl (by decide) (by decide) rfl rfl rfl rfl kf_X10_13 q5 ?_
  show V G mX10_init d 18 [.ref r0] [] (sR h3 r0 9 (nH h)) o h'
  obtain ⟨h6, e7⟩ : ∃ z : Hp, z = (sR h3 r0 9 (nH h)) := ⟨_, rfl⟩
  rw [← e7]
  have T := T h6 e7
  refine v_aload_n (pc' := 19) dX10_init_18 rfl rfl ?_
  refine v_iconst (pc' := 20) (v := 4) dX10_init_19 rfl kI_4 ?_
  refine v_newa (pc' := 22) 1 (N := 4) dX10_init_20 rfl (by decide) rfl ka_int (by decide) (by decide) (by decide) ?_
  show V G mX10_init d 22 [.ref r0] [.ref (nH h6), .ref r0] (nwH h6 1 4 4) o h'
  obtain ⟨h8, e9⟩ : ∃ z : Hp, z = (nwH h6 1 4 4) := ⟨_, rfl⟩
  rw [← e9]
  have T := T h8 e9
  obtain ⟨q10, T⟩ := T
  refine v_putF (pc' := 25) 8 10 dX10_init_22 rfl (by decide) (by decide) rfl rfl rfl rfl kf_X10_17 q10 ?_
  show V G mX10_init d 25 [.ref r0] [] (sR h8 r0 10 (nH h6)) o h'
  obtain ⟨h11, e12⟩ : ∃ z : Hp, z = (sR h8 r0 10 (nH h6)) := ⟨_, rfl⟩
  rw [← e12]
  have T := T h11 e12
  refine v_aload_n (pc' := 26) dX10_init_25 rfl rfl ?_
  refine v_bipush (pc' := 28) (v := 16) dX10_init_26 rfl kB_16 ?_
  refine v_iconst (pc' := 29) (v := 2) dX10_init_28 rfl kI_2 ?_
  refine v_mna (pc' := 33) (N := 16) (K := 2) dX10_init_29 rfl kk_X10_20 ka_int (by decide) (by decide) (by decide) (by decide) (by decide) (by decide) ?_
  show V G mX10_init d 33 [.ref r0] [.ref (nH h11), .ref r0] (nwM h11 16 2) o h'
  obtain ⟨h13, e14⟩ : ∃ z : Hp, z = (nwM h11 16 2) := ⟨_, rfl⟩
  rw [← e14]
  have T := T h13 e14
  obtain ⟨q15, T⟩ := T
  refine v_putF (pc' := 36) 8 19 dX10_init_33 rfl (by decide) (by decide) rfl rfl rfl rfl kf_X10_22 q15 ?_
  show V G mX10_init d 36 [.ref r0] [] (sR h13 r0 19 (nH h11)) o h'
  obtain ⟨h16, e17⟩ : ∃ z : Hp, z = (sR h13 r0 19 (nH h11)) := ⟨_, rfl⟩
  rw [← e17]
  have T := T h16 e17
  refine v_aload_n (pc' := 37) dX10_init_36 rfl rfl ?_
  refine v_bipush (pc' := 39) (v := 16) dX10_init_37 rfl kB_16 ?_
  refine v_iconst (pc' := 40) (v := 2) dX10_init_39 rfl kI_2 ?_
  refine v_mna (pc' := 44) (N := 16) (K := 2) dX10_init_40 rfl kk_X10_20 ka_int (by decide) (by decide) (by decide) (by decide) (by decide) (by decide) ?_
  show V G mX10_init d 44 [.ref r0] [.ref (nH h16), .ref r0] (nwM h16 16 2) o h'
  obtain ⟨h18, e19⟩ : ∃ z : Hp, z = (nwM h16 16 2) := ⟨_, rfl⟩
  rw [← e19]
  have T := T h18 e19
  obtain ⟨q20, T⟩ := T
  refine v_putF (pc' := 47) 8 20 dX10_init_44 rfl (by decide) (by decide) rfl rfl rfl rfl kf_X10_25 q20 ?_
  show V G mX10_init d 47 [.ref r0] [] (sR h18 r0 20 (nH h16)) o h'
  obtain ⟨h21, e22⟩ : ∃ z : Hp, z = (sR h18 r0 20 (nH h16)) := ⟨_, rfl⟩
  rw [← e22]
  have T := T h21 e22
  refine v_aload_n (pc' := 48) dX10_init_47 rfl rfl ?_
  refine v_bipush (pc' := 50) (v := 80) dX10_init_48 rfl kB_80 ?_
  refine v_iconst (pc' := 51) (v := 5) dX10_init_50 rfl kI_5 ?_
  refine v_mna (pc' := 55) (N := 80) (K := 5) dX10_init_51 rfl kk_X10_20 ka_int (by decide) (by decide) (by decide) (by decide) (by decide) (by decide) ?_
  show V G mX10_init d 55 [.ref r0] [.ref (nH h21), .ref r0] (nwM h21 80 5) o h'
  obtain ⟨h23, e24⟩ : ∃ z : Hp, z = (nwM h21 80 5) := ⟨_, rfl⟩
  rw [← e24]
  have T := T h23 e24
  obtain ⟨q25, T⟩ := T
  refine v_putF (pc' := 58) 8 21 dX10_init_55 rfl (by decide) (by decide) rfl rfl rfl rfl kf_X10_28 q25 ?_
  show V G mX10_init d 58 [.ref r0] [] (sR h23 r0 21 (nH h21)) o h'
  obtain ⟨h26, e27⟩ : ∃ z : Hp, z = (sR h23 r0 21 (nH h21)) := ⟨_, rfl⟩
  rw [← e27]
  have T := T h26 e27
  refine v_aload_n (pc' := 59) dX10_init_58 rfl rfl ?_
  refine v_sipush (pc' := 62) (v := 3398) dX10_init_59 rfl kS_3398 ?_
  refine v_newa (pc' := 64) 1 (N := 3398) dX10_init_62 rfl (by decide) rfl ka_int (by decide) (by decide) (by decide) ?_
  show V G mX10_init d 64 [.ref r0] [.ref (nH h26), .ref r0] (nwH h26 1 3398 3398) o h'
  obtain ⟨h28, e29⟩ : ∃ z : Hp, z = (nwH h26 1 3398 3398) := ⟨_, rfl⟩
  rw [← e29]
  have T := T h28 e29
  obtain ⟨q30, T⟩ := T
  refine v_putF (pc' := 67) 8 22 dX10_init_64 rfl (by decide) (by decide) rfl rfl rfl rfl kf_X10_31 q30 ?_
  show V G mX10_init d 67 [.ref r0] [] (sR h28 r0 22 (nH h26)) o h'
  obtain ⟨h31, e32⟩ : ∃ z : Hp, z = (sR h28 r0 22 (nH h26)) := ⟨_, rfl⟩
  rw [← e32]
  have T := T h31 e32
  refine v_aload_n (pc' := 68) dX10_init_67 rfl rfl ?_
  refine v_sipush (pc' := 71) (v := 3398) dX10_init_68 rfl kS_3398 ?_
  refine v_newa (pc' := 73) 1 (N := 3398) dX10_init_71 rfl (by decide) rfl ka_int (by decide) (by decide) (by decide) ?_
  show V G mX10_init d 73 [.ref r0] [.ref (nH h31), .ref r0] (nwH h31 1 3398 3398) o h'
  obtain ⟨h33, e34⟩ : ∃ z : Hp, z = (nwH h31 1 3398 3398) := ⟨_, rfl⟩
  rw [← e34]
  have T := T h33 e34
  obtain ⟨q35, T⟩ := T
  refine v_putF (pc' := 76) 8 23 dX10_init_73 rfl (by decide) (by decide) rfl rfl rfl rfl kf_X10_34 q35 ?_
  show V G mX10_init d 76 [.ref r0] [] (sR h33 r0 23 (nH h31)) o h'
  obtain ⟨h36, e37⟩ : ∃ z : Hp, z = (sR h33 r0 23 (nH h31)) := ⟨_, rfl⟩
  rw [← e37]
  have T := T h36 e37
  refine v_aload_n (pc' := 77) dX10_init_76 rfl rfl ?_
  refine v_bipush (pc' := 79) (v := 16) dX10_init_77 rfl kB_16 ?_
  refine v_sipush (pc' := 82) (v := 3398) dX10_init_79 rfl kS_3398 ?_
  refine v_mna (pc' := 86) (N := 16) (K := 3398) dX10_init_82 rfl kk_X10_20 ka_int (by decide) (by decide) (by decide) (by decide) (by decide) (by decide) ?_
  show V G mX10_init d 86 [.ref r0] [.ref (nH h36), .ref r0] (nwM h36 16 3398) o h'
  obtain ⟨h38, e39⟩ : ∃ z : Hp, z = (nwM h36 16 3398) := ⟨_, rfl⟩
  rw [← e39]
  have T := T h38 e39
  obtain ⟨q40, T⟩ := T
  refine v_putF (pc' := 89) 8 24 dX10_init_86 rfl (by decide) (by decide) rfl rfl rfl rfl kf_X10_37 q40 ?_
  show V G mX10_init d 89 [.ref r0] [] (sR h38 r0 24 (nH h36)) o h'
  obtain ⟨h41, e42⟩ : ∃ z : Hp, z = (sR h38 r0 24 (nH h36)) := ⟨_, rfl⟩
  rw [← e42]
  have T := T h41 e42
  refine v_aload_n (pc' := 90) dX10_init_89 rfl rfl ?_
  refine v_iconst (pc' := 91) (v := 3) dX10_init_90 rfl kI_3 ?_
  refine v_ldc (pc' := 93) (v := 57767) dX10_init_91 rfl kv_X10_40 ?_
  refine v_mna (pc' := 97) (N := 3) (K := 57767) dX10_init_93 rfl kk_X10_20 ka_int (by decide) (by decide) (by decide) (by decide) (by decide) (by decide) ?_
  show V G mX10_init d 97 [.ref r0] [.ref (nH h41), .ref r0] (nwM h41 3 57767) o h'
  obtain ⟨h43, e44⟩ : ∃ z : Hp, z = (nwM h41 3 57767) := ⟨_, rfl⟩
  rw [← e44]
  have T := T h43 e44
  obtain ⟨q45, T⟩ := T
  refine v_putF (pc' := 100) 8 25 dX10_init_97 rfl (by decide) (by decide) rfl rfl rfl rfl kf_X10_41 q45 ?_
  show V G mX10_init d 100 [.ref r0] [] (sR h43 r0 25 (nH h41)) o h'
  obtain ⟨h46, e47⟩ : ∃ z : Hp, z = (sR h43 r0 25 (nH h41)) := ⟨_, rfl⟩
  rw [← e47]
  have T := T h46 e47
  refine v_aload_n (pc' := 101) dX10_init_100 rfl rfl ?_
  refine v_iconst (pc' := 102) (v := 5) dX10_init_101 rfl kI_5 ?_
  refine v_sipush (pc' := 105) (v := 3398) dX10_init_102 rfl kS_3398 ?_
  refine v_mna (pc' := 109) (N := 5) (K := 3398) dX10_init_105 rfl kk_X10_20 ka_int (by decide) (by decide) (by decide) (by decide) (by decide) (by decide) ?_
  show V G mX10_init d 109 [.ref r0] [.ref (nH h46), .ref r0] (nwM h46 5 3398) o h'
  obtain ⟨h48, e49⟩ : ∃ z : Hp, z = (nwM h46 5 3398) := ⟨_, rfl⟩
  rw [← e49]
  have T := T h48 e49
  obtain ⟨q50, T⟩ := T
  refine v_putF (pc' := 112) 8 26 dX10_init_109 rfl (by decide) (by decide) rfl rfl rfl rfl kf_X10_44 q50 ?_
  show V G mX10_init d 112 [.ref r0] [] (sR h48 r0 26 (nH h46)) o h'
  obtain ⟨h51, e52⟩ : ∃ z : Hp, z = (sR h48 r0 26 (nH h46)) := ⟨_, rfl⟩
  rw [← e52]
  have T := T h51 e52
  refine v_aload_n (pc' := 113) dX10_init_112 rfl rfl ?_
  refine v_sipush (pc' := 116) (v := 200) dX10_init_113 rfl kS_200 ?_
  refine v_newa (pc' := 118) 3 (N := 200) dX10_init_116 rfl (by decide) rfl ka_boolean (by decide) (by decide) (by decide) ?_
  show V G mX10_init d 118 [.ref r0] [.ref (nH h51), .ref r0] (nwH h51 3 200 200) o h'
  obtain ⟨h53, e54⟩ : ∃ z : Hp, z = (nwH h51 3 200 200) := ⟨_, rfl⟩
  rw [← e54]
  have T := T h53 e54
  obtain ⟨q55, T⟩ := T
  refine v_putF (pc' := 121) 8 27 dX10_init_118 rfl (by decide) (by decide) rfl rfl rfl rfl kf_X10_47 q55 ?_
  show V G mX10_init d 121 [.ref r0] [] (sR h53 r0 27 (nH h51)) o h'
  obtain ⟨h56, e57⟩ : ∃ z : Hp, z = (sR h53 r0 27 (nH h51)) := ⟨_, rfl⟩
  rw [← e57]
  have T := T h56 e57
  refine v_aload_n (pc' := 122) dX10_init_121 rfl rfl ?_
  refine v_bipush (pc' := 124) (v := 16) dX10_init_122 rfl kB_16 ?_
  refine v_newa (pc' := 126) 1 (N := 16) dX10_init_124 rfl (by decide) rfl ka_int (by decide) (by decide) (by decide) ?_
  show V G mX10_init d 126 [.ref r0] [.ref (nH h56), .ref r0] (nwH h56 1 16 16) o h'
  obtain ⟨h58, e59⟩ : ∃ z : Hp, z = (nwH h56 1 16 16) := ⟨_, rfl⟩
  rw [← e59]
  have T := T h58 e59
  obtain ⟨q60, T⟩ := T
  refine v_putF (pc' := 129) 8 28 dX10_init_126 rfl (by decide) (by decide) rfl rfl rfl rfl kf_X10_51 q60 ?_
  show V G mX10_init d 129 [.ref r0] [] (sR h58 r0 28 (nH h56)) o h'
  obtain ⟨h61, e62⟩ : ∃ z : Hp, z = (sR h58 r0 28 (nH h56)) := ⟨_, rfl⟩
  rw [← e62]
  have T := T h61 e62
  refine v_aload_n (pc' := 130) dX10_init_129 rfl rfl ?_
  refine v_sipush (pc' := 133) (v := 200) dX10_init_130 rfl kS_200 ?_
  refine v_newa (pc' := 135) 1 (N := 200) dX10_init_133 rfl (by decide) rfl ka_int (by decide) (by decide) (by decide) ?_
  show V G mX10_init d 135 [.ref r0] [.ref (nH h61), .ref r0] (nwH h61 1 200 200) o h'
  obtain ⟨h63, e64⟩ : ∃ z : Hp, z = (nwH h61 1 200 200) := ⟨_, rfl⟩
  rw [← e64]
  have T := T h63 e64
  obtain ⟨q65, T⟩ := T
  refine v_putF (pc' := 138) 8 29 dX10_init_135 rfl (by decide) (by decide) rfl rfl rfl rfl kf_X10_54 q65 ?_
  show V G mX10_init d 138 [.ref r0] [] (sR h63 r0 29 (nH h61)) o h'
  obtain ⟨h66, e67⟩ : ∃ z : Hp, z = (sR h63 r0 29 (nH h61)) := ⟨_, rfl⟩
  rw [← e67]
  have T := T h66 e67
  refine v_aload_n (pc' := 139) dX10_init_138 rfl rfl ?_
  refine v_sipush (pc' := 142) (v := 256) dX10_init_139 rfl kS_256 ?_
  refine v_newa (pc' := 144) 1 (N := 256) dX10_init_142 rfl (by decide) rfl ka_int (by decide) (by decide) (by decide) ?_
  show V G mX10_init d 144 [.ref r0] [.ref (nH h66), .ref r0] (nwH h66 1 256 256) o h'
  obtain ⟨h68, e69⟩ : ∃ z : Hp, z = (nwH h66 1 256 256) := ⟨_, rfl⟩
  rw [← e69]
  have T := T h68 e69
  obtain ⟨q70, T⟩ := T
  refine v_putF (pc' := 147) 8 35 dX10_init_144 rfl (by decide) (by decide) rfl rfl rfl rfl kf_X10_57 q70 ?_
  show V G mX10_init d 147 [.ref r0] [] (sR h68 r0 35 (nH h66)) o h'
  obtain ⟨h71, e72⟩ : ∃ z : Hp, z = (sR h68 r0 35 (nH h66)) := ⟨_, rfl⟩
  rw [← e72]
  have T := T h71 e72
  refine v_aload_n (pc' := 148) dX10_init_147 rfl rfl ?_
  refine v_iconst (pc' := 149) (v := 5) dX10_init_148 rfl kI_5 ?_
  refine v_newa (pc' := 151) 1 (N := 5) dX10_init_149 rfl (by decide) rfl ka_int (by decide) (by decide) (by decide) ?_
  show V G mX10_init d 151 [.ref r0] [.ref (nH h71), .ref r0] (nwH h71 1 5 5) o h'
  obtain ⟨h73, e74⟩ : ∃ z : Hp, z = (nwH h71 1 5 5) := ⟨_, rfl⟩
  rw [← e74]
  have T := T h73 e74
  obtain ⟨q75, T⟩ := T
  refine v_putF (pc' := 154) 8 37 dX10_init_151 rfl (by decide) (by decide) rfl rfl rfl rfl kf_X10_60 q75 ?_
  show V G mX10_init d 154 [.ref r0] [] (sR h73 r0 37 (nH h71)) o h'
  obtain ⟨h76, e77⟩ : ∃ z : Hp, z = (sR h73 r0 37 (nH h71)) := ⟨_, rfl⟩
  rw [← e77]
  have T := T h76 e77
  refine v_aload_n (pc' := 155) dX10_init_154 rfl rfl ?_
  refine v_bipush (pc' := 157) (v := 16) dX10_init_155 rfl kB_16 ?_
  obtain ⟨q78, T⟩ := T
  refine v_putI (pc' := 160) 8 12 dX10_init_157 rfl (by decide) (by decide) rfl rfl kf_X10_63 q78 ?_
  refine v_aload_n (pc' := 161) dX10_init_160 rfl rfl ?_
  refine v_iconst (pc' := 162) (v := 0) dX10_init_161 rfl kI_0 ?_
  refine v_putI (pc' := 165) 8 18 dX10_init_162 rfl (by decide) (by decide) rfl rfl kf_X10_66 q78 ?_
  refine v_aload_n (pc' := 166) dX10_init_165 rfl rfl ?_
  obtain ⟨h79, k80, T⟩ := T
  refine v_callV (pc' := 169) (M1 := mX10_beginsAnew) (as := []) (r := r0) (rest := []) 8 dX10_init_166 rfl ko_X10_69 kc_X10_beginsAnew ki_X10_beginsAnew ks_X10_beginsAnew (by decide) (by decide) hdd rfl rfl (le_l rfl) q78 k80 ?_
  exact v_vret dX10_init_169 rfl T
