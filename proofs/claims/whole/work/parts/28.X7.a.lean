theorem dX7_init_0 : decode cX7_init 0 = .ok (.aload_n 0, 1) := by decide +kernel
theorem dX7_init_1 : decode cX7_init 1 = .ok (.invokespecial 3, 3) := by decide +kernel
theorem dX7_init_4 : decode cX7_init 4 = .ok (.aload_n 0, 1) := by decide +kernel
theorem dX7_init_5 : decode cX7_init 5 = .ok (.iload_n 1, 1) := by decide +kernel
theorem dX7_init_6 : decode cX7_init 6 = .ok (.putfield 9, 3) := by decide +kernel
theorem dX7_init_9 : decode cX7_init 9 = .ok (.return_, 1) := by decide +kernel
theorem dX7_drawn_0 : decode cX7_drawn 0 = .ok (.aload_n 0, 1) := by decide +kernel
theorem dX7_drawn_1 : decode cX7_drawn 1 = .ok (.aload_n 0, 1) := by decide +kernel
theorem dX7_drawn_2 : decode cX7_drawn 2 = .ok (.getfield 9, 3) := by decide +kernel
theorem dX7_drawn_5 : decode cX7_drawn 5 = .ok (.ldc 15, 2) := by decide +kernel
theorem dX7_drawn_7 : decode cX7_drawn 7 = .ok (.imul, 1) := by decide +kernel
theorem dX7_drawn_8 : decode cX7_drawn 8 = .ok (.sipush 12345, 3) := by decide +kernel
theorem dX7_drawn_11 : decode cX7_drawn 11 = .ok (.iadd, 1) := by decide +kernel
theorem dX7_drawn_12 : decode cX7_drawn 12 = .ok (.putfield 9, 3) := by decide +kernel
theorem dX7_drawn_15 : decode cX7_drawn 15 = .ok (.iload_n 1, 1) := by decide +kernel
theorem dX7_drawn_16 : decode cX7_drawn 16 = .ok (.ifCond .gt 7, 3) := by decide +kernel
theorem dX7_drawn_19 : decode cX7_drawn 19 = .ok (.iconst 0, 1) := by decide +kernel
theorem dX7_drawn_20 : decode cX7_drawn 20 = .ok (.goto 16, 3) := by decide +kernel
theorem dX7_drawn_23 : decode cX7_drawn 23 = .ok (.aload_n 0, 1) := by decide +kernel
theorem dX7_drawn_24 : decode cX7_drawn 24 = .ok (.getfield 9, 3) := by decide +kernel
theorem dX7_drawn_27 : decode cX7_drawn 27 = .ok (.bipush 16, 2) := by decide +kernel
theorem dX7_drawn_29 : decode cX7_drawn 29 = .ok (.iushr, 1) := by decide +kernel
theorem dX7_drawn_30 : decode cX7_drawn 30 = .ok (.sipush 32767, 3) := by decide +kernel
theorem dX7_drawn_33 : decode cX7_drawn 33 = .ok (.iand, 1) := by decide +kernel
theorem dX7_drawn_34 : decode cX7_drawn 34 = .ok (.iload_n 1, 1) := by decide +kernel
theorem dX7_drawn_35 : decode cX7_drawn 35 = .ok (.irem, 1) := by decide +kernel
theorem dX7_drawn_36 : decode cX7_drawn 36 = .ok (.ireturn, 1) := by decide +kernel
theorem dX7_drawStep_0 : decode cX7_drawStep 0 = .ok (.aload_n 0, 1) := by decide +kernel
theorem dX7_drawStep_1 : decode cX7_drawStep 1 = .ok (.bipush 8, 2) := by decide +kernel
theorem dX7_drawStep_3 : decode cX7_drawStep 3 = .ok (.invokevirtual 16, 3) := by decide +kernel
theorem dX7_drawStep_6 : decode cX7_drawStep 6 = .ok (.istore_n 2, 1) := by decide +kernel
theorem dX7_drawStep_7 : decode cX7_drawStep 7 = .ok (.aload_n 0, 1) := by decide +kernel
theorem dX7_drawStep_8 : decode cX7_drawStep 8 = .ok (.iconst 0, 1) := by decide +kernel
theorem dX7_drawStep_9 : decode cX7_drawStep 9 = .ok (.putfield 20, 3) := by decide +kernel
theorem dX7_drawStep_12 : decode cX7_drawStep 12 = .ok (.iload_n 2, 1) := by decide +kernel
theorem dX7_drawStep_13 : decode cX7_drawStep 13 = .ok (.iconst 2, 1) := by decide +kernel
theorem dX7_drawStep_14 : decode cX7_drawStep 14 = .ok (.if_icmp .gt 38, 3) := by decide +kernel
theorem dX7_drawStep_17 : decode cX7_drawStep 17 = .ok (.aload_n 0, 1) := by decide +kernel
theorem dX7_drawStep_18 : decode cX7_drawStep 18 = .ok (.iload_n 2, 1) := by decide +kernel
theorem dX7_drawStep_19 : decode cX7_drawStep 19 = .ok (.iconst 2, 1) := by decide +kernel
theorem dX7_drawStep_20 : decode cX7_drawStep 20 = .ok (.if_icmp .ne 8, 3) := by decide +kernel
theorem dX7_drawStep_23 : decode cX7_drawStep 23 = .ok (.bipush 6, 2) := by decide +kernel
theorem dX7_drawStep_25 : decode cX7_drawStep 25 = .ok (.goto 4, 3) := by decide +kernel
theorem dX7_drawStep_28 : decode cX7_drawStep 28 = .ok (.iconst 0, 1) := by decide +kernel
theorem dX7_drawStep_29 : decode cX7_drawStep 29 = .ok (.putfield 23, 3) := by decide +kernel
theorem dX7_drawStep_32 : decode cX7_drawStep 32 = .ok (.aload_n 0, 1) := by decide +kernel
theorem dX7_drawStep_33 : decode cX7_drawStep 33 = .ok (.iconst 0, 1) := by decide +kernel
theorem dX7_drawStep_34 : decode cX7_drawStep 34 = .ok (.putfield 26, 3) := by decide +kernel
theorem dX7_drawStep_37 : decode cX7_drawStep 37 = .ok (.aload_n 0, 1) := by decide +kernel
theorem dX7_drawStep_38 : decode cX7_drawStep 38 = .ok (.iconst 1, 1) := by decide +kernel
theorem dX7_drawStep_39 : decode cX7_drawStep 39 = .ok (.aload_n 0, 1) := by decide +kernel
theorem dX7_drawStep_40 : decode cX7_drawStep 40 = .ok (.bipush 9, 2) := by decide +kernel
theorem dX7_drawStep_42 : decode cX7_drawStep 42 = .ok (.invokevirtual 16, 3) := by decide +kernel
theorem dX7_drawStep_45 : decode cX7_drawStep 45 = .ok (.iadd, 1) := by decide +kernel
theorem dX7_drawStep_46 : decode cX7_drawStep 46 = .ok (.putfield 20, 3) := by decide +kernel
theorem dX7_drawStep_49 : decode cX7_drawStep 49 = .ok (.goto 74, 3) := by decide +kernel
theorem dX7_drawStep_52 : decode cX7_drawStep 52 = .ok (.iload_n 2, 1) := by decide +kernel
theorem dX7_drawStep_53 : decode cX7_drawStep 53 = .ok (.iconst 3, 1) := by decide +kernel
theorem dX7_drawStep_54 : decode cX7_drawStep 54 = .ok (.if_icmp .ne 31, 3) := by decide +kernel
theorem dX7_drawStep_57 : decode cX7_drawStep 57 = .ok (.aload_n 0, 1) := by decide +kernel
theorem dX7_drawStep_58 : decode cX7_drawStep 58 = .ok (.iconst 3, 1) := by decide +kernel
theorem dX7_drawStep_59 : decode cX7_drawStep 59 = .ok (.putfield 23, 3) := by decide +kernel
theorem dX7_drawStep_62 : decode cX7_drawStep 62 = .ok (.aload_n 0, 1) := by decide +kernel
theorem dX7_drawStep_63 : decode cX7_drawStep 63 = .ok (.aload_n 0, 1) := by decide +kernel
theorem dX7_drawStep_64 : decode cX7_drawStep 64 = .ok (.bipush 12, 2) := by decide +kernel
theorem dX7_drawStep_66 : decode cX7_drawStep 66 = .ok (.invokevirtual 16, 3) := by decide +kernel
theorem dX7_drawStep_69 : decode cX7_drawStep 69 = .ok (.putfield 26, 3) := by decide +kernel
theorem dX7_drawStep_72 : decode cX7_drawStep 72 = .ok (.aload_n 0, 1) := by decide +kernel
theorem dX7_drawStep_73 : decode cX7_drawStep 73 = .ok (.aload_n 0, 1) := by decide +kernel
theorem dX7_drawStep_74 : decode cX7_drawStep 74 = .ok (.bipush 100, 2) := by decide +kernel
theorem dX7_drawStep_76 : decode cX7_drawStep 76 = .ok (.invokevirtual 16, 3) := by decide +kernel
theorem dX7_drawStep_79 : decode cX7_drawStep 79 = .ok (.putfield 20, 3) := by decide +kernel
theorem dX7_drawStep_82 : decode cX7_drawStep 82 = .ok (.goto 41, 3) := by decide +kernel
theorem dX7_drawStep_85 : decode cX7_drawStep 85 = .ok (.iload_n 2, 1) := by decide +kernel
theorem dX7_drawStep_86 : decode cX7_drawStep 86 = .ok (.iconst 4, 1) := by decide +kernel
theorem dX7_drawStep_87 : decode cX7_drawStep 87 = .ok (.if_icmp .ne 21, 3) := by decide +kernel
theorem dX7_drawStep_90 : decode cX7_drawStep 90 = .ok (.aload_n 0, 1) := by decide +kernel
theorem dX7_drawStep_91 : decode cX7_drawStep 91 = .ok (.iconst 5, 1) := by decide +kernel
theorem dX7_drawStep_92 : decode cX7_drawStep 92 = .ok (.putfield 23, 3) := by decide +kernel
theorem dX7_drawStep_95 : decode cX7_drawStep 95 = .ok (.aload_n 0, 1) := by decide +kernel
theorem dX7_drawStep_96 : decode cX7_drawStep 96 = .ok (.aload_n 0, 1) := by decide +kernel
theorem dX7_drawStep_97 : decode cX7_drawStep 97 = .ok (.bipush 12, 2) := by decide +kernel
theorem dX7_drawStep_99 : decode cX7_drawStep 99 = .ok (.invokevirtual 16, 3) := by decide +kernel
theorem dX7_drawStep_102 : decode cX7_drawStep 102 = .ok (.putfield 26, 3) := by decide +kernel
theorem dX7_drawStep_105 : decode cX7_drawStep 105 = .ok (.goto 18, 3) := by decide +kernel
theorem dX7_drawStep_108 : decode cX7_drawStep 108 = .ok (.aload_n 0, 1) := by decide +kernel
theorem dX7_drawStep_109 : decode cX7_drawStep 109 = .ok (.bipush 8, 2) := by decide +kernel
theorem dX7_drawStep_111 : decode cX7_drawStep 111 = .ok (.putfield 23, 3) := by decide +kernel
theorem dX7_drawStep_114 : decode cX7_drawStep 114 = .ok (.aload_n 0, 1) := by decide +kernel
theorem dX7_drawStep_115 : decode cX7_drawStep 115 = .ok (.aload_n 0, 1) := by decide +kernel
theorem dX7_drawStep_116 : decode cX7_drawStep 116 = .ok (.iload_n 1, 1) := by decide +kernel
theorem dX7_drawStep_117 : decode cX7_drawStep 117 = .ok (.invokevirtual 16, 3) := by decide +kernel
theorem dX7_drawStep_120 : decode cX7_drawStep 120 = .ok (.putfield 26, 3) := by decide +kernel
theorem dX7_drawStep_123 : decode cX7_drawStep 123 = .ok (.return_, 1) := by decide +kernel
theorem eX7_init {G : GG} {d : Nat} {h : Hp} {o : OU} {h' : Hp} (r0 : Nat) (x1 : Int32) (hd : 1 ≤ d) (T : r0 ≠ 0 ∧ kH h r0 = 17 ∧ (o = .inl none ∧ h' = (h.1, (upI h.2 r0 0 x1)))) : VM G mX7_init d [.ref r0, .int x1] h o h' := by
  refine V.toM rfl rfl (le_l rfl) (cat_all rfl) ?_
  show V G mX7_init d 0 [.ref r0, .int x1] [] h o h'
  have hdd : d - 1 + 1 ≤ d := by omega
  refine v_aload_n (pc' := 1) dX7_init_0 rfl rfl ?_
  obtain ⟨q1, T⟩ := T
  refine v_objInit (pc' := 4) dX7_init_1 rfl km_X7_3 kx_oi kx_oc hd (le_l rfl) q1 ?_
  refine v_aload_n (pc' := 5) dX7_init_4 rfl rfl ?_
  refine v_iload_n (pc' := 6) dX7_init_5 rfl rfl ?_
  obtain ⟨q2, T⟩ := T
  refine v_putI (pc' := 9) 7 0 dX7_init_6 rfl (by decide) (by decide) rfl rfl kf_X7_9 q2 ?_
  exact v_vret dX7_init_9 rfl T
theorem eX7_drawn {G : GG} {d : Nat} {h : Hp} {o : OU} {h' : Hp} (r0 : Nat) (x1 : Int32) (T : kH h r0 = 17 ∧ ((0 < x1 → ¬ x1 = 0 ∧ (o = .inl (some (.int (((ushr ((upI h.2 r0 0 (((h.2 r0 0) * 1103515245) + 12345)) r0 0) 16) &&& 32767) - ((ushr ((upI h.2 r0 0 (((h.2 r0 0) * 1103515245) + 12345)) r0 0) 16) &&& 32767) / x1 * x1))) ∧ h' = (h.1, (upI h.2 r0 0 (((h.2 r0 0) * 1103515245) + 12345))))) ∧ (¬ 0 < x1 → (o = .inl (some (.int 0)) ∧ h' = (h.1, (upI h.2 r0 0 (((h.2 r0 0) * 1103515245) + 12345))))))) : VM G mX7_drawn d [.ref r0, .int x1] h o h' := by
  refine V.toM rfl rfl (le_l rfl) (cat_all rfl) ?_
  show V G mX7_drawn d 0 [.ref r0, .int x1] [] h o h'
  refine v_aload_n (pc' := 1) dX7_drawn_0 rfl rfl ?_
  refine v_aload_n (pc' := 2) dX7_drawn_1 rfl rfl ?_
  obtain ⟨q1, T⟩ := T
  refine v_getI (pc' := 5) 7 0 dX7_drawn_2 rfl (by decide) (by decide) rfl kf_X7_9 q1 ?_
  refine v_ldc (pc' := 7) (v := 1103515245) dX7_drawn_5 rfl kv_X7_15 ?_
  refine v_imul (pc' := 8) dX7_drawn_7 rfl ?_
  refine v_sipush (pc' := 11) (v := 12345) dX7_drawn_8 rfl kS_12345 ?_
  refine v_iadd (pc' := 12) dX7_drawn_11 rfl ?_
  refine v_putI (pc' := 15) 7 0 dX7_drawn_12 rfl (by decide) (by decide) rfl rfl kf_X7_9 q1 ?_
  refine v_iload_n (pc' := 16) dX7_drawn_15 rfl rfl ?_
  refine v_if_gt (tgt := 23) (pc' := 19) dX7_drawn_16 (by decide) rfl ⟨fun c2 => ?_, fun c2 => ?_⟩
  · have T := T.1 c2
    refine v_aload_n (pc' := 24) dX7_drawn_23 rfl rfl ?_
    refine v_getI (pc' := 27) 7 0 dX7_drawn_24 rfl (by decide) (by decide) rfl kf_X7_9 q1 ?_
    refine v_bipush (pc' := 29) (v := 16) dX7_drawn_27 rfl kB_16 ?_
    refine v_iushr (pc' := 30) dX7_drawn_29 rfl ?_
    refine v_sipush (pc' := 33) (v := 32767) dX7_drawn_30 rfl kS_32767 ?_
    refine v_iand (pc' := 34) dX7_drawn_33 rfl ?_
    refine v_iload_n (pc' := 35) dX7_drawn_34 rfl rfl ?_
    obtain ⟨q3, T⟩ := T
    refine v_irem (pc' := 36) dX7_drawn_35 rfl q3 ?_
    exact v_iret dX7_drawn_36 rfl T
  · have T := T.2 c2
    refine v_iconst (pc' := 20) (v := 0) dX7_drawn_19 rfl kI_0 ?_
    refine v_goto (pc' := 36) dX7_drawn_20 (by decide) ?_
    exact v_iret dX7_drawn_36 rfl T
theorem eX7_drawStep {G : GG} {d : Nat} {h : Hp} {o : OU} {h' : Hp} (r0 : Nat) (x1 : Int32) (hd : 1 ≤ d) (T : kH h r0 = 17 ∧ ∃ z2 h1, VM G mX7_drawn (d - 1) [.ref r0, .int 8] h (.inl (some (.int z2))) h1 ∧ kH h1 r0 = 17 ∧ ((2 < z2 → ((¬ z2 = 3 → ((¬ z2 = 4 → ∃ z10 h9, VM G mX7_drawn (d - 1) [.ref r0, .int x1] (h1.1, (upI (upI h1.2 r0 3 0) r0 1 8)) (.inl (some (.int z10))) h9 ∧ kH h9 r0 = 17 ∧ (o = .inl none ∧ h' = (h9.1, (upI h9.2 r0 2 z10)))) ∧ (z2 = 4 → ∃ z14 h13, VM G mX7_drawn (d - 1) [.ref r0, .int 12] (h1.1, (upI (upI h1.2 r0 3 0) r0 1 5)) (.inl (some (.int z14))) h13 ∧ kH h13 r0 = 17 ∧ (o = .inl none ∧ h' = (h13.1, (upI h13.2 r0 2 z14)))))) ∧ (z2 = 3 → ∃ z18 h17, VM G mX7_drawn (d - 1) [.ref r0, .int 12] (h1.1, (upI (upI h1.2 r0 3 0) r0 1 3)) (.inl (some (.int z18))) h17 ∧ kH h17 r0 = 17 ∧ ∃ z22 h21, VM G mX7_drawn (d - 1) [.ref r0, .int 100] (h17.1, (upI h17.2 r0 2 z18)) (.inl (some (.int z22))) h21 ∧ kH h21 r0 = 17 ∧ (o = .inl none ∧ h' = (h21.1, (upI h21.2 r0 3 z22)))))) ∧ (¬ 2 < z2 → ((¬ z2 = 2 → ∃ z27 h26, VM G mX7_drawn (d - 1) [.ref r0, .int 9] (h1.1, (upI (upI (upI h1.2 r0 3 0) r0 1 0) r0 2 0)) (.inl (some (.int z27))) h26 ∧ kH h26 r0 = 17 ∧ (o = .inl none ∧ h' = (h26.1, (upI h26.2 r0 3 (1 + z27))))) ∧ (z2 = 2 → ∃ z31 h30, VM G mX7_drawn (d - 1) [.ref r0, .int 9] (h1.1, (upI (upI (upI h1.2 r0 3 0) r0 1 6) r0 2 0)) (.inl (some (.int z31))) h30 ∧ kH h30 r0 = 17 ∧ (o = .inl none ∧ h' = (h30.1, (upI h30.2 r0 3 (1 + z31))))))))) : VM G mX7_drawStep d [.ref r0, .int x1] h o h' := by
  refine V.toM rfl rfl (le_l rfl) (cat_all rfl) ?_
  show V G mX7_drawStep d 0 [.ref r0, .int x1, uV] [] h o h'
  have hdd : d - 1 + 1 ≤ d := by omega
  refine v_aload_n (pc' := 1) dX7_drawStep_0 rfl rfl ?_
  refine v_bipush (pc' := 3) (v := 8) dX7_drawStep_1 rfl kB_8 ?_
  obtain ⟨q4, T⟩ := T
  obtain ⟨z2, h1, k3, T⟩ := T
  refine v_callV (pc' := 6) (M1 := mX7_drawn) (as := [.int 8]) (r := r0) (rest := []) 7 dX7_drawStep_3 rfl ko_X7_16 kc_X7_drawn ki_X7_drawn ks_X7_drawn (by decide) (by decide) hdd rfl rfl (le_l rfl) q4 k3 ?_
  refine v_istore_n (pc' := 7) (loc' := [.ref r0, .int x1, .int z2]) dX7_drawStep_6 rfl (lt_l rfl) rfl ?_
  refine v_aload_n (pc' := 8) dX7_drawStep_7 rfl rfl ?_
  refine v_iconst (pc' := 9) (v := 0) dX7_drawStep_8 rfl kI_0 ?_
  obtain ⟨q5, T⟩ := T
  refine v_putI (pc' := 12) 7 3 dX7_drawStep_9 rfl (by decide) (by decide) rfl rfl kf_X7_20 q5 ?_
  refine v_iload_n (pc' := 13) dX7_drawStep_12 rfl rfl ?_
  refine v_iconst (pc' := 14) (v := 2) dX7_drawStep_13 rfl kI_2 ?_
  refine v_icmp_gt (tgt := 52) (pc' := 17) dX7_drawStep_14 (by decide) rfl ⟨fun c6 => ?_, fun c6 => ?_⟩
  · have T := T.1 c6
    refine v_iload_n (pc' := 53) dX7_drawStep_52 rfl rfl ?_
    refine v_iconst (pc' := 54) (v := 3) dX7_drawStep_53 rfl kI_3 ?_
    refine v_icmp_ne (tgt := 85) (pc' := 57) dX7_drawStep_54 (by decide) rfl ⟨fun c7 => ?_, fun c7 => ?_⟩
    · have T := T.1 c7
      refine v_iload_n (pc' := 86) dX7_drawStep_85 rfl rfl ?_
      refine v_iconst (pc' := 87) (v := 4) dX7_drawStep_86 rfl kI_4 ?_
      refine v_icmp_ne (tgt := 108) (pc' := 90) dX7_drawStep_87 (by decide) rfl ⟨fun c8 => ?_, fun c8 => ?_⟩
      · have T := T.1 c8
        refine v_aload_n (pc' := 109) dX7_drawStep_108 rfl rfl ?_
        refine v_bipush (pc' := 111) (v := 8) dX7_drawStep_109 rfl kB_8 ?_
        refine v_putI (pc' := 114) 7 1 dX7_drawStep_111 rfl (by decide) (by decide) rfl rfl kf_X7_23 q5 ?_
        refine v_aload_n (pc' := 115) dX7_drawStep_114 rfl rfl ?_
        refine v_aload_n (pc' := 116) dX7_drawStep_115 rfl rfl ?_
        refine v_iload_n (pc' := 117) dX7_drawStep_116 rfl rfl ?_
        obtain ⟨z10, h9, k11, T⟩ := T
        refine v_callV (pc' := 120) (M1 := mX7_drawn) (as := [.int x1]) (r := r0) (rest := [.ref r0]) 7 dX7_drawStep_117 rfl ko_X7_16 kc_X7_drawn ki_X7_drawn ks_X7_drawn (by decide) (by decide) hdd rfl rfl (le_l rfl) q5 k11 ?_
        obtain ⟨q12, T⟩ := T
        refine v_putI (pc' := 123) 7 2 dX7_drawStep_120 rfl (by decide) (by decide) rfl rfl kf_X7_26 q12 ?_
        exact v_vret dX7_drawStep_123 rfl T
      · have T := T.2 c8
        refine v_aload_n (pc' := 91) dX7_drawStep_90 rfl rfl ?_
        refine v_iconst (pc' := 92) (v := 5) dX7_drawStep_91 rfl kI_5 ?_
        refine v_putI (pc' := 95) 7 1 dX7_drawStep_92 rfl (by decide) (by decide) rfl rfl kf_X7_23 q5 ?_
        refine v_aload_n (pc' := 96) dX7_drawStep_95 rfl rfl ?_
        refine v_aload_n (pc' := 97) dX7_drawStep_96 rfl rfl ?_
        refine v_bipush (pc' := 99) (v := 12) dX7_drawStep_97 rfl kB_12 ?_
        obtain ⟨z14, h13, k15, T⟩ := T
        refine v_callV (pc' := 102) (M1 := mX7_drawn) (as := [.int 12]) (r := r0) (rest := [.ref r0]) 7 dX7_drawStep_99 rfl ko_X7_16 kc_X7_drawn ki_X7_drawn ks_X7_drawn (by decide) (by decide) hdd rfl rfl (le_l rfl) q5 k15 ?_
        obtain ⟨q16, T⟩ := T
        refine v_putI (pc' := 105) 7 2 dX7_drawStep_102 rfl (by decide) (by decide) rfl rfl kf_X7_26 q16 ?_
        refine v_goto (pc' := 123) dX7_drawStep_105 (by decide) ?_
        exact v_vret dX7_drawStep_123 rfl T
    · have T := T.2 c7
      refine v_aload_n (pc' := 58) dX7_drawStep_57 rfl rfl ?_
      refine v_iconst (pc' := 59) (v := 3) dX7_drawStep_58 rfl kI_3 ?_
      refine v_putI (pc' := 62) 7 1 dX7_drawStep_59 rfl (by decide) (by decide) rfl rfl kf_X7_23 q5 ?_
      refine v_aload_n (pc' := 63) dX7_drawStep_62 rfl rfl ?_
      refine v_aload_n (pc' := 64) dX7_drawStep_63 rfl rfl ?_
      refine v_bipush (pc' := 66) (v := 12) dX7_drawStep_64 rfl kB_12 ?_
      obtain ⟨z18, h17, k19, T⟩ := T
      refine v_callV (pc' := 69) (M1 := mX7_drawn) (as := [.int 12]) (r := r0) (rest := [.ref r0]) 7 dX7_drawStep_66 rfl ko_X7_16 kc_X7_drawn ki_X7_drawn ks_X7_drawn (by decide) (by decide) hdd rfl rfl (le_l rfl) q5 k19 ?_
      obtain ⟨q20, T⟩ := T
      refine v_putI (pc' := 72) 7 2 dX7_drawStep_69 rfl (by decide) (by decide) rfl rfl kf_X7_26 q20 ?_
      refine v_aload_n (pc' := 73) dX7_drawStep_72 rfl rfl ?_
      refine v_aload_n (pc' := 74) dX7_drawStep_73 rfl rfl ?_
      refine v_bipush (pc' := 76) (v := 100) dX7_drawStep_74 rfl kB_100 ?_
      obtain ⟨z22, h21, k23, T⟩ := T
      refine v_callV (pc' := 79) (M1 := mX7_drawn) (as := [.int 100]) (r := r0) (rest := [.ref r0]) 7 dX7_drawStep_76 rfl ko_X7_16 kc_X7_drawn ki_X7_drawn ks_X7_drawn (by decide) (by decide) hdd rfl rfl (le_l rfl) q20 k23 ?_
      obtain ⟨q24, T⟩ := T
      refine v_putI (pc' := 82) 7 3 dX7_drawStep_79 rfl (by decide) (by decide) rfl rfl kf_X7_20 q24 ?_
      refine v_goto (pc' := 123) dX7_drawStep_82 (by decide) ?_
      exact v_vret dX7_drawStep_123 rfl T
  · have T := T.2 c6
    refine v_aload_n (pc' := 18) dX7_drawStep_17 rfl rfl ?_
    refine v_iload_n (pc' := 19) dX7_drawStep_18 rfl rfl ?_
    refine v_iconst (pc' := 20) (v := 2) dX7_drawStep_19 rfl kI_2 ?_
    refine v_icmp_ne (tgt := 28) (pc' := 23) dX7_drawStep_20 (by decide) rfl ⟨fun c25 => ?_, fun c25 => ?_⟩
    · have T := T.1 c25
      refine v_iconst (pc' := 29) (v := 0) dX7_drawStep_28 rfl kI_0 ?_
      refine v_putI (pc' := 32) 7 1 dX7_drawStep_29 rfl (by decide) (by decide) rfl rfl kf_X7_23 q5 ?_
      refine v_aload_n (pc' := 33) dX7_drawStep_32 rfl rfl ?_
      refine v_iconst (pc' := 34) (v := 0) dX7_drawStep_33 rfl kI_0 ?_
      refine v_putI (pc' := 37) 7 2 dX7_drawStep_34 rfl (by decide) (by decide) rfl rfl kf_X7_26 q5 ?_
      refine v_aload_n (pc' := 38) dX7_drawStep_37 rfl rfl ?_
      refine v_iconst (pc' := 39) (v := 1) dX7_drawStep_38 rfl kI_1 ?_
      refine v_aload_n (pc' := 40) dX7_drawStep_39 rfl rfl ?_
      refine v_bipush (pc' := 42) (v := 9) dX7_drawStep_40 rfl kB_9 ?_
      obtain ⟨z27, h26, k28, T⟩ := T
      refine v_callV (pc' := 45) (M1 := mX7_drawn) (as := [.int 9]) (r := r0) (rest := [.int 1, .ref r0]) 7 dX7_drawStep_42 rfl ko_X7_16 kc_X7_drawn ki_X7_drawn ks_X7_drawn (by decide) (by decide) hdd rfl rfl (le_l rfl) q5 k28 ?_
      refine v_iadd (pc' := 46) dX7_drawStep_45 rfl ?_
      obtain ⟨q29, T⟩ := T
      refine v_putI (pc' := 49) 7 3 dX7_drawStep_46 rfl (by decide) (by decide) rfl rfl kf_X7_20 q29 ?_
      refine v_goto (pc' := 123) dX7_drawStep_49 (by decide) ?_
      exact v_vret dX7_drawStep_123 rfl T
    · have T := T.2 c25
      refine v_bipush (pc' := 25) (v := 6) dX7_drawStep_23 rfl kB_6 ?_
      refine v_goto (pc' := 29) dX7_drawStep_25 (by decide) ?_
      refine v_putI (pc' := 32) 7 1 dX7_drawStep_29 rfl (by decide) (by decide) rfl rfl kf_X7_23 q5 ?_
      refine v_aload_n (pc' := 33) dX7_drawStep_32 rfl rfl ?_
      refine v_iconst (pc' := 34) (v := 0) dX7_drawStep_33 rfl kI_0 ?_
      refine v_putI (pc' := 37) 7 2 dX7_drawStep_34 rfl (by decide) (by decide) rfl rfl kf_X7_26 q5 ?_
      refine v_aload_n (pc' := 38) dX7_drawStep_37 rfl rfl ?_
      refine v_iconst (pc' := 39) (v := 1) dX7_drawStep_38 rfl kI_1 ?_
      refine v_aload_n (pc' := 40) dX7_drawStep_39 rfl rfl ?_
      refine v_bipush (pc' := 42) (v := 9) dX7_drawStep_40 rfl kB_9 ?_
      obtain ⟨z31, h30, k32, T⟩ := T
      refine v_callV (pc' := 45) (M1 := mX7_drawn) (as := [.int 9]) (r := r0) (rest := [.int 1, .ref r0]) 7 dX7_drawStep_42 rfl ko_X7_16 kc_X7_drawn ki_X7_drawn ks_X7_drawn (by decide) (by decide) hdd rfl rfl (le_l rfl) q5 k32 ?_
      refine v_iadd (pc' := 46) dX7_drawStep_45 rfl ?_
      obtain ⟨q33, T⟩ := T
      refine v_putI (pc' := 49) 7 3 dX7_drawStep_46 rfl (by decide) (by decide) rfl rfl kf_X7_20 q33 ?_
      refine v_goto (pc' := 123) dX7_drawStep_49 (by decide) ?_
      exact v_vret dX7_drawStep_123 rfl T
