theorem eX9_testChange {G : GG} {d : Nat} {h : Hp} {o : OU} {h' : Hp} (r0 : Nat) (x1 : Int32) (hd8 : 8 ≤ d) (T : ((x1 < 0 → kH h r0 = 19 ∧ kH h (rH h r0 10) = 1 ∧ vp_in 3 (lH h (rH h r0 10)) ∧ (o = .inr xIO ∧ h' = nwH (h.1, (upI h.2 (rH h r0 10) 3 ((h.2 (rH h r0 10) 3) + 1))) 30 0 6)) ∧ (¬ x1 < 0 → ((x1 < 256 → kH h r0 = 19 ∧ kH h (rH h r0 0) = 15 ∧ ((x1 < (h.2 (rH h r0 0) 2) → (o = .inl none ∧ h' = h)) ∧ (¬ x1 < (h.2 (rH h r0 0) 2) → kH h (rH h r0 10) = 1 ∧ vp_in 2 (lH h (rH h r0 10)) ∧ (o = .inr xNP ∧ h' = nwH (h.1, (upI h.2 (rH h r0 10) 2 ((h.2 (rH h r0 10) 2) + 1))) 30 0 8)))) ∧ (¬ x1 < 256 → kH h r0 = 19 ∧ kH h (rH h r0 10) = 1 ∧ vp_in 3 (lH h (rH h r0 10)) ∧ (o = .inr xIO ∧ h' = nwH (h.1, (upI h.2 (rH h r0 10) 3 ((h.2 (rH h r0 10) 3) + 1))) 30 0 6)))))) : VM G mX9_testChange d [.ref r0, .int x1] h o h' := by
  refine V.toM rfl rfl (le_l rfl) (cat_all rfl) ?_
  show V G mX9_testChange d 0 [.ref r0, .int x1] [] h o h'
  refine v_iload_n (pc' := 1) dX9_testChange_0 rfl rfl ?_
  refine v_if_lt (tgt := 11) (pc' := 4) dX9_testChange_1 (by decide) rfl ⟨fun c1 => ?_, fun c1 => ?_⟩
  · have T := T.1 c1
    refine v_aload_n (pc' := 12) dX9_testChange_11 rfl rfl ?_
    obtain ⟨q2, T⟩ := T
    refine v_getR (pc' := 15) 9 10 dX9_testChange_12 rfl (by decide) (by decide) rfl kf_X9_68 q2 ?_
    refine v_iconst (pc' := 16) (v := 3) dX9_testChange_15 rfl kI_3 ?_
    refine v_dup2 (pc' := 17) dX9_testChange_16 rfl rfl rfl ?_
    obtain ⟨q3, T⟩ := T
    obtain ⟨q4, T⟩ := T
    refine v_iald (pc' := 18) dX9_testChange_17 rfl kN_3 q3 q4 ?_
    refine v_iconst (pc' := 19) (v := 1) dX9_testChange_18 rfl kI_1 ?_
    refine v_iadd (pc' := 20) dX9_testChange_19 rfl ?_
    refine v_iast (pc' := 21) dX9_testChange_20 rfl kN_3 q3 q4 ?_
    exact v_throw xIO "no such change" rfl rfl dX9_testChange_21 dX9_testChange_24 (Or.inr ⟨dX9_testChange_25, dX9_testChange_28, dX9_testChange_31⟩) kk_X9_411 kn_xIO (by decide) (by decide) (by decide) okT_IO hd8 (le_l rfl) T
  · have T := T.2 c1
    refine v_iload_n (pc' := 5) dX9_testChange_4 rfl rfl ?_
    refine v_sipush (pc' := 8) (v := 256) dX9_testChange_5 rfl kS_256 ?_
    refine v_icmp_lt (tgt := 32) (pc' := 11) dX9_testChange_8 (by decide) rfl ⟨fun c5 => ?_, fun c5 => ?_⟩
    · have T := T.1 c5
      refine v_iload_n (pc' := 33) dX9_testChange_32 rfl rfl ?_
      refine v_aload_n (pc' := 34) dX9_testChange_33 rfl rfl ?_
      obtain ⟨q6, T⟩ := T
      refine v_getR (pc' := 37) 9 0 dX9_testChange_34 rfl (by decide) (by decide) rfl kf_X9_12 q6 ?_
      obtain ⟨q7, T⟩ := T
      refine v_getI (pc' := 40) 5 2 dX9_testChange_37 rfl (by decide) (by decide) rfl kf_X9_198 q7 ?_
      refine v_icmp_lt (tgt := 64) (pc' := 43) dX9_testChange_40 (by decide) rfl ⟨fun c8 => ?_, fun c8 => ?_⟩
      · have T := T.1 c8
        exact v_vret dX9_testChange_64 rfl T
      · have T := T.2 c8
        refine v_aload_n (pc' := 44) dX9_testChange_43 rfl rfl ?_
        refine v_getR (pc' := 47) 9 10 dX9_testChange_44 rfl (by decide) (by decide) rfl kf_X9_68 q6 ?_
        refine v_iconst (pc' := 48) (v := 2) dX9_testChange_47 rfl kI_2 ?_
        refine v_dup2 (pc' := 49) dX9_testChange_48 rfl rfl rfl ?_
        obtain ⟨q9, T⟩ := T
        obtain ⟨q10, T⟩ := T
        refine v_iald (pc' := 50) dX9_testChange_49 rfl kN_2 q9 q10 ?_
        refine v_iconst (pc' := 51) (v := 1) dX9_testChange_50 rfl kI_1 ?_
        refine v_iadd (pc' := 52) dX9_testChange_51 rfl ?_
        refine v_iast (pc' := 53) dX9_testChange_52 rfl kN_2 q9 q10 ?_
        exact v_throwN "not so many changes" rfl rfl dX9_testChange_53 dX9_testChange_56 dX9_testChange_57 dX9_testChange_60 dX9_testChange_63 kk_X9_420 kn_xNP (by decide) hd8 (le_l rfl) T
    · have T := T.2 c5
      refine v_aload_n (pc' := 12) dX9_testChange_11 rfl rfl ?_
      obtain ⟨q11, T⟩ := T
      refine v_getR (pc' := 15) 9 10 dX9_testChange_12 rfl (by decide) (by decide) rfl kf_X9_68 q11 ?_
      refine v_iconst (pc' := 16) (v := 3) dX9_testChange_15 rfl kI_3 ?_
      refine v_dup2 (pc' := 17) dX9_testChange_16 rfl rfl rfl ?_
      obtain ⟨q12, T⟩ := T
      obtain ⟨q13, T⟩ := T
      refine v_iald (pc' := 18) dX9_testChange_17 rfl kN_3 q12 q13 ?_
      refine v_iconst (pc' := 19) (v := 1) dX9_testChange_18 rfl kI_1 ?_
      refine v_iadd (pc' := 20) dX9_testChange_19 rfl ?_
      refine v_iast (pc' := 21) dX9_testChange_20 rfl kN_3 q12 q13 ?_
      exact v_throw xIO "no such change" rfl rfl dX9_testChange_21 dX9_testChange_24 (Or.inr ⟨dX9_testChange_25, dX9_testChange_28, dX9_testChange_31⟩) kk_X9_411 kn_xIO (by decide) (by decide) (by decide) okT_IO hd8 (le_l rfl) T
theorem eX9_testNode {G : GG} {d : Nat} {h : Hp} {o : OU} {h' : Hp} (r0 : Nat) (x1 : Int32) (hd8 : 8 ≤ d) (T : ((x1 < 0 → kH h r0 = 19 ∧ kH h (rH h r0 10) = 1 ∧ vp_in 0 (lH h (rH h r0 10)) ∧ (o = .inr xNS ∧ h' = nwH (h.1, (upI h.2 (rH h r0 10) 0 ((h.2 (rH h r0 10) 0) + 1))) 30 0 6)) ∧ (¬ x1 < 0 → ((x1 < 12 → (o = .inl none ∧ h' = h)) ∧ (¬ x1 < 12 → kH h r0 = 19 ∧ kH h (rH h r0 10) = 1 ∧ vp_in 0 (lH h (rH h r0 10)) ∧ (o = .inr xNS ∧ h' = nwH (h.1, (upI h.2 (rH h r0 10) 0 ((h.2 (rH h r0 10) 0) + 1))) 30 0 6)))))) : VM G mX9_testNode d [.ref r0, .int x1] h o h' := by
  refine V.toM rfl rfl (le_l rfl) (cat_all rfl) ?_
  show V G mX9_testNode d 0 [.ref r0, .int x1] [] h o h'
  refine v_iload_n (pc' := 1) dX9_testNode_0 rfl rfl ?_
  refine v_if_lt (tgt := 10) (pc' := 4) dX9_testNode_1 (by decide) rfl ⟨fun c1 => ?_, fun c1 => ?_⟩
  · have T := T.1 c1
    refine v_aload_n (pc' := 11) dX9_testNode_10 rfl rfl ?_
    obtain ⟨q2, T⟩ := T
    refine v_getR (pc' := 14) 9 10 dX9_testNode_11 rfl (by decide) (by decide) rfl kf_X9_68 q2 ?_
    refine v_iconst (pc' := 15) (v := 0) dX9_testNode_14 rfl kI_0 ?_
    refine v_dup2 (pc' := 16) dX9_testNode_15 rfl rfl rfl ?_
    obtain ⟨q3, T⟩ := T
    obtain ⟨q4, T⟩ := T
    refine v_iald (pc' := 17) dX9_testNode_16 rfl kN_0 q3 q4 ?_
    refine v_iconst (pc' := 18) (v := 1) dX9_testNode_17 rfl kI_1 ?_
    refine v_iadd (pc' := 19) dX9_testNode_18 rfl ?_
    refine v_iast (pc' := 20) dX9_testNode_19 rfl kN_0 q3 q4 ?_
    exact v_throwS "no such node" rfl rfl dX9_testNode_20 dX9_testNode_23 dX9_testNode_24 dX9_testNode_27 dX9_testNode_30 kk_X9_406 kn_xNS (by decide) hd8 (le_l rfl) T
  · have T := T.2 c1
    refine v_iload_n (pc' := 5) dX9_testNode_4 rfl rfl ?_
    refine v_bipush (pc' := 7) (v := 12) dX9_testNode_5 rfl kB_12 ?_
    refine v_icmp_lt (tgt := 31) (pc' := 10) dX9_testNode_7 (by decide) rfl ⟨fun c5 => ?_, fun c5 => ?_⟩
    · have T := T.1 c5
      exact v_vret dX9_testNode_31 rfl T
    · have T := T.2 c5
      refine v_aload_n (pc' := 11) dX9_testNode_10 rfl rfl ?_
      obtain ⟨q6, T⟩ := T
      refine v_getR (pc' := 14) 9 10 dX9_testNode_11 rfl (by decide) (by decide) rfl kf_X9_68 q6 ?_
      refine v_iconst (pc' := 15) (v := 0) dX9_testNode_14 rfl kI_0 ?_
      refine v_dup2 (pc' := 16) dX9_testNode_15 rfl rfl rfl ?_
      obtain ⟨q7, T⟩ := T
      obtain ⟨q8, T⟩ := T
      refine v_iald (pc' := 17) dX9_testNode_16 rfl kN_0 q7 q8 ?_
      refine v_iconst (pc' := 18) (v := 1) dX9_testNode_17 rfl kI_1 ?_
      refine v_iadd (pc' := 19) dX9_testNode_18 rfl ?_
      refine v_iast (pc' := 20) dX9_testNode_19 rfl kN_0 q7 q8 ?_
      exact v_throwS "no such node" rfl rfl dX9_testNode_20 dX9_testNode_23 dX9_testNode_24 dX9_testNode_27 dX9_testNode_30 kk_X9_406 kn_xNS (by decide) hd8 (le_l rfl) T
theorem eX9_find {G : GG} {d : Nat} {h : Hp} {o : OU} {h' : Hp} (r0 : Nat) (x1 : Int32) (x2 : Int32) (x3 : Int32) (hd : 1 ≤ d) (hd8 : 8 ≤ d) (T : kH h r0 = 19 ∧ ((∃ h1, VM G mX9_testNode (d - 1) [.ref r0, .int x1] h (.inl none) h1 ∧ ((x2 < 1 → kH h1 r0 = 19 ∧ kH h1 (rH h1 r0 10) = 1 ∧ vp_in 1 (lH h1 (rH h1 r0 10)) ∧ (o = .inr xIA ∧ h' = nwH (h1.1, (upI h1.2 (rH h1 r0 10) 1 ((h1.2 (rH h1 r0 10) 1) + 1))) 30 0 6)) ∧ (¬ x2 < 1 → ((x2 ≤ 99 → kH h1 r0 = 19 ∧ ((∃ h9, VM G mX9_testWhere (d - 1) [.ref r0, .int x3] h1 (.inl none) h9 ∧ kH h9 r0 = 19 ∧ ∃ z14 h13, VM G mX8_entryNamed (d - 1) [.ref (rH h9 r0 0), .int x3, .int x1, .int x2] h9 (.inl (some (.int z14))) h13 ∧ ((¬ z14 = (-1) → kH h13 r0 = 19 ∧ ∃ z19 h18, VM G mX8_nodeOfEntry (d - 1) [.ref (rH h13 r0 0), .int x3, .int z14] h13 (.inl (some (.int z19))) h18 ∧ (o = .inl (some (.int z19)) ∧ h' = h18)) ∧ (z14 = (-1) → (o = .inl (some (.int (-1))) ∧ h' = h13)))) ∨ ∃ E, o = .inr E ∧ VM G mX9_testWhere (d - 1) [.ref r0, .int x3] h1 (.inr E) h')) ∧ (¬ x2 ≤ 99 → kH h1 r0 = 19 ∧ kH h1 (rH h1 r0 10) = 1 ∧ vp_in 1 (lH h1 (rH h1 r0 10)) ∧ (o = .inr xIA ∧ h' = nwH (h1.1, (upI h1.2 (rH h1 r0 10) 1 ((h1.2 (rH h1 r0 10) 1) + 1))) 30 0 6)))))) ∨ ∃ E, o = .inr E ∧ VM G mX9_testNode (d - 1) [.ref r0, .int x1] h (.inr E) h')) : VM G mX9_find d [.ref r0, .int x1, .int x2, .int x3] h o h' := by
  refine V.toM rfl rfl (le_l rfl) (cat_all rfl) ?_
  show V G mX9_find d 0 [.ref r0, .int x1, .int x2, .int x3, uV] [] h o h'
  have hdd : d - 1 + 1 ≤ d := by omega
  refine v_aload_n (pc' := 1) dX9_find_0 rfl rfl ?_
  refine v_iload_n (pc' := 2) dX9_find_1 rfl rfl ?_
  obtain ⟨q3, T⟩ := T
  rcases T with T | ⟨E, rfl, k2⟩
  · obtain ⟨h1, k2, T⟩ := T
    refine v_callV (pc' := 5) (M1 := mX9_testNode) (as := [.int x1]) (r := r0) (rest := []) 9 dX9_find_2 rfl ko_X9_233 kc_X9_testNode ki_X9_testNode ks_X9_testNode (by decide) (by decide) hdd rfl rfl (le_l rfl) q3 k2 ?_
    refine v_iload_n (pc' := 6) dX9_find_5 rfl rfl ?_
    refine v_iconst (pc' := 7) (v := 1) dX9_find_6 rfl kI_1 ?_
    refine v_icmp_lt (tgt := 16) (pc' := 10) dX9_find_7 (by decide) rfl ⟨fun c4 => ?_, fun c4 => ?_⟩
    · have T := T.1 c4
      refine v_aload_n (pc' := 17) dX9_find_16 rfl rfl ?_
      obtain ⟨q5, T⟩ := T
      refine v_getR (pc' := 20) 9 10 dX9_find_17 rfl (by decide) (by decide) rfl kf_X9_68 q5 ?_
      refine v_iconst (pc' := 21) (v := 1) dX9_find_20 rfl kI_1 ?_
      refine v_dup2 (pc' := 22) dX9_find_21 rfl rfl rfl ?_
      obtain ⟨q6, T⟩ := T
      obtain ⟨q7, T⟩ := T
      refine v_iald (pc' := 23) dX9_find_22 rfl kN_1 q6 q7 ?_
      refine v_iconst (pc' := 24) (v := 1) dX9_find_23 rfl kI_1 ?_
      refine v_iadd (pc' := 25) dX9_find_24 rfl ?_
      refine v_iast (pc' := 26) dX9_find_25 rfl kN_1 q6 q7 ?_
      exact v_throw xIA "no such name" rfl rfl dX9_find_26 dX9_find_29 (Or.inl ⟨dX9_find_30, dX9_find_32, dX9_find_35⟩) kk_X9_182 kn_xIA (by decide) (by decide) (by decide) okT_IA hd8 (le_l rfl) T
    · have T := T.2 c4
      refine v_iload_n (pc' := 11) dX9_find_10 rfl rfl ?_
      refine v_bipush (pc' := 13) (v := 99) dX9_find_11 rfl kB_99 ?_
      refine v_icmp_le (tgt := 36) (pc' := 16) dX9_find_13 (by decide) rfl ⟨fun c8 => ?_, fun c8 => ?_⟩
      · have T := T.1 c8
        refine v_aload_n (pc' := 37) dX9_find_36 rfl rfl ?_
        refine v_iload_n (pc' := 38) dX9_find_37 rfl rfl ?_
        obtain ⟨q11, T⟩ := T
        rcases T with T | ⟨E, rfl, k10⟩
        · obtain ⟨h9, k10, T⟩ := T
          refine v_callV (pc' := 41) (M1 := mX9_testWhere) (as := [.int x3]) (r := r0) (rest := []) 9 dX9_find_38 rfl ko_X9_220 kc_X9_testWhere ki_X9_testWhere ks_X9_testWhere (by decide) (by decide) hdd rfl rfl (le_l rfl) q11 k10 ?_
          refine v_aload_n (pc' := 42) dX9_find_41 rfl rfl ?_
          obtain ⟨q12, T⟩ := T
          refine v_getR (pc' := 45) 9 0 dX9_find_42 rfl (by decide) (by decide) rfl kf_X9_12 q12 ?_
          refine v_iload_n (pc' := 46) dX9_find_45 rfl rfl ?_
          refine v_iload_n (pc' := 47) dX9_find_46 rfl rfl ?_
          refine v_iload_n (pc' := 48) dX9_find_47 rfl rfl ?_
          obtain ⟨z14, h13, k15, T⟩ := T
          refine v_callS (pc' := 51) (M1 := mX8_entryNamed) (as := [.ref (rH h9 r0 0), .int x3, .int x1, .int x2]) (rest := []) dX9_find_48 rfl ko_X9_247 kc_X8_entryNamed kt_X8_entryNamed (by decide) hdd rfl rfl (le_l rfl) k15 ?_
          refine v_istore (pc' := 53) (loc' := [.ref r0, .int x1, .int x2, .int x3, .int z14]) dX9_find_51 rfl (lt_l rfl) rfl ?_
          refine v_iload (pc' := 55) dX9_find_53 rfl rfl ?_
          refine v_iconst (pc' := 56) (v := (-1)) dX9_find_55 rfl kI_m1 ?_
          refine v_icmp_ne (tgt := 63) (pc' := 59) dX9_find_56 (by decide) rfl ⟨fun c16 => ?_, fun c16 => ?_⟩
          · have T := T.1 c16
            refine v_aload_n (pc' := 64) dX9_find_63 rfl rfl ?_
            obtain ⟨q17, T⟩ := T
            refine v_getR (pc' := 67) 9 0 dX9_find_64 rfl (by decide) (by decide) rfl kf_X9_12 q17 ?_
            refine v_iload_n (pc' := 68) dX9_find_67 rfl rfl ?_
            refine v_iload (pc' := 70) dX9_find_68 rfl rfl ?_
            obtain ⟨z19, h18, k20, T⟩ := T
            refine v_callS (pc' := 73) (M1 := mX8_nodeOfEntry) (as := [.ref (rH h13 r0 0), .int x3, .int z14]) (rest := []) dX9_find_70 rfl ko_X9_251 kc_X8_nodeOfEntry kt_X8_nodeOfEntry (by decide) hdd rfl rfl (le_l rfl) k20 ?_
            exact v_iret dX9_find_73 rfl T
          · have T := T.2 c16
            refine v_iconst (pc' := 60) (v := (-1)) dX9_find_59 rfl kI_m1 ?_
            refine v_goto (pc' := 73) dX9_find_60 (by decide) ?_
            exact v_iret dX9_find_73 rfl T
        · exact v_callVx (M1 := mX9_testWhere) (as := [.int x3]) (r := r0) (rest := []) 9 dX9_find_38 rfl ko_X9_220 kc_X9_testWhere ki_X9_testWhere ks_X9_testWhere (by decide) (by decide) hdd rfl rfl (le_l rfl) q11 k10
      · have T := T.2 c8
        refine v_aload_n (pc' := 17) dX9_find_16 rfl rfl ?_
        obtain ⟨q21, T⟩ := T
        refine v_getR (pc' := 20) 9 10 dX9_find_17 rfl (by decide) (by decide) rfl kf_X9_68 q21 ?_
        refine v_iconst (pc' := 21) (v := 1) dX9_find_20 rfl kI_1 ?_
        refine v_dup2 (pc' := 22) dX9_find_21 rfl rfl rfl ?_
        obtain ⟨q22, T⟩ := T
        obtain ⟨q23, T⟩ := T
        refine v_iald (pc' := 23) dX9_find_22 rfl kN_1 q22 q23 ?_
        refine v_iconst (pc' := 24) (v := 1) dX9_find_23 rfl kI_1 ?_
        refine v_iadd (pc' := 25) dX9_find_24 rfl ?_
        refine v_iast (pc' := 26) dX9_find_25 rfl kN_1 q22 q23 ?_
        exact v_throw xIA "no such name" rfl rfl dX9_find_26 dX9_find_29 (Or.inl ⟨dX9_find_30, dX9_find_32, dX9_find_35⟩) kk_X9_182 kn_xIA (by decide) (by decide) (by decide) okT_IA hd8 (le_l rfl) T
  · exact v_callVx (M1 := mX9_testNode) (as := [.int x1]) (r := r0) (rest := []) 9 dX9_find_2 rfl ko_X9_233 kc_X9_testNode ki_X9_testNode ks_X9_testNode (by decide) (by decide) hdd rfl rfl (le_l rfl) q3 k2
theorem eL_node {G : GG} {d : Nat} {h : Hp} {o : OU} {h' : Hp} (r0 : Nat) (x1 : Int32) (x2 : Int32) (x3 : Int32) (r4 : Nat) (hd : 1 ≤ d) (T : kH h r0 = 19 ∧ ((∃ z2 h1, VM G mX9_node (d - 1) [.ref r0, .int x1, .int x2, .int x3] h (.inl (some (.int z2))) h1 ∧ kH h1 r4 = 4 ∧ vp_in 0 (lH h1 r4) ∧ (o = .inl (some (.int 0)) ∧ h' = (h1.1, (upI h1.2 r4 0 z2)))) ∨ (∃ h7, VM G mX9_node (d - 1) [.ref r0, .int x1, .int x2, .int x3] h (.inr xNS) h7 ∧ (o = .inl (some (.int 1)) ∧ h' = h7)) ∨ (∃ h9, VM G mX9_node (d - 1) [.ref r0, .int x1, .int x2, .int x3] h (.inr xIA) h9 ∧ (o = .inl (some (.int 2)) ∧ h' = h9)))) : VMW G mL_node d [.ref r0, .int x1, .int x2, .int x3, .ref r4] h o h' := by
  refine V.toMW rfl (le_l rfl) (cat_all rfl) ?_
  show V G mL_node d 0 [.ref r0, .int x1, .int x2, .int x3, .ref r4, uV] [] h o h'
  have hdd : d - 1 + 1 ≤ d := by omega
  refine v_aload (pc' := 2) dL_node_0 rfl rfl ?_
  refine v_iconst (pc' := 3) (v := 0) dL_node_2 rfl kI_0 ?_
  refine v_aload_n (pc' := 4) dL_node_3 rfl rfl ?_
  refine v_iload_n (pc' := 5) dL_node_4 rfl rfl ?_
  refine v_iload_n (pc' := 6) dL_node_5 rfl rfl ?_
  refine v_iload_n (pc' := 7) dL_node_6 rfl rfl ?_
  obtain ⟨q4, T⟩ := T
  rcases T with T | T | T
  · obtain ⟨z2, h1, k3, T⟩ := T
    refine v_callV (pc' := 10) (M1 := mX9_node) (as := [.int x1, .int x2, .int x3]) (r := r0) (rest := [.int 0, .ref r4]) 9 dL_node_7 rfl ko_L_30 kc_X9_node ki_X9_node ks_X9_node (by decide) (by decide) hdd rfl rfl (le_l rfl) q4 k3 ?_
    refine v_i2l (pc' := 11) dL_node_10 rfl ?_
    obtain ⟨q5, T⟩ := T
    obtain ⟨q6, T⟩ := T
    refine v_last (pc' := 12) dL_node_11 rfl kN_0 q5 q6 ?_
    refine v_goto (pc' := 23) dL_node_12 (by decide) ?_
    refine v_iconst (pc' := 24) (v := 0) dL_node_23 rfl kI_0 ?_
    exact v_iret dL_node_24 rfl T
  · obtain ⟨h7, k8, T⟩ := T
    refine v_callVc (M := mL_node) (E := xNS) (M1 := mX9_node) (as := [.int x1, .int x2, .int x3]) (r := r0) (rest := [.int 0, .ref r4]) (pc' := 17) 9 [] (0, 12, 15, 33) [(0, 12, 19, 13)] 5 rfl (fun z hz => nomatch hz) (by decide) (by decide) kk_L_33 (by decide) (Or.inr ⟨dL_node_15, rfl⟩) (lt_l rfl) dL_node_7 ko_L_30 kc_X9_node ki_X9_node ks_X9_node (by decide) (by decide) hdd rfl rfl (le_l rfl) q4 k8 ?_
    show V G mL_node d 17 [.ref r0, .int x1, .int x2, .int x3, .ref r4, uV] [] h7 o h'
    refine v_iconst (pc' := 18) (v := 1) dL_node_17 rfl kI_1 ?_
    exact v_iret dL_node_18 rfl T
  · obtain ⟨h9, k10, T⟩ := T
    refine v_callVc (M := mL_node) (E := xIA) (M1 := mX9_node) (as := [.int x1, .int x2, .int x3]) (r := r0) (rest := [.int 0, .ref r4]) (pc' := 21) 9 [(0, 12, 15, 33)] (0, 12, 19, 13) [] 5 rfl (hp1 (0, 12, 15, 33) (by decide) kk_L_33 (by decide)) (by decide) (by decide) kk_L_13 (by decide) (Or.inr ⟨dL_node_19, rfl⟩) (lt_l rfl) dL_node_7 ko_L_30 kc_X9_node ki_X9_node ks_X9_node (by decide) (by decide) hdd rfl rfl (le_l rfl) q4 k10 ?_
    show V G mL_node d 21 [.ref r0, .int x1, .int x2, .int x3, .ref r4, uV] [] h9 o h'
    refine v_iconst (pc' := 22) (v := 2) dL_node_21 rfl kI_2 ?_
    exact v_iret dL_node_22 rfl T
theorem eL_find {G : GG} {d : Nat} {h : Hp} {o : OU} {h' : Hp} (r0 : Nat) (x1 : Int32) (x2 : Int32) (x3 : Int32) (r4 : Nat) (hd : 1 ≤ d) (T : kH h r0 = 19 ∧ ((∃ z2 h1, VM G mX9_find (d - 1) [.ref r0, .int x1, .int x2, .int x3] h (.inl (some (.int z2))) h1 ∧ kH h1 r4 = 4 ∧ vp_in 0 (lH h1 r4) ∧ (o = .inl (some (.int 0)) ∧ h' = (h1.1, (upI h1.2 r4 0 z2)))) ∨ (∃ h7, VM G mX9_find (d - 1) [.ref r0, .int x1, .int x2, .int x3] h (.inr xNS) h7 ∧ (o = .inl (some (.int 1)) ∧ h' = h7)) ∨ (∃ h9, VM G mX9_find (d - 1) [.ref r0, .int x1, .int x2, .int x3] h (.inr xIA) h9 ∧ (o = .inl (some (.int 2)) ∧ h' = h9)))) : VMW G mL_find d [.ref r0, .int x1, .int x2, .int x3, .ref r4] h o h' := by
  refine V.toMW rfl (le_l rfl) (cat_all rfl) ?_
  show V G mL_find d 0 [.ref r0, .int x1, .int x2, .int x3, .ref r4, uV] [] h o h'
  have hdd : d - 1 + 1 ≤ d := by omega
  refine v_aload (pc' := 2) dL_find_0 rfl rfl ?_
  refine v_iconst (pc' := 3) (v := 0) dL_find_2 rfl kI_0 ?_
  refine v_aload_n (pc' := 4) dL_find_3 rfl rfl ?_
  refine v_iload_n (pc' := 5) dL_find_4 rfl rfl ?_
  refine v_iload_n (pc' := 6) dL_find_5 rfl rfl ?_
  refine v_iload_n (pc' := 7) dL_find_6 rfl rfl ?_
  obtain ⟨q4, T⟩ := T
  rcases T with T | T | T
  · obtain ⟨z2, h1, k3, T⟩ := T
    refine v_callV (pc' := 10) (M1 := mX9_find) (as := [.int x1, .int x2, .int x3]) (r := r0) (rest := [.int 0, .ref r4]) 9 dL_find_7 rfl ko_L_35 kc_X9_find ki_X9_find ks_X9_find (by decide) (by decide) hdd rfl rfl (le_l rfl) q4 k3 ?_
    refine v_i2l (pc' := 11) dL_find_10 rfl ?_
    obtain ⟨q5, T⟩ := T
    obtain ⟨q6, T⟩ := T
    refine v_last (pc' := 12) dL_find_11 rfl kN_0 q5 q6 ?_
    refine v_goto (pc' := 23) dL_find_12 (by decide) ?_
    refine v_iconst (pc' := 24) (v := 0) dL_find_23 rfl kI_0 ?_
    exact v_iret dL_find_24 rfl T
  · obtain ⟨h7, k8, T⟩ := T
    refine v_callVc (M := mL_find) (E := xNS) (M1 := mX9_find) (as := [.int x1, .int x2, .int x3]) (r := r0) (rest := [.int 0, .ref r4]) (pc' := 17) 9 [] (0, 12, 15, 33) [(0, 12, 19, 13)] 5 rfl (fun z hz => nomatch hz) (by decide) (by decide) kk_L_33 (by decide) (Or.inr ⟨dL_find_15, rfl⟩) (lt_l rfl) dL_find_7 ko_L_35 kc_X9_find ki_X9_find ks_X9_find (by decide) (by decide) hdd rfl rfl (le_l rfl) q4 k8 ?_
    show V G mL_find d 17 [.ref r0, .int x1, .int x2, .int x3, .ref r4, uV] [] h7 o h'
    refine v_iconst (pc' := 18) (v := 1) dL_find_17 rfl kI_1 ?_
    exact v_iret dL_find_18 rfl T
  · obtain ⟨h9, k10, T⟩ := T
    refine v_callVc (M := mL_find) (E := xIA) (M1 := mX9_find) (as := [.int x1, .int x2, .int x3]) (r := r0) (rest := [.int 0, .ref r4]) (pc' := 21) 9 [(0, 12, 15, 33)] (0, 12, 19, 13) [] 5 rfl (hp1 (0, 12, 15, 33) (by decide) kk_L_33 (by decide)) (by decide) (by decide) kk_L_13 (by decide) (Or.inr ⟨dL_find_19, rfl⟩) (lt_l rfl) dL_find_7 ko_L_35 kc_X9_find ki_X9_find ks_X9_find (by decide) (by decide) hdd rfl rfl (le_l rfl) q4 k10 ?_
    show V G mL_find d 21 [.ref r0, .int x1, .int x2, .int x3, .ref r4, uV] [] h9 o h'
    refine v_iconst (pc' := 22) (v := 2) dL_find_21 rfl kI_2 ?_
    exact v_iret dL_find_22 rfl T
theorem eL_under {G : GG} {d : Nat} {h : Hp} {o : OU} {h' : Hp} (r0 : Nat) (x1 : Int32) (x2 : Int32) (r3 : Nat) (hd : 1 ≤ d) (T : kH h r0 = 19 ∧ ((∃ z2 h1, VM G mX9_under (d - 1) [.ref r0, .int x1, .int x2] h (.inl (some (.int z2))) h1 ∧ kH h1 r3 = 4 ∧ vp_in 0 (lH h1 r3) ∧ (o = .inl (some (.int 0)) ∧ h' = (h1.1, (upI h1.2 r3 0 z2)))) ∨ (∃ h7, VM G mX9_under (d - 1) [.ref r0, .int x1, .int x2] h (.inr xNS) h7 ∧ (o = .inl (some (.int 1)) ∧ h' = h7)) ∨ (∃ h9, VM G mX9_under (d - 1) [.ref r0, .int x1, .int x2] h (.inr xIA) h9 ∧ (o = .inl (some (.int 2)) ∧ h' = h9)))) : VMW G mL_under d [.ref r0, .int x1, .int x2, .ref r3] h o h' := by
  refine V.toMW rfl (le_l rfl) (cat_all rfl) ?_
  show V G mL_under d 0 [.ref r0, .int x1, .int x2, .ref r3, uV] [] h o h'
  have hdd : d - 1 + 1 ≤ d := by omega
  refine v_aload_n (pc' := 1) dL_under_0 rfl rfl ?_
  refine v_iconst (pc' := 2) (v := 0) dL_under_1 rfl kI_0 ?_
  refine v_aload_n (pc' := 3) dL_under_2 rfl rfl ?_
  refine v_iload_n (pc' := 4) dL_under_3 rfl rfl ?_
  refine v_iload_n (pc' := 5) dL_under_4 rfl rfl ?_
  obtain ⟨q4, T⟩ := T
  rcases T with T | T | T
  · obtain ⟨z2, h1, k3, T⟩ := T
    refine v_callV (pc' := 8) (M1 := mX9_under) (as := [.int x1, .int x2]) (r := r0) (rest := [.int 0, .ref r3]) 9 dL_under_5 rfl ko_L_50 kc_X9_under ki_X9_under ks_X9_under (by decide) (by decide) hdd rfl rfl (le_l rfl) q4 k3 ?_
    refine v_i2l (pc' := 9) dL_under_8 rfl ?_
    obtain ⟨q5, T⟩ := T
    obtain ⟨q6, T⟩ := T
    refine v_last (pc' := 10) dL_under_9 rfl kN_0 q5 q6 ?_
    refine v_goto (pc' := 21) dL_under_10 (by decide) ?_
    refine v_iconst (pc' := 22) (v := 0) dL_under_21 rfl kI_0 ?_
    exact v_iret dL_under_22 rfl T
  · obtain ⟨h7, k8, T⟩ := T
    refine v_callVc (M := mL_under) (E := xNS) (M1 := mX9_under) (as := [.int x1, .int x2]) (r := r0) (rest := [.int 0, .ref r3]) (pc' := 15) 9 [] (0, 10, 13, 33) [(0, 10, 17, 13)] 4 rfl (fun z hz => nomatch hz) (by decide) (by decide) kk_L_33 (by decide) (Or.inr ⟨dL_under_13, rfl⟩) (lt_l rfl) dL_under_5 ko_L_50 kc_X9_under ki_X9_under ks_X9_under (by decide) (by decide) hdd rfl rfl (le_l rfl) q4 k8 ?_
    show V G mL_under d 15 [.ref r0, .int x1, .int x2, .ref r3, uV] [] h7 o h'
    refine v_iconst (pc' := 16) (v := 1) dL_under_15 rfl kI_1 ?_
    exact v_iret dL_under_16 rfl T
  · obtain ⟨h9, k10, T⟩ := T
    refine v_callVc (M := mL_under) (E := xIA) (M1 := mX9_under) (as := [.int x1, .int x2]) (r := r0) (rest := [.int 0, .ref r3]) (pc' := 19) 9 [(0, 10, 13, 33)] (0, 10, 17, 13) [] 4 rfl (hp1 (0, 10, 13, 33) (by decide) kk_L_33 (by decide)) (by decide) (by decide) kk_L_13 (by decide) (Or.inr ⟨dL_under_17, rfl⟩) (lt_l rfl) dL_under_5 ko_L_50 kc_X9_under ki_X9_under ks_X9_under (by decide) (by decide) hdd rfl rfl (le_l rfl) q4 k10 ?_
    show V G mL_under d 19 [.ref r0, .int x1, .int x2, .ref r3, uV] [] h9 o h'
    refine v_iconst (pc' := 20) (v := 2) dL_under_19 rfl kI_2 ?_
    exact v_iret dL_under_20 rfl T
theorem eL_deep {G : GG} {d : Nat} {h : Hp} {o : OU} {h' : Hp} (r0 : Nat) (x1 : Int32) (x2 : Int32) (r3 : Nat) (hd : 1 ≤ d) (T : kH h r0 = 19 ∧ ((∃ z2 h1, VM G mX9_deep (d - 1) [.ref r0, .int x1, .int x2] h (.inl (some (.int z2))) h1 ∧ kH h1 r3 = 4 ∧ vp_in 0 (lH h1 r3) ∧ (o = .inl (some (.int 0)) ∧ h' = (h1.1, (upI h1.2 r3 0 z2)))) ∨ (∃ h7, VM G mX9_deep (d - 1) [.ref r0, .int x1, .int x2] h (.inr xNS) h7 ∧ (o = .inl (some (.int 1)) ∧ h' = h7)) ∨ (∃ h9, VM G mX9_deep (d - 1) [.ref r0, .int x1, .int x2] h (.inr xIA) h9 ∧ (o = .inl (some (.int 2)) ∧ h' = h9)))) : VMW G mL_deep d [.ref r0, .int x1, .int x2, .ref r3] h o h' := by
  refine V.toMW rfl (le_l rfl) (cat_all rfl) ?_
  show V G mL_deep d 0 [.ref r0, .int x1, .int x2, .ref r3, uV] [] h o h'
  have hdd : d - 1 + 1 ≤ d := by omega
  refine v_aload_n (pc' := 1) dL_deep_0 rfl rfl ?_
  refine v_iconst (pc' := 2) (v := 0) dL_deep_1 rfl kI_0 ?_
  refine v_aload_n (pc' := 3) dL_deep_2 rfl rfl ?_
  refine v_iload_n (pc' := 4) dL_deep_3 rfl rfl ?_
  refine v_iload_n (pc' := 5) dL_deep_4 rfl rfl ?_
  obtain ⟨q4, T⟩ := T
  rcases T with T | T | T
  · obtain ⟨z2, h1, k3, T⟩ := T
    refine v_callV (pc' := 8) (M1 := mX9_deep) (as := [.int x1, .int x2]) (r := r0) (rest := [.int 0, .ref r3]) 9 dL_deep_5 rfl ko_L_54 kc_X9_deep ki_X9_deep ks_X9_deep (by decide) (by decide) hdd rfl rfl (le_l rfl) q4 k3 ?_
    refine v_i2l (pc' := 9) dL_deep_8 rfl ?_
    obtain ⟨q5, T⟩ := T
    obtain ⟨q6, T⟩ := T
    refine v_last (pc' := 10) dL_deep_9 rfl kN_0 q5 q6 ?_
    refine v_goto (pc' := 21) dL_deep_10 (by decide) ?_
    refine v_iconst (pc' := 22) (v := 0) dL_deep_21 rfl kI_0 ?_
    exact v_iret dL_deep_22 rfl T
  · obtain ⟨h7, k8, T⟩ := T
    refine v_callVc (M := mL_deep) (E := xNS) (M1 := mX9_deep) (as := [.int x1, .int x2]) (r := r0) (rest := [.int 0, .ref r3]) (pc' := 15) 9 [] (0, 10, 13, 33) [(0, 10, 17, 13)] 4 rfl (fun z hz => nomatch hz) (by decide) (by decide) kk_L_33 (by decide) (Or.inr ⟨dL_deep_13, rfl⟩) (lt_l rfl) dL_deep_5 ko_L_54 kc_X9_deep ki_X9_deep ks_X9_deep (by decide) (by decide) hdd rfl rfl (le_l rfl) q4 k8 ?_
    show V G mL_deep d 15 [.ref r0, .int x1, .int x2, .ref r3, uV] [] h7 o h'
    refine v_iconst (pc' := 16) (v := 1) dL_deep_15 rfl kI_1 ?_
    exact v_iret dL_deep_16 rfl T
  · obtain ⟨h9, k10, T⟩ := T
    refine v_callVc (M := mL_deep) (E := xIA) (M1 := mX9_deep) (as := [.int x1, .int x2]) (r := r0) (rest := [.int 0, .ref r3]) (pc' := 19) 9 [(0, 10, 13, 33)] (0, 10, 17, 13) [] 4 rfl (hp1 (0, 10, 13, 33) (by decide) kk_L_33 (by decide)) (by decide) (by decide) kk_L_13 (by decide) (Or.inr ⟨dL_deep_17, rfl⟩) (lt_l rfl) dL_deep_5 ko_L_54 kc_X9_deep ki_X9_deep ks_X9_deep (by decide) (by decide) hdd rfl rfl (le_l rfl) q4 k10 ?_
    show V G mL_deep d 19 [.ref r0, .int x1, .int x2, .ref r3, uV] [] h9 o h'
    refine v_iconst (pc' := 20) (v := 2) dL_deep_19 rfl kI_2 ?_
    exact v_iret dL_deep_20 rfl T
theorem eL_room {G : GG} {d : Nat} {h : Hp} {o : OU} {h' : Hp} (r0 : Nat) (x1 : Int32) (r2 : Nat) (hd : 1 ≤ d) (T : kH h r0 = 19 ∧ ((∃ z2 h1, VM G mX9_room (d - 1) [.ref r0, .int x1] h (.inl (some (.int z2))) h1 ∧ kH h1 r2 = 4 ∧ vp_in 0 (lH h1 r2) ∧ (o = .inl (some (.int 0)) ∧ h' = (h1.1, (upI h1.2 r2 0 z2)))) ∨ (∃ h7, VM G mX9_room (d - 1) [.ref r0, .int x1] h (.inr xNS) h7 ∧ (o = .inl (some (.int 1)) ∧ h' = h7)))) : VMW G mL_room d [.ref r0, .int x1, .ref r2] h o h' := by
  refine V.toMW rfl (le_l rfl) (cat_all rfl) ?_
  show V G mL_room d 0 [.ref r0, .int x1, .ref r2, uV] [] h o h'
  have hdd : d - 1 + 1 ≤ d := by omega
  refine v_aload_n (pc' := 1) dL_room_0 rfl rfl ?_
  refine v_iconst (pc' := 2) (v := 0) dL_room_1 rfl kI_0 ?_
  refine v_aload_n (pc' := 3) dL_room_2 rfl rfl ?_
  refine v_iload_n (pc' := 4) dL_room_3 rfl rfl ?_
  obtain ⟨q4, T⟩ := T
  rcases T with T | T
  · obtain ⟨z2, h1, k3, T⟩ := T
    refine v_callV (pc' := 7) (M1 := mX9_room) (as := [.int x1]) (r := r0) (rest := [.int 0, .ref r2]) 9 dL_room_4 rfl ko_L_77 kc_X9_room ki_X9_room ks_X9_room (by decide) (by decide) hdd rfl rfl (le_l rfl) q4 k3 ?_
    refine v_i2l (pc' := 8) dL_room_7 rfl ?_
    obtain ⟨q5, T⟩ := T
    obtain ⟨q6, T⟩ := T
    refine v_last (pc' := 9) dL_room_8 rfl kN_0 q5 q6 ?_
    refine v_goto (pc' := 15) dL_room_9 (by decide) ?_
    refine v_iconst (pc' := 16) (v := 0) dL_room_15 rfl kI_0 ?_
    exact v_iret dL_room_16 rfl T
  · obtain ⟨h7, k8, T⟩ := T
    refine v_callVc (M := mL_room) (E := xNS) (M1 := mX9_room) (as := [.int x1]) (r := r0) (rest := [.int 0, .ref r2]) (pc' := 13) 9 [] (0, 9, 12, 33) [] 3 rfl (fun z hz => nomatch hz) (by decide) (by decide) kk_L_33 (by decide) (Or.inl ⟨3, dL_room_12, rfl, rfl⟩) (lt_l rfl) dL_room_4 ko_L_77 kc_X9_room ki_X9_room ks_X9_room (by decide) (by decide) hdd rfl rfl (le_l rfl) q4 k8 ?_
    show V G mL_room d 13 [.ref r0, .int x1, .ref r2, uV] [] h7 o h'
    refine v_iconst (pc' := 14) (v := 1) dL_room_13 rfl kI_1 ?_
    exact v_iret dL_room_14 rfl T
theorem eL_span {G : GG} {d : Nat} {h : Hp} {o : OU} {h' : Hp} (r0 : Nat) (x1 : Int32) (x2 : Int32) (x3 : Int32) (x4 : Int32) (x5 : Int32) (x6 : Int32) (r7 : Nat) (hd : 1 ≤ d) (T : kH h r0 = 19 ∧ ((∃ z2 h1, VM G mX9_span (d - 1) [.ref r0, .int x1, .int x2, .int x3, .int x4, .int x5, .int x6] h (.inl (some (.int z2))) h1 ∧ kH h1 r7 = 4 ∧ vp_in 0 (lH h1 r7) ∧ (o = .inl (some (.int 0)) ∧ h' = (h1.1, (upI h1.2 r7 0 z2)))) ∨ (∃ h7, VM G mX9_span (d - 1) [.ref r0, .int x1, .int x2, .int x3, .int x4, .int x5, .int x6] h (.inr xNS) h7 ∧ (o = .inl (some (.int 1)) ∧ h' = h7)) ∨ (∃ h9, VM G mX9_span (d - 1) [.ref r0, .int x1, .int x2, .int x3, .int x4, .int x5, .int x6] h (.inr xIA) h9 ∧ (o = .inl (some (.int 2)) ∧ h' = h9)))) : VMW G mL_span d [.ref r0, .int x1, .int x2, .int x3, .int x4, .int x5, .int x6, .ref r7] h o h' := by
  refine V.toMW rfl (le_l rfl) (cat_all rfl) ?_
  show V G mL_span d 0 [.ref r0, .int x1, .int x2, .int x3, .int x4, .int x5, .int x6, .ref r7, uV] [] h o h'
  have hdd : d - 1 + 1 ≤ d := by omega
  refine v_aload (pc' := 2) dL_span_0 rfl rfl ?_
  refine v_iconst (pc' := 3) (v := 0) dL_span_2 rfl kI_0 ?_
  refine v_aload_n (pc' := 4) dL_span_3 rfl rfl ?_
  refine v_iload_n (pc' := 5) dL_span_4 rfl rfl ?_
  refine v_iload_n (pc' := 6) dL_span_5 rfl rfl ?_
  refine v_iload_n (pc' := 7) dL_span_6 rfl rfl ?_
  refine v_iload (pc' := 9) dL_span_7 rfl rfl ?_
  refine v_iload (pc' := 11) dL_span_9 rfl rfl ?_
  refine v_iload (pc' := 13) dL_span_11 rfl rfl ?_
  obtain ⟨q4, T⟩ := T
  rcases T with T | T | T
  · obtain ⟨z2, h1, k3, T⟩ := T
    refine v_callV (pc' := 16) (M1 := mX9_span) (as := [.int x1, .int x2, .int x3, .int x4, .int x5, .int x6]) (r := r0) (rest := [.int 0, .ref r7]) 9 dL_span_13 rfl ko_L_90 kc_X9_span ki_X9_span ks_X9_span (by decide) (by decide) hdd rfl rfl (le_l rfl) q4 k3 ?_
    refine v_i2l (pc' := 17) dL_span_16 rfl ?_
    obtain ⟨q5, T⟩ := T
    obtain ⟨q6, T⟩ := T
    refine v_last (pc' := 18) dL_span_17 rfl kN_0 q5 q6 ?_
    refine v_goto (pc' := 29) dL_span_18 (by decide) ?_
    refine v_iconst (pc' := 30) (v := 0) dL_span_29 rfl kI_0 ?_
    exact v_iret dL_span_30 rfl T
  · obtain ⟨h7, k8, T⟩ := T
    refine v_callVc (M := mL_span) (E := xNS) (M1 := mX9_span) (as := [.int x1, .int x2, .int x3, .int x4, .int x5, .int x6]) (r := r0) (rest := [.int 0, .ref r7]) (pc' := 23) 9 [] (0, 18, 21, 33) [(0, 18, 25, 13)] 8 rfl (fun z hz => nomatch hz) (by decide) (by decide) kk_L_33 (by decide) (Or.inr ⟨dL_span_21, rfl⟩) (lt_l rfl) dL_span_13 ko_L_90 kc_X9_span ki_X9_span ks_X9_span (by decide) (by decide) hdd rfl rfl (le_l rfl) q4 k8 ?_
    show V G mL_span d 23 [.ref r0, .int x1, .int x2, .int x3, .int x4, .int x5, .int x6, .ref r7, uV] [] h7 o h'
    refine v_iconst (pc' := 24) (v := 1) dL_span_23 rfl kI_1 ?_
    exact v_iret dL_span_24 rfl T
  · obtain ⟨h9, k10, T⟩ := T
    refine v_callVc (M := mL_span) (E := xIA) (M1 := mX9_span) (as := [.int x1, .int x2, .int x3, .int x4, .int x5, .int x6]) (r := r0) (rest := [.int 0, .ref r7]) (pc' := 27) 9 [(0, 18, 21, 33)] (0, 18, 25, 13) [] 8 rfl (hp1 (0, 18, 21, 33) (by decide) kk_L_33 (by decide)) (by decide) (by decide) kk_L_13 (by decide) (Or.inr ⟨dL_span_25, rfl⟩) (lt_l rfl) dL_span_13 ko_L_90 kc_X9_span ki_X9_span ks_X9_span (by decide) (by decide) hdd rfl rfl (le_l rfl) q4 k10 ?_
    show V G mL_span d 27 [.ref r0, .int x1, .int x2, .int x3, .int x4, .int x5, .int x6, .ref r7, uV] [] h9 o h'
    refine v_iconst (pc' := 28) (v := 2) dL_span_27 rfl kI_2 ?_
    exact v_iret dL_span_28 rfl T
theorem eL_change {G : GG} {d : Nat} {h : Hp} {o : OU} {h' : Hp} (r0 : Nat) (x1 : Int32) (x2 : Int32) (r3 : Nat) (hd : 1 ≤ d) (T : kH h r0 = 19 ∧ ((∃ z2 h1, VM G mX9_change (d - 1) [.ref r0, .int x1, .int x2] h (.inl (some (.int z2))) h1 ∧ kH h1 r3 = 4 ∧ vp_in 0 (lH h1 r3) ∧ (o = .inl (some (.int 0)) ∧ h' = (h1.1, (upI h1.2 r3 0 z2)))) ∨ (∃ h7, VM G mX9_change (d - 1) [.ref r0, .int x1, .int x2] h (.inr xIA) h7 ∧ (o = .inl (some (.int 1)) ∧ h' = h7)) ∨ (∃ h9, VM G mX9_change (d - 1) [.ref r0, .int x1, .int x2] h (.inr xNP) h9 ∧ (o = .inl (some (.int 2)) ∧ h' = h9)) ∨ (∃ h11, VM G mX9_change (d - 1) [.ref r0, .int x1, .int x2] h (.inr xIO) h11 ∧ (o = .inl (some (.int 3)) ∧ h' = h11)))) : VMW G mL_change d [.ref r0, .int x1, .int x2, .ref r3] h o h' := by
  refine V.toMW rfl (le_l rfl) (cat_all rfl) ?_
  show V G mL_change d 0 [.ref r0, .int x1, .int x2, .ref r3, uV] [] h o h'
  have hdd : d - 1 + 1 ≤ d := by omega
  refine v_aload_n (pc' := 1) dL_change_0 rfl rfl ?_
  refine v_iconst (pc' := 2) (v := 0) dL_change_1 rfl kI_0 ?_
  refine v_aload_n (pc' := 3) dL_change_2 rfl rfl ?_
  refine v_iload_n (pc' := 4) dL_change_3 rfl rfl ?_
  refine v_iload_n (pc' := 5) dL_change_4 rfl rfl ?_
  obtain ⟨q4, T⟩ := T
  rcases T with T | T | T | T
  · obtain ⟨z2, h1, k3, T⟩ := T
    refine v_callV (pc' := 8) (M1 := mX9_change) (as := [.int x1, .int x2]) (r := r0) (rest := [.int 0, .ref r3]) 9 dL_change_5 rfl ko_L_57 kc_X9_change ki_X9_change ks_X9_change (by decide) (by decide) hdd rfl rfl (le_l rfl) q4 k3 ?_
    refine v_i2l (pc' := 9) dL_change_8 rfl ?_
    obtain ⟨q5, T⟩ := T
    obtain ⟨q6, T⟩ := T
    refine v_last (pc' := 10) dL_change_9 rfl kN_0 q5 q6 ?_
    refine v_goto (pc' := 25) dL_change_10 (by decide) ?_
    refine v_iconst (pc' := 26) (v := 0) dL_change_25 rfl kI_0 ?_
    exact v_iret dL_change_26 rfl T
  · obtain ⟨h7, k8, T⟩ := T
    refine v_callVc (M := mL_change) (E := xIA) (M1 := mX9_change) (as := [.int x1, .int x2]) (r := r0) (rest := [.int 0, .ref r3]) (pc' := 15) 9 [] (0, 10, 13, 13) [(0, 10, 17, 60), (0, 10, 21, 28)] 4 rfl (fun z hz => nomatch hz) (by decide) (by decide) kk_L_13 (by decide) (Or.inr ⟨dL_change_13, rfl⟩) (lt_l rfl) dL_change_5 ko_L_57 kc_X9_change ki_X9_change ks_X9_change (by decide) (by decide) hdd rfl rfl (le_l rfl) q4 k8 ?_
    show V G mL_change d 15 [.ref r0, .int x1, .int x2, .ref r3, uV] [] h7 o h'
    refine v_iconst (pc' := 16) (v := 1) dL_change_15 rfl kI_1 ?_
    exact v_iret dL_change_16 rfl T
  · obtain ⟨h9, k10, T⟩ := T
    refine v_callVc (M := mL_change) (E := xNP) (M1 := mX9_change) (as := [.int x1, .int x2]) (r := r0) (rest := [.int 0, .ref r3]) (pc' := 19) 9 [(0, 10, 13, 13)] (0, 10, 17, 60) [(0, 10, 21, 28)] 4 rfl (hp1 (0, 10, 13, 13) (by decide) kk_L_13 (by decide)) (by decide) (by decide) kk_L_60 (by decide) (Or.inr ⟨dL_change_17, rfl⟩) (lt_l rfl) dL_change_5 ko_L_57 kc_X9_change ki_X9_change ks_X9_change (by decide) (by decide) hdd rfl rfl (le_l rfl) q4 k10 ?_
    show V G mL_change d 19 [.ref r0, .int x1, .int x2, .ref r3, uV] [] h9 o h'
    refine v_iconst (pc' := 20) (v := 2) dL_change_19 rfl kI_2 ?_
    exact v_iret dL_change_20 rfl T
  · obtain ⟨h11, k12, T⟩ := T
    refine v_callVc (M := mL_change) (E := xIO) (M1 := mX9_change) (as := [.int x1, .int x2]) (r := r0) (rest := [.int 0, .ref r3]) (pc' := 23) 9 [(0, 10, 13, 13), (0, 10, 17, 60)] (0, 10, 21, 28) [] 4 rfl (hp2 (0, 10, 13, 13) (by decide) kk_L_13 (by decide) (0, 10, 17, 60) (by decide) kk_L_60 (by decide)) (by decide) (by decide) kk_L_28 (by decide) (Or.inr ⟨dL_change_21, rfl⟩) (lt_l rfl) dL_change_5 ko_L_57 kc_X9_change ki_X9_change ks_X9_change (by decide) (by decide) hdd rfl rfl (le_l rfl) q4 k12 ?_
    show V G mL_change d 23 [.ref r0, .int x1, .int x2, .ref r3, uV] [] h11 o h'
    refine v_iconst (pc' := 24) (v := 3) dL_change_23 rfl kI_3 ?_
    exact v_iret dL_change_24 rfl T
theorem e2X9_change {G : GG} {d : Nat} {h : Hp} {o : OU} {h' : Hp} (r0 : Nat) (x1 : Int32) (x2 : Int32) (hd : 1 ≤ d) (T : kH h r0 = 19 ∧ ((∃ h1, VM G mX9_testWhat (d - 1) [.ref r0, .int x2, .int 5] h (.inl none) h1 ∧ kH h1 r0 = 19 ∧ ((∃ h4, VM G mX9_testChange (d - 1) [.ref r0, .int x1] h1 (.inl none) h4 ∧ ((x2 = 0 → kH h4 r0 = 19 ∧ kH h4 (rH h4 r0 0) = 15 ∧ kH h4 (rH h4 (rH h4 r0 0) 3) = 1 ∧ vp_in x1 (lH h4 (rH h4 (rH h4 r0 0) 3)) ∧ (o = .inl (some (.int (h4.2 (rH h4 (rH h4 r0 0) 3) x1.toNatClampNeg))) ∧ h' = h4)) ∧ (x2 = 1 → kH h4 r0 = 19 ∧ kH h4 (rH h4 r0 0) = 15 ∧ kH h4 (rH h4 (rH h4 r0 0) 4) = 1 ∧ vp_in x1 (lH h4 (rH h4 (rH h4 r0 0) 4)) ∧ (o = .inl (some (.int (h4.2 (rH h4 (rH h4 r0 0) 4) x1.toNatClampNeg))) ∧ h' = h4)) ∧ (x2 = 2 → kH h4 r0 = 19 ∧ kH h4 (rH h4 r0 0) = 15 ∧ ∃ z21 h20, VM G mX5_firstPlace (d - 1) [.ref (rH h4 r0 0), .int x1] h4 (.inl (some (.int z21))) h20 ∧ kH h20 (rH h4 (rH h4 r0 0) 6) = 2 ∧ vp_in ((x1 * 16) + z21) (lH h20 (rH h4 (rH h4 r0 0) 6)) ∧ (o = .inl (some (.int (h20.2 (rH h4 (rH h4 r0 0) 6) ((x1 * 16) + z21).toNatClampNeg))) ∧ h' = h20)) ∧ (x2 = 3 → kH h4 r0 = 19 ∧ kH h4 (rH h4 r0 0) = 15 ∧ kH h4 (rH h4 (rH h4 r0 0) 5) = 1 ∧ vp_in x1 (lH h4 (rH h4 (rH h4 r0 0) 5)) ∧ (o = .inl (some (.int (h4.2 (rH h4 (rH h4 r0 0) 5) x1.toNatClampNeg))) ∧ h' = h4)) ∧ (x2 = 4 → kH h4 r0 = 19 ∧ kH h4 (rH h4 r0 0) = 15 ∧ ∃ z33 h32, VM G mX5_countNeeds (d - 1) [.ref (rH h4 r0 0), .int x1] h4 (.inl (some (.int z33))) h32 ∧ (o = .inl (some (.int z33)) ∧ h' = h32)) ∧ (¬ x2 = 0 → ¬ x2 = 1 → ¬ x2 = 2 → ¬ x2 = 3 → ¬ x2 = 4 → kH h4 r0 = 19 ∧ kH h4 (rH h4 r0 0) = 15 ∧ kH h4 (rH h4 (rH h4 r0 0) 3) = 1 ∧ vp_in x1 (lH h4 (rH h4 (rH h4 r0 0) 3)) ∧ kH h4 (rH h4 r0 4) = 12 ∧ ∃ h40, VM G mX2_weigh (d - 1) [.ref (rH h4 r0 4), .ref (rH h4 r0 0), .int (h4.2 (rH h4 (rH h4 r0 0) 3) x1.toNatClampNeg)] h4 (.inl none) h40 ∧ kH h40 r0 = 19 ∧ kH h40 (rH h40 r0 4) = 12 ∧ kH h40 (rH h40 (rH h40 r0 4) 0) = 3 ∧ vp_in x1 (lH h40 (rH h40 (rH h40 r0 4) 0)) ∧ (((h40.2 (rH h40 (rH h40 r0 4) 0) x1.toNatClampNeg) = 0 → (o = .inl (some (.int 0)) ∧ h' = h40)) ∧ (¬ (h40.2 (rH h40 (rH h40 r0 4) 0) x1.toNatClampNeg) = 0 → (o = .inl (some (.int 1)) ∧ h' = h40)))))) ∨ ∃ E, o = .inr E ∧ VM G mX9_testChange (d - 1) [.ref r0, .int x1] h1 (.inr E) h')) ∨ ∃ E, o = .inr E ∧ VM G mX9_testWhat (d - 1) [.ref r0, .int x2, .int 5] h (.inr E) h')) : VM G mX9_change d [.ref r0, .int x1, .int x2] h o h' := by
  refine V.toM rfl rfl (le_l rfl) (cat_all rfl) ?_
  show V G mX9_change d 0 [.ref r0, .int x1, .int x2] [] h o h'
  have hdd : d - 1 + 1 ≤ d := by omega
  refine v_aload_n (pc' := 1) dX9_change_0 rfl rfl ?_
  refine v_iload_n (pc' := 2) dX9_change_1 rfl rfl ?_
  refine v_iconst (pc' := 3) (v := 5) dX9_change_2 rfl kI_5 ?_
  obtain ⟨q3, T⟩ := T
  rcases T with T | ⟨E, rfl, k2⟩
  · obtain ⟨h1, k2, T⟩ := T
    refine v_callV (pc' := 6) (M1 := mX9_testWhat) (as := [.int x2, .int 5]) (r := r0) (rest := []) 9 dX9_change_3 rfl ko_X9_195 kc_X9_testWhat ki_X9_testWhat ks_X9_testWhat (by decide) (by decide) hdd rfl rfl (le_l rfl) q3 k2 ?_
    refine v_aload_n (pc' := 7) dX9_change_6 rfl rfl ?_
    refine v_iload_n (pc' := 8) dX9_change_7 rfl rfl ?_
    obtain ⟨q6, T⟩ := T
    rcases T with T | ⟨E, rfl, k5⟩
    · obtain ⟨h4, k5, T⟩ := T
      refine v_callV (pc' := 11) (M1 := mX9_testChange) (as := [.int x1]) (r := r0) (rest := []) 9 dX9_change_8 rfl ko_X9_286 kc_X9_testChange ki_X9_testChange ks_X9_testChange (by decide) (by decide) hdd rfl rfl (le_l rfl) q6 k5 ?_
      refine v_iload_n (pc' := 12) dX9_change_11 rfl rfl ?_
      by_cases c7 : x2 = 0
      · have T := T.1 c7
        refine v_switchIn (off := 36) (pc' := 48) dX9_change_12 (by rw [c7]; decide) (by rw [c7]; decide) (by rw [c7]; rfl) (by decide) ?_
        refine v_aload_n (pc' := 49) dX9_change_48 rfl rfl ?_
        obtain ⟨q8, T⟩ := T
        refine v_getR (pc' := 52) 9 0 dX9_change_49 rfl (by decide) (by decide) rfl kf_X9_12 q8 ?_
        obtain ⟨q9, T⟩ := T
        refine v_getR (pc' := 55) 5 3 dX9_change_52 rfl (by decide) (by decide) rfl kf_X9_289 q9 ?_
        refine v_iload_n (pc' := 56) dX9_change_55 rfl rfl ?_
        obtain ⟨q10, T⟩ := T
        obtain ⟨q11, T⟩ := T
        refine v_iald (pc' := 57) dX9_change_56 rfl rfl q10 q11 ?_
        exact v_iret dX9_change_57 rfl T
      by_cases c12 : x2 = 1
      · have T := T.2.1 c12
        refine v_switchIn (off := 46) (pc' := 58) dX9_change_12 (by rw [c12]; decide) (by rw [c12]; decide) (by rw [c12]; rfl) (by decide) ?_
        refine v_aload_n (pc' := 59) dX9_change_58 rfl rfl ?_
        obtain ⟨q13, T⟩ := T
        refine v_getR (pc' := 62) 9 0 dX9_change_59 rfl (by decide) (by decide) rfl kf_X9_12 q13 ?_
        obtain ⟨q14, T⟩ := T
        refine v_getR (pc' := 65) 5 4 dX9_change_62 rfl (by decide) (by decide) rfl kf_X9_292 q14 ?_
        refine v_iload_n (pc' := 66) dX9_change_65 rfl rfl ?_
        obtain ⟨q15, T⟩ := T
        obtain ⟨q16, T⟩ := T
        refine v_iald (pc' := 67) dX9_change_66 rfl rfl q15 q16 ?_
        exact v_iret dX9_change_67 rfl T
      by_cases c17 : x2 = 2
      · have T := T.2.2.1 c17
        refine v_switchIn (off := 56) (pc' := 68) dX9_change_12 (by rw [c17]; decide) (by rw [c17]; decide) (by rw [c17]; rfl) (by decide) ?_
        refine v_aload_n (pc' := 69) dX9_change_68 rfl rfl ?_
        obtain ⟨q18, T⟩ := T
        refine v_getR (pc' := 72) 9 0 dX9_change_69 rfl (by decide) (by decide) rfl kf_X9_12 q18 ?_
        obtain ⟨q19, T⟩ := T
        refine v_getR (pc' := 75) 5 6 dX9_change_72 rfl (by decide) (by decide) rfl kf_X9_294 q19 ?_
        refine v_iload_n (pc' := 76) dX9_change_75 rfl rfl ?_
        refine v_bipush (pc' := 78) (v := 16) dX9_change_76 rfl kB_16 ?_
        refine v_imul (pc' := 79) dX9_change_78 rfl ?_
        refine v_aload_n (pc' := 80) dX9_change_79 rfl rfl ?_
        refine v_getR (pc' := 83) 9 0 dX9_change_80 rfl (by decide) (by decide) rfl kf_X9_12 q18 ?_
        refine v_iload_n (pc' := 84) dX9_change_83 rfl rfl ?_
        obtain ⟨z21, h20, k22, T⟩ := T
        refine v_callV (pc' := 87) (M1 := mX5_firstPlace) (as := [.int x1]) (r := (rH h4 r0 0)) (rest := [.int (x1 * 16), .ref (rH h4 (rH h4 r0 0) 6)]) 5 dX9_change_84 rfl ko_X9_297 kc_X5_firstPlace ki_X5_firstPlace ks_X5_firstPlace (by decide) (by decide) hdd rfl rfl (le_l rfl) q19 k22 ?_
        refine v_iadd (pc' := 88) dX9_change_87 rfl ?_
        obtain ⟨q23, T⟩ := T
        obtain ⟨q24, T⟩ := T
        refine v_bald (pc' := 89) dX9_change_88 rfl rfl q23 q24 ?_
        exact v_iret dX9_change_89 rfl T
      by_cases c25 : x2 = 3
      · have T := T.2.2.2.1 c25
        refine v_switchIn (off := 78) (pc' := 90) dX9_change_12 (by rw [c25]; decide) (by rw [c25]; decide) (by rw [c25]; rfl) (by decide) ?_
        refine v_aload_n (pc' := 91) dX9_change_90 rfl rfl ?_
        obtain ⟨q26, T⟩ := T
        refine v_getR (pc' := 94) 9 0 dX9_change_91 rfl (by decide) (by decide) rfl kf_X9_12 q26 ?_
        obtain ⟨q27, T⟩ := T
        refine v_getR (pc' := 97) 5 5 dX9_change_94 rfl (by decide) (by decide) rfl kf_X9_300 q27 ?_
        refine v_iload_n (pc' := 98) dX9_change_97 rfl rfl ?_
        obtain ⟨q28, T⟩ := T
        obtain ⟨q29, T⟩ := T
        refine v_iald (pc' := 99) dX9_change_98 rfl rfl q28 q29 ?_
        exact v_iret dX9_change_99 rfl T
      by_cases c30 : x2 = 4
      · have T := T.2.2.2.2.1 c30
        refine v_switchIn (off := 88) (pc' := 100) dX9_change_12 (by rw [c30]; decide) (by rw [c30]; decide) (by rw [c30]; rfl) (by decide) ?_
        refine v_aload_n (pc' := 101) dX9_change_100 rfl rfl ?_
        obtain ⟨q31, T⟩ := T
        refine v_getR (pc' := 104) 9 0 dX9_change_101 rfl (by decide) (by decide) rfl kf_X9_12 q31 ?_
        refine v_iload_n (pc' := 105) dX9_change_104 rfl rfl ?_
        obtain ⟨q35, T⟩ := T
        obtain ⟨z33, h32, k34, T⟩ := T
        refine v_callV (pc' := 108) (M1 := mX5_countNeeds) (as := [.int x1]) (r := (rH h4 r0 0)) (rest := []) 5 dX9_change_105 rfl ko_X9_303 kc_X5_countNeeds ki_X5_countNeeds ks_X5_countNeeds (by decide) (by decide) hdd rfl rfl (le_l rfl) q35 k34 ?_
        exact v_iret dX9_change_108 rfl T
      have T := T.2.2.2.2.2 c7 c12 c17 c25 c30
      refine v_switchOut (pc' := 109) dX9_change_12 (sw_out (n := 4) (by decide) (fun k hk => by rcases (show k = 0 ∨ k = 1 ∨ k = 2 ∨ k = 3 ∨ k = 4 by omega) with rfl | rfl | rfl | rfl | rfl <;> assumption)) (by decide) ?_
      refine v_aload_n (pc' := 110) dX9_change_109 rfl rfl ?_
      obtain ⟨q36, T⟩ := T
      refine v_getR (pc' := 113) 9 4 dX9_change_110 rfl (by decide) (by decide) rfl kf_X9_36 q36 ?_
      refine v_aload_n (pc' := 114) dX9_change_113 rfl rfl ?_
      refine v_getR (pc' := 117) 9 0 dX9_change_114 rfl (by decide) (by decide) rfl kf_X9_12 q36 ?_
      refine v_aload_n (pc' := 118) dX9_change_117 rfl rfl ?_
      refine v_getR (pc' := 121) 9 0 dX9_change_118 rfl (by decide) (by decide) rfl kf_X9_12 q36 ?_
      obtain ⟨q37, T⟩ := T
      refine v_getR (pc' := 124) 5 3 dX9_change_121 rfl (by decide) (by decide) rfl kf_X9_289 q37 ?_
      refine v_iload_n (pc' := 125) dX9_change_124 rfl rfl ?_
      obtain ⟨q38, T⟩ := T
      obtain ⟨q39, T⟩ := T
      refine v_iald (pc' := 126) dX9_change_125 rfl rfl q38 q39 ?_
      obtain ⟨q42, T⟩ := T
      obtain ⟨h40, k41, T⟩ := T
      refine v_callV (pc' := 129) (M1 := mX2_weigh) (as := [.ref (rH h4 r0 0), .int (h4.2 (rH h4 (rH h4 r0 0) 3) x1.toNatClampNeg)]) (r := (rH h4 r0 4)) (rest := []) 2 dX9_change_126 rfl ko_X9_306 kc_X2_weigh ki_X2_weigh ks_X2_weigh (by decide) (by decide) hdd rfl rfl (le_l rfl) q42 k41 ?_
      refine v_aload_n (pc' := 130) dX9_change_129 rfl rfl ?_
      obtain ⟨q43, T⟩ := T
      refine v_getR (pc' := 133) 9 4 dX9_change_130 rfl (by decide) (by decide) rfl kf_X9_36 q43 ?_
      obtain ⟨q44, T⟩ := T
      refine v_getR (pc' := 136) 2 0 dX9_change_133 rfl (by decide) (by decide) rfl kf_X9_310 q44 ?_
      refine v_iload_n (pc' := 137) dX9_change_136 rfl rfl ?_
      obtain ⟨q45, T⟩ := T
      obtain ⟨q46, T⟩ := T
      refine v_zald (pc' := 138) dX9_change_137 rfl rfl q45 q46 ?_
      refine v_if_eq (tgt := 145) (pc' := 141) dX9_change_138 (by decide) rfl ⟨fun c47 => ?_, fun c47 => ?_⟩
      · have T := T.1 c47
        refine v_iconst (pc' := 146) (v := 0) dX9_change_145 rfl kI_0 ?_
        exact v_iret dX9_change_146 rfl T
      · have T := T.2 c47
        refine v_iconst (pc' := 142) (v := 1) dX9_change_141 rfl kI_1 ?_
        refine v_goto (pc' := 146) dX9_change_142 (by decide) ?_
        exact v_iret dX9_change_146 rfl T
    · exact v_callVx (M1 := mX9_testChange) (as := [.int x1]) (r := r0) (rest := []) 9 dX9_change_8 rfl ko_X9_286 kc_X9_testChange ki_X9_testChange ks_X9_testChange (by decide) (by decide) hdd rfl rfl (le_l rfl) q6 k5
  · exact v_callVx (M1 := mX9_testWhat) (as := [.int x2, .int 5]) (r := r0) (rest := []) 9 dX9_change_3 rfl ko_X9_195 kc_X9_testWhat ki_X9_testWhat ks_X9_testWhat (by decide) (by decide) hdd rfl rfl (le_l rfl) q3 k2
