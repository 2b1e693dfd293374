theorem eX3_isSpelled {G : GG} {d : Nat} {h : Hp} {o : OU} {h' : Hp} (r0 : Nat) (x1 : Int32) (x2 : Int32) (T : kH h r0 = 13 ∧ ((((h.2 r0 7) - x2) ≤ 5 → V G mX3_isSpelled d 14 [.ref r0, .int x1, .int x2, .int 0, uV] [] h o h') ∧ (¬ ((h.2 r0 7) - x2) ≤ 5 → (o = .inl (some (.int 0)) ∧ h' = h)))) : VM G mX3_isSpelled d [.ref r0, .int x1, .int x2] h o h' := by
  refine V.toM rfl rfl (le_l rfl) (cat_all rfl) ?_
  show V G mX3_isSpelled d 0 [.ref r0, .int x1, .int x2, uV, uV] [] h o h'
  refine v_aload_n (pc' := 1) dX3_isSpelled_0 rfl rfl ?_
  obtain ⟨q1, T⟩ := T
  refine v_getI (pc' := 4) 3 7 dX3_isSpelled_1 rfl (by decide) (by decide) rfl kf_X3_48 q1 ?_
  refine v_iload_n (pc' := 5) dX3_isSpelled_4 rfl rfl ?_
  refine v_isub (pc' := 6) dX3_isSpelled_5 rfl ?_
  refine v_iconst (pc' := 7) (v := 5) dX3_isSpelled_6 rfl kI_5 ?_
  refine v_icmp_le (tgt := 12) (pc' := 10) dX3_isSpelled_7 (by decide) rfl ⟨fun c2 => ?_, fun c2 => ?_⟩
  · have T := T.1 c2
    refine v_iconst (pc' := 13) (v := 0) dX3_isSpelled_12 rfl kI_0 ?_
    refine v_istore_n (pc' := 14) (loc' := [.ref r0, .int x1, .int x2, .int 0, uV]) dX3_isSpelled_13 rfl (lt_l rfl) rfl ?_
    exact T
  · have T := T.2 c2
    refine v_iconst (pc' := 11) (v := 0) dX3_isSpelled_10 rfl kI_0 ?_
    exact v_zret dX3_isSpelled_11 rfl (Or.inl rfl) T
theorem bX3_isSpelled_14 {G : GG} {d : Nat} {h : Hp} {o : OU} {h' : Hp} (r0 : Nat) (x1 : Int32) (x2 : Int32) (x3 : Int32) (hd : 1 ≤ d) (T : ((5 ≤ x3 → (o = .inl (some (.int 1)) ∧ h' = h)) ∧ (¬ 5 ≤ x3 → kH h r0 = 13 ∧ (((h.2 r0 7) ≤ (x2 + x3) → ∃ z5 h4, VM G mJ0_charAt_5068e (d - 1) [.ref 2, .int ((x1 * 5) + x3)] h (.inl (some (.int z5))) h4 ∧ ((z5 = 32 → V G mX3_isSpelled d 14 [.ref r0, .int x1, .int x2, .int (x3 + 1), uV] [] h4 o h') ∧ (¬ z5 = 32 → (o = .inl (some (.int 0)) ∧ h' = h4)))) ∧ (¬ (h.2 r0 7) ≤ (x2 + x3) → kH h (rH h r0 5) = 2 ∧ vp_in (x2 + x3) (lH h (rH h r0 5)) ∧ ∃ z11 h10, VM G mJ0_charAt_5068e (d - 1) [.ref 2, .int ((x1 * 5) + x3)] h (.inl (some (.int z11))) h10 ∧ ((z11 = (h.2 (rH h r0 5) (x2 + x3).toNatClampNeg) → V G mX3_isSpelled d 14 [.ref r0, .int x1, .int x2, .int (x3 + 1), uV] [] h10 o h') ∧ (¬ z11 = (h.2 (rH h r0 5) (x2 + x3).toNatClampNeg) → (o = .inl (some (.int 0)) ∧ h' = h10)))))))) : V G mX3_isSpelled d 14 [.ref r0, .int x1, .int x2, .int x3, uV] [] h o h' := by
  have hdd : d - 1 + 1 ≤ d := by omega
  refine v_iload_n (pc' := 15) dX3_isSpelled_14 rfl rfl ?_
  refine v_iconst (pc' := 16) (v := 5) dX3_isSpelled_15 rfl kI_5 ?_
  refine v_icmp_ge (tgt := 67) (pc' := 19) dX3_isSpelled_16 (by decide) rfl ⟨fun c1 => ?_, fun c1 => ?_⟩
  · have T := T.1 c1
    refine v_iconst (pc' := 68) (v := 1) dX3_isSpelled_67 rfl kI_1 ?_
    exact v_zret dX3_isSpelled_68 rfl (Or.inr rfl) T
  · have T := T.2 c1
    refine v_iload_n (pc' := 20) dX3_isSpelled_19 rfl rfl ?_
    refine v_iload_n (pc' := 21) dX3_isSpelled_20 rfl rfl ?_
    refine v_iadd (pc' := 22) dX3_isSpelled_21 rfl ?_
    refine v_aload_n (pc' := 23) dX3_isSpelled_22 rfl rfl ?_
    obtain ⟨q2, T⟩ := T
    refine v_getI (pc' := 26) 3 7 dX3_isSpelled_23 rfl (by decide) (by decide) rfl kf_X3_48 q2 ?_
    refine v_icmp_ge (tgt := 40) (pc' := 29) dX3_isSpelled_26 (by decide) rfl ⟨fun c3 => ?_, fun c3 => ?_⟩
    · have T := T.1 c3
      refine v_bipush (pc' := 42) (v := 32) dX3_isSpelled_40 rfl kB_32 ?_
      refine v_istore (pc' := 44) (loc' := [.ref r0, .int x1, .int x2, .int x3, .int 32]) dX3_isSpelled_42 rfl (lt_l rfl) rfl ?_
      refine v_ldcS (pc' := 46) dX3_isSpelled_44 rfl rfl ?_
      refine v_iload_n (pc' := 47) dX3_isSpelled_46 rfl rfl ?_
      refine v_iconst (pc' := 48) (v := 5) dX3_isSpelled_47 rfl kI_5 ?_
      refine v_imul (pc' := 49) dX3_isSpelled_48 rfl ?_
      refine v_iload_n (pc' := 50) dX3_isSpelled_49 rfl rfl ?_
      refine v_iadd (pc' := 51) dX3_isSpelled_50 rfl ?_
      obtain ⟨z5, h4, k6, T⟩ := T
      refine v_callVs (pc' := 54) (M1 := mJ0_charAt_5068e) (as := [.int ((x1 * 5) + x3)]) (r := 2) (rest := []) dX3_isSpelled_51 rfl ko_X3_110 kc_J0_charAt_5068e ki_J0_charAt_5068e ks_J0_charAt_5068e (by decide) hdd rfl rfl (le_l rfl) rfl k6 ?_
      refine v_iload (pc' := 56) dX3_isSpelled_54 rfl rfl ?_
      refine v_icmp_eq (tgt := 61) (pc' := 59) dX3_isSpelled_56 (by decide) rfl ⟨fun c7 => ?_, fun c7 => ?_⟩
      · have T := T.1 c7
        refine v_iinc (pc' := 64) (loc' := [.ref r0, .int x1, .int x2, .int (x3 + 1), .int 32]) dX3_isSpelled_61 rfl rfl (kX_1 _) rfl ?_
        refine v_goto (pc' := 14) dX3_isSpelled_64 (by decide) ?_
        exact V.drop (llp_r (llp_r (llp_r (llp_r (llp_u llp_nil))))) T
      · have T := T.2 c7
        refine v_iconst (pc' := 60) (v := 0) dX3_isSpelled_59 rfl kI_0 ?_
        exact v_zret dX3_isSpelled_60 rfl (Or.inl rfl) T
    · have T := T.2 c3
      refine v_aload_n (pc' := 30) dX3_isSpelled_29 rfl rfl ?_
      refine v_getR (pc' := 33) 3 5 dX3_isSpelled_30 rfl (by decide) (by decide) rfl kf_X3_22 q2 ?_
      refine v_iload_n (pc' := 34) dX3_isSpelled_33 rfl rfl ?_
      refine v_iload_n (pc' := 35) dX3_isSpelled_34 rfl rfl ?_
      refine v_iadd (pc' := 36) dX3_isSpelled_35 rfl ?_
      obtain ⟨q8, T⟩ := T
      obtain ⟨q9, T⟩ := T
      refine v_bald (pc' := 37) dX3_isSpelled_36 rfl rfl q8 q9 ?_
      refine v_goto (pc' := 42) dX3_isSpelled_37 (by decide) ?_
      refine v_istore (pc' := 44) (loc' := [.ref r0, .int x1, .int x2, .int x3, .int (h.2 (rH h r0 5) (x2 + x3).toNatClampNeg)]) dX3_isSpelled_42 rfl (lt_l rfl) rfl ?_
      refine v_ldcS (pc' := 46) dX3_isSpelled_44 rfl rfl ?_
      refine v_iload_n (pc' := 47) dX3_isSpelled_46 rfl rfl ?_
      refine v_iconst (pc' := 48) (v := 5) dX3_isSpelled_47 rfl kI_5 ?_
      refine v_imul (pc' := 49) dX3_isSpelled_48 rfl ?_
      refine v_iload_n (pc' := 50) dX3_isSpelled_49 rfl rfl ?_
      refine v_iadd (pc' := 51) dX3_isSpelled_50 rfl ?_
      obtain ⟨z11, h10, k12, T⟩ := T
      refine v_callVs (pc' := 54) (M1 := mJ0_charAt_5068e) (as := [.int ((x1 * 5) + x3)]) (r := 2) (rest := []) dX3_isSpelled_51 rfl ko_X3_110 kc_J0_charAt_5068e ki_J0_charAt_5068e ks_J0_charAt_5068e (by decide) hdd rfl rfl (le_l rfl) rfl k12 ?_
      refine v_iload (pc' := 56) dX3_isSpelled_54 rfl rfl ?_
      refine v_icmp_eq (tgt := 61) (pc' := 59) dX3_isSpelled_56 (by decide) rfl ⟨fun c13 => ?_, fun c13 => ?_⟩
      · have T := T.1 c13
        refine v_iinc (pc' := 64) (loc' := [.ref r0, .int x1, .int x2, .int (x3 + 1), .int (h.2 (rH h r0 5) (x2 + x3).toNatClampNeg)]) dX3_isSpelled_61 rfl rfl (kX_1 _) rfl ?_
        refine v_goto (pc' := 14) dX3_isSpelled_64 (by decide) ?_
        exact V.drop (llp_r (llp_r (llp_r (llp_r (llp_u llp_nil))))) T
      · have T := T.2 c13
        refine v_iconst (pc' := 60) (v := 0) dX3_isSpelled_59 rfl kI_0 ?_
        exact v_zret dX3_isSpelled_60 rfl (Or.inl rfl) T
theorem eX9_testLength {G : GG} {d : Nat} {h : Hp} {o : OU} {h' : Hp} (r0 : Nat) (x1 : Int32) (x2 : Int32) (hd8 : 8 ≤ d) (T : ((x1 < 0 → kH h r0 = 19 ∧ kH h (rH h r0 10) = 1 ∧ vp_in 1 (lH h (rH h r0 10)) ∧ (o = .inr xIA ∧ h' = nwH (h.1, (upI h.2 (rH h r0 10) 1 ((h.2 (rH h r0 10) 1) + 1))) 30 0 6)) ∧ (¬ x1 < 0 → kH h r0 = 19 ∧ (((h.2 r0 12) < x1 → kH h (rH h r0 10) = 1 ∧ vp_in 1 (lH h (rH h r0 10)) ∧ (o = .inr xIA ∧ h' = nwH (h.1, (upI h.2 (rH h r0 10) 1 ((h.2 (rH h r0 10) 1) + 1))) 30 0 6)) ∧ (¬ (h.2 r0 12) < x1 → ((x1 ≤ x2 → (o = .inl none ∧ h' = h)) ∧ (¬ x1 ≤ x2 → kH h (rH h r0 10) = 1 ∧ vp_in 1 (lH h (rH h r0 10)) ∧ (o = .inr xIA ∧ h' = nwH (h.1, (upI h.2 (rH h r0 10) 1 ((h.2 (rH h r0 10) 1) + 1))) 30 0 6)))))))) : VM G mX9_testLength d [.ref r0, .int x1, .int x2] h o h' := by
  refine V.toM rfl rfl (le_l rfl) (cat_all rfl) ?_
  show V G mX9_testLength d 0 [.ref r0, .int x1, .int x2] [] h o h'
  refine v_iload_n (pc' := 1) dX9_testLength_0 rfl rfl ?_
  refine v_if_lt (tgt := 17) (pc' := 4) dX9_testLength_1 (by decide) rfl ⟨fun c1 => ?_, fun c1 => ?_⟩
  · have T := T.1 c1
    refine v_aload_n (pc' := 18) dX9_testLength_17 rfl rfl ?_
    obtain ⟨q2, T⟩ := T
    refine v_getR (pc' := 21) 9 10 dX9_testLength_18 rfl (by decide) (by decide) rfl kf_X9_68 q2 ?_
    refine v_iconst (pc' := 22) (v := 1) dX9_testLength_21 rfl kI_1 ?_
    refine v_dup2 (pc' := 23) dX9_testLength_22 rfl rfl rfl ?_
    obtain ⟨q3, T⟩ := T
    obtain ⟨q4, T⟩ := T
    refine v_iald (pc' := 24) dX9_testLength_23 rfl kN_1 q3 q4 ?_
    refine v_iconst (pc' := 25) (v := 1) dX9_testLength_24 rfl kI_1 ?_
    refine v_iadd (pc' := 26) dX9_testLength_25 rfl ?_
    refine v_iast (pc' := 27) dX9_testLength_26 rfl kN_1 q3 q4 ?_
    exact v_throw xIA "no such length" rfl rfl dX9_testLength_27 dX9_testLength_30 (Or.inl ⟨dX9_testLength_31, dX9_testLength_33, dX9_testLength_36⟩) kk_X9_182 kn_xIA (by decide) (by decide) (by decide) okT_IA hd8 (le_l rfl) T
  · have T := T.2 c1
    refine v_iload_n (pc' := 5) dX9_testLength_4 rfl rfl ?_
    refine v_aload_n (pc' := 6) dX9_testLength_5 rfl rfl ?_
    obtain ⟨q5, T⟩ := T
    refine v_getI (pc' := 9) 9 12 dX9_testLength_6 rfl (by decide) (by decide) rfl kf_X9_78 q5 ?_
    refine v_icmp_gt (tgt := 17) (pc' := 12) dX9_testLength_9 (by decide) rfl ⟨fun c6 => ?_, fun c6 => ?_⟩
    · have T := T.1 c6
      refine v_aload_n (pc' := 18) dX9_testLength_17 rfl rfl ?_
      refine v_getR (pc' := 21) 9 10 dX9_testLength_18 rfl (by decide) (by decide) rfl kf_X9_68 q5 ?_
      refine v_iconst (pc' := 22) (v := 1) dX9_testLength_21 rfl kI_1 ?_
      refine v_dup2 (pc' := 23) dX9_testLength_22 rfl rfl rfl ?_
      obtain ⟨q7, T⟩ := T
      obtain ⟨q8, T⟩ := T
      refine v_iald (pc' := 24) dX9_testLength_23 rfl kN_1 q7 q8 ?_
      refine v_iconst (pc' := 25) (v := 1) dX9_testLength_24 rfl kI_1 ?_
      refine v_iadd (pc' := 26) dX9_testLength_25 rfl ?_
      refine v_iast (pc' := 27) dX9_testLength_26 rfl kN_1 q7 q8 ?_
      exact v_throw xIA "no such length" rfl rfl dX9_testLength_27 dX9_testLength_30 (Or.inl ⟨dX9_testLength_31, dX9_testLength_33, dX9_testLength_36⟩) kk_X9_182 kn_xIA (by decide) (by decide) (by decide) okT_IA hd8 (le_l rfl) T
    · have T := T.2 c6
      refine v_iload_n (pc' := 13) dX9_testLength_12 rfl rfl ?_
      refine v_iload_n (pc' := 14) dX9_testLength_13 rfl rfl ?_
      refine v_icmp_le (tgt := 37) (pc' := 17) dX9_testLength_14 (by decide) rfl ⟨fun c9 => ?_, fun c9 => ?_⟩
      · have T := T.1 c9
        exact v_vret dX9_testLength_37 rfl T
      · have T := T.2 c9
        refine v_aload_n (pc' := 18) dX9_testLength_17 rfl rfl ?_
        refine v_getR (pc' := 21) 9 10 dX9_testLength_18 rfl (by decide) (by decide) rfl kf_X9_68 q5 ?_
        refine v_iconst (pc' := 22) (v := 1) dX9_testLength_21 rfl kI_1 ?_
        refine v_dup2 (pc' := 23) dX9_testLength_22 rfl rfl rfl ?_
        obtain ⟨q10, T⟩ := T
        obtain ⟨q11, T⟩ := T
        refine v_iald (pc' := 24) dX9_testLength_23 rfl kN_1 q10 q11 ?_
        refine v_iconst (pc' := 25) (v := 1) dX9_testLength_24 rfl kI_1 ?_
        refine v_iadd (pc' := 26) dX9_testLength_25 rfl ?_
        refine v_iast (pc' := 27) dX9_testLength_26 rfl kN_1 q10 q11 ?_
        exact v_throw xIA "no such length" rfl rfl dX9_testLength_27 dX9_testLength_30 (Or.inl ⟨dX9_testLength_31, dX9_testLength_33, dX9_testLength_36⟩) kk_X9_182 kn_xIA (by decide) (by decide) (by decide) okT_IA hd8 (le_l rfl) T
theorem eX9_testRange {G : GG} {d : Nat} {h : Hp} {o : OU} {h' : Hp} (r0 : Nat) (x1 : Int32) (x2 : Int32) (x3 : Int32) (hd8 : 8 ≤ d) (T : ((x1 < x2 → kH h r0 = 19 ∧ kH h (rH h r0 10) = 1 ∧ vp_in 1 (lH h (rH h r0 10)) ∧ (o = .inr xIA ∧ h' = nwH (h.1, (upI h.2 (rH h r0 10) 1 ((h.2 (rH h r0 10) 1) + 1))) 30 0 6)) ∧ (¬ x1 < x2 → ((x1 ≤ x3 → (o = .inl none ∧ h' = h)) ∧ (¬ x1 ≤ x3 → kH h r0 = 19 ∧ kH h (rH h r0 10) = 1 ∧ vp_in 1 (lH h (rH h r0 10)) ∧ (o = .inr xIA ∧ h' = nwH (h.1, (upI h.2 (rH h r0 10) 1 ((h.2 (rH h r0 10) 1) + 1))) 30 0 6)))))) : VM G mX9_testRange d [.ref r0, .int x1, .int x2, .int x3] h o h' := by
  refine V.toM rfl rfl (le_l rfl) (cat_all rfl) ?_
  show V G mX9_testRange d 0 [.ref r0, .int x1, .int x2, .int x3] [] h o h'
  refine v_iload_n (pc' := 1) dX9_testRange_0 rfl rfl ?_
  refine v_iload_n (pc' := 2) dX9_testRange_1 rfl rfl ?_
  refine v_icmp_lt (tgt := 10) (pc' := 5) dX9_testRange_2 (by decide) rfl ⟨fun c1 => ?_, fun c1 => ?_⟩
  · have T := T.1 c1
    refine v_aload_n (pc' := 11) dX9_testRange_10 rfl rfl ?_
    obtain ⟨q2, T⟩ := T
    refine v_getR (pc' := 14) 9 10 dX9_testRange_11 rfl (by decide) (by decide) rfl kf_X9_68 q2 ?_
    refine v_iconst (pc' := 15) (v := 1) dX9_testRange_14 rfl kI_1 ?_
    refine v_dup2 (pc' := 16) dX9_testRange_15 rfl rfl rfl ?_
    obtain ⟨q3, T⟩ := T
    obtain ⟨q4, T⟩ := T
    refine v_iald (pc' := 17) dX9_testRange_16 rfl kN_1 q3 q4 ?_
    refine v_iconst (pc' := 18) (v := 1) dX9_testRange_17 rfl kI_1 ?_
    refine v_iadd (pc' := 19) dX9_testRange_18 rfl ?_
    refine v_iast (pc' := 20) dX9_testRange_19 rfl kN_1 q3 q4 ?_
    exact v_throw xIA "no such number" rfl rfl dX9_testRange_20 dX9_testRange_23 (Or.inr ⟨dX9_testRange_24, dX9_testRange_27, dX9_testRange_30⟩) kk_X9_182 kn_xIA (by decide) (by decide) (by decide) okT_IA hd8 (le_l rfl) T
  · have T := T.2 c1
    refine v_iload_n (pc' := 6) dX9_testRange_5 rfl rfl ?_
    refine v_iload_n (pc' := 7) dX9_testRange_6 rfl rfl ?_
    refine v_icmp_le (tgt := 31) (pc' := 10) dX9_testRange_7 (by decide) rfl ⟨fun c5 => ?_, fun c5 => ?_⟩
    · have T := T.1 c5
      exact v_vret dX9_testRange_31 rfl T
    · have T := T.2 c5
      refine v_aload_n (pc' := 11) dX9_testRange_10 rfl rfl ?_
      obtain ⟨q6, T⟩ := T
      refine v_getR (pc' := 14) 9 10 dX9_testRange_11 rfl (by decide) (by decide) rfl kf_X9_68 q6 ?_
      refine v_iconst (pc' := 15) (v := 1) dX9_testRange_14 rfl kI_1 ?_
      refine v_dup2 (pc' := 16) dX9_testRange_15 rfl rfl rfl ?_
      obtain ⟨q7, T⟩ := T
      obtain ⟨q8, T⟩ := T
      refine v_iald (pc' := 17) dX9_testRange_16 rfl kN_1 q7 q8 ?_
      refine v_iconst (pc' := 18) (v := 1) dX9_testRange_17 rfl kI_1 ?_
      refine v_iadd (pc' := 19) dX9_testRange_18 rfl ?_
      refine v_iast (pc' := 20) dX9_testRange_19 rfl kN_1 q7 q8 ?_
      exact v_throw xIA "no such number" rfl rfl dX9_testRange_20 dX9_testRange_23 (Or.inr ⟨dX9_testRange_24, dX9_testRange_27, dX9_testRange_30⟩) kk_X9_182 kn_xIA (by decide) (by decide) (by decide) okT_IA hd8 (le_l rfl) T
theorem eX9_testBlock {G : GG} {d : Nat} {h : Hp} {o : OU} {h' : Hp} (r0 : Nat) (x1 : Int32) (hd8 : 8 ≤ d) (T : ((x1 < 0 → kH h r0 = 19 ∧ kH h (rH h r0 10) = 1 ∧ vp_in 3 (lH h (rH h r0 10)) ∧ (o = .inr xIO ∧ h' = nwH (h.1, (upI h.2 (rH h r0 10) 3 ((h.2 (rH h r0 10) 3) + 1))) 30 0 6)) ∧ (¬ x1 < 0 → kH h r0 = 19 ∧ kH h (rH h r0 0) = 15 ∧ ((x1 < (h.2 (rH h r0 0) 0) → (o = .inl none ∧ h' = h)) ∧ (¬ x1 < (h.2 (rH h r0 0) 0) → kH h (rH h r0 10) = 1 ∧ vp_in 3 (lH h (rH h r0 10)) ∧ (o = .inr xIO ∧ h' = nwH (h.1, (upI h.2 (rH h r0 10) 3 ((h.2 (rH h r0 10) 3) + 1))) 30 0 6)))))) : VM G mX9_testBlock d [.ref r0, .int x1] h o h' := by
  refine V.toM rfl rfl (le_l rfl) (cat_all rfl) ?_
  show V G mX9_testBlock d 0 [.ref r0, .int x1] [] h o h'
  refine v_iload_n (pc' := 1) dX9_testBlock_0 rfl rfl ?_
  refine v_if_lt (tgt := 15) (pc' := 4) dX9_testBlock_1 (by decide) rfl ⟨fun c1 => ?_, fun c1 => ?_⟩
  · have T := T.1 c1
    refine v_aload_n (pc' := 16) dX9_testBlock_15 rfl rfl ?_
    obtain ⟨q2, T⟩ := T
    refine v_getR (pc' := 19) 9 10 dX9_testBlock_16 rfl (by decide) (by decide) rfl kf_X9_68 q2 ?_
    refine v_iconst (pc' := 20) (v := 3) dX9_testBlock_19 rfl kI_3 ?_
    refine v_dup2 (pc' := 21) dX9_testBlock_20 rfl rfl rfl ?_
    obtain ⟨q3, T⟩ := T
    obtain ⟨q4, T⟩ := T
    refine v_iald (pc' := 22) dX9_testBlock_21 rfl kN_3 q3 q4 ?_
    refine v_iconst (pc' := 23) (v := 1) dX9_testBlock_22 rfl kI_1 ?_
    refine v_iadd (pc' := 24) dX9_testBlock_23 rfl ?_
    refine v_iast (pc' := 25) dX9_testBlock_24 rfl kN_3 q3 q4 ?_
    exact v_throw xIO "no such block" rfl rfl dX9_testBlock_25 dX9_testBlock_28 (Or.inr ⟨dX9_testBlock_29, dX9_testBlock_32, dX9_testBlock_35⟩) kk_X9_411 kn_xIO (by decide) (by decide) (by decide) okT_IO hd8 (le_l rfl) T
  · have T := T.2 c1
    refine v_iload_n (pc' := 5) dX9_testBlock_4 rfl rfl ?_
    refine v_aload_n (pc' := 6) dX9_testBlock_5 rfl rfl ?_
    obtain ⟨q5, T⟩ := T
    refine v_getR (pc' := 9) 9 0 dX9_testBlock_6 rfl (by decide) (by decide) rfl kf_X9_12 q5 ?_
    obtain ⟨q6, T⟩ := T
    refine v_getI (pc' := 12) 5 0 dX9_testBlock_9 rfl (by decide) (by decide) rfl kf_X9_113 q6 ?_
    refine v_icmp_lt (tgt := 36) (pc' := 15) dX9_testBlock_12 (by decide) rfl ⟨fun c7 => ?_, fun c7 => ?_⟩
    · have T := T.1 c7
      exact v_vret dX9_testBlock_36 rfl T
    · have T := T.2 c7
      refine v_aload_n (pc' := 16) dX9_testBlock_15 rfl rfl ?_
      refine v_getR (pc' := 19) 9 10 dX9_testBlock_16 rfl (by decide) (by decide) rfl kf_X9_68 q5 ?_
      refine v_iconst (pc' := 20) (v := 3) dX9_testBlock_19 rfl kI_3 ?_
      refine v_dup2 (pc' := 21) dX9_testBlock_20 rfl rfl rfl ?_
      obtain ⟨q8, T⟩ := T
      obtain ⟨q9, T⟩ := T
      refine v_iald (pc' := 22) dX9_testBlock_21 rfl kN_3 q8 q9 ?_
      refine v_iconst (pc' := 23) (v := 1) dX9_testBlock_22 rfl kI_1 ?_
      refine v_iadd (pc' := 24) dX9_testBlock_23 rfl ?_
      refine v_iast (pc' := 25) dX9_testBlock_24 rfl kN_3 q8 q9 ?_
      exact v_throw xIO "no such block" rfl rfl dX9_testBlock_25 dX9_testBlock_28 (Or.inr ⟨dX9_testBlock_29, dX9_testBlock_32, dX9_testBlock_35⟩) kk_X9_411 kn_xIO (by decide) (by decide) (by decide) okT_IO hd8 (le_l rfl) T
theorem eX9_testPlace {G : GG} {d : Nat} {h : Hp} {o : OU} {h' : Hp} (r0 : Nat) (x1 : Int32) (hd8 : 8 ≤ d) (T : ((x1 < 0 → kH h r0 = 19 ∧ kH h (rH h r0 10) = 1 ∧ vp_in 3 (lH h (rH h r0 10)) ∧ (o = .inr xIO ∧ h' = nwH (h.1, (upI h.2 (rH h r0 10) 3 ((h.2 (rH h r0 10) 3) + 1))) 30 0 6)) ∧ (¬ x1 < 0 → ((x1 < 16 → (o = .inl none ∧ h' = h)) ∧ (¬ x1 < 16 → kH h r0 = 19 ∧ kH h (rH h r0 10) = 1 ∧ vp_in 3 (lH h (rH h r0 10)) ∧ (o = .inr xIO ∧ h' = nwH (h.1, (upI h.2 (rH h r0 10) 3 ((h.2 (rH h r0 10) 3) + 1))) 30 0 6)))))) : VM G mX9_testPlace d [.ref r0, .int x1] h o h' := by
  refine V.toM rfl rfl (le_l rfl) (cat_all rfl) ?_
  show V G mX9_testPlace d 0 [.ref r0, .int x1] [] h o h'
  refine v_iload_n (pc' := 1) dX9_testPlace_0 rfl rfl ?_
  refine v_if_lt (tgt := 10) (pc' := 4) dX9_testPlace_1 (by decide) rfl ⟨fun c1 => ?_, fun c1 => ?_⟩
  · have T := T.1 c1
    refine v_aload_n (pc' := 11) dX9_testPlace_10 rfl rfl ?_
    obtain ⟨q2, T⟩ := T
    refine v_getR (pc' := 14) 9 10 dX9_testPlace_11 rfl (by decide) (by decide) rfl kf_X9_68 q2 ?_
    refine v_iconst (pc' := 15) (v := 3) dX9_testPlace_14 rfl kI_3 ?_
    refine v_dup2 (pc' := 16) dX9_testPlace_15 rfl rfl rfl ?_
    obtain ⟨q3, T⟩ := T
    obtain ⟨q4, T⟩ := T
    refine v_iald (pc' := 17) dX9_testPlace_16 rfl kN_3 q3 q4 ?_
    refine v_iconst (pc' := 18) (v := 1) dX9_testPlace_17 rfl kI_1 ?_
    refine v_iadd (pc' := 19) dX9_testPlace_18 rfl ?_
    refine v_iast (pc' := 20) dX9_testPlace_19 rfl kN_3 q3 q4 ?_
    exact v_throw xIO "no such place" rfl rfl dX9_testPlace_20 dX9_testPlace_23 (Or.inr ⟨dX9_testPlace_24, dX9_testPlace_27, dX9_testPlace_30⟩) kk_X9_411 kn_xIO (by decide) (by decide) (by decide) okT_IO hd8 (le_l rfl) T
  · have T := T.2 c1
    refine v_iload_n (pc' := 5) dX9_testPlace_4 rfl rfl ?_
    refine v_bipush (pc' := 7) (v := 16) dX9_testPlace_5 rfl kB_16 ?_
    refine v_icmp_lt (tgt := 31) (pc' := 10) dX9_testPlace_7 (by decide) rfl ⟨fun c5 => ?_, fun c5 => ?_⟩
    · have T := T.1 c5
      exact v_vret dX9_testPlace_31 rfl T
    · have T := T.2 c5
      refine v_aload_n (pc' := 11) dX9_testPlace_10 rfl rfl ?_
      obtain ⟨q6, T⟩ := T
      refine v_getR (pc' := 14) 9 10 dX9_testPlace_11 rfl (by decide) (by decide) rfl kf_X9_68 q6 ?_
      refine v_iconst (pc' := 15) (v := 3) dX9_testPlace_14 rfl kI_3 ?_
      refine v_dup2 (pc' := 16) dX9_testPlace_15 rfl rfl rfl ?_
      obtain ⟨q7, T⟩ := T
      obtain ⟨q8, T⟩ := T
      refine v_iald (pc' := 17) dX9_testPlace_16 rfl kN_3 q7 q8 ?_
      refine v_iconst (pc' := 18) (v := 1) dX9_testPlace_17 rfl kI_1 ?_
      refine v_iadd (pc' := 19) dX9_testPlace_18 rfl ?_
      refine v_iast (pc' := 20) dX9_testPlace_19 rfl kN_3 q7 q8 ?_
      exact v_throw xIO "no such place" rfl rfl dX9_testPlace_20 dX9_testPlace_23 (Or.inr ⟨dX9_testPlace_24, dX9_testPlace_27, dX9_testPlace_30⟩) kk_X9_411 kn_xIO (by decide) (by decide) (by decide) okT_IO hd8 (le_l rfl) T
theorem eL_store {G : GG} {d : Nat} {h : Hp} {o : OU} {h' : Hp} (r0 : Nat) (x1 : Int32) (r2 : Nat) (hd : 1 ≤ d) (T : kH h r0 = 19 ∧ ((∃ z2 h1, VM G mX9_store (d - 1) [.ref r0, .int x1] h (.inl (some (.int z2))) h1 ∧ kH h1 r2 = 4 ∧ vp_in 0 (lH h1 r2) ∧ (o = .inl (some (.int 0)) ∧ h' = (h1.1, (upI h1.2 r2 0 z2)))) ∨ (∃ h7, VM G mX9_store (d - 1) [.ref r0, .int x1] h (.inr xIA) h7 ∧ (o = .inl (some (.int 1)) ∧ h' = h7)))) : VMW G mL_store d [.ref r0, .int x1, .ref r2] h o h' := by
  refine V.toMW rfl (le_l rfl) (cat_all rfl) ?_
  show V G mL_store d 0 [.ref r0, .int x1, .ref r2, uV] [] h o h'
  have hdd : d - 1 + 1 ≤ d := by omega
  refine v_aload_n (pc' := 1) dL_store_0 rfl rfl ?_
  refine v_iconst (pc' := 2) (v := 0) dL_store_1 rfl kI_0 ?_
  refine v_aload_n (pc' := 3) dL_store_2 rfl rfl ?_
  refine v_iload_n (pc' := 4) dL_store_3 rfl rfl ?_
  obtain ⟨q4, T⟩ := T
  rcases T with T | T
  · obtain ⟨z2, h1, k3, T⟩ := T
    refine v_callV (pc' := 7) (M1 := mX9_store) (as := [.int x1]) (r := r0) (rest := [.int 0, .ref r2]) 9 dL_store_4 rfl ko_L_7 kc_X9_store ki_X9_store ks_X9_store (by decide) (by decide) hdd rfl rfl (le_l rfl) q4 k3 ?_
    refine v_i2l (pc' := 8) dL_store_7 rfl ?_
    obtain ⟨q5, T⟩ := T
    obtain ⟨q6, T⟩ := T
    refine v_last (pc' := 9) dL_store_8 rfl kN_0 q5 q6 ?_
    refine v_goto (pc' := 15) dL_store_9 (by decide) ?_
    refine v_iconst (pc' := 16) (v := 0) dL_store_15 rfl kI_0 ?_
    exact v_iret dL_store_16 rfl T
  · obtain ⟨h7, k8, T⟩ := T
    refine v_callVc (M := mL_store) (E := xIA) (M1 := mX9_store) (as := [.int x1]) (r := r0) (rest := [.int 0, .ref r2]) (pc' := 13) 9 [] (0, 9, 12, 13) [] 3 rfl (fun z hz => nomatch hz) (by decide) (by decide) kk_L_13 (by decide) (Or.inl ⟨3, dL_store_12, rfl, rfl⟩) (lt_l rfl) dL_store_4 ko_L_7 kc_X9_store ki_X9_store ks_X9_store (by decide) (by decide) hdd rfl rfl (le_l rfl) q4 k8 ?_
    show V G mL_store d 13 [.ref r0, .int x1, .ref r2, uV] [] h7 o h'
    refine v_iconst (pc' := 14) (v := 1) dL_store_13 rfl kI_1 ?_
    exact v_iret dL_store_14 rfl T
theorem eL_work {G : GG} {d : Nat} {h : Hp} {o : OU} {h' : Hp} (r0 : Nat) (x1 : Int32) (r2 : Nat) (hd : 1 ≤ d) (T : kH h r0 = 19 ∧ ((∃ z2 h1, VM G mX9_work (d - 1) [.ref r0, .int x1] h (.inl (some (.int z2))) h1 ∧ kH h1 r2 = 4 ∧ vp_in 0 (lH h1 r2) ∧ (o = .inl (some (.int 0)) ∧ h' = (h1.1, (upI h1.2 r2 0 z2)))) ∨ (∃ h7, VM G mX9_work (d - 1) [.ref r0, .int x1] h (.inr xIA) h7 ∧ (o = .inl (some (.int 1)) ∧ h' = h7)))) : VMW G mL_work d [.ref r0, .int x1, .ref r2] h o h' := by
  refine V.toMW rfl (le_l rfl) (cat_all rfl) ?_
  show V G mL_work d 0 [.ref r0, .int x1, .ref r2, uV] [] h o h'
  have hdd : d - 1 + 1 ≤ d := by omega
  refine v_aload_n (pc' := 1) dL_work_0 rfl rfl ?_
  refine v_iconst (pc' := 2) (v := 0) dL_work_1 rfl kI_0 ?_
  refine v_aload_n (pc' := 3) dL_work_2 rfl rfl ?_
  refine v_iload_n (pc' := 4) dL_work_3 rfl rfl ?_
  obtain ⟨q4, T⟩ := T
  rcases T with T | T
  · obtain ⟨z2, h1, k3, T⟩ := T
    refine v_callV (pc' := 7) (M1 := mX9_work) (as := [.int x1]) (r := r0) (rest := [.int 0, .ref r2]) 9 dL_work_4 rfl ko_L_15 kc_X9_work ki_X9_work ks_X9_work (by decide) (by decide) hdd rfl rfl (le_l rfl) q4 k3 ?_
    refine v_i2l (pc' := 8) dL_work_7 rfl ?_
    obtain ⟨q5, T⟩ := T
    obtain ⟨q6, T⟩ := T
    refine v_last (pc' := 9) dL_work_8 rfl kN_0 q5 q6 ?_
    refine v_goto (pc' := 15) dL_work_9 (by decide) ?_
    refine v_iconst (pc' := 16) (v := 0) dL_work_15 rfl kI_0 ?_
    exact v_iret dL_work_16 rfl T
  · obtain ⟨h7, k8, T⟩ := T
    refine v_callVc (M := mL_work) (E := xIA) (M1 := mX9_work) (as := [.int x1]) (r := r0) (rest := [.int 0, .ref r2]) (pc' := 13) 9 [] (0, 9, 12, 13) [] 3 rfl (fun z hz => nomatch hz) (by decide) (by decide) kk_L_13 (by decide) (Or.inl ⟨3, dL_work_12, rfl, rfl⟩) (lt_l rfl) dL_work_4 ko_L_15 kc_X9_work ki_X9_work ks_X9_work (by decide) (by decide) hdd rfl rfl (le_l rfl) q4 k8 ?_
    show V G mL_work d 13 [.ref r0, .int x1, .ref r2, uV] [] h7 o h'
    refine v_iconst (pc' := 14) (v := 1) dL_work_13 rfl kI_1 ?_
    exact v_iret dL_work_14 rfl T
theorem eL_book {G : GG} {d : Nat} {h : Hp} {o : OU} {h' : Hp} (r0 : Nat) (x1 : Int32) (r2 : Nat) (hd : 1 ≤ d) (T : kH h r0 = 19 ∧ ((∃ z2 h1, VM G mX9_book (d - 1) [.ref r0, .int x1] h (.inl (some (.int z2))) h1 ∧ kH h1 r2 = 4 ∧ vp_in 0 (lH h1 r2) ∧ (o = .inl (some (.int 0)) ∧ h' = (h1.1, (upI h1.2 r2 0 z2)))) ∨ (∃ h7, VM G mX9_book (d - 1) [.ref r0, .int x1] h (.inr xIA) h7 ∧ (o = .inl (some (.int 1)) ∧ h' = h7)))) : VMW G mL_book d [.ref r0, .int x1, .ref r2] h o h' := by
  refine V.toMW rfl (le_l rfl) (cat_all rfl) ?_
  show V G mL_book d 0 [.ref r0, .int x1, .ref r2, uV] [] h o h'
  have hdd : d - 1 + 1 ≤ d := by omega
  refine v_aload_n (pc' := 1) dL_book_0 rfl rfl ?_
  refine v_iconst (pc' := 2) (v := 0) dL_book_1 rfl kI_0 ?_
  refine v_aload_n (pc' := 3) dL_book_2 rfl rfl ?_
  refine v_iload_n (pc' := 4) dL_book_3 rfl rfl ?_
  obtain ⟨q4, T⟩ := T
  rcases T with T | T
  · obtain ⟨z2, h1, k3, T⟩ := T
    refine v_callV (pc' := 7) (M1 := mX9_book) (as := [.int x1]) (r := r0) (rest := [.int 0, .ref r2]) 9 dL_book_4 rfl ko_L_18 kc_X9_book ki_X9_book ks_X9_book (by decide) (by decide) hdd rfl rfl (le_l rfl) q4 k3 ?_
    refine v_i2l (pc' := 8) dL_book_7 rfl ?_
    obtain ⟨q5, T⟩ := T
    obtain ⟨q6, T⟩ := T
    refine v_last (pc' := 9) dL_book_8 rfl kN_0 q5 q6 ?_
    refine v_goto (pc' := 15) dL_book_9 (by decide) ?_
    refine v_iconst (pc' := 16) (v := 0) dL_book_15 rfl kI_0 ?_
    exact v_iret dL_book_16 rfl T
  · obtain ⟨h7, k8, T⟩ := T
    refine v_callVc (M := mL_book) (E := xIA) (M1 := mX9_book) (as := [.int x1]) (r := r0) (rest := [.int 0, .ref r2]) (pc' := 13) 9 [] (0, 9, 12, 13) [] 3 rfl (fun z hz => nomatch hz) (by decide) (by decide) kk_L_13 (by decide) (Or.inl ⟨3, dL_book_12, rfl, rfl⟩) (lt_l rfl) dL_book_4 ko_L_18 kc_X9_book ki_X9_book ks_X9_book (by decide) (by decide) hdd rfl rfl (le_l rfl) q4 k8 ?_
    show V G mL_book d 13 [.ref r0, .int x1, .ref r2, uV] [] h7 o h'
    refine v_iconst (pc' := 14) (v := 1) dL_book_13 rfl kI_1 ?_
    exact v_iret dL_book_14 rfl T
theorem eL_told {G : GG} {d : Nat} {h : Hp} {o : OU} {h' : Hp} (r0 : Nat) (x1 : Int32) (r2 : Nat) (hd : 1 ≤ d) (T : kH h r0 = 19 ∧ ((∃ z2 h1, VM G mX9_told (d - 1) [.ref r0, .int x1] h (.inl (some (.int z2))) h1 ∧ kH h1 r2 = 4 ∧ vp_in 0 (lH h1 r2) ∧ (o = .inl (some (.int 0)) ∧ h' = (h1.1, (upI h1.2 r2 0 z2)))) ∨ (∃ h7, VM G mX9_told (d - 1) [.ref r0, .int x1] h (.inr xIA) h7 ∧ (o = .inl (some (.int 1)) ∧ h' = h7)))) : VMW G mL_told d [.ref r0, .int x1, .ref r2] h o h' := by
  refine V.toMW rfl (le_l rfl) (cat_all rfl) ?_
  show V G mL_told d 0 [.ref r0, .int x1, .ref r2, uV] [] h o h'
  have hdd : d - 1 + 1 ≤ d := by omega
  refine v_aload_n (pc' := 1) dL_told_0 rfl rfl ?_
  refine v_iconst (pc' := 2) (v := 0) dL_told_1 rfl kI_0 ?_
  refine v_aload_n (pc' := 3) dL_told_2 rfl rfl ?_
  refine v_iload_n (pc' := 4) dL_told_3 rfl rfl ?_
  obtain ⟨q4, T⟩ := T
  rcases T with T | T
  · obtain ⟨z2, h1, k3, T⟩ := T
    refine v_callV (pc' := 7) (M1 := mX9_told) (as := [.int x1]) (r := r0) (rest := [.int 0, .ref r2]) 9 dL_told_4 rfl ko_L_21 kc_X9_told ki_X9_told ks_X9_told (by decide) (by decide) hdd rfl rfl (le_l rfl) q4 k3 ?_
    refine v_i2l (pc' := 8) dL_told_7 rfl ?_
    obtain ⟨q5, T⟩ := T
    obtain ⟨q6, T⟩ := T
    refine v_last (pc' := 9) dL_told_8 rfl kN_0 q5 q6 ?_
    refine v_goto (pc' := 15) dL_told_9 (by decide) ?_
    refine v_iconst (pc' := 16) (v := 0) dL_told_15 rfl kI_0 ?_
    exact v_iret dL_told_16 rfl T
  · obtain ⟨h7, k8, T⟩ := T
    refine v_callVc (M := mL_told) (E := xIA) (M1 := mX9_told) (as := [.int x1]) (r := r0) (rest := [.int 0, .ref r2]) (pc' := 13) 9 [] (0, 9, 12, 13) [] 3 rfl (fun z hz => nomatch hz) (by decide) (by decide) kk_L_13 (by decide) (Or.inl ⟨3, dL_told_12, rfl, rfl⟩) (lt_l rfl) dL_told_4 ko_L_21 kc_X9_told ki_X9_told ks_X9_told (by decide) (by decide) hdd rfl rfl (le_l rfl) q4 k8 ?_
    show V G mL_told d 13 [.ref r0, .int x1, .ref r2, uV] [] h7 o h'
    refine v_iconst (pc' := 14) (v := 1) dL_told_13 rfl kI_1 ?_
    exact v_iret dL_told_14 rfl T
theorem eL_peek {G : GG} {d : Nat} {h : Hp} {o : OU} {h' : Hp} (r0 : Nat) (x1 : Int32) (x2 : Int32) (x3 : Int32) (r4 : Nat) (hd : 1 ≤ d) (T : kH h r0 = 19 ∧ ((∃ z2 h1, VM G mX9_peek (d - 1) [.ref r0, .int x1, .int x2, .int x3] h (.inl (some (.int z2))) h1 ∧ kH h1 r4 = 4 ∧ vp_in 0 (lH h1 r4) ∧ (o = .inl (some (.int 0)) ∧ h' = (h1.1, (upI h1.2 r4 0 z2)))) ∨ (∃ h7, VM G mX9_peek (d - 1) [.ref r0, .int x1, .int x2, .int x3] h (.inr xIA) h7 ∧ (o = .inl (some (.int 1)) ∧ h' = h7)) ∨ (∃ h9, VM G mX9_peek (d - 1) [.ref r0, .int x1, .int x2, .int x3] h (.inr xIO) h9 ∧ (o = .inl (some (.int 2)) ∧ h' = h9)))) : VMW G mL_peek d [.ref r0, .int x1, .int x2, .int x3, .ref r4] h o h' := by
  refine V.toMW rfl (le_l rfl) (cat_all rfl) ?_
  show V G mL_peek d 0 [.ref r0, .int x1, .int x2, .int x3, .ref r4, uV] [] h o h'
  have hdd : d - 1 + 1 ≤ d := by omega
  refine v_aload (pc' := 2) dL_peek_0 rfl rfl ?_
  refine v_iconst (pc' := 3) (v := 0) dL_peek_2 rfl kI_0 ?_
  refine v_aload_n (pc' := 4) dL_peek_3 rfl rfl ?_
  refine v_iload_n (pc' := 5) dL_peek_4 rfl rfl ?_
  refine v_iload_n (pc' := 6) dL_peek_5 rfl rfl ?_
  refine v_iload_n (pc' := 7) dL_peek_6 rfl rfl ?_
  obtain ⟨q4, T⟩ := T
  rcases T with T | T | T
  · obtain ⟨z2, h1, k3, T⟩ := T
    refine v_callV (pc' := 10) (M1 := mX9_peek) (as := [.int x1, .int x2, .int x3]) (r := r0) (rest := [.int 0, .ref r4]) 9 dL_peek_7 rfl ko_L_24 kc_X9_peek ki_X9_peek ks_X9_peek (by decide) (by decide) hdd rfl rfl (le_l rfl) q4 k3 ?_
    refine v_i2l (pc' := 11) dL_peek_10 rfl ?_
    obtain ⟨q5, T⟩ := T
    obtain ⟨q6, T⟩ := T
    refine v_last (pc' := 12) dL_peek_11 rfl kN_0 q5 q6 ?_
    refine v_goto (pc' := 23) dL_peek_12 (by decide) ?_
    refine v_iconst (pc' := 24) (v := 0) dL_peek_23 rfl kI_0 ?_
    exact v_iret dL_peek_24 rfl T
  · obtain ⟨h7, k8, T⟩ := T
    refine v_callVc (M := mL_peek) (E := xIA) (M1 := mX9_peek) (as := [.int x1, .int x2, .int x3]) (r := r0) (rest := [.int 0, .ref r4]) (pc' := 17) 9 [] (0, 12, 15, 13) [(0, 12, 19, 28)] 5 rfl (fun z hz => nomatch hz) (by decide) (by decide) kk_L_13 (by decide) (Or.inr ⟨dL_peek_15, rfl⟩) (lt_l rfl) dL_peek_7 ko_L_24 kc_X9_peek ki_X9_peek ks_X9_peek (by decide) (by decide) hdd rfl rfl (le_l rfl) q4 k8 ?_
    show V G mL_peek d 17 [.ref r0, .int x1, .int x2, .int x3, .ref r4, uV] [] h7 o h'
    refine v_iconst (pc' := 18) (v := 1) dL_peek_17 rfl kI_1 ?_
    exact v_iret dL_peek_18 rfl T
  · obtain ⟨h9, k10, T⟩ := T
    refine v_callVc (M := mL_peek) (E := xIO) (M1 := mX9_peek) (as := [.int x1, .int x2, .int x3]) (r := r0) (rest := [.int 0, .ref r4]) (pc' := 21) 9 [(0, 12, 15, 13)] (0, 12, 19, 28) [] 5 rfl (hp1 (0, 12, 15, 13) (by decide) kk_L_13 (by decide)) (by decide) (by decide) kk_L_28 (by decide) (Or.inr ⟨dL_peek_19, rfl⟩) (lt_l rfl) dL_peek_7 ko_L_24 kc_X9_peek ki_X9_peek ks_X9_peek (by decide) (by decide) hdd rfl rfl (le_l rfl) q4 k10 ?_
    show V G mL_peek d 21 [.ref r0, .int x1, .int x2, .int x3, .ref r4, uV] [] h9 o h'
    refine v_iconst (pc' := 22) (v := 2) dL_peek_21 rfl kI_2 ?_
    exact v_iret dL_peek_22 rfl T
theorem eL_used {G : GG} {d : Nat} {h : Hp} {o : OU} {h' : Hp} (r0 : Nat) (x1 : Int32) (r2 : Nat) (hd : 1 ≤ d) (T : kH h r0 = 19 ∧ ((∃ z2 h1, VM G mX9_used (d - 1) [.ref r0, .int x1] h (.inl (some (.int z2))) h1 ∧ kH h1 r2 = 4 ∧ vp_in 0 (lH h1 r2) ∧ (o = .inl (some (.int 0)) ∧ h' = (h1.1, (upI h1.2 r2 0 z2)))) ∨ (∃ h7, VM G mX9_used (d - 1) [.ref r0, .int x1] h (.inr xIA) h7 ∧ (o = .inl (some (.int 1)) ∧ h' = h7)))) : VMW G mL_used d [.ref r0, .int x1, .ref r2] h o h' := by
  refine V.toMW rfl (le_l rfl) (cat_all rfl) ?_
  show V G mL_used d 0 [.ref r0, .int x1, .ref r2, uV] [] h o h'
  have hdd : d - 1 + 1 ≤ d := by omega
  refine v_aload_n (pc' := 1) dL_used_0 rfl rfl ?_
  refine v_iconst (pc' := 2) (v := 0) dL_used_1 rfl kI_0 ?_
  refine v_aload_n (pc' := 3) dL_used_2 rfl rfl ?_
  refine v_iload_n (pc' := 4) dL_used_3 rfl rfl ?_
  obtain ⟨q4, T⟩ := T
  rcases T with T | T
  · obtain ⟨z2, h1, k3, T⟩ := T
    refine v_callV (pc' := 7) (M1 := mX9_used) (as := [.int x1]) (r := r0) (rest := [.int 0, .ref r2]) 9 dL_used_4 rfl ko_L_38 kc_X9_used ki_X9_used ks_X9_used (by decide) (by decide) hdd rfl rfl (le_l rfl) q4 k3 ?_
    refine v_i2l (pc' := 8) dL_used_7 rfl ?_
    obtain ⟨q5, T⟩ := T
    obtain ⟨q6, T⟩ := T
    refine v_last (pc' := 9) dL_used_8 rfl kN_0 q5 q6 ?_
    refine v_goto (pc' := 15) dL_used_9 (by decide) ?_
    refine v_iconst (pc' := 16) (v := 0) dL_used_15 rfl kI_0 ?_
    exact v_iret dL_used_16 rfl T
  · obtain ⟨h7, k8, T⟩ := T
    refine v_callVc (M := mL_used) (E := xIA) (M1 := mX9_used) (as := [.int x1]) (r := r0) (rest := [.int 0, .ref r2]) (pc' := 13) 9 [] (0, 9, 12, 13) [] 3 rfl (fun z hz => nomatch hz) (by decide) (by decide) kk_L_13 (by decide) (Or.inl ⟨3, dL_used_12, rfl, rfl⟩) (lt_l rfl) dL_used_4 ko_L_38 kc_X9_used ki_X9_used ks_X9_used (by decide) (by decide) hdd rfl rfl (le_l rfl) q4 k8 ?_
    show V G mL_used d 13 [.ref r0, .int x1, .ref r2, uV] [] h7 o h'
    refine v_iconst (pc' := 14) (v := 1) dL_used_13 rfl kI_1 ?_
    exact v_iret dL_used_14 rfl T
theorem eL_leaks {G : GG} {d : Nat} {h : Hp} {o : OU} {h' : Hp} (r0 : Nat) (x1 : Int32) (r2 : Nat) (hd : 1 ≤ d) (T : kH h r0 = 19 ∧ ((∃ z2 h1, VM G mX9_leaks (d - 1) [.ref r0, .int x1] h (.inl (some (.int z2))) h1 ∧ kH h1 r2 = 4 ∧ vp_in 0 (lH h1 r2) ∧ (o = .inl (some (.int 0)) ∧ h' = (h1.1, (upI h1.2 r2 0 z2)))) ∨ (∃ h7, VM G mX9_leaks (d - 1) [.ref r0, .int x1] h (.inr xIA) h7 ∧ (o = .inl (some (.int 1)) ∧ h' = h7)))) : VMW G mL_leaks d [.ref r0, .int x1, .ref r2] h o h' := by
  refine V.toMW rfl (le_l rfl) (cat_all rfl) ?_
  show V G mL_leaks d 0 [.ref r0, .int x1, .ref r2, uV] [] h o h'
  have hdd : d - 1 + 1 ≤ d := by omega
  refine v_aload_n (pc' := 1) dL_leaks_0 rfl rfl ?_
  refine v_iconst (pc' := 2) (v := 0) dL_leaks_1 rfl kI_0 ?_
  refine v_aload_n (pc' := 3) dL_leaks_2 rfl rfl ?_
  refine v_iload_n (pc' := 4) dL_leaks_3 rfl rfl ?_
  obtain ⟨q4, T⟩ := T
  rcases T with T | T
  · obtain ⟨z2, h1, k3, T⟩ := T
    refine v_callV (pc' := 7) (M1 := mX9_leaks) (as := [.int x1]) (r := r0) (rest := [.int 0, .ref r2]) 9 dL_leaks_4 rfl ko_L_41 kc_X9_leaks ki_X9_leaks ks_X9_leaks (by decide) (by decide) hdd rfl rfl (le_l rfl) q4 k3 ?_
    refine v_i2l (pc' := 8) dL_leaks_7 rfl ?_
    obtain ⟨q5, T⟩ := T
    obtain ⟨q6, T⟩ := T
    refine v_last (pc' := 9) dL_leaks_8 rfl kN_0 q5 q6 ?_
    refine v_goto (pc' := 15) dL_leaks_9 (by decide) ?_
    refine v_iconst (pc' := 16) (v := 0) dL_leaks_15 rfl kI_0 ?_
    exact v_iret dL_leaks_16 rfl T
  · obtain ⟨h7, k8, T⟩ := T
    refine v_callVc (M := mL_leaks) (E := xIA) (M1 := mX9_leaks) (as := [.int x1]) (r := r0) (rest := [.int 0, .ref r2]) (pc' := 13) 9 [] (0, 9, 12, 13) [] 3 rfl (fun z hz => nomatch hz) (by decide) (by decide) kk_L_13 (by decide) (Or.inl ⟨3, dL_leaks_12, rfl, rfl⟩) (lt_l rfl) dL_leaks_4 ko_L_41 kc_X9_leaks ki_X9_leaks ks_X9_leaks (by decide) (by decide) hdd rfl rfl (le_l rfl) q4 k8 ?_
    show V G mL_leaks d 13 [.ref r0, .int x1, .ref r2, uV] [] h7 o h'
    refine v_iconst (pc' := 14) (v := 1) dL_leaks_13 rfl kI_1 ?_
    exact v_iret dL_leaks_14 rfl T
theorem eL_lost {G : GG} {d : Nat} {h : Hp} {o : OU} {h' : Hp} (r0 : Nat) (x1 : Int32) (r2 : Nat) (hd : 1 ≤ d) (T : kH h r0 = 19 ∧ ((∃ z2 h1, VM G mX9_lost (d - 1) [.ref r0, .int x1] h (.inl (some (.int z2))) h1 ∧ kH h1 r2 = 4 ∧ vp_in 0 (lH h1 r2) ∧ (o = .inl (some (.int 0)) ∧ h' = (h1.1, (upI h1.2 r2 0 z2)))) ∨ (∃ h7, VM G mX9_lost (d - 1) [.ref r0, .int x1] h (.inr xIA) h7 ∧ (o = .inl (some (.int 1)) ∧ h' = h7)))) : VMW G mL_lost d [.ref r0, .int x1, .ref r2] h o h' := by
  refine V.toMW rfl (le_l rfl) (cat_all rfl) ?_
  show V G mL_lost d 0 [.ref r0, .int x1, .ref r2, uV] [] h o h'
  have hdd : d - 1 + 1 ≤ d := by omega
  refine v_aload_n (pc' := 1) dL_lost_0 rfl rfl ?_
  refine v_iconst (pc' := 2) (v := 0) dL_lost_1 rfl kI_0 ?_
  refine v_aload_n (pc' := 3) dL_lost_2 rfl rfl ?_
  refine v_iload_n (pc' := 4) dL_lost_3 rfl rfl ?_
  obtain ⟨q4, T⟩ := T
  rcases T with T | T
  · obtain ⟨z2, h1, k3, T⟩ := T
    refine v_callV (pc' := 7) (M1 := mX9_lost) (as := [.int x1]) (r := r0) (rest := [.int 0, .ref r2]) 9 dL_lost_4 rfl ko_L_44 kc_X9_lost ki_X9_lost ks_X9_lost (by decide) (by decide) hdd rfl rfl (le_l rfl) q4 k3 ?_
    refine v_i2l (pc' := 8) dL_lost_7 rfl ?_
    obtain ⟨q5, T⟩ := T
    obtain ⟨q6, T⟩ := T
    refine v_last (pc' := 9) dL_lost_8 rfl kN_0 q5 q6 ?_
    refine v_goto (pc' := 15) dL_lost_9 (by decide) ?_
    refine v_iconst (pc' := 16) (v := 0) dL_lost_15 rfl kI_0 ?_
    exact v_iret dL_lost_16 rfl T
  · obtain ⟨h7, k8, T⟩ := T
    refine v_callVc (M := mL_lost) (E := xIA) (M1 := mX9_lost) (as := [.int x1]) (r := r0) (rest := [.int 0, .ref r2]) (pc' := 13) 9 [] (0, 9, 12, 13) [] 3 rfl (fun z hz => nomatch hz) (by decide) (by decide) kk_L_13 (by decide) (Or.inl ⟨3, dL_lost_12, rfl, rfl⟩) (lt_l rfl) dL_lost_4 ko_L_44 kc_X9_lost ki_X9_lost ks_X9_lost (by decide) (by decide) hdd rfl rfl (le_l rfl) q4 k8 ?_
    show V G mL_lost d 13 [.ref r0, .int x1, .ref r2, uV] [] h7 o h'
    refine v_iconst (pc' := 14) (v := 1) dL_lost_13 rfl kI_1 ?_
    exact v_iret dL_lost_14 rfl T
theorem eL_broken {G : GG} {d : Nat} {h : Hp} {o : OU} {h' : Hp} (r0 : Nat) (x1 : Int32) (r2 : Nat) (hd : 1 ≤ d) (T : kH h r0 = 19 ∧ ((∃ z2 h1, VM G mX9_broken (d - 1) [.ref r0, .int x1] h (.inl (some (.int z2))) h1 ∧ kH h1 r2 = 4 ∧ vp_in 0 (lH h1 r2) ∧ (o = .inl (some (.int 0)) ∧ h' = (h1.1, (upI h1.2 r2 0 z2)))) ∨ (∃ h7, VM G mX9_broken (d - 1) [.ref r0, .int x1] h (.inr xIA) h7 ∧ (o = .inl (some (.int 1)) ∧ h' = h7)))) : VMW G mL_broken d [.ref r0, .int x1, .ref r2] h o h' := by
  refine V.toMW rfl (le_l rfl) (cat_all rfl) ?_
  show V G mL_broken d 0 [.ref r0, .int x1, .ref r2, uV] [] h o h'
  have hdd : d - 1 + 1 ≤ d := by omega
  refine v_aload_n (pc' := 1) dL_broken_0 rfl rfl ?_
  refine v_iconst (pc' := 2) (v := 0) dL_broken_1 rfl kI_0 ?_
  refine v_aload_n (pc' := 3) dL_broken_2 rfl rfl ?_
  refine v_iload_n (pc' := 4) dL_broken_3 rfl rfl ?_
  obtain ⟨q4, T⟩ := T
  rcases T with T | T
  · obtain ⟨z2, h1, k3, T⟩ := T
    refine v_callV (pc' := 7) (M1 := mX9_broken) (as := [.int x1]) (r := r0) (rest := [.int 0, .ref r2]) 9 dL_broken_4 rfl ko_L_47 kc_X9_broken ki_X9_broken ks_X9_broken (by decide) (by decide) hdd rfl rfl (le_l rfl) q4 k3 ?_
    refine v_i2l (pc' := 8) dL_broken_7 rfl ?_
    obtain ⟨q5, T⟩ := T
    obtain ⟨q6, T⟩ := T
    refine v_last (pc' := 9) dL_broken_8 rfl kN_0 q5 q6 ?_
    refine v_goto (pc' := 15) dL_broken_9 (by decide) ?_
    refine v_iconst (pc' := 16) (v := 0) dL_broken_15 rfl kI_0 ?_
    exact v_iret dL_broken_16 rfl T
  · obtain ⟨h7, k8, T⟩ := T
    refine v_callVc (M := mL_broken) (E := xIA) (M1 := mX9_broken) (as := [.int x1]) (r := r0) (rest := [.int 0, .ref r2]) (pc' := 13) 9 [] (0, 9, 12, 13) [] 3 rfl (fun z hz => nomatch hz) (by decide) (by decide) kk_L_13 (by decide) (Or.inl ⟨3, dL_broken_12, rfl, rfl⟩) (lt_l rfl) dL_broken_4 ko_L_47 kc_X9_broken ki_X9_broken ks_X9_broken (by decide) (by decide) hdd rfl rfl (le_l rfl) q4 k8 ?_
    show V G mL_broken d 13 [.ref r0, .int x1, .ref r2, uV] [] h7 o h'
    refine v_iconst (pc' := 14) (v := 1) dL_broken_13 rfl kI_1 ?_
    exact v_iret dL_broken_14 rfl T
theorem eL_held {G : GG} {d : Nat} {h : Hp} {o : OU} {h' : Hp} (r0 : Nat) (x1 : Int32) (r2 : Nat) (hd : 1 ≤ d) (T : kH h r0 = 19 ∧ ((∃ z2 h1, VM G mX9_held (d - 1) [.ref r0, .int x1] h (.inl (some (.int z2))) h1 ∧ kH h1 r2 = 4 ∧ vp_in 0 (lH h1 r2) ∧ (o = .inl (some (.int 0)) ∧ h' = (h1.1, (upI h1.2 r2 0 z2)))) ∨ (∃ h7, VM G mX9_held (d - 1) [.ref r0, .int x1] h (.inr xIO) h7 ∧ (o = .inl (some (.int 1)) ∧ h' = h7)))) : VMW G mL_held d [.ref r0, .int x1, .ref r2] h o h' := by
  refine V.toMW rfl (le_l rfl) (cat_all rfl) ?_
  show V G mL_held d 0 [.ref r0, .int x1, .ref r2, uV] [] h o h'
  have hdd : d - 1 + 1 ≤ d := by omega
  refine v_aload_n (pc' := 1) dL_held_0 rfl rfl ?_
  refine v_iconst (pc' := 2) (v := 0) dL_held_1 rfl kI_0 ?_
  refine v_aload_n (pc' := 3) dL_held_2 rfl rfl ?_
  refine v_iload_n (pc' := 4) dL_held_3 rfl rfl ?_
  obtain ⟨q4, T⟩ := T
  rcases T with T | T
  · obtain ⟨z2, h1, k3, T⟩ := T
    refine v_callV (pc' := 7) (M1 := mX9_held) (as := [.int x1]) (r := r0) (rest := [.int 0, .ref r2]) 9 dL_held_4 rfl ko_L_62 kc_X9_held ki_X9_held ks_X9_held (by decide) (by decide) hdd rfl rfl (le_l rfl) q4 k3 ?_
    refine v_i2l (pc' := 8) dL_held_7 rfl ?_
    obtain ⟨q5, T⟩ := T
    obtain ⟨q6, T⟩ := T
    refine v_last (pc' := 9) dL_held_8 rfl kN_0 q5 q6 ?_
    refine v_goto (pc' := 15) dL_held_9 (by decide) ?_
    refine v_iconst (pc' := 16) (v := 0) dL_held_15 rfl kI_0 ?_
    exact v_iret dL_held_16 rfl T
  · obtain ⟨h7, k8, T⟩ := T
    refine v_callVc (M := mL_held) (E := xIO) (M1 := mX9_held) (as := [.int x1]) (r := r0) (rest := [.int 0, .ref r2]) (pc' := 13) 9 [] (0, 9, 12, 28) [] 3 rfl (fun z hz => nomatch hz) (by decide) (by decide) kk_L_28 (by decide) (Or.inl ⟨3, dL_held_12, rfl, rfl⟩) (lt_l rfl) dL_held_4 ko_L_62 kc_X9_held ki_X9_held ks_X9_held (by decide) (by decide) hdd rfl rfl (le_l rfl) q4 k8 ?_
    show V G mL_held d 13 [.ref r0, .int x1, .ref r2, uV] [] h7 o h'
    refine v_iconst (pc' := 14) (v := 1) dL_held_13 rfl kI_1 ?_
    exact v_iret dL_held_14 rfl T
theorem eL_copy {G : GG} {d : Nat} {h : Hp} {o : OU} {h' : Hp} (r0 : Nat) (x1 : Int32) (x2 : Int32) (r3 : Nat) (hd : 1 ≤ d) (T : kH h r0 = 19 ∧ ((∃ z2 h1, VM G mX9_copy (d - 1) [.ref r0, .int x1, .int x2] h (.inl (some (.int z2))) h1 ∧ kH h1 r3 = 4 ∧ vp_in 0 (lH h1 r3) ∧ (o = .inl (some (.int 0)) ∧ h' = (h1.1, (upI h1.2 r3 0 z2)))) ∨ (∃ h7, VM G mX9_copy (d - 1) [.ref r0, .int x1, .int x2] h (.inr xIO) h7 ∧ (o = .inl (some (.int 1)) ∧ h' = h7)))) : VMW G mL_copy d [.ref r0, .int x1, .int x2, .ref r3] h o h' := by
  refine V.toMW rfl (le_l rfl) (cat_all rfl) ?_
  show V G mL_copy d 0 [.ref r0, .int x1, .int x2, .ref r3, uV] [] h o h'
  have hdd : d - 1 + 1 ≤ d := by omega
  refine v_aload_n (pc' := 1) dL_copy_0 rfl rfl ?_
  refine v_iconst (pc' := 2) (v := 0) dL_copy_1 rfl kI_0 ?_
  refine v_aload_n (pc' := 3) dL_copy_2 rfl rfl ?_
  refine v_iload_n (pc' := 4) dL_copy_3 rfl rfl ?_
  refine v_iload_n (pc' := 5) dL_copy_4 rfl rfl ?_
  obtain ⟨q4, T⟩ := T
  rcases T with T | T
  · obtain ⟨z2, h1, k3, T⟩ := T
    refine v_callV (pc' := 8) (M1 := mX9_copy) (as := [.int x1, .int x2]) (r := r0) (rest := [.int 0, .ref r3]) 9 dL_copy_5 rfl ko_L_65 kc_X9_copy ki_X9_copy ks_X9_copy (by decide) (by decide) hdd rfl rfl (le_l rfl) q4 k3 ?_
    refine v_i2l (pc' := 9) dL_copy_8 rfl ?_
    obtain ⟨q5, T⟩ := T
    obtain ⟨q6, T⟩ := T
    refine v_last (pc' := 10) dL_copy_9 rfl kN_0 q5 q6 ?_
    refine v_goto (pc' := 17) dL_copy_10 (by decide) ?_
    refine v_iconst (pc' := 18) (v := 0) dL_copy_17 rfl kI_0 ?_
    exact v_iret dL_copy_18 rfl T
  · obtain ⟨h7, k8, T⟩ := T
    refine v_callVc (M := mL_copy) (E := xIO) (M1 := mX9_copy) (as := [.int x1, .int x2]) (r := r0) (rest := [.int 0, .ref r3]) (pc' := 15) 9 [] (0, 10, 13, 28) [] 4 rfl (fun z hz => nomatch hz) (by decide) (by decide) kk_L_28 (by decide) (Or.inr ⟨dL_copy_13, rfl⟩) (lt_l rfl) dL_copy_5 ko_L_65 kc_X9_copy ki_X9_copy ks_X9_copy (by decide) (by decide) hdd rfl rfl (le_l rfl) q4 k8 ?_
    show V G mL_copy d 15 [.ref r0, .int x1, .int x2, .ref r3, uV] [] h7 o h'
    refine v_iconst (pc' := 16) (v := 1) dL_copy_15 rfl kI_1 ?_
    exact v_iret dL_copy_16 rfl T
theorem eL_waits {G : GG} {d : Nat} {h : Hp} {o : OU} {h' : Hp} (r0 : Nat) (x1 : Int32) (r2 : Nat) (hd : 1 ≤ d) (T : kH h r0 = 19 ∧ ((∃ z2 h1, VM G mX9_waits (d - 1) [.ref r0, .int x1] h (.inl (some (.int z2))) h1 ∧ kH h1 r2 = 4 ∧ vp_in 0 (lH h1 r2) ∧ (o = .inl (some (.int 0)) ∧ h' = (h1.1, (upI h1.2 r2 0 z2)))) ∨ (∃ h7, VM G mX9_waits (d - 1) [.ref r0, .int x1] h (.inr xIO) h7 ∧ (o = .inl (some (.int 1)) ∧ h' = h7)))) : VMW G mL_waits d [.ref r0, .int x1, .ref r2] h o h' := by
  refine V.toMW rfl (le_l rfl) (cat_all rfl) ?_
  show V G mL_waits d 0 [.ref r0, .int x1, .ref r2, uV] [] h o h'
  have hdd : d - 1 + 1 ≤ d := by omega
  refine v_aload_n (pc' := 1) dL_waits_0 rfl rfl ?_
  refine v_iconst (pc' := 2) (v := 0) dL_waits_1 rfl kI_0 ?_
  refine v_aload_n (pc' := 3) dL_waits_2 rfl rfl ?_
  refine v_iload_n (pc' := 4) dL_waits_3 rfl rfl ?_
  obtain ⟨q4, T⟩ := T
  rcases T with T | T
  · obtain ⟨z2, h1, k3, T⟩ := T
    refine v_callV (pc' := 7) (M1 := mX9_waits) (as := [.int x1]) (r := r0) (rest := [.int 0, .ref r2]) 9 dL_waits_4 rfl ko_L_68 kc_X9_waits ki_X9_waits ks_X9_waits (by decide) (by decide) hdd rfl rfl (le_l rfl) q4 k3 ?_
    refine v_i2l (pc' := 8) dL_waits_7 rfl ?_
    obtain ⟨q5, T⟩ := T
    obtain ⟨q6, T⟩ := T
    refine v_last (pc' := 9) dL_waits_8 rfl kN_0 q5 q6 ?_
    refine v_goto (pc' := 15) dL_waits_9 (by decide) ?_
    refine v_iconst (pc' := 16) (v := 0) dL_waits_15 rfl kI_0 ?_
    exact v_iret dL_waits_16 rfl T
  · obtain ⟨h7, k8, T⟩ := T
    refine v_callVc (M := mL_waits) (E := xIO) (M1 := mX9_waits) (as := [.int x1]) (r := r0) (rest := [.int 0, .ref r2]) (pc' := 13) 9 [] (0, 9, 12, 28) [] 3 rfl (fun z hz => nomatch hz) (by decide) (by decide) kk_L_28 (by decide) (Or.inl ⟨3, dL_waits_12, rfl, rfl⟩) (lt_l rfl) dL_waits_4 ko_L_68 kc_X9_waits ki_X9_waits ks_X9_waits (by decide) (by decide) hdd rfl rfl (le_l rfl) q4 k8 ?_
    show V G mL_waits d 13 [.ref r0, .int x1, .ref r2, uV] [] h7 o h'
    refine v_iconst (pc' := 14) (v := 1) dL_waits_13 rfl kI_1 ?_
    exact v_iret dL_waits_14 rfl T
theorem eL_spill {G : GG} {d : Nat} {h : Hp} {o : OU} {h' : Hp} (r0 : Nat) (x1 : Int32) (r2 : Nat) (hd : 1 ≤ d) (T : kH h r0 = 19 ∧ ((∃ z2 h1, VM G mX9_spill (d - 1) [.ref r0, .int x1] h (.inl (some (.int z2))) h1 ∧ kH h1 r2 = 4 ∧ vp_in 0 (lH h1 r2) ∧ (o = .inl (some (.int 0)) ∧ h' = (h1.1, (upI h1.2 r2 0 z2)))) ∨ (∃ h7, VM G mX9_spill (d - 1) [.ref r0, .int x1] h (.inr xIA) h7 ∧ (o = .inl (some (.int 1)) ∧ h' = h7)))) : VMW G mL_spill d [.ref r0, .int x1, .ref r2] h o h' := by
  refine V.toMW rfl (le_l rfl) (cat_all rfl) ?_
  show V G mL_spill d 0 [.ref r0, .int x1, .ref r2, uV] [] h o h'
  have hdd : d - 1 + 1 ≤ d := by omega
  refine v_aload_n (pc' := 1) dL_spill_0 rfl rfl ?_
  refine v_iconst (pc' := 2) (v := 0) dL_spill_1 rfl kI_0 ?_
  refine v_aload_n (pc' := 3) dL_spill_2 rfl rfl ?_
  refine v_iload_n (pc' := 4) dL_spill_3 rfl rfl ?_
  obtain ⟨q4, T⟩ := T
  rcases T with T | T
  · obtain ⟨z2, h1, k3, T⟩ := T
    refine v_callV (pc' := 7) (M1 := mX9_spill) (as := [.int x1]) (r := r0) (rest := [.int 0, .ref r2]) 9 dL_spill_4 rfl ko_L_71 kc_X9_spill ki_X9_spill ks_X9_spill (by decide) (by decide) hdd rfl rfl (le_l rfl) q4 k3 ?_
    refine v_i2l (pc' := 8) dL_spill_7 rfl ?_
    obtain ⟨q5, T⟩ := T
    obtain ⟨q6, T⟩ := T
    refine v_last (pc' := 9) dL_spill_8 rfl kN_0 q5 q6 ?_
    refine v_goto (pc' := 15) dL_spill_9 (by decide) ?_
    refine v_iconst (pc' := 16) (v := 0) dL_spill_15 rfl kI_0 ?_
    exact v_iret dL_spill_16 rfl T
  · obtain ⟨h7, k8, T⟩ := T
    refine v_callVc (M := mL_spill) (E := xIA) (M1 := mX9_spill) (as := [.int x1]) (r := r0) (rest := [.int 0, .ref r2]) (pc' := 13) 9 [] (0, 9, 12, 13) [] 3 rfl (fun z hz => nomatch hz) (by decide) (by decide) kk_L_13 (by decide) (Or.inl ⟨3, dL_spill_12, rfl, rfl⟩) (lt_l rfl) dL_spill_4 ko_L_71 kc_X9_spill ki_X9_spill ks_X9_spill (by decide) (by decide) hdd rfl rfl (le_l rfl) q4 k8 ?_
    show V G mL_spill d 13 [.ref r0, .int x1, .ref r2, uV] [] h7 o h'
    refine v_iconst (pc' := 14) (v := 1) dL_spill_13 rfl kI_1 ?_
    exact v_iret dL_spill_14 rfl T
theorem eL_look {G : GG} {d : Nat} {h : Hp} {o : OU} {h' : Hp} (r0 : Nat) (x1 : Int32) (r2 : Nat) (hd : 1 ≤ d) (T : kH h r0 = 19 ∧ ((∃ z2 h1, VM G mX9_look (d - 1) [.ref r0, .int x1] h (.inl (some (.int z2))) h1 ∧ kH h1 r2 = 4 ∧ vp_in 0 (lH h1 r2) ∧ (o = .inl (some (.int 0)) ∧ h' = (h1.1, (upI h1.2 r2 0 z2)))) ∨ (∃ h7, VM G mX9_look (d - 1) [.ref r0, .int x1] h (.inr xIA) h7 ∧ (o = .inl (some (.int 1)) ∧ h' = h7)))) : VMW G mL_look d [.ref r0, .int x1, .ref r2] h o h' := by
  refine V.toMW rfl (le_l rfl) (cat_all rfl) ?_
  show V G mL_look d 0 [.ref r0, .int x1, .ref r2, uV] [] h o h'
  have hdd : d - 1 + 1 ≤ d := by omega
  refine v_aload_n (pc' := 1) dL_look_0 rfl rfl ?_
  refine v_iconst (pc' := 2) (v := 0) dL_look_1 rfl kI_0 ?_
  refine v_aload_n (pc' := 3) dL_look_2 rfl rfl ?_
  refine v_iload_n (pc' := 4) dL_look_3 rfl rfl ?_
  obtain ⟨q4, T⟩ := T
  rcases T with T | T
  · obtain ⟨z2, h1, k3, T⟩ := T
    refine v_callV (pc' := 7) (M1 := mX9_look) (as := [.int x1]) (r := r0) (rest := [.int 0, .ref r2]) 9 dL_look_4 rfl ko_L_74 kc_X9_look ki_X9_look ks_X9_look (by decide) (by decide) hdd rfl rfl (le_l rfl) q4 k3 ?_
    refine v_i2l (pc' := 8) dL_look_7 rfl ?_
    obtain ⟨q5, T⟩ := T
    obtain ⟨q6, T⟩ := T
    refine v_last (pc' := 9) dL_look_8 rfl kN_0 q5 q6 ?_
    refine v_goto (pc' := 15) dL_look_9 (by decide) ?_
    refine v_iconst (pc' := 16) (v := 0) dL_look_15 rfl kI_0 ?_
    exact v_iret dL_look_16 rfl T
  · obtain ⟨h7, k8, T⟩ := T
    refine v_callVc (M := mL_look) (E := xIA) (M1 := mX9_look) (as := [.int x1]) (r := r0) (rest := [.int 0, .ref r2]) (pc' := 13) 9 [] (0, 9, 12, 13) [] 3 rfl (fun z hz => nomatch hz) (by decide) (by decide) kk_L_13 (by decide) (Or.inl ⟨3, dL_look_12, rfl, rfl⟩) (lt_l rfl) dL_look_4 ko_L_74 kc_X9_look ki_X9_look ks_X9_look (by decide) (by decide) hdd rfl rfl (le_l rfl) q4 k8 ?_
    show V G mL_look d 13 [.ref r0, .int x1, .ref r2, uV] [] h7 o h'
    refine v_iconst (pc' := 14) (v := 1) dL_look_13 rfl kI_1 ?_
    exact v_iret dL_look_14 rfl T
theorem eL_owner {G : GG} {d : Nat} {h : Hp} {o : OU} {h' : Hp} (r0 : Nat) (x1 : Int32) (x2 : Int32) (r3 : Nat) (hd : 1 ≤ d) (T : kH h r0 = 19 ∧ ((∃ z2 h1, VM G mX9_owner (d - 1) [.ref r0, .int x1, .int x2] h (.inl (some (.int z2))) h1 ∧ kH h1 r3 = 4 ∧ vp_in 0 (lH h1 r3) ∧ (o = .inl (some (.int 0)) ∧ h' = (h1.1, (upI h1.2 r3 0 z2)))) ∨ (∃ h7, VM G mX9_owner (d - 1) [.ref r0, .int x1, .int x2] h (.inr xIA) h7 ∧ (o = .inl (some (.int 1)) ∧ h' = h7)) ∨ (∃ h9, VM G mX9_owner (d - 1) [.ref r0, .int x1, .int x2] h (.inr xIO) h9 ∧ (o = .inl (some (.int 2)) ∧ h' = h9)))) : VMW G mL_owner d [.ref r0, .int x1, .int x2, .ref r3] h o h' := by
  refine V.toMW rfl (le_l rfl) (cat_all rfl) ?_
  show V G mL_owner d 0 [.ref r0, .int x1, .int x2, .ref r3, uV] [] h o h'
  have hdd : d - 1 + 1 ≤ d := by omega
  refine v_aload_n (pc' := 1) dL_owner_0 rfl rfl ?_
  refine v_iconst (pc' := 2) (v := 0) dL_owner_1 rfl kI_0 ?_
  refine v_aload_n (pc' := 3) dL_owner_2 rfl rfl ?_
  refine v_iload_n (pc' := 4) dL_owner_3 rfl rfl ?_
  refine v_iload_n (pc' := 5) dL_owner_4 rfl rfl ?_
  obtain ⟨q4, T⟩ := T
  rcases T with T | T | T
  · obtain ⟨z2, h1, k3, T⟩ := T
    refine v_callV (pc' := 8) (M1 := mX9_owner) (as := [.int x1, .int x2]) (r := r0) (rest := [.int 0, .ref r3]) 9 dL_owner_5 rfl ko_L_80 kc_X9_owner ki_X9_owner ks_X9_owner (by decide) (by decide) hdd rfl rfl (le_l rfl) q4 k3 ?_
    refine v_i2l (pc' := 9) dL_owner_8 rfl ?_
    obtain ⟨q5, T⟩ := T
    obtain ⟨q6, T⟩ := T
    refine v_last (pc' := 10) dL_owner_9 rfl kN_0 q5 q6 ?_
    refine v_goto (pc' := 21) dL_owner_10 (by decide) ?_
    refine v_iconst (pc' := 22) (v := 0) dL_owner_21 rfl kI_0 ?_
    exact v_iret dL_owner_22 rfl T
  · obtain ⟨h7, k8, T⟩ := T
    refine v_callVc (M := mL_owner) (E := xIA) (M1 := mX9_owner) (as := [.int x1, .int x2]) (r := r0) (rest := [.int 0, .ref r3]) (pc' := 15) 9 [] (0, 10, 13, 13) [(0, 10, 17, 28)] 4 rfl (fun z hz => nomatch hz) (by decide) (by decide) kk_L_13 (by decide) (Or.inr ⟨dL_owner_13, rfl⟩) (lt_l rfl) dL_owner_5 ko_L_80 kc_X9_owner ki_X9_owner ks_X9_owner (by decide) (by decide) hdd rfl rfl (le_l rfl) q4 k8 ?_
    show V G mL_owner d 15 [.ref r0, .int x1, .int x2, .ref r3, uV] [] h7 o h'
    refine v_iconst (pc' := 16) (v := 1) dL_owner_15 rfl kI_1 ?_
    exact v_iret dL_owner_16 rfl T
  · obtain ⟨h9, k10, T⟩ := T
    refine v_callVc (M := mL_owner) (E := xIO) (M1 := mX9_owner) (as := [.int x1, .int x2]) (r := r0) (rest := [.int 0, .ref r3]) (pc' := 19) 9 [(0, 10, 13, 13)] (0, 10, 17, 28) [] 4 rfl (hp1 (0, 10, 13, 13) (by decide) kk_L_13 (by decide)) (by decide) (by decide) kk_L_28 (by decide) (Or.inr ⟨dL_owner_17, rfl⟩) (lt_l rfl) dL_owner_5 ko_L_80 kc_X9_owner ki_X9_owner ks_X9_owner (by decide) (by decide) hdd rfl rfl (le_l rfl) q4 k10 ?_
    show V G mL_owner d 19 [.ref r0, .int x1, .int x2, .ref r3, uV] [] h9 o h'
    refine v_iconst (pc' := 20) (v := 2) dL_owner_19 rfl kI_2 ?_
    exact v_iret dL_owner_20 rfl T
theorem eL_unlike {G : GG} {d : Nat} {h : Hp} {o : OU} {h' : Hp} (r0 : Nat) (x1 : Int32) (r2 : Nat) (hd : 1 ≤ d) (T : kH h r0 = 19 ∧ ((∃ z2 h1, VM G mX9_unlike (d - 1) [.ref r0, .int x1] h (.inl (some (.int z2))) h1 ∧ kH h1 r2 = 4 ∧ vp_in 0 (lH h1 r2) ∧ (o = .inl (some (.int 0)) ∧ h' = (h1.1, (upI h1.2 r2 0 z2)))) ∨ (∃ h7, VM G mX9_unlike (d - 1) [.ref r0, .int x1] h (.inr xIO) h7 ∧ (o = .inl (some (.int 1)) ∧ h' = h7)))) : VMW G mL_unlike d [.ref r0, .int x1, .ref r2] h o h' := by
  refine V.toMW rfl (le_l rfl) (cat_all rfl) ?_
  show V G mL_unlike d 0 [.ref r0, .int x1, .ref r2, uV] [] h o h'
  have hdd : d - 1 + 1 ≤ d := by omega
  refine v_aload_n (pc' := 1) dL_unlike_0 rfl rfl ?_
  refine v_iconst (pc' := 2) (v := 0) dL_unlike_1 rfl kI_0 ?_
  refine v_aload_n (pc' := 3) dL_unlike_2 rfl rfl ?_
  refine v_iload_n (pc' := 4) dL_unlike_3 rfl rfl ?_
  obtain ⟨q4, T⟩ := T
  rcases T with T | T
  · obtain ⟨z2, h1, k3, T⟩ := T
    refine v_callV (pc' := 7) (M1 := mX9_unlike) (as := [.int x1]) (r := r0) (rest := [.int 0, .ref r2]) 9 dL_unlike_4 rfl ko_L_83 kc_X9_unlike ki_X9_unlike ks_X9_unlike (by decide) (by decide) hdd rfl rfl (le_l rfl) q4 k3 ?_
    refine v_i2l (pc' := 8) dL_unlike_7 rfl ?_
    obtain ⟨q5, T⟩ := T
    obtain ⟨q6, T⟩ := T
    refine v_last (pc' := 9) dL_unlike_8 rfl kN_0 q5 q6 ?_
    refine v_goto (pc' := 15) dL_unlike_9 (by decide) ?_
    refine v_iconst (pc' := 16) (v := 0) dL_unlike_15 rfl kI_0 ?_
    exact v_iret dL_unlike_16 rfl T
  · obtain ⟨h7, k8, T⟩ := T
    refine v_callVc (M := mL_unlike) (E := xIO) (M1 := mX9_unlike) (as := [.int x1]) (r := r0) (rest := [.int 0, .ref r2]) (pc' := 13) 9 [] (0, 9, 12, 28) [] 3 rfl (fun z hz => nomatch hz) (by decide) (by decide) kk_L_28 (by decide) (Or.inl ⟨3, dL_unlike_12, rfl, rfl⟩) (lt_l rfl) dL_unlike_4 ko_L_83 kc_X9_unlike ki_X9_unlike ks_X9_unlike (by decide) (by decide) hdd rfl rfl (le_l rfl) q4 k8 ?_
    show V G mL_unlike d 13 [.ref r0, .int x1, .ref r2, uV] [] h7 o h'
    refine v_iconst (pc' := 14) (v := 1) dL_unlike_13 rfl kI_1 ?_
    exact v_iret dL_unlike_14 rfl T
theorem eL_storm {G : GG} {d : Nat} {h : Hp} {o : OU} {h' : Hp} (r0 : Nat) (x1 : Int32) (x2 : Int32) (x3 : Int32) (x4 : Int32) (r5 : Nat) (hd : 1 ≤ d) (T : kH h r0 = 19 ∧ ((∃ z2 h1, VM G mX9_storm (d - 1) [.ref r0, .int x1, .int x2, .int x3, .int x4] h (.inl (some (.int z2))) h1 ∧ kH h1 r5 = 4 ∧ vp_in 0 (lH h1 r5) ∧ (o = .inl (some (.int 0)) ∧ h' = (h1.1, (upI h1.2 r5 0 z2)))) ∨ (∃ h7, VM G mX9_storm (d - 1) [.ref r0, .int x1, .int x2, .int x3, .int x4] h (.inr xIA) h7 ∧ (o = .inl (some (.int 1)) ∧ h' = h7)))) : VMW G mL_storm d [.ref r0, .int x1, .int x2, .int x3, .int x4, .ref r5] h o h' := by
  refine V.toMW rfl (le_l rfl) (cat_all rfl) ?_
  show V G mL_storm d 0 [.ref r0, .int x1, .int x2, .int x3, .int x4, .ref r5, uV] [] h o h'
  have hdd : d - 1 + 1 ≤ d := by omega
  refine v_aload (pc' := 2) dL_storm_0 rfl rfl ?_
  refine v_iconst (pc' := 3) (v := 0) dL_storm_2 rfl kI_0 ?_
  refine v_aload_n (pc' := 4) dL_storm_3 rfl rfl ?_
  refine v_iload_n (pc' := 5) dL_storm_4 rfl rfl ?_
  refine v_iload_n (pc' := 6) dL_storm_5 rfl rfl ?_
  refine v_iload_n (pc' := 7) dL_storm_6 rfl rfl ?_
  refine v_iload (pc' := 9) dL_storm_7 rfl rfl ?_
  obtain ⟨q4, T⟩ := T
  rcases T with T | T
  · obtain ⟨z2, h1, k3, T⟩ := T
    refine v_callV (pc' := 12) (M1 := mX9_storm) (as := [.int x1, .int x2, .int x3, .int x4]) (r := r0) (rest := [.int 0, .ref r5]) 9 dL_storm_9 rfl ko_L_86 kc_X9_storm ki_X9_storm ks_X9_storm (by decide) (by decide) hdd rfl rfl (le_l rfl) q4 k3 ?_
    refine v_i2l (pc' := 13) dL_storm_12 rfl ?_
    obtain ⟨q5, T⟩ := T
    obtain ⟨q6, T⟩ := T
    refine v_last (pc' := 14) dL_storm_13 rfl kN_0 q5 q6 ?_
    refine v_goto (pc' := 21) dL_storm_14 (by decide) ?_
    refine v_iconst (pc' := 22) (v := 0) dL_storm_21 rfl kI_0 ?_
    exact v_iret dL_storm_22 rfl T
  · obtain ⟨h7, k8, T⟩ := T
    refine v_callVc (M := mL_storm) (E := xIA) (M1 := mX9_storm) (as := [.int x1, .int x2, .int x3, .int x4]) (r := r0) (rest := [.int 0, .ref r5]) (pc' := 19) 9 [] (0, 14, 17, 13) [] 6 rfl (fun z hz => nomatch hz) (by decide) (by decide) kk_L_13 (by decide) (Or.inr ⟨dL_storm_17, rfl⟩) (lt_l rfl) dL_storm_9 ko_L_86 kc_X9_storm ki_X9_storm ks_X9_storm (by decide) (by decide) hdd rfl rfl (le_l rfl) q4 k8 ?_
    show V G mL_storm d 19 [.ref r0, .int x1, .int x2, .int x3, .int x4, .ref r5, uV] [] h7 o h'
    refine v_iconst (pc' := 20) (v := 1) dL_storm_19 rfl kI_1 ?_
    exact v_iret dL_storm_20 rfl T
