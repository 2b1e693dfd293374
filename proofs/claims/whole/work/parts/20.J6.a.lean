theorem dJ6_numberOfTrailingZeros_0f7a4_0 : decode cJ6_numberOfTrailingZeros_0f7a4 0 = .ok (.iload_n 0, 1) := by decide +kernel
theorem dJ6_numberOfTrailingZeros_0f7a4_1 : decode cJ6_numberOfTrailingZeros_0f7a4 1 = .ok (.iconst (-1), 1) := by decide +kernel
theorem dJ6_numberOfTrailingZeros_0f7a4_2 : decode cJ6_numberOfTrailingZeros_0f7a4 2 = .ok (.ixor, 1) := by decide +kernel
theorem dJ6_numberOfTrailingZeros_0f7a4_3 : decode cJ6_numberOfTrailingZeros_0f7a4 3 = .ok (.iload_n 0, 1) := by decide +kernel
theorem dJ6_numberOfTrailingZeros_0f7a4_4 : decode cJ6_numberOfTrailingZeros_0f7a4 4 = .ok (.iconst 1, 1) := by decide +kernel
theorem dJ6_numberOfTrailingZeros_0f7a4_5 : decode cJ6_numberOfTrailingZeros_0f7a4 5 = .ok (.isub, 1) := by decide +kernel
theorem dJ6_numberOfTrailingZeros_0f7a4_6 : decode cJ6_numberOfTrailingZeros_0f7a4 6 = .ok (.iand, 1) := by decide +kernel
theorem dJ6_numberOfTrailingZeros_0f7a4_7 : decode cJ6_numberOfTrailingZeros_0f7a4 7 = .ok (.istore_n 0, 1) := by decide +kernel
theorem dJ6_numberOfTrailingZeros_0f7a4_8 : decode cJ6_numberOfTrailingZeros_0f7a4 8 = .ok (.iload_n 0, 1) := by decide +kernel
theorem dJ6_numberOfTrailingZeros_0f7a4_9 : decode cJ6_numberOfTrailingZeros_0f7a4 9 = .ok (.ifCond .gt 8, 3) := by decide +kernel
theorem dJ6_numberOfTrailingZeros_0f7a4_12 : decode cJ6_numberOfTrailingZeros_0f7a4 12 = .ok (.iload_n 0, 1) := by decide +kernel
theorem dJ6_numberOfTrailingZeros_0f7a4_13 : decode cJ6_numberOfTrailingZeros_0f7a4 13 = .ok (.bipush 32, 2) := by decide +kernel
theorem dJ6_numberOfTrailingZeros_0f7a4_15 : decode cJ6_numberOfTrailingZeros_0f7a4 15 = .ok (.iand, 1) := by decide +kernel
theorem dJ6_numberOfTrailingZeros_0f7a4_16 : decode cJ6_numberOfTrailingZeros_0f7a4 16 = .ok (.ireturn, 1) := by decide +kernel
theorem dJ6_numberOfTrailingZeros_0f7a4_17 : decode cJ6_numberOfTrailingZeros_0f7a4 17 = .ok (.iconst 1, 1) := by decide +kernel
theorem dJ6_numberOfTrailingZeros_0f7a4_18 : decode cJ6_numberOfTrailingZeros_0f7a4 18 = .ok (.istore_n 1, 1) := by decide +kernel
theorem dJ6_numberOfTrailingZeros_0f7a4_19 : decode cJ6_numberOfTrailingZeros_0f7a4 19 = .ok (.iload_n 0, 1) := by decide +kernel
theorem dJ6_numberOfTrailingZeros_0f7a4_20 : decode cJ6_numberOfTrailingZeros_0f7a4 20 = .ok (.ldc_w 264, 3) := by decide +kernel
theorem dJ6_numberOfTrailingZeros_0f7a4_23 : decode cJ6_numberOfTrailingZeros_0f7a4 23 = .ok (.if_icmp .le 11, 3) := by decide +kernel
theorem dJ6_numberOfTrailingZeros_0f7a4_26 : decode cJ6_numberOfTrailingZeros_0f7a4 26 = .ok (.iinc 1 16, 3) := by decide +kernel
theorem dJ6_numberOfTrailingZeros_0f7a4_29 : decode cJ6_numberOfTrailingZeros_0f7a4 29 = .ok (.iload_n 0, 1) := by decide +kernel
theorem dJ6_numberOfTrailingZeros_0f7a4_30 : decode cJ6_numberOfTrailingZeros_0f7a4 30 = .ok (.bipush 16, 2) := by decide +kernel
theorem dJ6_numberOfTrailingZeros_0f7a4_32 : decode cJ6_numberOfTrailingZeros_0f7a4 32 = .ok (.iushr, 1) := by decide +kernel
theorem dJ6_numberOfTrailingZeros_0f7a4_33 : decode cJ6_numberOfTrailingZeros_0f7a4 33 = .ok (.istore_n 0, 1) := by decide +kernel
theorem dJ6_numberOfTrailingZeros_0f7a4_34 : decode cJ6_numberOfTrailingZeros_0f7a4 34 = .ok (.iload_n 0, 1) := by decide +kernel
theorem dJ6_numberOfTrailingZeros_0f7a4_35 : decode cJ6_numberOfTrailingZeros_0f7a4 35 = .ok (.sipush 256, 3) := by decide +kernel
theorem dJ6_numberOfTrailingZeros_0f7a4_38 : decode cJ6_numberOfTrailingZeros_0f7a4 38 = .ok (.if_icmp .le 11, 3) := by decide +kernel
theorem dJ6_numberOfTrailingZeros_0f7a4_41 : decode cJ6_numberOfTrailingZeros_0f7a4 41 = .ok (.iinc 1 8, 3) := by decide +kernel
theorem dJ6_numberOfTrailingZeros_0f7a4_44 : decode cJ6_numberOfTrailingZeros_0f7a4 44 = .ok (.iload_n 0, 1) := by decide +kernel
theorem dJ6_numberOfTrailingZeros_0f7a4_45 : decode cJ6_numberOfTrailingZeros_0f7a4 45 = .ok (.bipush 8, 2) := by decide +kernel
theorem dJ6_numberOfTrailingZeros_0f7a4_47 : decode cJ6_numberOfTrailingZeros_0f7a4 47 = .ok (.iushr, 1) := by decide +kernel
theorem dJ6_numberOfTrailingZeros_0f7a4_48 : decode cJ6_numberOfTrailingZeros_0f7a4 48 = .ok (.istore_n 0, 1) := by decide +kernel
theorem dJ6_numberOfTrailingZeros_0f7a4_49 : decode cJ6_numberOfTrailingZeros_0f7a4 49 = .ok (.iload_n 0, 1) := by decide +kernel
theorem dJ6_numberOfTrailingZeros_0f7a4_50 : decode cJ6_numberOfTrailingZeros_0f7a4 50 = .ok (.bipush 16, 2) := by decide +kernel
theorem dJ6_numberOfTrailingZeros_0f7a4_52 : decode cJ6_numberOfTrailingZeros_0f7a4 52 = .ok (.if_icmp .le 10, 3) := by decide +kernel
theorem dJ6_numberOfTrailingZeros_0f7a4_55 : decode cJ6_numberOfTrailingZeros_0f7a4 55 = .ok (.iinc 1 4, 3) := by decide +kernel
theorem dJ6_numberOfTrailingZeros_0f7a4_58 : decode cJ6_numberOfTrailingZeros_0f7a4 58 = .ok (.iload_n 0, 1) := by decide +kernel
theorem dJ6_numberOfTrailingZeros_0f7a4_59 : decode cJ6_numberOfTrailingZeros_0f7a4 59 = .ok (.iconst 4, 1) := by decide +kernel
theorem dJ6_numberOfTrailingZeros_0f7a4_60 : decode cJ6_numberOfTrailingZeros_0f7a4 60 = .ok (.iushr, 1) := by decide +kernel
theorem dJ6_numberOfTrailingZeros_0f7a4_61 : decode cJ6_numberOfTrailingZeros_0f7a4 61 = .ok (.istore_n 0, 1) := by decide +kernel
theorem dJ6_numberOfTrailingZeros_0f7a4_62 : decode cJ6_numberOfTrailingZeros_0f7a4 62 = .ok (.iload_n 0, 1) := by decide +kernel
theorem dJ6_numberOfTrailingZeros_0f7a4_63 : decode cJ6_numberOfTrailingZeros_0f7a4 63 = .ok (.iconst 4, 1) := by decide +kernel
theorem dJ6_numberOfTrailingZeros_0f7a4_64 : decode cJ6_numberOfTrailingZeros_0f7a4 64 = .ok (.if_icmp .le 10, 3) := by decide +kernel
theorem dJ6_numberOfTrailingZeros_0f7a4_67 : decode cJ6_numberOfTrailingZeros_0f7a4 67 = .ok (.iinc 1 2, 3) := by decide +kernel
theorem dJ6_numberOfTrailingZeros_0f7a4_70 : decode cJ6_numberOfTrailingZeros_0f7a4 70 = .ok (.iload_n 0, 1) := by decide +kernel
theorem dJ6_numberOfTrailingZeros_0f7a4_71 : decode cJ6_numberOfTrailingZeros_0f7a4 71 = .ok (.iconst 2, 1) := by decide +kernel
theorem dJ6_numberOfTrailingZeros_0f7a4_72 : decode cJ6_numberOfTrailingZeros_0f7a4 72 = .ok (.iushr, 1) := by decide +kernel
theorem dJ6_numberOfTrailingZeros_0f7a4_73 : decode cJ6_numberOfTrailingZeros_0f7a4 73 = .ok (.istore_n 0, 1) := by decide +kernel
theorem dJ6_numberOfTrailingZeros_0f7a4_74 : decode cJ6_numberOfTrailingZeros_0f7a4 74 = .ok (.iload_n 1, 1) := by decide +kernel
theorem dJ6_numberOfTrailingZeros_0f7a4_75 : decode cJ6_numberOfTrailingZeros_0f7a4 75 = .ok (.iload_n 0, 1) := by decide +kernel
theorem dJ6_numberOfTrailingZeros_0f7a4_76 : decode cJ6_numberOfTrailingZeros_0f7a4 76 = .ok (.iconst 1, 1) := by decide +kernel
theorem dJ6_numberOfTrailingZeros_0f7a4_77 : decode cJ6_numberOfTrailingZeros_0f7a4 77 = .ok (.iushr, 1) := by decide +kernel
theorem dJ6_numberOfTrailingZeros_0f7a4_78 : decode cJ6_numberOfTrailingZeros_0f7a4 78 = .ok (.iadd, 1) := by decide +kernel
theorem dJ6_numberOfTrailingZeros_0f7a4_79 : decode cJ6_numberOfTrailingZeros_0f7a4 79 = .ok (.ireturn, 1) := by decide +kernel
theorem dJ6_bitCount_0f7a4_0 : decode cJ6_bitCount_0f7a4 0 = .ok (.iload_n 0, 1) := by decide +kernel
theorem dJ6_bitCount_0f7a4_1 : decode cJ6_bitCount_0f7a4 1 = .ok (.iload_n 0, 1) := by decide +kernel
theorem dJ6_bitCount_0f7a4_2 : decode cJ6_bitCount_0f7a4 2 = .ok (.iconst 1, 1) := by decide +kernel
theorem dJ6_bitCount_0f7a4_3 : decode cJ6_bitCount_0f7a4 3 = .ok (.iushr, 1) := by decide +kernel
theorem dJ6_bitCount_0f7a4_4 : decode cJ6_bitCount_0f7a4 4 = .ok (.ldc_w 265, 3) := by decide +kernel
theorem dJ6_bitCount_0f7a4_7 : decode cJ6_bitCount_0f7a4 7 = .ok (.iand, 1) := by decide +kernel
theorem dJ6_bitCount_0f7a4_8 : decode cJ6_bitCount_0f7a4 8 = .ok (.isub, 1) := by decide +kernel
theorem dJ6_bitCount_0f7a4_9 : decode cJ6_bitCount_0f7a4 9 = .ok (.istore_n 0, 1) := by decide +kernel
theorem dJ6_bitCount_0f7a4_10 : decode cJ6_bitCount_0f7a4 10 = .ok (.iload_n 0, 1) := by decide +kernel
theorem dJ6_bitCount_0f7a4_11 : decode cJ6_bitCount_0f7a4 11 = .ok (.ldc_w 266, 3) := by decide +kernel
theorem dJ6_bitCount_0f7a4_14 : decode cJ6_bitCount_0f7a4 14 = .ok (.iand, 1) := by decide +kernel
theorem dJ6_bitCount_0f7a4_15 : decode cJ6_bitCount_0f7a4 15 = .ok (.iload_n 0, 1) := by decide +kernel
theorem dJ6_bitCount_0f7a4_16 : decode cJ6_bitCount_0f7a4 16 = .ok (.iconst 2, 1) := by decide +kernel
theorem dJ6_bitCount_0f7a4_17 : decode cJ6_bitCount_0f7a4 17 = .ok (.iushr, 1) := by decide +kernel
theorem dJ6_bitCount_0f7a4_18 : decode cJ6_bitCount_0f7a4 18 = .ok (.ldc_w 266, 3) := by decide +kernel
theorem dJ6_bitCount_0f7a4_21 : decode cJ6_bitCount_0f7a4 21 = .ok (.iand, 1) := by decide +kernel
theorem dJ6_bitCount_0f7a4_22 : decode cJ6_bitCount_0f7a4 22 = .ok (.iadd, 1) := by decide +kernel
theorem dJ6_bitCount_0f7a4_23 : decode cJ6_bitCount_0f7a4 23 = .ok (.istore_n 0, 1) := by decide +kernel
theorem dJ6_bitCount_0f7a4_24 : decode cJ6_bitCount_0f7a4 24 = .ok (.iload_n 0, 1) := by decide +kernel
theorem dJ6_bitCount_0f7a4_25 : decode cJ6_bitCount_0f7a4 25 = .ok (.iload_n 0, 1) := by decide +kernel
theorem dJ6_bitCount_0f7a4_26 : decode cJ6_bitCount_0f7a4 26 = .ok (.iconst 4, 1) := by decide +kernel
theorem dJ6_bitCount_0f7a4_27 : decode cJ6_bitCount_0f7a4 27 = .ok (.iushr, 1) := by decide +kernel
theorem dJ6_bitCount_0f7a4_28 : decode cJ6_bitCount_0f7a4 28 = .ok (.iadd, 1) := by decide +kernel
theorem dJ6_bitCount_0f7a4_29 : decode cJ6_bitCount_0f7a4 29 = .ok (.ldc_w 267, 3) := by decide +kernel
theorem dJ6_bitCount_0f7a4_32 : decode cJ6_bitCount_0f7a4 32 = .ok (.iand, 1) := by decide +kernel
theorem dJ6_bitCount_0f7a4_33 : decode cJ6_bitCount_0f7a4 33 = .ok (.istore_n 0, 1) := by decide +kernel
theorem dJ6_bitCount_0f7a4_34 : decode cJ6_bitCount_0f7a4 34 = .ok (.iload_n 0, 1) := by decide +kernel
theorem dJ6_bitCount_0f7a4_35 : decode cJ6_bitCount_0f7a4 35 = .ok (.iload_n 0, 1) := by decide +kernel
theorem dJ6_bitCount_0f7a4_36 : decode cJ6_bitCount_0f7a4 36 = .ok (.bipush 8, 2) := by decide +kernel
theorem dJ6_bitCount_0f7a4_38 : decode cJ6_bitCount_0f7a4 38 = .ok (.iushr, 1) := by decide +kernel
theorem dJ6_bitCount_0f7a4_39 : decode cJ6_bitCount_0f7a4 39 = .ok (.iadd, 1) := by decide +kernel
theorem dJ6_bitCount_0f7a4_40 : decode cJ6_bitCount_0f7a4 40 = .ok (.istore_n 0, 1) := by decide +kernel
theorem dJ6_bitCount_0f7a4_41 : decode cJ6_bitCount_0f7a4 41 = .ok (.iload_n 0, 1) := by decide +kernel
theorem dJ6_bitCount_0f7a4_42 : decode cJ6_bitCount_0f7a4 42 = .ok (.iload_n 0, 1) := by decide +kernel
theorem dJ6_bitCount_0f7a4_43 : decode cJ6_bitCount_0f7a4 43 = .ok (.bipush 16, 2) := by decide +kernel
theorem dJ6_bitCount_0f7a4_45 : decode cJ6_bitCount_0f7a4 45 = .ok (.iushr, 1) := by decide +kernel
theorem dJ6_bitCount_0f7a4_46 : decode cJ6_bitCount_0f7a4 46 = .ok (.iadd, 1) := by decide +kernel
theorem dJ6_bitCount_0f7a4_47 : decode cJ6_bitCount_0f7a4 47 = .ok (.istore_n 0, 1) := by decide +kernel
theorem dJ6_bitCount_0f7a4_48 : decode cJ6_bitCount_0f7a4 48 = .ok (.iload_n 0, 1) := by decide +kernel
theorem dJ6_bitCount_0f7a4_49 : decode cJ6_bitCount_0f7a4 49 = .ok (.bipush 63, 2) := by decide +kernel
theorem dJ6_bitCount_0f7a4_51 : decode cJ6_bitCount_0f7a4 51 = .ok (.iand, 1) := by decide +kernel
theorem dJ6_bitCount_0f7a4_52 : decode cJ6_bitCount_0f7a4 52 = .ok (.ireturn, 1) := by decide +kernel
theorem eJ6_numberOfTrailingZeros_0f7a4 {G : GG} {d : Nat} {h : Hp} {o : OU} {h' : Hp} (x0 : Int32) (T : ((0 < ((x0 ^^^ (-1)) &&& (x0 - 1)) → ((((x0 ^^^ (-1)) &&& (x0 - 1)) ≤ 65536 → V G mJ6_numberOfTrailingZeros_0f7a4 d 34 [.int ((x0 ^^^ (-1)) &&& (x0 - 1)), .int 1] [] h o h') ∧ (¬ ((x0 ^^^ (-1)) &&& (x0 - 1)) ≤ 65536 → V G mJ6_numberOfTrailingZeros_0f7a4 d 34 [.int (ushr ((x0 ^^^ (-1)) &&& (x0 - 1)) 16), .int (1 + 16)] [] h o h'))) ∧ (¬ 0 < ((x0 ^^^ (-1)) &&& (x0 - 1)) → (o = .inl (some (.int (((x0 ^^^ (-1)) &&& (x0 - 1)) &&& 32))) ∧ h' = h)))) : VM G mJ6_numberOfTrailingZeros_0f7a4 d [.int x0] h o h' := by
  refine V.toM rfl rfl (le_l rfl) (cat_all rfl) ?_
  show V G mJ6_numberOfTrailingZeros_0f7a4 d 0 [.int x0, uV] [] h o h'
  refine v_iload_n (pc' := 1) dJ6_numberOfTrailingZeros_0f7a4_0 rfl rfl ?_
  refine v_iconst (pc' := 2) (v := (-1)) dJ6_numberOfTrailingZeros_0f7a4_1 rfl kI_m1 ?_
  refine v_ixor (pc' := 3) dJ6_numberOfTrailingZeros_0f7a4_2 rfl ?_
  refine v_iload_n (pc' := 4) dJ6_numberOfTrailingZeros_0f7a4_3 rfl rfl ?_
  refine v_iconst (pc' := 5) (v := 1) dJ6_numberOfTrailingZeros_0f7a4_4 rfl kI_1 ?_
  refine v_isub (pc' := 6) dJ6_numberOfTrailingZeros_0f7a4_5 rfl ?_
  refine v_iand (pc' := 7) dJ6_numberOfTrailingZeros_0f7a4_6 rfl ?_
  refine v_istore_n (pc' := 8) (loc' := [.int ((x0 ^^^ (-1)) &&& (x0 - 1)), uV]) dJ6_numberOfTrailingZeros_0f7a4_7 rfl (lt_l rfl) rfl ?_
  refine v_iload_n (pc' := 9) dJ6_numberOfTrailingZeros_0f7a4_8 rfl rfl ?_
  refine v_if_gt (tgt := 17) (pc' := 12) dJ6_numberOfTrailingZeros_0f7a4_9 (by decide) rfl ⟨fun c1 => ?_, fun c1 => ?_⟩
  · have T := T.1 c1
    refine v_iconst (pc' := 18) (v := 1) dJ6_numberOfTrailingZeros_0f7a4_17 rfl kI_1 ?_
    refine v_istore_n (pc' := 19) (loc' := [.int ((x0 ^^^ (-1)) &&& (x0 - 1)), .int 1]) dJ6_numberOfTrailingZeros_0f7a4_18 rfl (lt_l rfl) rfl ?_
    refine v_iload_n (pc' := 20) dJ6_numberOfTrailingZeros_0f7a4_19 rfl rfl ?_
    refine v_ldc_w (pc' := 23) (v := 65536) dJ6_numberOfTrailingZeros_0f7a4_20 rfl kv_J6_264 ?_
    refine v_icmp_le (tgt := 34) (pc' := 26) dJ6_numberOfTrailingZeros_0f7a4_23 (by decide) rfl ⟨fun c2 => ?_, fun c2 => ?_⟩
    · have T := T.1 c2
      exact T
    · have T := T.2 c2
      refine v_iinc (pc' := 29) (loc' := [.int ((x0 ^^^ (-1)) &&& (x0 - 1)), .int (1 + 16)]) dJ6_numberOfTrailingZeros_0f7a4_26 rfl rfl (kX_16 _) rfl ?_
      refine v_iload_n (pc' := 30) dJ6_numberOfTrailingZeros_0f7a4_29 rfl rfl ?_
      refine v_bipush (pc' := 32) (v := 16) dJ6_numberOfTrailingZeros_0f7a4_30 rfl kB_16 ?_
      refine v_iushr (pc' := 33) dJ6_numberOfTrailingZeros_0f7a4_32 rfl ?_
      refine v_istore_n (pc' := 34) (loc' := [.int (ushr ((x0 ^^^ (-1)) &&& (x0 - 1)) 16), .int (1 + 16)]) dJ6_numberOfTrailingZeros_0f7a4_33 rfl (lt_l rfl) rfl ?_
      exact T
  · have T := T.2 c1
    refine v_iload_n (pc' := 13) dJ6_numberOfTrailingZeros_0f7a4_12 rfl rfl ?_
    refine v_bipush (pc' := 15) (v := 32) dJ6_numberOfTrailingZeros_0f7a4_13 rfl kB_32 ?_
    refine v_iand (pc' := 16) dJ6_numberOfTrailingZeros_0f7a4_15 rfl ?_
    exact v_iret dJ6_numberOfTrailingZeros_0f7a4_16 rfl T
theorem bJ6_numberOfTrailingZeros_0f7a4_34 {G : GG} {d : Nat} {h : Hp} {o : OU} {h' : Hp} (x0 : Int32) (x1 : Int32) (T : ((x0 ≤ 256 → V G mJ6_numberOfTrailingZeros_0f7a4 d 49 [.int x0, .int x1] [] h o h') ∧ (¬ x0 ≤ 256 → V G mJ6_numberOfTrailingZeros_0f7a4 d 49 [.int (ushr x0 8), .int (x1 + 8)] [] h o h'))) : V G mJ6_numberOfTrailingZeros_0f7a4 d 34 [.int x0, .int x1] [] h o h' := by
  refine v_iload_n (pc' := 35) dJ6_numberOfTrailingZeros_0f7a4_34 rfl rfl ?_
  refine v_sipush (pc' := 38) (v := 256) dJ6_numberOfTrailingZeros_0f7a4_35 rfl kS_256 ?_
  refine v_icmp_le (tgt := 49) (pc' := 41) dJ6_numberOfTrailingZeros_0f7a4_38 (by decide) rfl ⟨fun c1 => ?_, fun c1 => ?_⟩
  · have T := T.1 c1
    exact T
  · have T := T.2 c1
    refine v_iinc (pc' := 44) (loc' := [.int x0, .int (x1 + 8)]) dJ6_numberOfTrailingZeros_0f7a4_41 rfl rfl (kX_8 _) rfl ?_
    refine v_iload_n (pc' := 45) dJ6_numberOfTrailingZeros_0f7a4_44 rfl rfl ?_
    refine v_bipush (pc' := 47) (v := 8) dJ6_numberOfTrailingZeros_0f7a4_45 rfl kB_8 ?_
    refine v_iushr (pc' := 48) dJ6_numberOfTrailingZeros_0f7a4_47 rfl ?_
    refine v_istore_n (pc' := 49) (loc' := [.int (ushr x0 8), .int (x1 + 8)]) dJ6_numberOfTrailingZeros_0f7a4_48 rfl (lt_l rfl) rfl ?_
    exact T
theorem bJ6_numberOfTrailingZeros_0f7a4_49 {G : GG} {d : Nat} {h : Hp} {o : OU} {h' : Hp} (x0 : Int32) (x1 : Int32) (T : ((x0 ≤ 16 → ((x0 ≤ 4 → (o = .inl (some (.int (x1 + (ushr x0 1)))) ∧ h' = h)) ∧ (¬ x0 ≤ 4 → (o = .inl (some (.int ((x1 + 2) + (ushr (ushr x0 2) 1)))) ∧ h' = h)))) ∧ (¬ x0 ≤ 16 → (((ushr x0 4) ≤ 4 → (o = .inl (some (.int ((x1 + 4) + (ushr (ushr x0 4) 1)))) ∧ h' = h)) ∧ (¬ (ushr x0 4) ≤ 4 → (o = .inl (some (.int (((x1 + 4) + 2) + (ushr (ushr (ushr x0 4) 2) 1)))) ∧ h' = h)))))) : V G mJ6_numberOfTrailingZeros_0f7a4 d 49 [.int x0, .int x1] [] h o h' := by
  refine v_iload_n (pc' := 50) dJ6_numberOfTrailingZeros_0f7a4_49 rfl rfl ?_
  refine v_bipush (pc' := 52) (v := 16) dJ6_numberOfTrailingZeros_0f7a4_50 rfl kB_16 ?_
  refine v_icmp_le (tgt := 62) (pc' := 55) dJ6_numberOfTrailingZeros_0f7a4_52 (by decide) rfl ⟨fun c1 => ?_, fun c1 => ?_⟩
  · have T := T.1 c1
    refine v_iload_n (pc' := 63) dJ6_numberOfTrailingZeros_0f7a4_62 rfl rfl ?_
    refine v_iconst (pc' := 64) (v := 4) dJ6_numberOfTrailingZeros_0f7a4_63 rfl kI_4 ?_
    refine v_icmp_le (tgt := 74) (pc' := 67) dJ6_numberOfTrailingZeros_0f7a4_64 (by decide) rfl ⟨fun c2 => ?_, fun c2 => ?_⟩
    · have T := T.1 c2
      refine v_iload_n (pc' := 75) dJ6_numberOfTrailingZeros_0f7a4_74 rfl rfl ?_
      refine v_iload_n (pc' := 76) dJ6_numberOfTrailingZeros_0f7a4_75 rfl rfl ?_
      refine v_iconst (pc' := 77) (v := 1) dJ6_numberOfTrailingZeros_0f7a4_76 rfl kI_1 ?_
      refine v_iushr (pc' := 78) dJ6_numberOfTrailingZeros_0f7a4_77 rfl ?_
      refine v_iadd (pc' := 79) dJ6_numberOfTrailingZeros_0f7a4_78 rfl ?_
      exact v_iret dJ6_numberOfTrailingZeros_0f7a4_79 rfl T
    · have T := T.2 c2
      refine v_iinc (pc' := 70) (loc' := [.int x0, .int (x1 + 2)]) dJ6_numberOfTrailingZeros_0f7a4_67 rfl rfl (kX_2 _) rfl ?_
      refine v_iload_n (pc' := 71) dJ6_numberOfTrailingZeros_0f7a4_70 rfl rfl ?_
      refine v_iconst (pc' := 72) (v := 2) dJ6_numberOfTrailingZeros_0f7a4_71 rfl kI_2 ?_
      refine v_iushr (pc' := 73) dJ6_numberOfTrailingZeros_0f7a4_72 rfl ?_
      refine v_istore_n (pc' := 74) (loc' := [.int (ushr x0 2), .int (x1 + 2)]) dJ6_numberOfTrailingZeros_0f7a4_73 rfl (lt_l rfl) rfl ?_
      refine v_iload_n (pc' := 75) dJ6_numberOfTrailingZeros_0f7a4_74 rfl rfl ?_
      refine v_iload_n (pc' := 76) dJ6_numberOfTrailingZeros_0f7a4_75 rfl rfl ?_
      refine v_iconst (pc' := 77) (v := 1) dJ6_numberOfTrailingZeros_0f7a4_76 rfl kI_1 ?_
      refine v_iushr (pc' := 78) dJ6_numberOfTrailingZeros_0f7a4_77 rfl ?_
      refine v_iadd (pc' := 79) dJ6_numberOfTrailingZeros_0f7a4_78 rfl ?_
      exact v_iret dJ6_numberOfTrailingZeros_0f7a4_79 rfl T
  · have T := T.2 c1
    refine v_iinc (pc' := 58) (loc' := [.int x0, .int (x1 + 4)]) dJ6_numberOfTrailingZeros_0f7a4_55 rfl rfl (kX_4 _) rfl ?_
    refine v_iload_n (pc' := 59) dJ6_numberOfTrailingZeros_0f7a4_58 rfl rfl ?_
    refine v_iconst (pc' := 60) (v := 4) dJ6_numberOfTrailingZeros_0f7a4_59 rfl kI_4 ?_
    refine v_iushr (pc' := 61) dJ6_numberOfTrailingZeros_0f7a4_60 rfl ?_
    refine v_istore_n (pc' := 62) (loc' := [.int (ushr x0 4), .int (x1 + 4)]) dJ6_numberOfTrailingZeros_0f7a4_61 rfl (lt_l rfl) rfl ?_
    refine v_iload_n (pc' := 63) dJ6_numberOfTrailingZeros_0f7a4_62 rfl rfl ?_
    refine v_iconst (pc' := 64) (v := 4) dJ6_numberOfTrailingZeros_0f7a4_63 rfl kI_4 ?_
    refine v_icmp_le (tgt := 74) (pc' := 67) dJ6_numberOfTrailingZeros_0f7a4_64 (by decide) rfl ⟨fun c3 => ?_, fun c3 => ?_⟩
    · have T := T.1 c3
      refine v_iload_n (pc' := 75) dJ6_numberOfTrailingZeros_0f7a4_74 rfl rfl ?_
      refine v_iload_n (pc' := 76) dJ6_numberOfTrailingZeros_0f7a4_75 rfl rfl ?_
      refine v_iconst (pc' := 77) (v := 1) dJ6_numberOfTrailingZeros_0f7a4_76 rfl kI_1 ?_
      refine v_iushr (pc' := 78) dJ6_numberOfTrailingZeros_0f7a4_77 rfl ?_
      refine v_iadd (pc' := 79) dJ6_numberOfTrailingZeros_0f7a4_78 rfl ?_
      exact v_iret dJ6_numberOfTrailingZeros_0f7a4_79 rfl T
    · have T := T.2 c3
      refine v_iinc (pc' := 70) (loc' := [.int (ushr x0 4), .int ((x1 + 4) + 2)]) dJ6_numberOfTrailingZeros_0f7a4_67 rfl rfl (kX_2 _) rfl ?_
      refine v_iload_n (pc' := 71) dJ6_numberOfTrailingZeros_0f7a4_70 rfl rfl ?_
      refine v_iconst (pc' := 72) (v := 2) dJ6_numberOfTrailingZeros_0f7a4_71 rfl kI_2 ?_
      refine v_iushr (pc' := 73) dJ6_numberOfTrailingZeros_0f7a4_72 rfl ?_
      refine v_istore_n (pc' := 74) (loc' := [.int (ushr (ushr x0 4) 2), .int ((x1 + 4) + 2)]) dJ6_numberOfTrailingZeros_0f7a4_73 rfl (lt_l rfl) rfl ?_
      refine v_iload_n (pc' := 75) dJ6_numberOfTrailingZeros_0f7a4_74 rfl rfl ?_
      refine v_iload_n (pc' := 76) dJ6_numberOfTrailingZeros_0f7a4_75 rfl rfl ?_
      refine v_iconst (pc' := 77) (v := 1) dJ6_numberOfTrailingZeros_0f7a4_76 rfl kI_1 ?_
      refine v_iushr (pc' := 78) dJ6_numberOfTrailingZeros_0f7a4_77 rfl ?_
      refine v_iadd (pc' := 79) dJ6_numberOfTrailingZeros_0f7a4_78 rfl ?_
      exact v_iret dJ6_numberOfTrailingZeros_0f7a4_79 rfl T
theorem eJ6_bitCount_0f7a4 {G : GG} {d : Nat} {h : Hp} {o : OU} {h' : Hp} (x0 : Int32) (T : (o = .inl (some (.int ((((((((x0 - ((ushr x0 1) &&& 1431655765)) &&& 858993459) + ((ushr (x0 - ((ushr x0 1) &&& 1431655765)) 2) &&& 858993459)) + (ushr (((x0 - ((ushr x0 1) &&& 1431655765)) &&& 858993459) + ((ushr (x0 - ((ushr x0 1) &&& 1431655765)) 2) &&& 858993459)) 4)) &&& 252645135) + (ushr (((((x0 - ((ushr x0 1) &&& 1431655765)) &&& 858993459) + ((ushr (x0 - ((ushr x0 1) &&& 1431655765)) 2) &&& 858993459)) + (ushr (((x0 - ((ushr x0 1) &&& 1431655765)) &&& 858993459) + ((ushr (x0 - ((ushr x0 1) &&& 1431655765)) 2) &&& 858993459)) 4)) &&& 252645135) 8)) + (ushr ((((((x0 - ((ushr x0 1) &&& 1431655765)) &&& 858993459) + ((ushr (x0 - ((ushr x0 1) &&& 1431655765)) 2) &&& 858993459)) + (ushr (((x0 - ((ushr x0 1) &&& 1431655765)) &&& 858993459) + ((ushr (x0 - ((ushr x0 1) &&& 1431655765)) 2) &&& 858993459)) 4)) &&& 252645135) + (ushr (((((x0 - ((ushr x0 1) &&& 1431655765)) &&& 858993459) + ((ushr (x0 - ((ushr x0 1) &&& 1431655765)) 2) &&& 858993459)) + (ushr (((x0 - ((ushr x0 1) &&& 1431655765)) &&& 858993459) + ((ushr (x0 - ((ushr x0 1) &&& 1431655765)) 2) &&& 858993459)) 4)) &&& 252645135) 8)) 16)) &&& 63))) ∧ h' = h)) : VM G mJ6_bitCount_0f7a4 d [.int x0] h o h' := by
  refine V.toM rfl rfl (le_l rfl) (cat_all rfl) ?_
  show V G mJ6_bitCount_0f7a4 d 0 [.int x0] [] h o h'
  refine v_iload_n (pc' := 1) dJ6_bitCount_0f7a4_0 rfl rfl ?_
  refine v_iload_n (pc' := 2) dJ6_bitCount_0f7a4_1 rfl rfl ?_
  refine v_iconst (pc' := 3) (v := 1) dJ6_bitCount_0f7a4_2 rfl kI_1 ?_
  refine v_iushr (pc' := 4) dJ6_bitCount_0f7a4_3 rfl ?_
  refine v_ldc_w (pc' := 7) (v := 1431655765) dJ6_bitCount_0f7a4_4 rfl kv_J6_265 ?_
  refine v_iand (pc' := 8) dJ6_bitCount_0f7a4_7 rfl ?_
  refine v_isub (pc' := 9) dJ6_bitCount_0f7a4_8 rfl ?_
  refine v_istore_n (pc' := 10) (loc' := [.int (x0 - ((ushr x0 1) &&& 1431655765))]) dJ6_bitCount_0f7a4_9 rfl (lt_l rfl) rfl ?_
  refine v_iload_n (pc' := 11) dJ6_bitCount_0f7a4_10 rfl rfl ?_
  refine v_ldc_w (pc' := 14) (v := 858993459) dJ6_bitCount_0f7a4_11 rfl kv_J6_266 ?_
  refine v_iand (pc' := 15) dJ6_bitCount_0f7a4_14 rfl ?_
  refine v_iload_n (pc' := 16) dJ6_bitCount_0f7a4_15 rfl rfl ?_
  refine v_iconst (pc' := 17) (v := 2) dJ6_bitCount_0f7a4_16 rfl kI_2 ?_
  refine v_iushr (pc' := 18) dJ6_bitCount_0f7a4_17 rfl ?_
  refine v_ldc_w (pc' := 21) (v := 858993459) dJ6_bitCount_0f7a4_18 rfl kv_J6_266 ?_
  refine v_iand (pc' := 22) dJ6_bitCount_0f7a4_21 rfl ?_
  refine v_iadd (pc' := 23) dJ6_bitCount_0f7a4_22 rfl ?_
  refine v_istore_n (pc' := 24) (loc' := [.int (((x0 - ((ushr x0 1) &&& 1431655765)) &&& 858993459) + ((ushr (x0 - ((ushr x0 1) &&& 1431655765)) 2) &&& 858993459))]) dJ6_bitCount_0f7a4_23 rfl (lt_l rfl) rfl ?_
  refine v_iload_n (pc' := 25) dJ6_bitCount_0f7a4_24 rfl rfl ?_
  refine v_iload_n (pc' := 26) dJ6_bitCount_0f7a4_25 rfl rfl ?_
  refine v_iconst (pc' := 27) (v := 4) dJ6_bitCount_0f7a4_26 rfl kI_4 ?_
  refine v_iushr (pc' := 28) dJ6_bitCount_0f7a4_27 rfl ?_
  refine v_iadd (pc' := 29) dJ6_bitCount_0f7a4_28 rfl ?_
  refine v_ldc_w (pc' := 32) (v := 252645135) dJ6_bitCount_0f7a4_29 rfl kv_J6_267 ?_
  refine v_iand (pc' := 33) dJ6_bitCount_0f7a4_32 rfl ?_
  refine v_istore_n (pc' := 34) (loc' := [.int (((((x0 - ((ushr x0 1) &&& 1431655765)) &&& 858993459) + ((ushr (x0 - ((ushr x0 1) &&& 1431655765)) 2) &&& 858993459)) + (ushr (((x0 - ((ushr x0 1) &&& 1431655765)) &&& 858993459) + ((ushr (x0 - ((ushr x0 1) &&& 1431655765)) 2) &&& 858993459)) 4)) &&& 252645135)]) dJ6_bitCount_0f7a4_33 rfl (lt_l rfl) rfl ?_
  refine v_iload_n (pc' := 35) dJ6_bitCount_0f7a4_34 rfl rfl ?_
  refine v_iload_n (pc' := 36) dJ6_bitCount_0f7a4_35 rfl rfl ?_
  refine v_bipush (pc' := 38) (v := 8) dJ6_bitCount_0f7a4_36 rfl kB_8 ?_
  refine v_iushr (pc' := 39) dJ6_bitCount_0f7a4_38 rfl ?_
  refine v_iadd (pc' := 40) dJ6_bitCount_0f7a4_39 rfl ?_
  refine v_istore_n (pc' := 41) (loc' := [.int ((((((x0 - ((ushr x0 1) &&& 1431655765)) &&& 858993459) + ((ushr (x0 - ((ushr x0 1) &&& 1431655765)) 2) &&& 858993459)) + (ushr (((x0 - ((ushr x0 1) &&& 1431655765)) &&& 858993459) + ((ushr (x0 - ((ushr x0 1) &&& 1431655765)) 2) &&& 858993459)) 4)) &&& 252645135) + (ushr (((((x0 - ((ushr x0 1) &&& 1431655765)) &&& 858993459) + ((ushr (x0 - ((ushr x0 1) &&& 1431655765)) 2) &&& 858993459)) + (ushr (((x0 - ((ushr x0 1) &&& 1431655765)) &&& 858993459) + ((ushr (x0 - ((ushr x0 1) &&& 1431655765)) 2) &&& 858993459)) 4)) &&& 252645135) 8))]) dJ6_bitCount_0f7a4_40 rfl (lt_l rfl) rfl ?_
  refine v_iload_n (pc' := 42) dJ6_bitCount_0f7a4_41 rfl rfl ?_
  refine v_iload_n (pc' := 43) dJ6_bitCount_0f7a4_42 rfl rfl ?_
  refine v_bipush (pc' := 45) (v := 16) dJ6_bitCount_0f7a4_43 rfl kB_16 ?_
  refine v_iushr (pc' := 46) dJ6_bitCount_0f7a4_45 rfl ?_
  refine v_iadd (pc' := 47) dJ6_bitCount_0f7a4_46 rfl ?_
  refine v_istore_n (pc' := 48) (loc' := [.int (((((((x0 - ((ushr x0 1) &&& 1431655765)) &&& 858993459) + ((ushr (x0 - ((ushr x0 1) &&& 1431655765)) 2) &&& 858993459)) + (ushr (((x0 - ((ushr x0 1) &&& 1431655765)) &&& 858993459) + ((ushr (x0 - ((ushr x0 1) &&& 1431655765)) 2) &&& 858993459)) 4)) &&& 252645135) + (ushr (((((x0 - ((ushr x0 1) &&& 1431655765)) &&& 858993459) + ((ushr (x0 - ((ushr x0 1) &&& 1431655765)) 2) &&& 858993459)) + (ushr (((x0 - ((ushr x0 1) &&& 1431655765)) &&& 858993459) + ((ushr (x0 - ((ushr x0 1) &&& 1431655765)) 2) &&& 858993459)) 4)) &&& 252645135) 8)) + (ushr ((((((x0 - ((ushr x0 1) &&& 1431655765)) &&& 858993459) + ((ushr (x0 - ((ushr x0 1) &&& 1431655765)) 2) &&& 858993459)) + (ushr (((x0 - ((ushr x0 1) &&& 1431655765)) &&& 858993459) + ((ushr (x0 - ((ushr x0 1) &&& 1431655765)) 2) &&& 858993459)) 4)) &&& 252645135) + (ushr (((((x0 - ((ushr x0 1) &&& 1431655765)) &&& 858993459) + ((ushr (x0 - ((ushr x0 1) &&& 1431655765)) 2) &&& 858993459)) + (ushr (((x0 - ((ushr x0 1) &&& 1431655765)) &&& 858993459) + ((ushr (x0 - ((ushr x0 1) &&& 1431655765)) 2) &&& 858993459)) 4)) &&& 252645135) 8)) 16))]) dJ6_bitCount_0f7a4_47 rfl (lt_l rfl) rfl ?_
  refine v_iload_n (pc' := 49) dJ6_bitCount_0f7a4_48 rfl rfl ?_
  refine v_bipush (pc' := 51) (v := 63) dJ6_bitCount_0f7a4_49 rfl kB_63 ?_
  refine v_iand (pc' := 52) dJ6_bitCount_0f7a4_51 rfl ?_
  exact v_iret dJ6_bitCount_0f7a4_52 rfl T
