theorem dX10_settles_0 : decode cX10_settles 0 = .ok (.iconst 0, 1) := by decide +kernel
theorem dX10_settles_1 : decode cX10_settles 1 = .ok (.istore_n 2, 1) := by decide +kernel
theorem dX10_settles_2 : decode cX10_settles 2 = .ok (.aload_n 0, 1) := by decide +kernel
theorem dX10_settles_3 : decode cX10_settles 3 = .ok (.iconst (-1), 1) := by decide +kernel
theorem dX10_settles_4 : decode cX10_settles 4 = .ok (.putfield 401, 3) := by decide +kernel
theorem dX10_settles_7 : decode cX10_settles 7 = .ok (.aload_n 0, 1) := by decide +kernel
theorem dX10_settles_8 : decode cX10_settles 8 = .ok (.aload_n 1, 1) := by decide +kernel
theorem dX10_settles_9 : decode cX10_settles 9 = .ok (.iconst 0, 1) := by decide +kernel
theorem dX10_settles_10 : decode cX10_settles 10 = .ok (.invokevirtual 407, 3) := by decide +kernel
theorem dX10_settles_13 : decode cX10_settles 13 = .ok (.aload_n 0, 1) := by decide +kernel
theorem dX10_settles_14 : decode cX10_settles 14 = .ok (.aload_n 1, 1) := by decide +kernel
theorem dX10_settles_15 : decode cX10_settles 15 = .ok (.invokevirtual 365, 3) := by decide +kernel
theorem dX10_settles_18 : decode cX10_settles 18 = .ok (.ifCond .eq 58, 3) := by decide +kernel
theorem dX10_settles_21 : decode cX10_settles 21 = .ok (.iconst 0, 1) := by decide +kernel
theorem dX10_settles_22 : decode cX10_settles 22 = .ok (.istore_n 3, 1) := by decide +kernel
theorem dX10_settles_23 : decode cX10_settles 23 = .ok (.iload_n 3, 1) := by decide +kernel
theorem dX10_settles_24 : decode cX10_settles 24 = .ok (.aload_n 0, 1) := by decide +kernel
theorem dX10_settles_25 : decode cX10_settles 25 = .ok (.getfield 168, 3) := by decide +kernel
theorem dX10_settles_28 : decode cX10_settles 28 = .ok (.if_icmp .ge 45, 3) := by decide +kernel
theorem dX10_settles_31 : decode cX10_settles 31 = .ok (.aload_n 1, 1) := by decide +kernel
theorem dX10_settles_32 : decode cX10_settles 32 = .ok (.iload_n 3, 1) := by decide +kernel
theorem dX10_settles_33 : decode cX10_settles 33 = .ok (.invokestatic 208, 3) := by decide +kernel
theorem dX10_settles_36 : decode cX10_settles 36 = .ok (.ifCond .ne 6, 3) := by decide +kernel
theorem dX10_settles_39 : decode cX10_settles 39 = .ok (.goto 28, 3) := by decide +kernel
theorem dX10_settles_42 : decode cX10_settles 42 = .ok (.iload_n 2, 1) := by decide +kernel
theorem dX10_settles_43 : decode cX10_settles 43 = .ok (.sipush 200, 3) := by decide +kernel
theorem dX10_settles_46 : decode cX10_settles 46 = .ok (.if_icmp .ne 5, 3) := by decide +kernel
theorem dX10_settles_49 : decode cX10_settles 49 = .ok (.iconst (-1), 1) := by decide +kernel
theorem dX10_settles_50 : decode cX10_settles 50 = .ok (.ireturn, 1) := by decide +kernel
theorem dX10_settles_51 : decode cX10_settles 51 = .ok (.aload_n 0, 1) := by decide +kernel
theorem dX10_settles_52 : decode cX10_settles 52 = .ok (.aload_n 1, 1) := by decide +kernel
theorem dX10_settles_53 : decode cX10_settles 53 = .ok (.iload_n 3, 1) := by decide +kernel
theorem dX10_settles_54 : decode cX10_settles 54 = .ok (.invokevirtual 267, 3) := by decide +kernel
theorem dX10_settles_57 : decode cX10_settles 57 = .ok (.pop, 1) := by decide +kernel
theorem dX10_settles_58 : decode cX10_settles 58 = .ok (.iinc 2 1, 3) := by decide +kernel
theorem dX10_settles_61 : decode cX10_settles 61 = .ok (.aload_n 0, 1) := by decide +kernel
theorem dX10_settles_62 : decode cX10_settles 62 = .ok (.aload_n 1, 1) := by decide +kernel
theorem dX10_settles_63 : decode cX10_settles 63 = .ok (.iload_n 2, 1) := by decide +kernel
theorem dX10_settles_64 : decode cX10_settles 64 = .ok (.invokevirtual 407, 3) := by decide +kernel
theorem dX10_settles_67 : decode cX10_settles 67 = .ok (.iinc 3 1, 3) := by decide +kernel
theorem dX10_settles_70 : decode cX10_settles 70 = .ok (.goto (-47), 3) := by decide +kernel
theorem dX10_settles_73 : decode cX10_settles 73 = .ok (.goto (-60), 3) := by decide +kernel
theorem dX10_settles_76 : decode cX10_settles 76 = .ok (.iload_n 2, 1) := by decide +kernel
theorem dX10_settles_77 : decode cX10_settles 77 = .ok (.ireturn, 1) := by decide +kernel
theorem dX10_settle_0 : decode cX10_settle 0 = .ok (.aload_n 0, 1) := by decide +kernel
theorem dX10_settle_1 : decode cX10_settle 1 = .ok (.iconst 0, 1) := by decide +kernel
theorem dX10_settle_2 : decode cX10_settle 2 = .ok (.putfield 72, 3) := by decide +kernel
theorem dX10_settle_5 : decode cX10_settle 5 = .ok (.aload_n 0, 1) := by decide +kernel
theorem dX10_settle_6 : decode cX10_settle 6 = .ok (.getfield 31, 3) := by decide +kernel
theorem dX10_settle_9 : decode cX10_settle 9 = .ok (.aload_n 0, 1) := by decide +kernel
theorem dX10_settle_10 : decode cX10_settle 10 = .ok (.getfield 34, 3) := by decide +kernel
theorem dX10_settle_13 : decode cX10_settle 13 = .ok (.invokestatic 361, 3) := by decide +kernel
theorem dX10_settle_16 : decode cX10_settle 16 = .ok (.aload_n 0, 1) := by decide +kernel
theorem dX10_settle_17 : decode cX10_settle 17 = .ok (.aload_n 0, 1) := by decide +kernel
theorem dX10_settle_18 : decode cX10_settle 18 = .ok (.getfield 34, 3) := by decide +kernel
theorem dX10_settle_21 : decode cX10_settle 21 = .ok (.invokevirtual 410, 3) := by decide +kernel
theorem dX10_settle_24 : decode cX10_settle 24 = .ok (.ireturn, 1) := by decide +kernel
theorem dX10_spill_0 : decode cX10_spill 0 = .ok (.aload_n 0, 1) := by decide +kernel
theorem dX10_spill_1 : decode cX10_spill 1 = .ok (.iconst 0, 1) := by decide +kernel
theorem dX10_spill_2 : decode cX10_spill 2 = .ok (.putfield 72, 3) := by decide +kernel
theorem dX10_spill_5 : decode cX10_spill 5 = .ok (.aload_n 0, 1) := by decide +kernel
theorem dX10_spill_6 : decode cX10_spill 6 = .ok (.iload_n 1, 1) := by decide +kernel
theorem dX10_spill_7 : decode cX10_spill 7 = .ok (.iconst 0, 1) := by decide +kernel
theorem dX10_spill_8 : decode cX10_spill 8 = .ok (.iconst 1, 1) := by decide +kernel
theorem dX10_spill_9 : decode cX10_spill 9 = .ok (.invokestatic 106, 3) := by decide +kernel
theorem dX10_spill_12 : decode cX10_spill 12 = .ok (.ifCond .ne 7, 3) := by decide +kernel
theorem dX10_spill_15 : decode cX10_spill 15 = .ok (.iconst 1, 1) := by decide +kernel
theorem dX10_spill_16 : decode cX10_spill 16 = .ok (.goto 4, 3) := by decide +kernel
theorem dX10_spill_19 : decode cX10_spill 19 = .ok (.iconst 0, 1) := by decide +kernel
theorem dX10_spill_20 : decode cX10_spill 20 = .ok (.iconst 1, 1) := by decide +kernel
theorem dX10_spill_21 : decode cX10_spill 21 = .ok (.iconst 1, 1) := by decide +kernel
theorem dX10_spill_22 : decode cX10_spill 22 = .ok (.invokevirtual 155, 3) := by decide +kernel
theorem dX10_spill_25 : decode cX10_spill 25 = .ok (.ifCond .eq 5, 3) := by decide +kernel
theorem dX10_spill_28 : decode cX10_spill 28 = .ok (.iconst 0, 1) := by decide +kernel
theorem dX10_spill_29 : decode cX10_spill 29 = .ok (.ireturn, 1) := by decide +kernel
theorem dX10_spill_30 : decode cX10_spill 30 = .ok (.aload_n 0, 1) := by decide +kernel
theorem dX10_spill_31 : decode cX10_spill 31 = .ok (.getfield 31, 3) := by decide +kernel
theorem dX10_spill_34 : decode cX10_spill 34 = .ok (.aload_n 0, 1) := by decide +kernel
theorem dX10_spill_35 : decode cX10_spill 35 = .ok (.getfield 34, 3) := by decide +kernel
theorem dX10_spill_38 : decode cX10_spill 38 = .ok (.invokestatic 361, 3) := by decide +kernel
theorem dX10_spill_41 : decode cX10_spill 41 = .ok (.aload_n 0, 1) := by decide +kernel
theorem dX10_spill_42 : decode cX10_spill 42 = .ok (.aload_n 0, 1) := by decide +kernel
theorem dX10_spill_43 : decode cX10_spill 43 = .ok (.getfield 34, 3) := by decide +kernel
theorem dX10_spill_46 : decode cX10_spill 46 = .ok (.invokevirtual 410, 3) := by decide +kernel
theorem dX10_spill_49 : decode cX10_spill 49 = .ok (.pop, 1) := by decide +kernel
theorem dX10_spill_50 : decode cX10_spill 50 = .ok (.iload_n 1, 1) := by decide +kernel
theorem dX10_spill_51 : decode cX10_spill 51 = .ok (.ifCond .ne 10, 3) := by decide +kernel
theorem dX10_spill_54 : decode cX10_spill 54 = .ok (.aload_n 0, 1) := by decide +kernel
theorem dX10_spill_55 : decode cX10_spill 55 = .ok (.getfield 401, 3) := by decide +kernel
theorem dX10_spill_58 : decode cX10_spill 58 = .ok (.goto 7, 3) := by decide +kernel
theorem dX10_spill_61 : decode cX10_spill 61 = .ok (.aload_n 0, 1) := by decide +kernel
theorem dX10_spill_62 : decode cX10_spill 62 = .ok (.getfield 404, 3) := by decide +kernel
theorem dX10_spill_65 : decode cX10_spill 65 = .ok (.ireturn, 1) := by decide +kernel
theorem dX10_isSafeBy_0 : decode cX10_isSafeBy 0 = .ok (.aload_n 0, 1) := by decide +kernel
theorem dX10_isSafeBy_1 : decode cX10_isSafeBy 1 = .ok (.aload_n 0, 1) := by decide +kernel
theorem dX10_isSafeBy_2 : decode cX10_isSafeBy 2 = .ok (.getfield 44, 3) := by decide +kernel
theorem dX10_isSafeBy_5 : decode cX10_isSafeBy 5 = .ok (.iload_n 1, 1) := by decide +kernel
theorem dX10_isSafeBy_6 : decode cX10_isSafeBy 6 = .ok (.aaload, 1) := by decide +kernel
theorem dX10_isSafeBy_7 : decode cX10_isSafeBy 7 = .ok (.invokevirtual 365, 3) := by decide +kernel
theorem dX10_isSafeBy_10 : decode cX10_isSafeBy 10 = .ok (.istore_n 3, 1) := by decide +kernel
theorem dX10_isSafeBy_11 : decode cX10_isSafeBy 11 = .ok (.iload_n 3, 1) := by decide +kernel
theorem dX10_isSafeBy_12 : decode cX10_isSafeBy 12 = .ok (.invokestatic 398, 3) := by decide +kernel
theorem dX10_isSafeBy_15 : decode cX10_isSafeBy 15 = .ok (.iload_n 2, 1) := by decide +kernel
theorem dX10_isSafeBy_16 : decode cX10_isSafeBy 16 = .ok (.if_icmp .le 5, 3) := by decide +kernel
theorem dX10_isSafeBy_19 : decode cX10_isSafeBy 19 = .ok (.iconst 0, 1) := by decide +kernel
theorem dX10_isSafeBy_20 : decode cX10_isSafeBy 20 = .ok (.ireturn, 1) := by decide +kernel
theorem dX10_isSafeBy_21 : decode cX10_isSafeBy 21 = .ok (.iconst 0, 1) := by decide +kernel
theorem dX10_isSafeBy_22 : decode cX10_isSafeBy 22 = .ok (.istore 4, 2) := by decide +kernel
theorem dX10_isSafeBy_24 : decode cX10_isSafeBy 24 = .ok (.iload 4, 2) := by decide +kernel
theorem dX10_isSafeBy_26 : decode cX10_isSafeBy 26 = .ok (.aload_n 0, 1) := by decide +kernel
theorem dX10_isSafeBy_27 : decode cX10_isSafeBy 27 = .ok (.getfield 168, 3) := by decide +kernel
theorem dX10_isSafeBy_30 : decode cX10_isSafeBy 30 = .ok (.if_icmp .ge 68, 3) := by decide +kernel
theorem dX10_isSafeBy_33 : decode cX10_isSafeBy 33 = .ok (.iload_n 3, 1) := by decide +kernel
theorem dX10_isSafeBy_34 : decode cX10_isSafeBy 34 = .ok (.iload 4, 2) := by decide +kernel
theorem dX10_isSafeBy_36 : decode cX10_isSafeBy 36 = .ok (.invokestatic 193, 3) := by decide +kernel
theorem dX10_isSafeBy_39 : decode cX10_isSafeBy 39 = .ok (.ifCond .ne 6, 3) := by decide +kernel
theorem dX10_isSafeBy_42 : decode cX10_isSafeBy 42 = .ok (.goto 50, 3) := by decide +kernel
theorem dX10_isSafeBy_45 : decode cX10_isSafeBy 45 = .ok (.aload_n 0, 1) := by decide +kernel
theorem dX10_isSafeBy_46 : decode cX10_isSafeBy 46 = .ok (.getfield 44, 3) := by decide +kernel
theorem dX10_isSafeBy_49 : decode cX10_isSafeBy 49 = .ok (.iload_n 1, 1) := by decide +kernel
theorem dX10_isSafeBy_50 : decode cX10_isSafeBy 50 = .ok (.aaload, 1) := by decide +kernel
theorem dX10_isSafeBy_51 : decode cX10_isSafeBy 51 = .ok (.aload_n 0, 1) := by decide +kernel
theorem dX10_isSafeBy_52 : decode cX10_isSafeBy 52 = .ok (.getfield 44, 3) := by decide +kernel
theorem dX10_isSafeBy_55 : decode cX10_isSafeBy 55 = .ok (.iload_n 1, 1) := by decide +kernel
theorem dX10_isSafeBy_56 : decode cX10_isSafeBy 56 = .ok (.iconst 1, 1) := by decide +kernel
theorem dX10_isSafeBy_57 : decode cX10_isSafeBy 57 = .ok (.iadd, 1) := by decide +kernel
theorem dX10_isSafeBy_58 : decode cX10_isSafeBy 58 = .ok (.aaload, 1) := by decide +kernel
theorem dX10_isSafeBy_59 : decode cX10_isSafeBy 59 = .ok (.invokestatic 361, 3) := by decide +kernel
theorem dX10_isSafeBy_62 : decode cX10_isSafeBy 62 = .ok (.aload_n 0, 1) := by decide +kernel
theorem dX10_isSafeBy_63 : decode cX10_isSafeBy 63 = .ok (.aload_n 0, 1) := by decide +kernel
theorem dX10_isSafeBy_64 : decode cX10_isSafeBy 64 = .ok (.getfield 44, 3) := by decide +kernel
theorem dX10_isSafeBy_67 : decode cX10_isSafeBy 67 = .ok (.iload_n 1, 1) := by decide +kernel
theorem dX10_isSafeBy_68 : decode cX10_isSafeBy 68 = .ok (.iconst 1, 1) := by decide +kernel
theorem dX10_isSafeBy_69 : decode cX10_isSafeBy 69 = .ok (.iadd, 1) := by decide +kernel
theorem dX10_isSafeBy_70 : decode cX10_isSafeBy 70 = .ok (.aaload, 1) := by decide +kernel
theorem dX10_isSafeBy_71 : decode cX10_isSafeBy 71 = .ok (.iload 4, 2) := by decide +kernel
theorem dX10_isSafeBy_73 : decode cX10_isSafeBy 73 = .ok (.invokevirtual 267, 3) := by decide +kernel
theorem dX10_isSafeBy_76 : decode cX10_isSafeBy 76 = .ok (.pop, 1) := by decide +kernel
theorem dX10_isSafeBy_77 : decode cX10_isSafeBy 77 = .ok (.aload_n 0, 1) := by decide +kernel
theorem dX10_isSafeBy_78 : decode cX10_isSafeBy 78 = .ok (.iload_n 1, 1) := by decide +kernel
theorem dX10_isSafeBy_79 : decode cX10_isSafeBy 79 = .ok (.iconst 1, 1) := by decide +kernel
theorem dX10_isSafeBy_80 : decode cX10_isSafeBy 80 = .ok (.iadd, 1) := by decide +kernel
theorem dX10_isSafeBy_81 : decode cX10_isSafeBy 81 = .ok (.iload_n 2, 1) := by decide +kernel
theorem dX10_isSafeBy_82 : decode cX10_isSafeBy 82 = .ok (.iconst 1, 1) := by decide +kernel
theorem dX10_isSafeBy_83 : decode cX10_isSafeBy 83 = .ok (.isub, 1) := by decide +kernel
theorem dX10_isSafeBy_84 : decode cX10_isSafeBy 84 = .ok (.invokevirtual 413, 3) := by decide +kernel
theorem dX10_isSafeBy_87 : decode cX10_isSafeBy 87 = .ok (.ifCond .eq 5, 3) := by decide +kernel
theorem dX10_isSafeBy_90 : decode cX10_isSafeBy 90 = .ok (.iconst 1, 1) := by decide +kernel
theorem dX10_isSafeBy_91 : decode cX10_isSafeBy 91 = .ok (.ireturn, 1) := by decide +kernel
theorem dX10_isSafeBy_92 : decode cX10_isSafeBy 92 = .ok (.iinc 4 1, 3) := by decide +kernel
theorem dX10_isSafeBy_95 : decode cX10_isSafeBy 95 = .ok (.goto (-71), 3) := by decide +kernel
theorem dX10_isSafeBy_98 : decode cX10_isSafeBy 98 = .ok (.iload_n 3, 1) := by decide +kernel
theorem dX10_isSafeBy_99 : decode cX10_isSafeBy 99 = .ok (.ifCond .ne 7, 3) := by decide +kernel
theorem dX10_isSafeBy_102 : decode cX10_isSafeBy 102 = .ok (.iconst 1, 1) := by decide +kernel
theorem dX10_isSafeBy_103 : decode cX10_isSafeBy 103 = .ok (.goto 4, 3) := by decide +kernel
theorem dX10_isSafeBy_106 : decode cX10_isSafeBy 106 = .ok (.iconst 0, 1) := by decide +kernel
theorem dX10_isSafeBy_107 : decode cX10_isSafeBy 107 = .ok (.ireturn, 1) := by decide +kernel
theorem dX10_fewest_0 : decode cX10_fewest 0 = .ok (.aload_n 0, 1) := by decide +kernel
theorem dX10_fewest_1 : decode cX10_fewest 1 = .ok (.iconst 0, 1) := by decide +kernel
theorem dX10_fewest_2 : decode cX10_fewest 2 = .ok (.putfield 72, 3) := by decide +kernel
theorem dX10_fewest_5 : decode cX10_fewest 5 = .ok (.aload_n 0, 1) := by decide +kernel
theorem dX10_fewest_6 : decode cX10_fewest 6 = .ok (.getfield 31, 3) := by decide +kernel
theorem dX10_fewest_9 : decode cX10_fewest 9 = .ok (.aload_n 0, 1) := by decide +kernel
theorem dX10_fewest_10 : decode cX10_fewest 10 = .ok (.getfield 44, 3) := by decide +kernel
theorem dX10_fewest_13 : decode cX10_fewest 13 = .ok (.iconst 0, 1) := by decide +kernel
theorem dX10_fewest_14 : decode cX10_fewest 14 = .ok (.aaload, 1) := by decide +kernel
theorem dX10_fewest_15 : decode cX10_fewest 15 = .ok (.invokestatic 361, 3) := by decide +kernel
theorem dX10_fewest_18 : decode cX10_fewest 18 = .ok (.iconst 0, 1) := by decide +kernel
theorem dX10_fewest_19 : decode cX10_fewest 19 = .ok (.istore_n 1, 1) := by decide +kernel
theorem dX10_fewest_20 : decode cX10_fewest 20 = .ok (.iload_n 1, 1) := by decide +kernel
theorem dX10_fewest_21 : decode cX10_fewest 21 = .ok (.iconst 4, 1) := by decide +kernel
theorem dX10_fewest_22 : decode cX10_fewest 22 = .ok (.if_icmp .gt 20, 3) := by decide +kernel
theorem dX10_fewest_25 : decode cX10_fewest 25 = .ok (.aload_n 0, 1) := by decide +kernel
theorem dX10_fewest_26 : decode cX10_fewest 26 = .ok (.iconst 0, 1) := by decide +kernel
theorem dX10_fewest_27 : decode cX10_fewest 27 = .ok (.iload_n 1, 1) := by decide +kernel
theorem dX10_fewest_28 : decode cX10_fewest 28 = .ok (.invokevirtual 413, 3) := by decide +kernel
theorem dX10_fewest_31 : decode cX10_fewest 31 = .ok (.ifCond .eq 5, 3) := by decide +kernel
theorem dX10_fewest_34 : decode cX10_fewest 34 = .ok (.iload_n 1, 1) := by decide +kernel
theorem dX10_fewest_35 : decode cX10_fewest 35 = .ok (.ireturn, 1) := by decide +kernel
theorem dX10_fewest_36 : decode cX10_fewest 36 = .ok (.iinc 1 1, 3) := by decide +kernel
theorem dX10_fewest_39 : decode cX10_fewest 39 = .ok (.goto (-19), 3) := by decide +kernel
theorem dX10_fewest_42 : decode cX10_fewest 42 = .ok (.iconst (-1), 1) := by decide +kernel
theorem dX10_fewest_43 : decode cX10_fewest 43 = .ok (.ireturn, 1) := by decide +kernel
theorem dX10_finds_0 : decode cX10_finds 0 = .ok (.aload_n 0, 1) := by decide +kernel
theorem dX10_finds_1 : decode cX10_finds 1 = .ok (.iconst 0, 1) := by decide +kernel
theorem dX10_finds_2 : decode cX10_finds 2 = .ok (.putfield 72, 3) := by decide +kernel
theorem dX10_finds_5 : decode cX10_finds 5 = .ok (.aload_n 0, 1) := by decide +kernel
theorem dX10_finds_6 : decode cX10_finds 6 = .ok (.aload_n 0, 1) := by decide +kernel
theorem dX10_finds_7 : decode cX10_finds 7 = .ok (.getfield 31, 3) := by decide +kernel
theorem dX10_finds_10 : decode cX10_finds 10 = .ok (.invokevirtual 318, 3) := by decide +kernel
theorem dX10_finds_13 : decode cX10_finds 13 = .ok (.ireturn, 1) := by decide +kernel
theorem dX10_sweeps_0 : decode cX10_sweeps 0 = .ok (.aload_n 0, 1) := by decide +kernel
theorem dX10_sweeps_1 : decode cX10_sweeps 1 = .ok (.iconst 0, 1) := by decide +kernel
theorem dX10_sweeps_2 : decode cX10_sweeps 2 = .ok (.putfield 72, 3) := by decide +kernel
theorem dX10_sweeps_5 : decode cX10_sweeps 5 = .ok (.aload_n 0, 1) := by decide +kernel
theorem dX10_sweeps_6 : decode cX10_sweeps 6 = .ok (.getfield 31, 3) := by decide +kernel
theorem dX10_sweeps_9 : decode cX10_sweeps 9 = .ok (.aload_n 0, 1) := by decide +kernel
theorem dX10_sweeps_10 : decode cX10_sweeps 10 = .ok (.getfield 34, 3) := by decide +kernel
theorem dX10_sweeps_13 : decode cX10_sweeps 13 = .ok (.invokestatic 361, 3) := by decide +kernel
theorem dX10_sweeps_16 : decode cX10_sweeps 16 = .ok (.aload_n 0, 1) := by decide +kernel
theorem dX10_sweeps_17 : decode cX10_sweeps 17 = .ok (.getfield 34, 3) := by decide +kernel
theorem dX10_sweeps_20 : decode cX10_sweeps 20 = .ok (.invokestatic 346, 3) := by decide +kernel
theorem dX10_sweeps_23 : decode cX10_sweeps 23 = .ok (.pop, 1) := by decide +kernel
theorem dX10_sweeps_24 : decode cX10_sweeps 24 = .ok (.iconst 0, 1) := by decide +kernel
theorem dX10_sweeps_25 : decode cX10_sweeps 25 = .ok (.istore_n 1, 1) := by decide +kernel
theorem dX10_sweeps_26 : decode cX10_sweeps 26 = .ok (.aload_n 0, 1) := by decide +kernel
theorem dX10_sweeps_27 : decode cX10_sweeps 27 = .ok (.aload_n 0, 1) := by decide +kernel
theorem dX10_sweeps_28 : decode cX10_sweeps 28 = .ok (.getfield 34, 3) := by decide +kernel
theorem dX10_sweeps_31 : decode cX10_sweeps 31 = .ok (.invokevirtual 349, 3) := by decide +kernel
theorem dX10_sweeps_34 : decode cX10_sweeps 34 = .ok (.ifCond .eq 18, 3) := by decide +kernel
theorem dX10_sweeps_37 : decode cX10_sweeps 37 = .ok (.iinc 1 1, 3) := by decide +kernel
theorem dX10_sweeps_40 : decode cX10_sweeps 40 = .ok (.aload_n 0, 1) := by decide +kernel
theorem dX10_sweeps_41 : decode cX10_sweeps 41 = .ok (.aload_n 0, 1) := by decide +kernel
theorem dX10_sweeps_42 : decode cX10_sweeps 42 = .ok (.getfield 34, 3) := by decide +kernel
theorem dX10_sweeps_45 : decode cX10_sweeps 45 = .ok (.invokevirtual 410, 3) := by decide +kernel
theorem dX10_sweeps_48 : decode cX10_sweeps 48 = .ok (.pop, 1) := by decide +kernel
theorem dX10_sweeps_49 : decode cX10_sweeps 49 = .ok (.goto (-23), 3) := by decide +kernel
theorem dX10_sweeps_52 : decode cX10_sweeps 52 = .ok (.iload_n 1, 1) := by decide +kernel
theorem dX10_sweeps_53 : decode cX10_sweeps 53 = .ok (.ireturn, 1) := by decide +kernel
theorem dX10_isSo_0 : decode cX10_isSo 0 = .ok (.aload_n 0, 1) := by decide +kernel
theorem dX10_isSo_1 : decode cX10_isSo 1 = .ok (.aload_n 0, 1) := by decide +kernel
theorem dX10_isSo_2 : decode cX10_isSo 2 = .ok (.getfield 31, 3) := by decide +kernel
theorem dX10_isSo_5 : decode cX10_isSo 5 = .ok (.iload_n 1, 1) := by decide +kernel
theorem dX10_isSo_6 : decode cX10_isSo 6 = .ok (.invokevirtual 258, 3) := by decide +kernel
theorem dX10_isSo_9 : decode cX10_isSo 9 = .ok (.pop, 1) := by decide +kernel
theorem dX10_isSo_10 : decode cX10_isSo 10 = .ok (.iconst 0, 1) := by decide +kernel
theorem dX10_isSo_11 : decode cX10_isSo 11 = .ok (.istore_n 2, 1) := by decide +kernel
theorem dX10_isSo_12 : decode cX10_isSo 12 = .ok (.iload_n 2, 1) := by decide +kernel
theorem dX10_isSo_13 : decode cX10_isSo 13 = .ok (.aload_n 0, 1) := by decide +kernel
theorem dX10_isSo_14 : decode cX10_isSo 14 = .ok (.getfield 181, 3) := by decide +kernel
theorem dX10_isSo_17 : decode cX10_isSo 17 = .ok (.if_icmp .ge 35, 3) := by decide +kernel
theorem dX10_isSo_20 : decode cX10_isSo 20 = .ok (.aload_n 0, 1) := by decide +kernel
theorem dX10_isSo_21 : decode cX10_isSo 21 = .ok (.getfield 51, 3) := by decide +kernel
theorem dX10_isSo_24 : decode cX10_isSo 24 = .ok (.aload_n 0, 1) := by decide +kernel
theorem dX10_isSo_25 : decode cX10_isSo 25 = .ok (.getfield 22, 3) := by decide +kernel
theorem dX10_isSo_28 : decode cX10_isSo 28 = .ok (.iload_n 2, 1) := by decide +kernel
theorem dX10_isSo_29 : decode cX10_isSo 29 = .ok (.aaload, 1) := by decide +kernel
theorem dX10_isSo_30 : decode cX10_isSo 30 = .ok (.iconst 0, 1) := by decide +kernel
theorem dX10_isSo_31 : decode cX10_isSo 31 = .ok (.iaload, 1) := by decide +kernel
theorem dX10_isSo_32 : decode cX10_isSo 32 = .ok (.iaload, 1) := by decide +kernel
theorem dX10_isSo_33 : decode cX10_isSo 33 = .ok (.aload_n 0, 1) := by decide +kernel
theorem dX10_isSo_34 : decode cX10_isSo 34 = .ok (.getfield 22, 3) := by decide +kernel
theorem dX10_isSo_37 : decode cX10_isSo 37 = .ok (.iload_n 2, 1) := by decide +kernel
theorem dX10_isSo_38 : decode cX10_isSo 38 = .ok (.aaload, 1) := by decide +kernel
theorem dX10_isSo_39 : decode cX10_isSo 39 = .ok (.iconst 1, 1) := by decide +kernel
theorem dX10_isSo_40 : decode cX10_isSo 40 = .ok (.iaload, 1) := by decide +kernel
theorem dX10_isSo_41 : decode cX10_isSo 41 = .ok (.if_icmp .eq 5, 3) := by decide +kernel
theorem dX10_isSo_44 : decode cX10_isSo 44 = .ok (.iconst 0, 1) := by decide +kernel
theorem dX10_isSo_45 : decode cX10_isSo 45 = .ok (.ireturn, 1) := by decide +kernel
theorem dX10_isSo_46 : decode cX10_isSo 46 = .ok (.iinc 2 1, 3) := by decide +kernel
theorem dX10_isSo_49 : decode cX10_isSo 49 = .ok (.goto (-37), 3) := by decide +kernel
theorem dX10_isSo_52 : decode cX10_isSo 52 = .ok (.iconst 1, 1) := by decide +kernel
theorem dX10_isSo_53 : decode cX10_isSo 53 = .ok (.ireturn, 1) := by decide +kernel
theorem dX10_fitsNow_0 : decode cX10_fitsNow 0 = .ok (.iconst 0, 1) := by decide +kernel
theorem dX10_fitsNow_1 : decode cX10_fitsNow 1 = .ok (.istore_n 1, 1) := by decide +kernel
theorem dX10_fitsNow_2 : decode cX10_fitsNow 2 = .ok (.iconst 0, 1) := by decide +kernel
theorem dX10_fitsNow_3 : decode cX10_fitsNow 3 = .ok (.istore_n 2, 1) := by decide +kernel
theorem dX10_fitsNow_4 : decode cX10_fitsNow 4 = .ok (.iload_n 2, 1) := by decide +kernel
theorem dX10_fitsNow_5 : decode cX10_fitsNow 5 = .ok (.aload_n 0, 1) := by decide +kernel
theorem dX10_fitsNow_6 : decode cX10_fitsNow 6 = .ok (.getfield 168, 3) := by decide +kernel
theorem dX10_fitsNow_9 : decode cX10_fitsNow 9 = .ok (.if_icmp .ge 38, 3) := by decide +kernel
theorem dX10_fitsNow_12 : decode cX10_fitsNow 12 = .ok (.iload_n 1, 1) := by decide +kernel
theorem dX10_fitsNow_13 : decode cX10_fitsNow 13 = .ok (.aload_n 0, 1) := by decide +kernel
theorem dX10_fitsNow_14 : decode cX10_fitsNow 14 = .ok (.getfield 31, 3) := by decide +kernel
theorem dX10_fitsNow_17 : decode cX10_fitsNow 17 = .ok (.iload_n 2, 1) := by decide +kernel
theorem dX10_fitsNow_18 : decode cX10_fitsNow 18 = .ok (.invokestatic 208, 3) := by decide +kernel
theorem dX10_fitsNow_21 : decode cX10_fitsNow 21 = .ok (.ifCond .eq 17, 3) := by decide +kernel
theorem dX10_fitsNow_24 : decode cX10_fitsNow 24 = .ok (.aload_n 0, 1) := by decide +kernel
theorem dX10_fitsNow_25 : decode cX10_fitsNow 25 = .ok (.iload_n 2, 1) := by decide +kernel
theorem dX10_fitsNow_26 : decode cX10_fitsNow 26 = .ok (.invokevirtual 416, 3) := by decide +kernel
theorem dX10_fitsNow_29 : decode cX10_fitsNow 29 = .ok (.ifCond .eq 9, 3) := by decide +kernel
theorem dX10_fitsNow_32 : decode cX10_fitsNow 32 = .ok (.iconst 1, 1) := by decide +kernel
theorem dX10_fitsNow_33 : decode cX10_fitsNow 33 = .ok (.iload_n 2, 1) := by decide +kernel
theorem dX10_fitsNow_34 : decode cX10_fitsNow 34 = .ok (.ishl, 1) := by decide +kernel
theorem dX10_fitsNow_35 : decode cX10_fitsNow 35 = .ok (.goto 4, 3) := by decide +kernel
theorem dX10_fitsNow_38 : decode cX10_fitsNow 38 = .ok (.iconst 0, 1) := by decide +kernel
theorem dX10_fitsNow_39 : decode cX10_fitsNow 39 = .ok (.ior, 1) := by decide +kernel
theorem dX10_fitsNow_40 : decode cX10_fitsNow 40 = .ok (.istore_n 1, 1) := by decide +kernel
theorem dX10_fitsNow_41 : decode cX10_fitsNow 41 = .ok (.iinc 2 1, 3) := by decide +kernel
theorem dX10_fitsNow_44 : decode cX10_fitsNow 44 = .ok (.goto (-40), 3) := by decide +kernel
theorem dX10_fitsNow_47 : decode cX10_fitsNow 47 = .ok (.iload_n 1, 1) := by decide +kernel
theorem dX10_fitsNow_48 : decode cX10_fitsNow 48 = .ok (.ireturn, 1) := by decide +kernel
theorem dX10_fits_0 : decode cX10_fits 0 = .ok (.aload_n 0, 1) := by decide +kernel
theorem dX10_fits_1 : decode cX10_fits 1 = .ok (.iconst 0, 1) := by decide +kernel
theorem dX10_fits_2 : decode cX10_fits 2 = .ok (.putfield 72, 3) := by decide +kernel
theorem dX10_fits_5 : decode cX10_fits 5 = .ok (.aload_n 0, 1) := by decide +kernel
theorem dX10_fits_6 : decode cX10_fits 6 = .ok (.invokevirtual 419, 3) := by decide +kernel
theorem dX10_fits_9 : decode cX10_fits 9 = .ok (.ireturn, 1) := by decide +kernel
theorem dX10_isTold_0 : decode cX10_isTold 0 = .ok (.iconst 0, 1) := by decide +kernel
theorem dX10_isTold_1 : decode cX10_isTold 1 = .ok (.istore_n 2, 1) := by decide +kernel
theorem dX10_isTold_2 : decode cX10_isTold 2 = .ok (.iload_n 2, 1) := by decide +kernel
theorem dX10_isTold_3 : decode cX10_isTold 3 = .ok (.aload_n 0, 1) := by decide +kernel
theorem dX10_isTold_4 : decode cX10_isTold 4 = .ok (.getfield 181, 3) := by decide +kernel
theorem dX10_isTold_7 : decode cX10_isTold 7 = .ok (.if_icmp .ge 23, 3) := by decide +kernel
theorem dX10_isTold_10 : decode cX10_isTold 10 = .ok (.aload_n 0, 1) := by decide +kernel
theorem dX10_isTold_11 : decode cX10_isTold 11 = .ok (.getfield 22, 3) := by decide +kernel
theorem dX10_isTold_14 : decode cX10_isTold 14 = .ok (.iload_n 2, 1) := by decide +kernel
theorem dX10_isTold_15 : decode cX10_isTold 15 = .ok (.aaload, 1) := by decide +kernel
theorem dX10_isTold_16 : decode cX10_isTold 16 = .ok (.iconst 0, 1) := by decide +kernel
theorem dX10_isTold_17 : decode cX10_isTold 17 = .ok (.iaload, 1) := by decide +kernel
theorem dX10_isTold_18 : decode cX10_isTold 18 = .ok (.iload_n 1, 1) := by decide +kernel
theorem dX10_isTold_19 : decode cX10_isTold 19 = .ok (.if_icmp .ne 5, 3) := by decide +kernel
theorem dX10_isTold_22 : decode cX10_isTold 22 = .ok (.iconst 1, 1) := by decide +kernel
theorem dX10_isTold_23 : decode cX10_isTold 23 = .ok (.ireturn, 1) := by decide +kernel
theorem dX10_isTold_24 : decode cX10_isTold 24 = .ok (.iinc 2 1, 3) := by decide +kernel
theorem dX10_isTold_27 : decode cX10_isTold 27 = .ok (.goto (-25), 3) := by decide +kernel
theorem dX10_isTold_30 : decode cX10_isTold 30 = .ok (.iconst 0, 1) := by decide +kernel
theorem dX10_isTold_31 : decode cX10_isTold 31 = .ok (.ireturn, 1) := by decide +kernel
theorem dX10_worstAt_0 : decode cX10_worstAt 0 = .ok (.iconst 0, 1) := by decide +kernel
theorem dX10_worstAt_1 : decode cX10_worstAt 1 = .ok (.istore_n 3, 1) := by decide +kernel
theorem dX10_worstAt_2 : decode cX10_worstAt 2 = .ok (.iconst 0, 1) := by decide +kernel
theorem dX10_worstAt_3 : decode cX10_worstAt 3 = .ok (.istore 4, 2) := by decide +kernel
theorem dX10_worstAt_5 : decode cX10_worstAt 5 = .ok (.iload 4, 2) := by decide +kernel
theorem dX10_worstAt_7 : decode cX10_worstAt 7 = .ok (.sipush 256, 3) := by decide +kernel
theorem dX10_worstAt_10 : decode cX10_worstAt 10 = .ok (.if_icmp .ge 17, 3) := by decide +kernel
theorem dX10_worstAt_13 : decode cX10_worstAt 13 = .ok (.aload_n 0, 1) := by decide +kernel
theorem dX10_worstAt_14 : decode cX10_worstAt 14 = .ok (.getfield 57, 3) := by decide +kernel
theorem dX10_worstAt_17 : decode cX10_worstAt 17 = .ok (.iload 4, 2) := by decide +kernel
theorem dX10_worstAt_19 : decode cX10_worstAt 19 = .ok (.iconst 0, 1) := by decide +kernel
theorem dX10_worstAt_20 : decode cX10_worstAt 20 = .ok (.iastore, 1) := by decide +kernel
theorem dX10_worstAt_21 : decode cX10_worstAt 21 = .ok (.iinc 4 1, 3) := by decide +kernel
theorem dX10_worstAt_24 : decode cX10_worstAt 24 = .ok (.goto (-19), 3) := by decide +kernel
theorem dX10_worstAt_27 : decode cX10_worstAt 27 = .ok (.iconst 0, 1) := by decide +kernel
theorem dX10_worstAt_28 : decode cX10_worstAt 28 = .ok (.istore 4, 2) := by decide +kernel
theorem dX10_worstAt_30 : decode cX10_worstAt 30 = .ok (.iload 4, 2) := by decide +kernel
theorem dX10_worstAt_32 : decode cX10_worstAt 32 = .ok (.aload_n 0, 1) := by decide +kernel
theorem dX10_worstAt_33 : decode cX10_worstAt 33 = .ok (.getfield 168, 3) := by decide +kernel
theorem dX10_worstAt_36 : decode cX10_worstAt 36 = .ok (.if_icmp .ge 63, 3) := by decide +kernel
theorem dX10_worstAt_39 : decode cX10_worstAt 39 = .ok (.iload_n 2, 1) := by decide +kernel
theorem dX10_worstAt_40 : decode cX10_worstAt 40 = .ok (.iload 4, 2) := by decide +kernel
theorem dX10_worstAt_42 : decode cX10_worstAt 42 = .ok (.invokestatic 193, 3) := by decide +kernel
theorem dX10_worstAt_45 : decode cX10_worstAt 45 = .ok (.ifCond .ne 6, 3) := by decide +kernel
theorem dX10_worstAt_48 : decode cX10_worstAt 48 = .ok (.goto 45, 3) := by decide +kernel
theorem dX10_worstAt_51 : decode cX10_worstAt 51 = .ok (.aload_n 0, 1) := by decide +kernel
theorem dX10_worstAt_52 : decode cX10_worstAt 52 = .ok (.aload_n 0, 1) := by decide +kernel
theorem dX10_worstAt_53 : decode cX10_worstAt 53 = .ok (.getfield 31, 3) := by decide +kernel
theorem dX10_worstAt_56 : decode cX10_worstAt 56 = .ok (.iload 4, 2) := by decide +kernel
theorem dX10_worstAt_58 : decode cX10_worstAt 58 = .ok (.invokevirtual 258, 3) := by decide +kernel
theorem dX10_worstAt_61 : decode cX10_worstAt 61 = .ok (.pop, 1) := by decide +kernel
theorem dX10_worstAt_62 : decode cX10_worstAt 62 = .ok (.aload_n 0, 1) := by decide +kernel
theorem dX10_worstAt_63 : decode cX10_worstAt 63 = .ok (.getfield 57, 3) := by decide +kernel
theorem dX10_worstAt_66 : decode cX10_worstAt 66 = .ok (.aload_n 0, 1) := by decide +kernel
theorem dX10_worstAt_67 : decode cX10_worstAt 67 = .ok (.getfield 51, 3) := by decide +kernel
theorem dX10_worstAt_70 : decode cX10_worstAt 70 = .ok (.iload_n 1, 1) := by decide +kernel
theorem dX10_worstAt_71 : decode cX10_worstAt 71 = .ok (.iaload, 1) := by decide +kernel
theorem dX10_worstAt_72 : decode cX10_worstAt 72 = .ok (.dup2, 1) := by decide +kernel
theorem dX10_worstAt_73 : decode cX10_worstAt 73 = .ok (.iaload, 1) := by decide +kernel
theorem dX10_worstAt_74 : decode cX10_worstAt 74 = .ok (.iconst 1, 1) := by decide +kernel
theorem dX10_worstAt_75 : decode cX10_worstAt 75 = .ok (.iadd, 1) := by decide +kernel
theorem dX10_worstAt_76 : decode cX10_worstAt 76 = .ok (.iastore, 1) := by decide +kernel
theorem dX10_worstAt_77 : decode cX10_worstAt 77 = .ok (.iload_n 3, 1) := by decide +kernel
theorem dX10_worstAt_78 : decode cX10_worstAt 78 = .ok (.aload_n 0, 1) := by decide +kernel
theorem dX10_worstAt_79 : decode cX10_worstAt 79 = .ok (.getfield 57, 3) := by decide +kernel
theorem dX10_worstAt_82 : decode cX10_worstAt 82 = .ok (.aload_n 0, 1) := by decide +kernel
theorem dX10_worstAt_83 : decode cX10_worstAt 83 = .ok (.getfield 51, 3) := by decide +kernel
theorem dX10_worstAt_86 : decode cX10_worstAt 86 = .ok (.iload_n 1, 1) := by decide +kernel
theorem dX10_worstAt_87 : decode cX10_worstAt 87 = .ok (.iaload, 1) := by decide +kernel
theorem dX10_worstAt_88 : decode cX10_worstAt 88 = .ok (.iaload, 1) := by decide +kernel
theorem dX10_worstAt_89 : decode cX10_worstAt 89 = .ok (.invokestatic 392, 3) := by decide +kernel
theorem dX10_worstAt_92 : decode cX10_worstAt 92 = .ok (.istore_n 3, 1) := by decide +kernel
theorem dX10_worstAt_93 : decode cX10_worstAt 93 = .ok (.iinc 4 1, 3) := by decide +kernel
theorem dX10_worstAt_96 : decode cX10_worstAt 96 = .ok (.goto (-66), 3) := by decide +kernel
theorem dX10_worstAt_99 : decode cX10_worstAt 99 = .ok (.iload_n 3, 1) := by decide +kernel
theorem dX10_worstAt_100 : decode cX10_worstAt 100 = .ok (.ireturn, 1) := by decide +kernel
theorem dX10_look_0 : decode cX10_look 0 = .ok (.aload_n 0, 1) := by decide +kernel
theorem dX10_look_1 : decode cX10_look 1 = .ok (.iconst 0, 1) := by decide +kernel
theorem dX10_look_2 : decode cX10_look 2 = .ok (.putfield 72, 3) := by decide +kernel
theorem dX10_look_5 : decode cX10_look 5 = .ok (.aload_n 0, 1) := by decide +kernel
theorem dX10_look_6 : decode cX10_look 6 = .ok (.iload_n 1, 1) := by decide +kernel
theorem dX10_look_7 : decode cX10_look 7 = .ok (.iconst 0, 1) := by decide +kernel
theorem dX10_look_8 : decode cX10_look 8 = .ok (.iconst 1, 1) := by decide +kernel
theorem dX10_look_9 : decode cX10_look 9 = .ok (.invokestatic 106, 3) := by decide +kernel
theorem dX10_look_12 : decode cX10_look 12 = .ok (.ifCond .ne 7, 3) := by decide +kernel
theorem dX10_look_15 : decode cX10_look 15 = .ok (.iconst 1, 1) := by decide +kernel
theorem dX10_look_16 : decode cX10_look 16 = .ok (.goto 4, 3) := by decide +kernel
theorem dX10_look_19 : decode cX10_look 19 = .ok (.iconst 0, 1) := by decide +kernel
theorem dX10_look_20 : decode cX10_look 20 = .ok (.iconst 1, 1) := by decide +kernel
theorem dX10_look_21 : decode cX10_look 21 = .ok (.iconst 1, 1) := by decide +kernel
theorem dX10_look_22 : decode cX10_look 22 = .ok (.invokevirtual 155, 3) := by decide +kernel
theorem dX10_look_25 : decode cX10_look 25 = .ok (.ifCond .eq 5, 3) := by decide +kernel
theorem dX10_look_28 : decode cX10_look 28 = .ok (.iconst 0, 1) := by decide +kernel
theorem dX10_look_29 : decode cX10_look 29 = .ok (.ireturn, 1) := by decide +kernel
theorem dX10_look_30 : decode cX10_look 30 = .ok (.iconst (-1), 1) := by decide +kernel
theorem dX10_look_31 : decode cX10_look 31 = .ok (.istore_n 2, 1) := by decide +kernel
theorem dX10_look_32 : decode cX10_look 32 = .ok (.iconst (-1), 1) := by decide +kernel
theorem dX10_look_33 : decode cX10_look 33 = .ok (.istore_n 3, 1) := by decide +kernel
theorem dX10_look_34 : decode cX10_look 34 = .ok (.aload_n 0, 1) := by decide +kernel
theorem dX10_look_35 : decode cX10_look 35 = .ok (.invokevirtual 419, 3) := by decide +kernel
theorem dX10_look_38 : decode cX10_look 38 = .ok (.istore 4, 2) := by decide +kernel
theorem dX10_look_40 : decode cX10_look 40 = .ok (.iconst 0, 1) := by decide +kernel
theorem dX10_look_41 : decode cX10_look 41 = .ok (.istore 5, 2) := by decide +kernel
theorem dX10_look_43 : decode cX10_look 43 = .ok (.iload 5, 2) := by decide +kernel
theorem dX10_look_45 : decode cX10_look 45 = .ok (.bipush 16, 2) := by decide +kernel
theorem dX10_look_47 : decode cX10_look 47 = .ok (.if_icmp .ge 51, 3) := by decide +kernel
theorem dX10_look_50 : decode cX10_look 50 = .ok (.aload_n 0, 1) := by decide +kernel
theorem dX10_look_51 : decode cX10_look 51 = .ok (.iload 5, 2) := by decide +kernel
theorem dX10_look_53 : decode cX10_look 53 = .ok (.invokevirtual 422, 3) := by decide +kernel
theorem dX10_look_56 : decode cX10_look 56 = .ok (.ifCond .eq 6, 3) := by decide +kernel
theorem dX10_look_59 : decode cX10_look 59 = .ok (.goto 33, 3) := by decide +kernel
theorem dX10_look_62 : decode cX10_look 62 = .ok (.aload_n 0, 1) := by decide +kernel
theorem dX10_look_63 : decode cX10_look 63 = .ok (.iload 5, 2) := by decide +kernel
theorem dX10_look_65 : decode cX10_look 65 = .ok (.iload 4, 2) := by decide +kernel
theorem dX10_look_67 : decode cX10_look 67 = .ok (.invokevirtual 425, 3) := by decide +kernel
theorem dX10_look_70 : decode cX10_look 70 = .ok (.istore 6, 2) := by decide +kernel
theorem dX10_look_72 : decode cX10_look 72 = .ok (.iload_n 2, 1) := by decide +kernel
theorem dX10_look_73 : decode cX10_look 73 = .ok (.iconst (-1), 1) := by decide +kernel
theorem dX10_look_74 : decode cX10_look 74 = .ok (.if_icmp .eq 12, 3) := by decide +kernel
theorem dX10_look_77 : decode cX10_look 77 = .ok (.iload 6, 2) := by decide +kernel
theorem dX10_look_79 : decode cX10_look 79 = .ok (.iload_n 3, 1) := by decide +kernel
theorem dX10_look_80 : decode cX10_look 80 = .ok (.if_icmp .lt 6, 3) := by decide +kernel
theorem dX10_look_83 : decode cX10_look 83 = .ok (.goto 9, 3) := by decide +kernel
theorem dX10_look_86 : decode cX10_look 86 = .ok (.iload 5, 2) := by decide +kernel
theorem dX10_look_88 : decode cX10_look 88 = .ok (.istore_n 2, 1) := by decide +kernel
theorem dX10_look_89 : decode cX10_look 89 = .ok (.iload 6, 2) := by decide +kernel
theorem dX10_look_91 : decode cX10_look 91 = .ok (.istore_n 3, 1) := by decide +kernel
theorem dX10_look_92 : decode cX10_look 92 = .ok (.iinc 5 1, 3) := by decide +kernel
theorem dX10_look_95 : decode cX10_look 95 = .ok (.goto (-52), 3) := by decide +kernel
theorem dX10_look_98 : decode cX10_look 98 = .ok (.iload_n 1, 1) := by decide +kernel
theorem dX10_look_99 : decode cX10_look 99 = .ok (.ifCond .ne 7, 3) := by decide +kernel
theorem dX10_look_102 : decode cX10_look 102 = .ok (.iload_n 2, 1) := by decide +kernel
theorem dX10_look_103 : decode cX10_look 103 = .ok (.goto 4, 3) := by decide +kernel
theorem dX10_look_106 : decode cX10_look 106 = .ok (.iload_n 3, 1) := by decide +kernel
theorem dX10_look_107 : decode cX10_look 107 = .ok (.ireturn, 1) := by decide +kernel
theorem dX10_room_0 : decode cX10_room 0 = .ok (.aload_n 0, 1) := by decide +kernel
theorem dX10_room_1 : decode cX10_room 1 = .ok (.iconst 0, 1) := by decide +kernel
theorem dX10_room_2 : decode cX10_room 2 = .ok (.putfield 72, 3) := by decide +kernel
theorem dX10_room_5 : decode cX10_room 5 = .ok (.aload_n 0, 1) := by decide +kernel
theorem dX10_room_6 : decode cX10_room 6 = .ok (.iload_n 1, 1) := by decide +kernel
theorem dX10_room_7 : decode cX10_room 7 = .ok (.invokestatic 377, 3) := by decide +kernel
theorem dX10_room_10 : decode cX10_room 10 = .ok (.ifCond .ne 7, 3) := by decide +kernel
theorem dX10_room_13 : decode cX10_room 13 = .ok (.iconst 1, 1) := by decide +kernel
theorem dX10_room_14 : decode cX10_room 14 = .ok (.goto 4, 3) := by decide +kernel
theorem dX10_room_17 : decode cX10_room 17 = .ok (.iconst 0, 1) := by decide +kernel
theorem dX10_room_18 : decode cX10_room 18 = .ok (.iconst 1, 1) := by decide +kernel
theorem dX10_room_19 : decode cX10_room 19 = .ok (.iconst 0, 1) := by decide +kernel
theorem dX10_room_20 : decode cX10_room 20 = .ok (.invokevirtual 155, 3) := by decide +kernel
theorem dX10_room_23 : decode cX10_room 23 = .ok (.ifCond .eq 5, 3) := by decide +kernel
theorem dX10_room_26 : decode cX10_room 26 = .ok (.iconst 0, 1) := by decide +kernel
theorem dX10_room_27 : decode cX10_room 27 = .ok (.ireturn, 1) := by decide +kernel
theorem dX10_room_28 : decode cX10_room 28 = .ok (.iconst 0, 1) := by decide +kernel
theorem dX10_room_29 : decode cX10_room 29 = .ok (.istore_n 2, 1) := by decide +kernel
theorem dX10_room_30 : decode cX10_room 30 = .ok (.iconst 0, 1) := by decide +kernel
theorem dX10_room_31 : decode cX10_room 31 = .ok (.istore_n 3, 1) := by decide +kernel
theorem dX10_room_32 : decode cX10_room 32 = .ok (.aload_n 0, 1) := by decide +kernel
theorem dX10_room_33 : decode cX10_room 33 = .ok (.getfield 31, 3) := by decide +kernel
theorem dX10_room_36 : decode cX10_room 36 = .ok (.iconst 0, 1) := by decide +kernel
theorem dX10_room_37 : decode cX10_room 37 = .ok (.iload_n 1, 1) := by decide +kernel
theorem dX10_room_38 : decode cX10_room 38 = .ok (.iconst 2, 1) := by decide +kernel
theorem dX10_room_39 : decode cX10_room 39 = .ok (.invokestatic 273, 3) := by decide +kernel
theorem dX10_room_42 : decode cX10_room 42 = .ok (.ifCond .eq 51, 3) := by decide +kernel
theorem dX10_room_45 : decode cX10_room 45 = .ok (.aload_n 0, 1) := by decide +kernel
theorem dX10_room_46 : decode cX10_room 46 = .ok (.getfield 31, 3) := by decide +kernel
theorem dX10_room_49 : decode cX10_room 49 = .ok (.iconst 0, 1) := by decide +kernel
theorem dX10_room_50 : decode cX10_room 50 = .ok (.iload_n 1, 1) := by decide +kernel
theorem dX10_room_51 : decode cX10_room 51 = .ok (.iload_n 3, 1) := by decide +kernel
theorem dX10_room_52 : decode cX10_room 52 = .ok (.invokestatic 270, 3) := by decide +kernel
theorem dX10_room_55 : decode cX10_room 55 = .ok (.iconst (-1), 1) := by decide +kernel
theorem dX10_room_56 : decode cX10_room 56 = .ok (.if_icmp .eq 37, 3) := by decide +kernel
theorem dX10_room_59 : decode cX10_room 59 = .ok (.iload_n 2, 1) := by decide +kernel
theorem dX10_room_60 : decode cX10_room 60 = .ok (.aload_n 0, 1) := by decide +kernel
theorem dX10_room_61 : decode cX10_room 61 = .ok (.getfield 31, 3) := by decide +kernel
theorem dX10_room_64 : decode cX10_room 64 = .ok (.iconst 0, 1) := by decide +kernel
theorem dX10_room_65 : decode cX10_room 65 = .ok (.aload_n 0, 1) := by decide +kernel
theorem dX10_room_66 : decode cX10_room 66 = .ok (.getfield 31, 3) := by decide +kernel
theorem dX10_room_69 : decode cX10_room 69 = .ok (.iconst 0, 1) := by decide +kernel
theorem dX10_room_70 : decode cX10_room 70 = .ok (.iload_n 1, 1) := by decide +kernel
theorem dX10_room_71 : decode cX10_room 71 = .ok (.iload_n 3, 1) := by decide +kernel
theorem dX10_room_72 : decode cX10_room 72 = .ok (.invokestatic 270, 3) := by decide +kernel
theorem dX10_room_75 : decode cX10_room 75 = .ok (.iadd, 1) := by decide +kernel
theorem dX10_room_76 : decode cX10_room 76 = .ok (.iaload, 1) := by decide +kernel
theorem dX10_room_77 : decode cX10_room 77 = .ok (.ifCond .ne 7, 3) := by decide +kernel
theorem dX10_room_80 : decode cX10_room 80 = .ok (.iconst 1, 1) := by decide +kernel
theorem dX10_room_81 : decode cX10_room 81 = .ok (.goto 4, 3) := by decide +kernel
theorem dX10_room_84 : decode cX10_room 84 = .ok (.iconst 0, 1) := by decide +kernel
theorem dX10_room_85 : decode cX10_room 85 = .ok (.iadd, 1) := by decide +kernel
theorem dX10_room_86 : decode cX10_room 86 = .ok (.istore_n 2, 1) := by decide +kernel
theorem dX10_room_87 : decode cX10_room 87 = .ok (.iinc 3 1, 3) := by decide +kernel
theorem dX10_room_90 : decode cX10_room 90 = .ok (.goto (-58), 3) := by decide +kernel
theorem dX10_room_93 : decode cX10_room 93 = .ok (.iload_n 2, 1) := by decide +kernel
theorem dX10_room_94 : decode cX10_room 94 = .ok (.ireturn, 1) := by decide +kernel
theorem dX10_owner_0 : decode cX10_owner 0 = .ok (.aload_n 0, 1) := by decide +kernel
theorem dX10_owner_1 : decode cX10_owner 1 = .ok (.iconst 0, 1) := by decide +kernel
theorem dX10_owner_2 : decode cX10_owner 2 = .ok (.putfield 72, 3) := by decide +kernel
theorem dX10_owner_5 : decode cX10_owner 5 = .ok (.aload_n 0, 1) := by decide +kernel
theorem dX10_owner_6 : decode cX10_owner 6 = .ok (.iload_n 2, 1) := by decide +kernel
theorem dX10_owner_7 : decode cX10_owner 7 = .ok (.invokestatic 368, 3) := by decide +kernel
theorem dX10_owner_10 : decode cX10_owner 10 = .ok (.ifCond .ne 7, 3) := by decide +kernel
theorem dX10_owner_13 : decode cX10_owner 13 = .ok (.iconst 1, 1) := by decide +kernel
theorem dX10_owner_14 : decode cX10_owner 14 = .ok (.goto 4, 3) := by decide +kernel
theorem dX10_owner_17 : decode cX10_owner 17 = .ok (.iconst 0, 1) := by decide +kernel
theorem dX10_owner_18 : decode cX10_owner 18 = .ok (.iconst 1, 1) := by decide +kernel
theorem dX10_owner_19 : decode cX10_owner 19 = .ok (.iconst 1, 1) := by decide +kernel
theorem dX10_owner_20 : decode cX10_owner 20 = .ok (.invokevirtual 155, 3) := by decide +kernel
theorem dX10_owner_23 : decode cX10_owner 23 = .ok (.ifCond .ne 25, 3) := by decide +kernel
theorem dX10_owner_26 : decode cX10_owner 26 = .ok (.aload_n 0, 1) := by decide +kernel
theorem dX10_owner_27 : decode cX10_owner 27 = .ok (.aload_n 0, 1) := by decide +kernel
theorem dX10_owner_28 : decode cX10_owner 28 = .ok (.iload_n 1, 1) := by decide +kernel
theorem dX10_owner_29 : decode cX10_owner 29 = .ok (.invokevirtual 371, 3) := by decide +kernel
theorem dX10_owner_32 : decode cX10_owner 32 = .ok (.ifCond .ne 7, 3) := by decide +kernel
theorem dX10_owner_35 : decode cX10_owner 35 = .ok (.iconst 1, 1) := by decide +kernel
theorem dX10_owner_36 : decode cX10_owner 36 = .ok (.goto 4, 3) := by decide +kernel
theorem dX10_owner_39 : decode cX10_owner 39 = .ok (.iconst 0, 1) := by decide +kernel
theorem dX10_owner_40 : decode cX10_owner 40 = .ok (.iconst 2, 1) := by decide +kernel
theorem dX10_owner_41 : decode cX10_owner 41 = .ok (.iconst 3, 1) := by decide +kernel
theorem dX10_owner_42 : decode cX10_owner 42 = .ok (.invokevirtual 155, 3) := by decide +kernel
theorem dX10_owner_45 : decode cX10_owner 45 = .ok (.ifCond .eq 5, 3) := by decide +kernel
theorem dX10_owner_48 : decode cX10_owner 48 = .ok (.iconst 0, 1) := by decide +kernel
theorem dX10_owner_49 : decode cX10_owner 49 = .ok (.ireturn, 1) := by decide +kernel
theorem dX10_owner_50 : decode cX10_owner 50 = .ok (.iload_n 1, 1) := by decide +kernel
theorem dX10_owner_51 : decode cX10_owner 51 = .ok (.ifCond .ne 7, 3) := by decide +kernel
theorem dX10_owner_54 : decode cX10_owner 54 = .ok (.iconst (-1), 1) := by decide +kernel
theorem dX10_owner_55 : decode cX10_owner 55 = .ok (.goto 26, 3) := by decide +kernel
theorem dX10_owner_58 : decode cX10_owner 58 = .ok (.aload_n 0, 1) := by decide +kernel
theorem dX10_owner_59 : decode cX10_owner 59 = .ok (.getfield 31, 3) := by decide +kernel
theorem dX10_owner_62 : decode cX10_owner 62 = .ok (.iload_n 2, 1) := by decide +kernel
theorem dX10_owner_63 : decode cX10_owner 63 = .ok (.invokestatic 374, 3) := by decide +kernel
theorem dX10_owner_66 : decode cX10_owner 66 = .ok (.aload_n 0, 1) := by decide +kernel
theorem dX10_owner_67 : decode cX10_owner 67 = .ok (.getfield 31, 3) := by decide +kernel
theorem dX10_owner_70 : decode cX10_owner 70 = .ok (.iload_n 2, 1) := by decide +kernel
theorem dX10_owner_71 : decode cX10_owner 71 = .ok (.invokestatic 374, 3) := by decide +kernel
theorem dX10_owner_74 : decode cX10_owner 74 = .ok (.invokestatic 315, 3) := by decide +kernel
theorem dX10_owner_77 : decode cX10_owner 77 = .ok (.iload_n 1, 1) := by decide +kernel
theorem dX10_owner_78 : decode cX10_owner 78 = .ok (.invokestatic 306, 3) := by decide +kernel
theorem dX10_owner_81 : decode cX10_owner 81 = .ok (.ireturn, 1) := by decide +kernel
theorem dX10_unlike_0 : decode cX10_unlike 0 = .ok (.aload_n 0, 1) := by decide +kernel
theorem dX10_unlike_1 : decode cX10_unlike 1 = .ok (.iconst 0, 1) := by decide +kernel
theorem dX10_unlike_2 : decode cX10_unlike 2 = .ok (.putfield 72, 3) := by decide +kernel
theorem dX10_unlike_5 : decode cX10_unlike 5 = .ok (.aload_n 0, 1) := by decide +kernel
theorem dX10_unlike_6 : decode cX10_unlike 6 = .ok (.aload_n 0, 1) := by decide +kernel
theorem dX10_unlike_7 : decode cX10_unlike 7 = .ok (.iload_n 1, 1) := by decide +kernel
theorem dX10_unlike_8 : decode cX10_unlike 8 = .ok (.invokevirtual 371, 3) := by decide +kernel
theorem dX10_unlike_11 : decode cX10_unlike 11 = .ok (.ifCond .ne 7, 3) := by decide +kernel
theorem dX10_unlike_14 : decode cX10_unlike 14 = .ok (.iconst 1, 1) := by decide +kernel
theorem dX10_unlike_15 : decode cX10_unlike 15 = .ok (.goto 4, 3) := by decide +kernel
theorem dX10_unlike_18 : decode cX10_unlike 18 = .ok (.iconst 0, 1) := by decide +kernel
theorem dX10_unlike_19 : decode cX10_unlike 19 = .ok (.iconst 1, 1) := by decide +kernel
theorem dX10_unlike_20 : decode cX10_unlike 20 = .ok (.iconst 3, 1) := by decide +kernel
theorem dX10_unlike_21 : decode cX10_unlike 21 = .ok (.invokevirtual 155, 3) := by decide +kernel
theorem dX10_unlike_24 : decode cX10_unlike 24 = .ok (.ifCond .eq 5, 3) := by decide +kernel
theorem dX10_unlike_27 : decode cX10_unlike 27 = .ok (.iconst 0, 1) := by decide +kernel
theorem dX10_unlike_28 : decode cX10_unlike 28 = .ok (.ireturn, 1) := by decide +kernel
theorem dX10_unlike_29 : decode cX10_unlike 29 = .ok (.iconst 0, 1) := by decide +kernel
theorem dX10_unlike_30 : decode cX10_unlike 30 = .ok (.istore_n 2, 1) := by decide +kernel
theorem dX10_unlike_31 : decode cX10_unlike 31 = .ok (.iconst 0, 1) := by decide +kernel
theorem dX10_unlike_32 : decode cX10_unlike 32 = .ok (.istore_n 3, 1) := by decide +kernel
theorem dX10_unlike_33 : decode cX10_unlike 33 = .ok (.iload_n 3, 1) := by decide +kernel
theorem dX10_unlike_34 : decode cX10_unlike 34 = .ok (.bipush 16, 2) := by decide +kernel
theorem dX10_unlike_36 : decode cX10_unlike 36 = .ok (.if_icmp .ge 48, 3) := by decide +kernel
theorem dX10_unlike_39 : decode cX10_unlike 39 = .ok (.iload_n 2, 1) := by decide +kernel
theorem dX10_unlike_40 : decode cX10_unlike 40 = .ok (.aload_n 0, 1) := by decide +kernel
theorem dX10_unlike_41 : decode cX10_unlike 41 = .ok (.getfield 31, 3) := by decide +kernel
theorem dX10_unlike_44 : decode cX10_unlike 44 = .ok (.iconst 0, 1) := by decide +kernel
theorem dX10_unlike_45 : decode cX10_unlike 45 = .ok (.bipush 16, 2) := by decide +kernel
theorem dX10_unlike_47 : decode cX10_unlike 47 = .ok (.iload_n 1, 1) := by decide +kernel
theorem dX10_unlike_48 : decode cX10_unlike 48 = .ok (.imul, 1) := by decide +kernel
theorem dX10_unlike_49 : decode cX10_unlike 49 = .ok (.iadd, 1) := by decide +kernel
theorem dX10_unlike_50 : decode cX10_unlike 50 = .ok (.iload_n 3, 1) := by decide +kernel
theorem dX10_unlike_51 : decode cX10_unlike 51 = .ok (.iadd, 1) := by decide +kernel
theorem dX10_unlike_52 : decode cX10_unlike 52 = .ok (.iaload, 1) := by decide +kernel
theorem dX10_unlike_53 : decode cX10_unlike 53 = .ok (.aload_n 0, 1) := by decide +kernel
theorem dX10_unlike_54 : decode cX10_unlike 54 = .ok (.getfield 31, 3) := by decide +kernel
theorem dX10_unlike_57 : decode cX10_unlike 57 = .ok (.sipush 256, 3) := by decide +kernel
theorem dX10_unlike_60 : decode cX10_unlike 60 = .ok (.bipush 16, 2) := by decide +kernel
theorem dX10_unlike_62 : decode cX10_unlike 62 = .ok (.iload_n 1, 1) := by decide +kernel
theorem dX10_unlike_63 : decode cX10_unlike 63 = .ok (.imul, 1) := by decide +kernel
theorem dX10_unlike_64 : decode cX10_unlike 64 = .ok (.iadd, 1) := by decide +kernel
theorem dX10_unlike_65 : decode cX10_unlike 65 = .ok (.iload_n 3, 1) := by decide +kernel
theorem dX10_unlike_66 : decode cX10_unlike 66 = .ok (.iadd, 1) := by decide +kernel
theorem dX10_unlike_67 : decode cX10_unlike 67 = .ok (.iaload, 1) := by decide +kernel
theorem dX10_unlike_68 : decode cX10_unlike 68 = .ok (.if_icmp .ne 7, 3) := by decide +kernel
theorem dX10_unlike_71 : decode cX10_unlike 71 = .ok (.iconst 0, 1) := by decide +kernel
theorem dX10_unlike_72 : decode cX10_unlike 72 = .ok (.goto 4, 3) := by decide +kernel
theorem dX10_unlike_75 : decode cX10_unlike 75 = .ok (.iconst 1, 1) := by decide +kernel
theorem dX10_unlike_76 : decode cX10_unlike 76 = .ok (.iadd, 1) := by decide +kernel
theorem dX10_unlike_77 : decode cX10_unlike 77 = .ok (.istore_n 2, 1) := by decide +kernel
theorem dX10_unlike_78 : decode cX10_unlike 78 = .ok (.iinc 3 1, 3) := by decide +kernel
theorem dX10_unlike_81 : decode cX10_unlike 81 = .ok (.goto (-48), 3) := by decide +kernel
theorem dX10_unlike_84 : decode cX10_unlike 84 = .ok (.iload_n 2, 1) := by decide +kernel
theorem dX10_unlike_85 : decode cX10_unlike 85 = .ok (.ireturn, 1) := by decide +kernel
theorem dX10_draw_0 : decode cX10_draw 0 = .ok (.aload_n 0, 1) := by decide +kernel
theorem dX10_draw_1 : decode cX10_draw 1 = .ok (.aload_n 0, 1) := by decide +kernel
theorem dX10_draw_2 : decode cX10_draw 2 = .ok (.getfield 428, 3) := by decide +kernel
theorem dX10_draw_5 : decode cX10_draw 5 = .ok (.ldc_w 431, 3) := by decide +kernel
theorem dX10_draw_8 : decode cX10_draw 8 = .ok (.imul, 1) := by decide +kernel
theorem dX10_draw_9 : decode cX10_draw 9 = .ok (.sipush 12345, 3) := by decide +kernel
theorem dX10_draw_12 : decode cX10_draw 12 = .ok (.iadd, 1) := by decide +kernel
theorem dX10_draw_13 : decode cX10_draw 13 = .ok (.putfield 428, 3) := by decide +kernel
theorem dX10_draw_16 : decode cX10_draw 16 = .ok (.aload_n 0, 1) := by decide +kernel
theorem dX10_draw_17 : decode cX10_draw 17 = .ok (.getfield 428, 3) := by decide +kernel
theorem dX10_draw_20 : decode cX10_draw 20 = .ok (.bipush 16, 2) := by decide +kernel
theorem dX10_draw_22 : decode cX10_draw 22 = .ok (.ishr, 1) := by decide +kernel
theorem dX10_draw_23 : decode cX10_draw 23 = .ok (.sipush 32767, 3) := by decide +kernel
theorem dX10_draw_26 : decode cX10_draw 26 = .ok (.iand, 1) := by decide +kernel
theorem dX10_draw_27 : decode cX10_draw 27 = .ok (.iload_n 1, 1) := by decide +kernel
theorem dX10_draw_28 : decode cX10_draw 28 = .ok (.irem, 1) := by decide +kernel
theorem dX10_draw_29 : decode cX10_draw 29 = .ok (.ireturn, 1) := by decide +kernel
theorem dX10_stormBy_0 : decode cX10_stormBy 0 = .ok (.aload_n 0, 1) := by decide +kernel
theorem dX10_stormBy_1 : decode cX10_stormBy 1 = .ok (.getfield 31, 3) := by decide +kernel
theorem dX10_stormBy_4 : decode cX10_stormBy 4 = .ok (.aload_n 0, 1) := by decide +kernel
theorem dX10_stormBy_5 : decode cX10_stormBy 5 = .ok (.getfield 34, 3) := by decide +kernel
theorem dX10_stormBy_8 : decode cX10_stormBy 8 = .ok (.invokestatic 361, 3) := by decide +kernel
theorem dX10_stormBy_11 : decode cX10_stormBy 11 = .ok (.aload_n 0, 1) := by decide +kernel
theorem dX10_stormBy_12 : decode cX10_stormBy 12 = .ok (.iload_n 1, 1) := by decide +kernel
theorem dX10_stormBy_13 : decode cX10_stormBy 13 = .ok (.putfield 428, 3) := by decide +kernel
theorem dX10_stormBy_16 : decode cX10_stormBy 16 = .ok (.iconst 0, 1) := by decide +kernel
theorem dX10_stormBy_17 : decode cX10_stormBy 17 = .ok (.istore 4, 2) := by decide +kernel
theorem dX10_stormBy_19 : decode cX10_stormBy 19 = .ok (.iload 4, 2) := by decide +kernel
theorem dX10_stormBy_21 : decode cX10_stormBy 21 = .ok (.iload_n 2, 1) := by decide +kernel
theorem dX10_stormBy_22 : decode cX10_stormBy 22 = .ok (.if_icmp .ge 171, 3) := by decide +kernel
theorem dX10_stormBy_25 : decode cX10_stormBy 25 = .ok (.aload_n 0, 1) := by decide +kernel
theorem dX10_stormBy_26 : decode cX10_stormBy 26 = .ok (.bipush 8, 2) := by decide +kernel
theorem dX10_stormBy_28 : decode cX10_stormBy 28 = .ok (.invokevirtual 432, 3) := by decide +kernel
theorem dX10_stormBy_31 : decode cX10_stormBy 31 = .ok (.istore 5, 2) := by decide +kernel
theorem dX10_stormBy_33 : decode cX10_stormBy 33 = .ok (.aload_n 0, 1) := by decide +kernel
theorem dX10_stormBy_34 : decode cX10_stormBy 34 = .ok (.getfield 60, 3) := by decide +kernel
theorem dX10_stormBy_37 : decode cX10_stormBy 37 = .ok (.iconst 0, 1) := by decide +kernel
theorem dX10_stormBy_38 : decode cX10_stormBy 38 = .ok (.iload 5, 2) := by decide +kernel
theorem dX10_stormBy_40 : decode cX10_stormBy 40 = .ok (.iconst 2, 1) := by decide +kernel
theorem dX10_stormBy_41 : decode cX10_stormBy 41 = .ok (.if_icmp .ge 7, 3) := by decide +kernel
theorem dX10_stormBy_44 : decode cX10_stormBy 44 = .ok (.iconst 0, 1) := by decide +kernel
theorem dX10_stormBy_45 : decode cX10_stormBy 45 = .ok (.goto 36, 3) := by decide +kernel
theorem dX10_stormBy_48 : decode cX10_stormBy 48 = .ok (.iload 5, 2) := by decide +kernel
theorem dX10_stormBy_50 : decode cX10_stormBy 50 = .ok (.iconst 2, 1) := by decide +kernel
theorem dX10_stormBy_51 : decode cX10_stormBy 51 = .ok (.if_icmp .ne 8, 3) := by decide +kernel
theorem dX10_stormBy_54 : decode cX10_stormBy 54 = .ok (.bipush 6, 2) := by decide +kernel
theorem dX10_stormBy_56 : decode cX10_stormBy 56 = .ok (.goto 25, 3) := by decide +kernel
theorem dX10_stormBy_59 : decode cX10_stormBy 59 = .ok (.iload 5, 2) := by decide +kernel
theorem dX10_stormBy_61 : decode cX10_stormBy 61 = .ok (.iconst 3, 1) := by decide +kernel
theorem dX10_stormBy_62 : decode cX10_stormBy 62 = .ok (.if_icmp .ne 7, 3) := by decide +kernel
theorem dX10_stormBy_65 : decode cX10_stormBy 65 = .ok (.iconst 3, 1) := by decide +kernel
theorem dX10_stormBy_66 : decode cX10_stormBy 66 = .ok (.goto 15, 3) := by decide +kernel
theorem dX10_stormBy_69 : decode cX10_stormBy 69 = .ok (.iload 5, 2) := by decide +kernel
theorem dX10_stormBy_71 : decode cX10_stormBy 71 = .ok (.iconst 4, 1) := by decide +kernel
theorem dX10_stormBy_72 : decode cX10_stormBy 72 = .ok (.if_icmp .ne 7, 3) := by decide +kernel
theorem dX10_stormBy_75 : decode cX10_stormBy 75 = .ok (.iconst 5, 1) := by decide +kernel
theorem dX10_stormBy_76 : decode cX10_stormBy 76 = .ok (.goto 5, 3) := by decide +kernel
theorem dX10_stormBy_79 : decode cX10_stormBy 79 = .ok (.bipush 7, 2) := by decide +kernel
theorem dX10_stormBy_81 : decode cX10_stormBy 81 = .ok (.iastore, 1) := by decide +kernel
theorem dX10_stormBy_82 : decode cX10_stormBy 82 = .ok (.aload_n 0, 1) := by decide +kernel
theorem dX10_stormBy_83 : decode cX10_stormBy 83 = .ok (.getfield 60, 3) := by decide +kernel
theorem dX10_stormBy_86 : decode cX10_stormBy 86 = .ok (.iconst 1, 1) := by decide +kernel
theorem dX10_stormBy_87 : decode cX10_stormBy 87 = .ok (.iload 5, 2) := by decide +kernel
theorem dX10_stormBy_89 : decode cX10_stormBy 89 = .ok (.iconst 3, 1) := by decide +kernel
theorem dX10_stormBy_90 : decode cX10_stormBy 90 = .ok (.if_icmp .ge 7, 3) := by decide +kernel
theorem dX10_stormBy_93 : decode cX10_stormBy 93 = .ok (.iconst 0, 1) := by decide +kernel
theorem dX10_stormBy_94 : decode cX10_stormBy 94 = .ok (.goto 22, 3) := by decide +kernel
theorem dX10_stormBy_97 : decode cX10_stormBy 97 = .ok (.aload_n 0, 1) := by decide +kernel
theorem dX10_stormBy_98 : decode cX10_stormBy 98 = .ok (.iload 5, 2) := by decide +kernel
theorem dX10_stormBy_100 : decode cX10_stormBy 100 = .ok (.iconst 5, 1) := by decide +kernel
theorem dX10_stormBy_101 : decode cX10_stormBy 101 = .ok (.if_icmp .ge 8, 3) := by decide +kernel
theorem dX10_stormBy_104 : decode cX10_stormBy 104 = .ok (.bipush 12, 2) := by decide +kernel
theorem dX10_stormBy_106 : decode cX10_stormBy 106 = .ok (.goto 7, 3) := by decide +kernel
theorem dX10_stormBy_109 : decode cX10_stormBy 109 = .ok (.aload_n 0, 1) := by decide +kernel
theorem dX10_stormBy_110 : decode cX10_stormBy 110 = .ok (.getfield 168, 3) := by decide +kernel
theorem dX10_stormBy_113 : decode cX10_stormBy 113 = .ok (.invokevirtual 432, 3) := by decide +kernel
theorem dX10_stormBy_116 : decode cX10_stormBy 116 = .ok (.iastore, 1) := by decide +kernel
theorem dX10_stormBy_117 : decode cX10_stormBy 117 = .ok (.aload_n 0, 1) := by decide +kernel
theorem dX10_stormBy_118 : decode cX10_stormBy 118 = .ok (.getfield 60, 3) := by decide +kernel
theorem dX10_stormBy_121 : decode cX10_stormBy 121 = .ok (.iconst 2, 1) := by decide +kernel
theorem dX10_stormBy_122 : decode cX10_stormBy 122 = .ok (.iload 5, 2) := by decide +kernel
theorem dX10_stormBy_124 : decode cX10_stormBy 124 = .ok (.iconst 3, 1) := by decide +kernel
theorem dX10_stormBy_125 : decode cX10_stormBy 125 = .ok (.if_icmp .ge 14, 3) := by decide +kernel
theorem dX10_stormBy_128 : decode cX10_stormBy 128 = .ok (.iconst 1, 1) := by decide +kernel
theorem dX10_stormBy_129 : decode cX10_stormBy 129 = .ok (.aload_n 0, 1) := by decide +kernel
theorem dX10_stormBy_130 : decode cX10_stormBy 130 = .ok (.bipush 9, 2) := by decide +kernel
theorem dX10_stormBy_132 : decode cX10_stormBy 132 = .ok (.invokevirtual 432, 3) := by decide +kernel
theorem dX10_stormBy_135 : decode cX10_stormBy 135 = .ok (.iadd, 1) := by decide +kernel
theorem dX10_stormBy_136 : decode cX10_stormBy 136 = .ok (.goto 19, 3) := by decide +kernel
theorem dX10_stormBy_139 : decode cX10_stormBy 139 = .ok (.iload 5, 2) := by decide +kernel
theorem dX10_stormBy_141 : decode cX10_stormBy 141 = .ok (.iconst 3, 1) := by decide +kernel
theorem dX10_stormBy_142 : decode cX10_stormBy 142 = .ok (.if_icmp .ne 12, 3) := by decide +kernel
theorem dX10_stormBy_145 : decode cX10_stormBy 145 = .ok (.aload_n 0, 1) := by decide +kernel
theorem dX10_stormBy_146 : decode cX10_stormBy 146 = .ok (.bipush 100, 2) := by decide +kernel
theorem dX10_stormBy_148 : decode cX10_stormBy 148 = .ok (.invokevirtual 432, 3) := by decide +kernel
theorem dX10_stormBy_151 : decode cX10_stormBy 151 = .ok (.goto 4, 3) := by decide +kernel
theorem dX10_stormBy_154 : decode cX10_stormBy 154 = .ok (.iconst 0, 1) := by decide +kernel
theorem dX10_stormBy_155 : decode cX10_stormBy 155 = .ok (.iastore, 1) := by decide +kernel
theorem dX10_stormBy_156 : decode cX10_stormBy 156 = .ok (.aload_n 0, 1) := by decide +kernel
theorem dX10_stormBy_157 : decode cX10_stormBy 157 = .ok (.aload_n 0, 1) := by decide +kernel
theorem dX10_stormBy_158 : decode cX10_stormBy 158 = .ok (.getfield 34, 3) := by decide +kernel
theorem dX10_stormBy_161 : decode cX10_stormBy 161 = .ok (.aload_n 0, 1) := by decide +kernel
theorem dX10_stormBy_162 : decode cX10_stormBy 162 = .ok (.getfield 60, 3) := by decide +kernel
theorem dX10_stormBy_165 : decode cX10_stormBy 165 = .ok (.invokevirtual 177, 3) := by decide +kernel
theorem dX10_stormBy_168 : decode cX10_stormBy 168 = .ok (.pop, 1) := by decide +kernel
theorem dX10_stormBy_169 : decode cX10_stormBy 169 = .ok (.aload_n 0, 1) := by decide +kernel
theorem dX10_stormBy_170 : decode cX10_stormBy 170 = .ok (.bipush 16, 2) := by decide +kernel
theorem dX10_stormBy_172 : decode cX10_stormBy 172 = .ok (.invokevirtual 432, 3) := by decide +kernel
theorem dX10_stormBy_175 : decode cX10_stormBy 175 = .ok (.iload_n 3, 1) := by decide +kernel
theorem dX10_stormBy_176 : decode cX10_stormBy 176 = .ok (.if_icmp .ge 11, 3) := by decide +kernel
theorem dX10_stormBy_179 : decode cX10_stormBy 179 = .ok (.aload_n 0, 1) := by decide +kernel
theorem dX10_stormBy_180 : decode cX10_stormBy 180 = .ok (.getfield 34, 3) := by decide +kernel
theorem dX10_stormBy_183 : decode cX10_stormBy 183 = .ok (.invokestatic 346, 3) := by decide +kernel
theorem dX10_stormBy_186 : decode cX10_stormBy 186 = .ok (.pop, 1) := by decide +kernel
theorem dX10_stormBy_187 : decode cX10_stormBy 187 = .ok (.iinc 4 1, 3) := by decide +kernel
theorem dX10_stormBy_190 : decode cX10_stormBy 190 = .ok (.goto (-171), 3) := by decide +kernel
theorem dX10_stormBy_193 : decode cX10_stormBy 193 = .ok (.return_, 1) := by decide +kernel
theorem dX10_isStorm_0 : decode cX10_isStorm 0 = .ok (.iload_n 0, 1) := by decide +kernel
theorem dX10_isStorm_1 : decode cX10_isStorm 1 = .ok (.iconst 1, 1) := by decide +kernel
theorem dX10_isStorm_2 : decode cX10_isStorm 2 = .ok (.bipush 96, 2) := by decide +kernel
theorem dX10_isStorm_4 : decode cX10_isStorm 4 = .ok (.invokestatic 106, 3) := by decide +kernel
theorem dX10_isStorm_7 : decode cX10_isStorm 7 = .ok (.ifCond .eq 17, 3) := by decide +kernel
theorem dX10_isStorm_10 : decode cX10_isStorm 10 = .ok (.iload_n 1, 1) := by decide +kernel
theorem dX10_isStorm_11 : decode cX10_isStorm 11 = .ok (.iconst 0, 1) := by decide +kernel
theorem dX10_isStorm_12 : decode cX10_isStorm 12 = .ok (.bipush 16, 2) := by decide +kernel
theorem dX10_isStorm_14 : decode cX10_isStorm 14 = .ok (.invokestatic 106, 3) := by decide +kernel
theorem dX10_isStorm_17 : decode cX10_isStorm 17 = .ok (.ifCond .eq 7, 3) := by decide +kernel
theorem dX10_isStorm_20 : decode cX10_isStorm 20 = .ok (.iconst 1, 1) := by decide +kernel
theorem dX10_isStorm_21 : decode cX10_isStorm 21 = .ok (.goto 4, 3) := by decide +kernel
theorem dX10_isStorm_24 : decode cX10_isStorm 24 = .ok (.iconst 0, 1) := by decide +kernel
theorem dX10_isStorm_25 : decode cX10_isStorm 25 = .ok (.ireturn, 1) := by decide +kernel
theorem dX10_storm_0 : decode cX10_storm 0 = .ok (.aload_n 0, 1) := by decide +kernel
theorem dX10_storm_1 : decode cX10_storm 1 = .ok (.iconst 0, 1) := by decide +kernel
theorem dX10_storm_2 : decode cX10_storm 2 = .ok (.putfield 72, 3) := by decide +kernel
theorem dX10_storm_5 : decode cX10_storm 5 = .ok (.aload_n 0, 1) := by decide +kernel
theorem dX10_storm_6 : decode cX10_storm 6 = .ok (.iload_n 2, 1) := by decide +kernel
theorem dX10_storm_7 : decode cX10_storm 7 = .ok (.iload_n 3, 1) := by decide +kernel
theorem dX10_storm_8 : decode cX10_storm 8 = .ok (.invokestatic 435, 3) := by decide +kernel
theorem dX10_storm_11 : decode cX10_storm 11 = .ok (.ifCond .eq 13, 3) := by decide +kernel
theorem dX10_storm_14 : decode cX10_storm 14 = .ok (.iload 4, 2) := by decide +kernel
theorem dX10_storm_16 : decode cX10_storm 16 = .ok (.iconst 0, 1) := by decide +kernel
theorem dX10_storm_17 : decode cX10_storm 17 = .ok (.iconst 3, 1) := by decide +kernel
theorem dX10_storm_18 : decode cX10_storm 18 = .ok (.invokestatic 106, 3) := by decide +kernel
theorem dX10_storm_21 : decode cX10_storm 21 = .ok (.ifCond .ne 7, 3) := by decide +kernel
theorem dX10_storm_24 : decode cX10_storm 24 = .ok (.iconst 1, 1) := by decide +kernel
theorem dX10_storm_25 : decode cX10_storm 25 = .ok (.goto 4, 3) := by decide +kernel
theorem dX10_storm_28 : decode cX10_storm 28 = .ok (.iconst 0, 1) := by decide +kernel
theorem dX10_storm_29 : decode cX10_storm 29 = .ok (.iconst 1, 1) := by decide +kernel
theorem dX10_storm_30 : decode cX10_storm 30 = .ok (.iconst 1, 1) := by decide +kernel
theorem dX10_storm_31 : decode cX10_storm 31 = .ok (.invokevirtual 155, 3) := by decide +kernel
theorem dX10_storm_34 : decode cX10_storm 34 = .ok (.ifCond .eq 5, 3) := by decide +kernel
theorem dX10_storm_37 : decode cX10_storm 37 = .ok (.iconst 0, 1) := by decide +kernel
theorem dX10_storm_38 : decode cX10_storm 38 = .ok (.ireturn, 1) := by decide +kernel
theorem dX10_storm_39 : decode cX10_storm 39 = .ok (.aload_n 0, 1) := by decide +kernel
theorem dX10_storm_40 : decode cX10_storm 40 = .ok (.iload_n 1, 1) := by decide +kernel
theorem dX10_storm_41 : decode cX10_storm 41 = .ok (.iload_n 2, 1) := by decide +kernel
theorem dX10_storm_42 : decode cX10_storm 42 = .ok (.iload_n 3, 1) := by decide +kernel
theorem dX10_storm_43 : decode cX10_storm 43 = .ok (.invokevirtual 438, 3) := by decide +kernel
theorem dX10_storm_46 : decode cX10_storm 46 = .ok (.iload 4, 2) := by decide +kernel
theorem dX10_storm_48 : decode cX10_storm 48 = .ok (.ifCond .ne 20, 3) := by decide +kernel
theorem dX10_storm_51 : decode cX10_storm 51 = .ok (.aload_n 0, 1) := by decide +kernel
theorem dX10_storm_52 : decode cX10_storm 52 = .ok (.aload_n 0, 1) := by decide +kernel
theorem dX10_storm_53 : decode cX10_storm 53 = .ok (.getfield 34, 3) := by decide +kernel
theorem dX10_storm_56 : decode cX10_storm 56 = .ok (.sipush 256, 3) := by decide +kernel
theorem dX10_storm_59 : decode cX10_storm 59 = .ok (.invokevirtual 380, 3) := by decide +kernel
theorem dX10_storm_62 : decode cX10_storm 62 = .ok (.invokestatic 398, 3) := by decide +kernel
theorem dX10_storm_65 : decode cX10_storm 65 = .ok (.goto 59, 3) := by decide +kernel
theorem dX10_storm_68 : decode cX10_storm 68 = .ok (.iload 4, 2) := by decide +kernel
theorem dX10_storm_70 : decode cX10_storm 70 = .ok (.iconst 1, 1) := by decide +kernel
theorem dX10_storm_71 : decode cX10_storm 71 = .ok (.if_icmp .ne 16, 3) := by decide +kernel
theorem dX10_storm_74 : decode cX10_storm 74 = .ok (.aload_n 0, 1) := by decide +kernel
theorem dX10_storm_75 : decode cX10_storm 75 = .ok (.getfield 34, 3) := by decide +kernel
theorem dX10_storm_78 : decode cX10_storm 78 = .ok (.sipush 256, 3) := by decide +kernel
theorem dX10_storm_81 : decode cX10_storm 81 = .ok (.invokestatic 315, 3) := by decide +kernel
theorem dX10_storm_84 : decode cX10_storm 84 = .ok (.goto 40, 3) := by decide +kernel
theorem dX10_storm_87 : decode cX10_storm 87 = .ok (.iload 4, 2) := by decide +kernel
theorem dX10_storm_89 : decode cX10_storm 89 = .ok (.iconst 2, 1) := by decide +kernel
theorem dX10_storm_90 : decode cX10_storm 90 = .ok (.if_icmp .ne 23, 3) := by decide +kernel
theorem dX10_storm_93 : decode cX10_storm 93 = .ok (.aload_n 0, 1) := by decide +kernel
theorem dX10_storm_94 : decode cX10_storm 94 = .ok (.getfield 34, 3) := by decide +kernel
theorem dX10_storm_97 : decode cX10_storm 97 = .ok (.sipush 3395, 3) := by decide +kernel
theorem dX10_storm_100 : decode cX10_storm 100 = .ok (.iaload, 1) := by decide +kernel
theorem dX10_storm_101 : decode cX10_storm 101 = .ok (.aload_n 0, 1) := by decide +kernel
theorem dX10_storm_102 : decode cX10_storm 102 = .ok (.getfield 31, 3) := by decide +kernel
theorem dX10_storm_105 : decode cX10_storm 105 = .ok (.sipush 3395, 3) := by decide +kernel
theorem dX10_storm_108 : decode cX10_storm 108 = .ok (.iaload, 1) := by decide +kernel
theorem dX10_storm_109 : decode cX10_storm 109 = .ok (.isub, 1) := by decide +kernel
theorem dX10_storm_110 : decode cX10_storm 110 = .ok (.goto 14, 3) := by decide +kernel
theorem dX10_storm_113 : decode cX10_storm 113 = .ok (.aload_n 0, 1) := by decide +kernel
theorem dX10_storm_114 : decode cX10_storm 114 = .ok (.aload_n 0, 1) := by decide +kernel
theorem dX10_storm_115 : decode cX10_storm 115 = .ok (.getfield 34, 3) := by decide +kernel
theorem dX10_storm_118 : decode cX10_storm 118 = .ok (.sipush 256, 3) := by decide +kernel
theorem dX10_storm_121 : decode cX10_storm 121 = .ok (.invokevirtual 383, 3) := by decide +kernel
theorem dX10_storm_124 : decode cX10_storm 124 = .ok (.ireturn, 1) := by decide +kernel
theorem dX10_span_0 : decode cX10_span 0 = .ok (.aload_n 0, 1) := by decide +kernel
theorem dX10_span_1 : decode cX10_span 1 = .ok (.iconst 0, 1) := by decide +kernel
theorem dX10_span_2 : decode cX10_span 2 = .ok (.putfield 72, 3) := by decide +kernel
theorem dX10_span_5 : decode cX10_span 5 = .ok (.aload_n 0, 1) := by decide +kernel
theorem dX10_span_6 : decode cX10_span 6 = .ok (.iload 6, 2) := by decide +kernel
theorem dX10_span_8 : decode cX10_span 8 = .ok (.invokestatic 377, 3) := by decide +kernel
theorem dX10_span_11 : decode cX10_span 11 = .ok (.ifCond .ne 7, 3) := by decide +kernel
theorem dX10_span_14 : decode cX10_span 14 = .ok (.iconst 1, 1) := by decide +kernel
theorem dX10_span_15 : decode cX10_span 15 = .ok (.goto 4, 3) := by decide +kernel
theorem dX10_span_18 : decode cX10_span 18 = .ok (.iconst 0, 1) := by decide +kernel
theorem dX10_span_19 : decode cX10_span 19 = .ok (.iconst 1, 1) := by decide +kernel
theorem dX10_span_20 : decode cX10_span 20 = .ok (.iconst 0, 1) := by decide +kernel
theorem dX10_span_21 : decode cX10_span 21 = .ok (.invokevirtual 155, 3) := by decide +kernel
theorem dX10_span_24 : decode cX10_span 24 = .ok (.ifCond .ne 45, 3) := by decide +kernel
theorem dX10_span_27 : decode cX10_span 27 = .ok (.aload_n 0, 1) := by decide +kernel
theorem dX10_span_28 : decode cX10_span 28 = .ok (.iload_n 2, 1) := by decide +kernel
theorem dX10_span_29 : decode cX10_span 29 = .ok (.iconst 1, 1) := by decide +kernel
theorem dX10_span_30 : decode cX10_span 30 = .ok (.iconst 5, 1) := by decide +kernel
theorem dX10_span_31 : decode cX10_span 31 = .ok (.invokestatic 106, 3) := by decide +kernel
theorem dX10_span_34 : decode cX10_span 34 = .ok (.ifCond .eq 22, 3) := by decide +kernel
theorem dX10_span_37 : decode cX10_span 37 = .ok (.iload_n 3, 1) := by decide +kernel
theorem dX10_span_38 : decode cX10_span 38 = .ok (.iload 4, 2) := by decide +kernel
theorem dX10_span_40 : decode cX10_span 40 = .ok (.invokestatic 435, 3) := by decide +kernel
theorem dX10_span_43 : decode cX10_span 43 = .ok (.ifCond .eq 13, 3) := by decide +kernel
theorem dX10_span_46 : decode cX10_span 46 = .ok (.iload 5, 2) := by decide +kernel
theorem dX10_span_48 : decode cX10_span 48 = .ok (.iconst 0, 1) := by decide +kernel
theorem dX10_span_49 : decode cX10_span 49 = .ok (.iconst 2, 1) := by decide +kernel
theorem dX10_span_50 : decode cX10_span 50 = .ok (.invokestatic 106, 3) := by decide +kernel
theorem dX10_span_53 : decode cX10_span 53 = .ok (.ifCond .ne 7, 3) := by decide +kernel
theorem dX10_span_56 : decode cX10_span 56 = .ok (.iconst 1, 1) := by decide +kernel
theorem dX10_span_57 : decode cX10_span 57 = .ok (.goto 4, 3) := by decide +kernel
theorem dX10_span_60 : decode cX10_span 60 = .ok (.iconst 0, 1) := by decide +kernel
theorem dX10_span_61 : decode cX10_span 61 = .ok (.iconst 2, 1) := by decide +kernel
theorem dX10_span_62 : decode cX10_span 62 = .ok (.iconst 1, 1) := by decide +kernel
theorem dX10_span_63 : decode cX10_span 63 = .ok (.invokevirtual 155, 3) := by decide +kernel
theorem dX10_span_66 : decode cX10_span 66 = .ok (.ifCond .eq 5, 3) := by decide +kernel
theorem dX10_span_69 : decode cX10_span 69 = .ok (.iconst 0, 1) := by decide +kernel
theorem dX10_span_70 : decode cX10_span 70 = .ok (.ireturn, 1) := by decide +kernel
theorem dX10_span_71 : decode cX10_span 71 = .ok (.iconst (-1), 1) := by decide +kernel
theorem dX10_span_72 : decode cX10_span 72 = .ok (.istore 7, 2) := by decide +kernel
theorem dX10_span_74 : decode cX10_span 74 = .ok (.iconst 0, 1) := by decide +kernel
theorem dX10_span_75 : decode cX10_span 75 = .ok (.istore 8, 2) := by decide +kernel
theorem dX10_span_77 : decode cX10_span 77 = .ok (.iconst 0, 1) := by decide +kernel
theorem dX10_span_78 : decode cX10_span 78 = .ok (.istore 9, 2) := by decide +kernel
theorem dX10_span_80 : decode cX10_span 80 = .ok (.iconst 0, 1) := by decide +kernel
theorem dX10_span_81 : decode cX10_span 81 = .ok (.istore 10, 2) := by decide +kernel
theorem dX10_span_83 : decode cX10_span 83 = .ok (.iload 10, 2) := by decide +kernel
theorem dX10_span_85 : decode cX10_span 85 = .ok (.iload_n 2, 1) := by decide +kernel
theorem dX10_span_86 : decode cX10_span 86 = .ok (.if_icmp .ge 91, 3) := by decide +kernel
theorem dX10_span_89 : decode cX10_span 89 = .ok (.aload_n 0, 1) := by decide +kernel
theorem dX10_span_90 : decode cX10_span 90 = .ok (.iload_n 1, 1) := by decide +kernel
theorem dX10_span_91 : decode cX10_span 91 = .ok (.iload 10, 2) := by decide +kernel
theorem dX10_span_93 : decode cX10_span 93 = .ok (.iadd, 1) := by decide +kernel
theorem dX10_span_94 : decode cX10_span 94 = .ok (.iload_n 3, 1) := by decide +kernel
theorem dX10_span_95 : decode cX10_span 95 = .ok (.iload 4, 2) := by decide +kernel
theorem dX10_span_97 : decode cX10_span 97 = .ok (.invokevirtual 438, 3) := by decide +kernel
theorem dX10_span_100 : decode cX10_span 100 = .ok (.aload_n 0, 1) := by decide +kernel
theorem dX10_span_101 : decode cX10_span 101 = .ok (.aload_n 0, 1) := by decide +kernel
theorem dX10_span_102 : decode cX10_span 102 = .ok (.getfield 34, 3) := by decide +kernel
theorem dX10_span_105 : decode cX10_span 105 = .ok (.sipush 256, 3) := by decide +kernel
theorem dX10_span_108 : decode cX10_span 108 = .ok (.invokevirtual 380, 3) := by decide +kernel
theorem dX10_span_111 : decode cX10_span 111 = .ok (.invokestatic 398, 3) := by decide +kernel
theorem dX10_span_114 : decode cX10_span 114 = .ok (.istore 11, 2) := by decide +kernel
theorem dX10_span_116 : decode cX10_span 116 = .ok (.iload 7, 2) := by decide +kernel
theorem dX10_span_118 : decode cX10_span 118 = .ok (.iconst (-1), 1) := by decide +kernel
theorem dX10_span_119 : decode cX10_span 119 = .ok (.if_icmp .ne 8, 3) := by decide +kernel
theorem dX10_span_122 : decode cX10_span 122 = .ok (.iload 11, 2) := by decide +kernel
theorem dX10_span_124 : decode cX10_span 124 = .ok (.goto 10, 3) := by decide +kernel
theorem dX10_span_127 : decode cX10_span 127 = .ok (.iload 7, 2) := by decide +kernel
theorem dX10_span_129 : decode cX10_span 129 = .ok (.iload 11, 2) := by decide +kernel
theorem dX10_span_131 : decode cX10_span 131 = .ok (.invokestatic 442, 3) := by decide +kernel
theorem dX10_span_134 : decode cX10_span 134 = .ok (.istore 7, 2) := by decide +kernel
theorem dX10_span_136 : decode cX10_span 136 = .ok (.iload 8, 2) := by decide +kernel
theorem dX10_span_138 : decode cX10_span 138 = .ok (.iload 11, 2) := by decide +kernel
theorem dX10_span_140 : decode cX10_span 140 = .ok (.invokestatic 392, 3) := by decide +kernel
theorem dX10_span_143 : decode cX10_span 143 = .ok (.istore 8, 2) := by decide +kernel
theorem dX10_span_145 : decode cX10_span 145 = .ok (.iload 9, 2) := by decide +kernel
theorem dX10_span_147 : decode cX10_span 147 = .ok (.aload_n 0, 1) := by decide +kernel
theorem dX10_span_148 : decode cX10_span 148 = .ok (.getfield 34, 3) := by decide +kernel
theorem dX10_span_151 : decode cX10_span 151 = .ok (.sipush 256, 3) := by decide +kernel
theorem dX10_span_154 : decode cX10_span 154 = .ok (.iload 6, 2) := by decide +kernel
theorem dX10_span_156 : decode cX10_span 156 = .ok (.iconst 0, 1) := by decide +kernel
theorem dX10_span_157 : decode cX10_span 157 = .ok (.invokestatic 233, 3) := by decide +kernel
theorem dX10_span_160 : decode cX10_span 160 = .ok (.ifCond .le 7, 3) := by decide +kernel
theorem dX10_span_163 : decode cX10_span 163 = .ok (.iconst 1, 1) := by decide +kernel
theorem dX10_span_164 : decode cX10_span 164 = .ok (.goto 4, 3) := by decide +kernel
theorem dX10_span_167 : decode cX10_span 167 = .ok (.iconst 0, 1) := by decide +kernel
theorem dX10_span_168 : decode cX10_span 168 = .ok (.iadd, 1) := by decide +kernel
theorem dX10_span_169 : decode cX10_span 169 = .ok (.istore 9, 2) := by decide +kernel
theorem dX10_span_171 : decode cX10_span 171 = .ok (.iinc 10 1, 3) := by decide +kernel
theorem dX10_span_174 : decode cX10_span 174 = .ok (.goto (-91), 3) := by decide +kernel
theorem dX10_span_177 : decode cX10_span 177 = .ok (.iload 5, 2) := by decide +kernel
theorem dX10_span_179 : decode cX10_span 179 = .ok (.ifCond .ne 8, 3) := by decide +kernel
theorem dX10_span_182 : decode cX10_span 182 = .ok (.iload 7, 2) := by decide +kernel
theorem dX10_span_184 : decode cX10_span 184 = .ok (.goto 16, 3) := by decide +kernel
theorem dX10_span_187 : decode cX10_span 187 = .ok (.iload 5, 2) := by decide +kernel
theorem dX10_span_189 : decode cX10_span 189 = .ok (.iconst 1, 1) := by decide +kernel
theorem dX10_span_190 : decode cX10_span 190 = .ok (.if_icmp .ne 8, 3) := by decide +kernel
theorem dX10_span_193 : decode cX10_span 193 = .ok (.iload 8, 2) := by decide +kernel
theorem dX10_span_195 : decode cX10_span 195 = .ok (.goto 5, 3) := by decide +kernel
theorem dX10_span_198 : decode cX10_span 198 = .ok (.iload 9, 2) := by decide +kernel
theorem dX10_span_200 : decode cX10_span 200 = .ok (.ireturn, 1) := by decide +kernel
theorem dX10_lays_0 : decode cX10_lays 0 = .ok (.iload_n 3, 1) := by decide +kernel
theorem dX10_lays_1 : decode cX10_lays 1 = .ok (.ifCond .ne 10, 3) := by decide +kernel
theorem dX10_lays_4 : decode cX10_lays 4 = .ok (.aload_n 1, 1) := by decide +kernel
theorem dX10_lays_5 : decode cX10_lays 5 = .ok (.aload_n 0, 1) := by decide +kernel
theorem dX10_lays_6 : decode cX10_lays 6 = .ok (.getfield 445, 3) := by decide +kernel
theorem dX10_lays_9 : decode cX10_lays 9 = .ok (.iload_n 2, 1) := by decide +kernel
theorem dX10_lays_10 : decode cX10_lays 10 = .ok (.iastore, 1) := by decide +kernel
theorem dX10_lays_11 : decode cX10_lays 11 = .ok (.aload_n 0, 1) := by decide +kernel
theorem dX10_lays_12 : decode cX10_lays 12 = .ok (.dup, 1) := by decide +kernel
theorem dX10_lays_13 : decode cX10_lays 13 = .ok (.getfield 445, 3) := by decide +kernel
theorem dX10_lays_16 : decode cX10_lays 16 = .ok (.iconst 1, 1) := by decide +kernel
theorem dX10_lays_17 : decode cX10_lays 17 = .ok (.iadd, 1) := by decide +kernel
theorem dX10_lays_18 : decode cX10_lays 18 = .ok (.putfield 445, 3) := by decide +kernel
theorem dX10_lays_21 : decode cX10_lays 21 = .ok (.aload_n 1, 1) := by decide +kernel
theorem dX10_lays_22 : decode cX10_lays 22 = .ok (.aload_n 0, 1) := by decide +kernel
theorem dX10_lays_23 : decode cX10_lays 23 = .ok (.getfield 445, 3) := by decide +kernel
theorem dX10_lays_26 : decode cX10_lays 26 = .ok (.iconst 1, 1) := by decide +kernel
theorem dX10_lays_27 : decode cX10_lays 27 = .ok (.isub, 1) := by decide +kernel
theorem dX10_lays_28 : decode cX10_lays 28 = .ok (.iaload, 1) := by decide +kernel
theorem dX10_lays_29 : decode cX10_lays 29 = .ok (.ireturn, 1) := by decide +kernel
theorem dX10_putsAll_0 : decode cX10_putsAll 0 = .ok (.aload_n 0, 1) := by decide +kernel
theorem dX10_putsAll_1 : decode cX10_putsAll 1 = .ok (.iconst 0, 1) := by decide +kernel
theorem dX10_putsAll_2 : decode cX10_putsAll 2 = .ok (.putfield 445, 3) := by decide +kernel
theorem dX10_putsAll_5 : decode cX10_putsAll 5 = .ok (.aload_n 0, 1) := by decide +kernel
theorem dX10_putsAll_6 : decode cX10_putsAll 6 = .ok (.aload_n 0, 1) := by decide +kernel
theorem dX10_putsAll_7 : decode cX10_putsAll 7 = .ok (.aload_n 1, 1) := by decide +kernel
theorem dX10_putsAll_8 : decode cX10_putsAll 8 = .ok (.aload_n 0, 1) := by decide +kernel
theorem dX10_putsAll_9 : decode cX10_putsAll 9 = .ok (.getfield 184, 3) := by decide +kernel
theorem dX10_putsAll_12 : decode cX10_putsAll 12 = .ok (.iload_n 2, 1) := by decide +kernel
theorem dX10_putsAll_13 : decode cX10_putsAll 13 = .ok (.invokevirtual 448, 3) := by decide +kernel
theorem dX10_putsAll_16 : decode cX10_putsAll 16 = .ok (.putfield 184, 3) := by decide +kernel
theorem dX10_putsAll_19 : decode cX10_putsAll 19 = .ok (.iconst 0, 1) := by decide +kernel
theorem dX10_putsAll_20 : decode cX10_putsAll 20 = .ok (.istore_n 3, 1) := by decide +kernel
theorem dX10_putsAll_21 : decode cX10_putsAll 21 = .ok (.iload_n 3, 1) := by decide +kernel
theorem dX10_putsAll_22 : decode cX10_putsAll 22 = .ok (.sipush 3398, 3) := by decide +kernel
theorem dX10_putsAll_25 : decode cX10_putsAll 25 = .ok (.if_icmp .ge 27, 3) := by decide +kernel
theorem dX10_putsAll_28 : decode cX10_putsAll 28 = .ok (.aload_n 0, 1) := by decide +kernel
theorem dX10_putsAll_29 : decode cX10_putsAll 29 = .ok (.getfield 31, 3) := by decide +kernel
theorem dX10_putsAll_32 : decode cX10_putsAll 32 = .ok (.iload_n 3, 1) := by decide +kernel
theorem dX10_putsAll_33 : decode cX10_putsAll 33 = .ok (.aload_n 0, 1) := by decide +kernel
theorem dX10_putsAll_34 : decode cX10_putsAll 34 = .ok (.aload_n 1, 1) := by decide +kernel
theorem dX10_putsAll_35 : decode cX10_putsAll 35 = .ok (.aload_n 0, 1) := by decide +kernel
theorem dX10_putsAll_36 : decode cX10_putsAll 36 = .ok (.getfield 31, 3) := by decide +kernel
theorem dX10_putsAll_39 : decode cX10_putsAll 39 = .ok (.iload_n 3, 1) := by decide +kernel
theorem dX10_putsAll_40 : decode cX10_putsAll 40 = .ok (.iaload, 1) := by decide +kernel
theorem dX10_putsAll_41 : decode cX10_putsAll 41 = .ok (.iload_n 2, 1) := by decide +kernel
theorem dX10_putsAll_42 : decode cX10_putsAll 42 = .ok (.invokevirtual 448, 3) := by decide +kernel
theorem dX10_putsAll_45 : decode cX10_putsAll 45 = .ok (.iastore, 1) := by decide +kernel
theorem dX10_putsAll_46 : decode cX10_putsAll 46 = .ok (.iinc 3 1, 3) := by decide +kernel
theorem dX10_putsAll_49 : decode cX10_putsAll 49 = .ok (.goto (-28), 3) := by decide +kernel
theorem dX10_putsAll_52 : decode cX10_putsAll 52 = .ok (.iconst 0, 1) := by decide +kernel
theorem dX10_putsAll_53 : decode cX10_putsAll 53 = .ok (.istore_n 3, 1) := by decide +kernel
theorem dX10_putsAll_54 : decode cX10_putsAll 54 = .ok (.iload_n 3, 1) := by decide +kernel
theorem dX10_putsAll_55 : decode cX10_putsAll 55 = .ok (.bipush 16, 2) := by decide +kernel
theorem dX10_putsAll_57 : decode cX10_putsAll 57 = .ok (.if_icmp .ge 50, 3) := by decide +kernel
theorem dX10_putsAll_60 : decode cX10_putsAll 60 = .ok (.iconst 0, 1) := by decide +kernel
theorem dX10_putsAll_61 : decode cX10_putsAll 61 = .ok (.istore 4, 2) := by decide +kernel
theorem dX10_putsAll_63 : decode cX10_putsAll 63 = .ok (.iload 4, 2) := by decide +kernel
theorem dX10_putsAll_65 : decode cX10_putsAll 65 = .ok (.sipush 3398, 3) := by decide +kernel
theorem dX10_putsAll_68 : decode cX10_putsAll 68 = .ok (.if_icmp .ge 33, 3) := by decide +kernel
theorem dX10_putsAll_71 : decode cX10_putsAll 71 = .ok (.aload_n 0, 1) := by decide +kernel
theorem dX10_putsAll_72 : decode cX10_putsAll 72 = .ok (.getfield 37, 3) := by decide +kernel
theorem dX10_putsAll_75 : decode cX10_putsAll 75 = .ok (.iload_n 3, 1) := by decide +kernel
theorem dX10_putsAll_76 : decode cX10_putsAll 76 = .ok (.aaload, 1) := by decide +kernel
theorem dX10_putsAll_77 : decode cX10_putsAll 77 = .ok (.iload 4, 2) := by decide +kernel
theorem dX10_putsAll_79 : decode cX10_putsAll 79 = .ok (.aload_n 0, 1) := by decide +kernel
theorem dX10_putsAll_80 : decode cX10_putsAll 80 = .ok (.aload_n 1, 1) := by decide +kernel
theorem dX10_putsAll_81 : decode cX10_putsAll 81 = .ok (.aload_n 0, 1) := by decide +kernel
theorem dX10_putsAll_82 : decode cX10_putsAll 82 = .ok (.getfield 37, 3) := by decide +kernel
theorem dX10_putsAll_85 : decode cX10_putsAll 85 = .ok (.iload_n 3, 1) := by decide +kernel
theorem dX10_putsAll_86 : decode cX10_putsAll 86 = .ok (.aaload, 1) := by decide +kernel
theorem dX10_putsAll_87 : decode cX10_putsAll 87 = .ok (.iload 4, 2) := by decide +kernel
theorem dX10_putsAll_89 : decode cX10_putsAll 89 = .ok (.iaload, 1) := by decide +kernel
theorem dX10_putsAll_90 : decode cX10_putsAll 90 = .ok (.iload_n 2, 1) := by decide +kernel
theorem dX10_putsAll_91 : decode cX10_putsAll 91 = .ok (.invokevirtual 448, 3) := by decide +kernel
theorem dX10_putsAll_94 : decode cX10_putsAll 94 = .ok (.iastore, 1) := by decide +kernel
theorem dX10_putsAll_95 : decode cX10_putsAll 95 = .ok (.iinc 4 1, 3) := by decide +kernel
theorem dX10_putsAll_98 : decode cX10_putsAll 98 = .ok (.goto (-35), 3) := by decide +kernel
theorem dX10_putsAll_101 : decode cX10_putsAll 101 = .ok (.iinc 3 1, 3) := by decide +kernel
theorem dX10_putsAll_104 : decode cX10_putsAll 104 = .ok (.goto (-50), 3) := by decide +kernel
theorem dX10_putsAll_107 : decode cX10_putsAll 107 = .ok (.return_, 1) := by decide +kernel
theorem dX10_image_0 : decode cX10_image 0 = .ok (.aload_n 0, 1) := by decide +kernel
theorem dX10_image_1 : decode cX10_image 1 = .ok (.iconst 0, 1) := by decide +kernel
theorem dX10_image_2 : decode cX10_image 2 = .ok (.putfield 72, 3) := by decide +kernel
theorem dX10_image_5 : decode cX10_image 5 = .ok (.aload_n 0, 1) := by decide +kernel
theorem dX10_image_6 : decode cX10_image 6 = .ok (.getfield 190, 3) := by decide +kernel
theorem dX10_image_9 : decode cX10_image 9 = .ok (.iconst 3, 1) := by decide +kernel
theorem dX10_image_10 : decode cX10_image 10 = .ok (.if_icmp .ne 5, 3) := by decide +kernel
theorem dX10_image_13 : decode cX10_image 13 = .ok (.iconst (-1), 1) := by decide +kernel
theorem dX10_image_14 : decode cX10_image 14 = .ok (.ireturn, 1) := by decide +kernel
theorem dX10_image_15 : decode cX10_image 15 = .ok (.aload_n 0, 1) := by decide +kernel
theorem dX10_image_16 : decode cX10_image 16 = .ok (.aload_n 0, 1) := by decide +kernel
theorem dX10_image_17 : decode cX10_image 17 = .ok (.getfield 41, 3) := by decide +kernel
theorem dX10_image_20 : decode cX10_image 20 = .ok (.aload_n 0, 1) := by decide +kernel
theorem dX10_image_21 : decode cX10_image 21 = .ok (.getfield 190, 3) := by decide +kernel
theorem dX10_image_24 : decode cX10_image 24 = .ok (.aaload, 1) := by decide +kernel
theorem dX10_image_25 : decode cX10_image 25 = .ok (.iconst 0, 1) := by decide +kernel
theorem dX10_image_26 : decode cX10_image 26 = .ok (.invokevirtual 452, 3) := by decide +kernel
theorem dX10_image_29 : decode cX10_image 29 = .ok (.aload_n 0, 1) := by decide +kernel
theorem dX10_image_30 : decode cX10_image 30 = .ok (.dup, 1) := by decide +kernel
theorem dX10_image_31 : decode cX10_image 31 = .ok (.getfield 190, 3) := by decide +kernel
theorem dX10_image_34 : decode cX10_image 34 = .ok (.iconst 1, 1) := by decide +kernel
theorem dX10_image_35 : decode cX10_image 35 = .ok (.iadd, 1) := by decide +kernel
theorem dX10_image_36 : decode cX10_image 36 = .ok (.putfield 190, 3) := by decide +kernel
theorem dX10_image_39 : decode cX10_image 39 = .ok (.aload_n 0, 1) := by decide +kernel
theorem dX10_image_40 : decode cX10_image 40 = .ok (.getfield 190, 3) := by decide +kernel
theorem dX10_image_43 : decode cX10_image 43 = .ok (.ireturn, 1) := by decide +kernel
theorem dX10_restore_0 : decode cX10_restore 0 = .ok (.aload_n 0, 1) := by decide +kernel
theorem dX10_restore_1 : decode cX10_restore 1 = .ok (.iconst 0, 1) := by decide +kernel
theorem dX10_restore_2 : decode cX10_restore 2 = .ok (.putfield 72, 3) := by decide +kernel
theorem dX10_restore_5 : decode cX10_restore 5 = .ok (.aload_n 0, 1) := by decide +kernel
theorem dX10_restore_6 : decode cX10_restore 6 = .ok (.getfield 190, 3) := by decide +kernel
theorem dX10_restore_9 : decode cX10_restore 9 = .ok (.ifCond .ne 5, 3) := by decide +kernel
theorem dX10_restore_12 : decode cX10_restore 12 = .ok (.iconst (-1), 1) := by decide +kernel
theorem dX10_restore_13 : decode cX10_restore 13 = .ok (.ireturn, 1) := by decide +kernel
theorem dX10_restore_14 : decode cX10_restore 14 = .ok (.aload_n 0, 1) := by decide +kernel
theorem dX10_restore_15 : decode cX10_restore 15 = .ok (.dup, 1) := by decide +kernel
theorem dX10_restore_16 : decode cX10_restore 16 = .ok (.getfield 190, 3) := by decide +kernel
theorem dX10_restore_19 : decode cX10_restore 19 = .ok (.iconst 1, 1) := by decide +kernel
theorem dX10_restore_20 : decode cX10_restore 20 = .ok (.isub, 1) := by decide +kernel
theorem dX10_restore_21 : decode cX10_restore 21 = .ok (.putfield 190, 3) := by decide +kernel
theorem dX10_restore_24 : decode cX10_restore 24 = .ok (.aload_n 0, 1) := by decide +kernel
theorem dX10_restore_25 : decode cX10_restore 25 = .ok (.aload_n 0, 1) := by decide +kernel
theorem dX10_restore_26 : decode cX10_restore 26 = .ok (.getfield 41, 3) := by decide +kernel
theorem dX10_restore_29 : decode cX10_restore 29 = .ok (.aload_n 0, 1) := by decide +kernel
theorem dX10_restore_30 : decode cX10_restore 30 = .ok (.getfield 190, 3) := by decide +kernel
theorem dX10_restore_33 : decode cX10_restore 33 = .ok (.aaload, 1) := by decide +kernel
theorem dX10_restore_34 : decode cX10_restore 34 = .ok (.iconst 1, 1) := by decide +kernel
theorem dX10_restore_35 : decode cX10_restore 35 = .ok (.invokevirtual 452, 3) := by decide +kernel
theorem dX10_restore_38 : decode cX10_restore 38 = .ok (.aload_n 0, 1) := by decide +kernel
theorem dX10_restore_39 : decode cX10_restore 39 = .ok (.iconst 0, 1) := by decide +kernel
theorem dX10_restore_40 : decode cX10_restore 40 = .ok (.putfield 187, 3) := by decide +kernel
theorem dX10_restore_43 : decode cX10_restore 43 = .ok (.aload_n 0, 1) := by decide +kernel
theorem dX10_restore_44 : decode cX10_restore 44 = .ok (.getfield 190, 3) := by decide +kernel
theorem dX10_restore_47 : decode cX10_restore 47 = .ok (.ireturn, 1) := by decide +kernel
theorem dX10_status_0 : decode cX10_status 0 = .ok (.aload_n 0, 1) := by decide +kernel
theorem dX10_status_1 : decode cX10_status 1 = .ok (.iconst 0, 1) := by decide +kernel
theorem dX10_status_2 : decode cX10_status 2 = .ok (.putfield 72, 3) := by decide +kernel
theorem dX10_status_5 : decode cX10_status 5 = .ok (.iload_n 1, 1) := by decide +kernel
theorem dX10_status_6 : decode cX10_status 6 = .ok (.iconst 0, 1) := by decide +kernel
theorem dX10_status_7 : decode cX10_status 7 = .ok (.iconst 3, 1) := by decide +kernel
theorem dX10_status_8 : decode cX10_status 8 = .ok (.invokestatic 106, 3) := by decide +kernel
theorem dX10_status_11 : decode cX10_status 11 = .ok (.ifCond .eq 12, 3) := by decide +kernel
theorem dX10_status_14 : decode cX10_status 14 = .ok (.aload_n 0, 1) := by decide +kernel
theorem dX10_status_15 : decode cX10_status 15 = .ok (.getfield 17, 3) := by decide +kernel
theorem dX10_status_18 : decode cX10_status 18 = .ok (.iload_n 1, 1) := by decide +kernel
theorem dX10_status_19 : decode cX10_status 19 = .ok (.iaload, 1) := by decide +kernel
theorem dX10_status_20 : decode cX10_status 20 = .ok (.goto 4, 3) := by decide +kernel
theorem dX10_status_23 : decode cX10_status 23 = .ok (.iconst (-1), 1) := by decide +kernel
theorem dX10_status_24 : decode cX10_status 24 = .ok (.ireturn, 1) := by decide +kernel
theorem dX10_count_0 : decode cX10_count 0 = .ok (.aload_n 0, 1) := by decide +kernel
theorem dX10_count_1 : decode cX10_count 1 = .ok (.iconst 0, 1) := by decide +kernel
theorem dX10_count_2 : decode cX10_count 2 = .ok (.putfield 72, 3) := by decide +kernel
theorem dX10_count_5 : decode cX10_count 5 = .ok (.iload_n 1, 1) := by decide +kernel
theorem dX10_count_6 : decode cX10_count 6 = .ok (.ifCond .ne 10, 3) := by decide +kernel
theorem dX10_count_9 : decode cX10_count 9 = .ok (.aload_n 0, 1) := by decide +kernel
theorem dX10_count_10 : decode cX10_count 10 = .ok (.getfield 190, 3) := by decide +kernel
theorem dX10_count_13 : decode cX10_count 13 = .ok (.goto 28, 3) := by decide +kernel
theorem dX10_count_16 : decode cX10_count 16 = .ok (.iload_n 1, 1) := by decide +kernel
theorem dX10_count_17 : decode cX10_count 17 = .ok (.iconst 1, 1) := by decide +kernel
theorem dX10_count_18 : decode cX10_count 18 = .ok (.if_icmp .ne 10, 3) := by decide +kernel
theorem dX10_count_21 : decode cX10_count 21 = .ok (.aload_n 0, 1) := by decide +kernel
theorem dX10_count_22 : decode cX10_count 22 = .ok (.getfield 75, 3) := by decide +kernel
theorem dX10_count_25 : decode cX10_count 25 = .ok (.goto 16, 3) := by decide +kernel
theorem dX10_count_28 : decode cX10_count 28 = .ok (.iload_n 1, 1) := by decide +kernel
theorem dX10_count_29 : decode cX10_count 29 = .ok (.iconst 2, 1) := by decide +kernel
theorem dX10_count_30 : decode cX10_count 30 = .ok (.if_icmp .ne 10, 3) := by decide +kernel
theorem dX10_count_33 : decode cX10_count 33 = .ok (.aload_n 0, 1) := by decide +kernel
theorem dX10_count_34 : decode cX10_count 34 = .ok (.getfield 184, 3) := by decide +kernel
theorem dX10_count_37 : decode cX10_count 37 = .ok (.goto 4, 3) := by decide +kernel
theorem dX10_count_40 : decode cX10_count 40 = .ok (.iconst (-1), 1) := by decide +kernel
theorem dX10_count_41 : decode cX10_count 41 = .ok (.ireturn, 1) := by decide +kernel
theorem eX10_settles {G : GG} {d : Nat} {h : Hp} {o : OU} {h' : Hp} (r0 : Nat) (r1 : Nat) (hd : 1 ≤ d) (T : kH h r0 = 18 ∧ ∃ h2, VM G mX10_spills (d - 1) [.ref r0, .ref r1, .int 0] (h.1, (upI h.2 r0 33 (-1))) (.inl none) h2 ∧ V G mX10_settles d 13 [.ref r0, .ref r1, .int 0, uV] [] h2 o h') : VM G mX10_settles d [.ref r0, .ref r1] h o h' := by
  refine V.toM rfl rfl (le_l rfl) (cat_all rfl) ?_
  show V G mX10_settles d 0 [.ref r0, .ref r1, uV, uV] [] h o h'
  have hdd : d - 1 + 1 ≤ d := by omega
  refine v_iconst (pc' := 1) (v := 0) dX10_settles_0 rfl kI_0 ?_
  refine v_istore_n (pc' := 2) (loc' := [.ref r0, .ref r1, .int 0, uV]) dX10_settles_1 rfl (lt_l rfl) rfl ?_
  refine v_aload_n (pc' := 3) dX10_settles_2 rfl rfl ?_
  refine v_iconst (pc' := 4) (v := (-1)) dX10_settles_3 rfl kI_m1 ?_
  obtain ⟨q1, T⟩ := T
  refine v_putI (pc' := 7) 8 33 dX10_settles_4 rfl (by decide) (by decide) rfl rfl kf_X10_401 q1 ?_
  refine v_aload_n (pc' := 8) dX10_settles_7 rfl rfl ?_
  refine v_aload_n (pc' := 9) dX10_settles_8 rfl rfl ?_
  refine v_iconst (pc' := 10) (v := 0) dX10_settles_9 rfl kI_0 ?_
  obtain ⟨h2, k3, T⟩ := T
  refine v_callV (pc' := 13) (M1 := mX10_spills) (as := [.ref r1, .int 0]) (r := r0) (rest := []) 8 dX10_settles_10 rfl ko_X10_407 kc_X10_spills ki_X10_spills ks_X10_spills (by decide) (by decide) hdd rfl rfl (le_l rfl) q1 k3 ?_
  exact T
theorem bX10_settles_13 {G : GG} {d : Nat} {h : Hp} {o : OU} {h' : Hp} (r0 : Nat) (r1 : Nat) (x2 : Int32) (hd : 1 ≤ d) (T : kH h r0 = 18 ∧ ∃ z2 h1, VM G mX10_dirty (d - 1) [.ref r0, .ref r1] h (.inl (some (.int z2))) h1 ∧ ((z2 = 0 → (o = .inl (some (.int x2)) ∧ h' = h1)) ∧ (¬ z2 = 0 → V G mX10_settles d 23 [.ref r0, .ref r1, .int x2, .int 0] [] h1 o h'))) : V G mX10_settles d 13 [.ref r0, .ref r1, .int x2, uV] [] h o h' := by
  have hdd : d - 1 + 1 ≤ d := by omega
  refine v_aload_n (pc' := 14) dX10_settles_13 rfl rfl ?_
  refine v_aload_n (pc' := 15) dX10_settles_14 rfl rfl ?_
  obtain ⟨q4, T⟩ := T
  obtain ⟨z2, h1, k3, T⟩ := T
  refine v_callV (pc' := 18) (M1 := mX10_dirty) (as := [.ref r1]) (r := r0) (rest := []) 8 dX10_settles_15 rfl ko_X10_365 kc_X10_dirty ki_X10_dirty ks_X10_dirty (by decide) (by decide) hdd rfl rfl (le_l rfl) q4 k3 ?_
  refine v_if_eq (tgt := 76) (pc' := 21) dX10_settles_18 (by decide) rfl ⟨fun c5 => ?_, fun c5 => ?_⟩
  · have T := T.1 c5
    refine v_iload_n (pc' := 77) dX10_settles_76 rfl rfl ?_
    exact v_iret dX10_settles_77 rfl T
  · have T := T.2 c5
    refine v_iconst (pc' := 22) (v := 0) dX10_settles_21 rfl kI_0 ?_
    refine v_istore_n (pc' := 23) (loc' := [.ref r0, .ref r1, .int x2, .int 0]) dX10_settles_22 rfl (lt_l rfl) rfl ?_
    exact T
theorem bX10_settles_23 {G : GG} {d : Nat} {h : Hp} {o : OU} {h' : Hp} (r0 : Nat) (r1 : Nat) (x2 : Int32) (x3 : Int32) (hd : 1 ≤ d) (T : kH h r0 = 18 ∧ (((h.2 r0 11) ≤ x3 → V G mX10_settles d 13 [.ref r0, .ref r1, .int x2, uV] [] h o h') ∧ (¬ (h.2 r0 11) ≤ x3 → ∃ z4 h3, VM G mX10_isDirty (d - 1) [.ref r1, .int x3] h (.inl (some (.int z4))) h3 ∧ ((¬ z4 = 0 → ((¬ x2 = 200 → kH h3 r0 = 18 ∧ ∃ z9 h8, VM G mX10_writes (d - 1) [.ref r0, .ref r1, .int x3] h3 (.inl (some (.int z9))) h8 ∧ kH h8 r0 = 18 ∧ ∃ h12, VM G mX10_spills (d - 1) [.ref r0, .ref r1, .int (x2 + 1)] h8 (.inl none) h12 ∧ V G mX10_settles d 23 [.ref r0, .ref r1, .int (x2 + 1), .int (x3 + 1)] [] h12 o h') ∧ (x2 = 200 → (o = .inl (some (.int (-1))) ∧ h' = h3)))) ∧ (z4 = 0 → V G mX10_settles d 23 [.ref r0, .ref r1, .int x2, .int (x3 + 1)] [] h3 o h'))))) : V G mX10_settles d 23 [.ref r0, .ref r1, .int x2, .int x3] [] h o h' := by
  have hdd : d - 1 + 1 ≤ d := by omega
  refine v_iload_n (pc' := 24) dX10_settles_23 rfl rfl ?_
  refine v_aload_n (pc' := 25) dX10_settles_24 rfl rfl ?_
  obtain ⟨q1, T⟩ := T
  refine v_getI (pc' := 28) 8 11 dX10_settles_25 rfl (by decide) (by decide) rfl kf_X10_168 q1 ?_
  refine v_icmp_ge (tgt := 73) (pc' := 31) dX10_settles_28 (by decide) rfl ⟨fun c2 => ?_, fun c2 => ?_⟩
  · have T := T.1 c2
    refine v_goto (pc' := 13) dX10_settles_73 (by decide) ?_
    exact V.drop (llp_r (llp_r (llp_r (llp_u llp_nil)))) T
  · have T := T.2 c2
    refine v_aload_n (pc' := 32) dX10_settles_31 rfl rfl ?_
    refine v_iload_n (pc' := 33) dX10_settles_32 rfl rfl ?_
    obtain ⟨z4, h3, k5, T⟩ := T
    refine v_callS (pc' := 36) (M1 := mX10_isDirty) (as := [.ref r1, .int x3]) (rest := []) dX10_settles_33 rfl ko_X10_208 kc_X10_isDirty kt_X10_isDirty (by decide) hdd rfl rfl (le_l rfl) k5 ?_
    refine v_if_ne (tgt := 42) (pc' := 39) dX10_settles_36 (by decide) rfl ⟨fun c6 => ?_, fun c6 => ?_⟩
    · have T := T.1 c6
      refine v_iload_n (pc' := 43) dX10_settles_42 rfl rfl ?_
      refine v_sipush (pc' := 46) (v := 200) dX10_settles_43 rfl kS_200 ?_
      refine v_icmp_ne (tgt := 51) (pc' := 49) dX10_settles_46 (by decide) rfl ⟨fun c7 => ?_, fun c7 => ?_⟩
      · have T := T.1 c7
        refine v_aload_n (pc' := 52) dX10_settles_51 rfl rfl ?_
        refine v_aload_n (pc' := 53) dX10_settles_52 rfl rfl ?_
        refine v_iload_n (pc' := 54) dX10_settles_53 rfl rfl ?_
        obtain ⟨q11, T⟩ := T
        obtain ⟨z9, h8, k10, T⟩ := T
        refine v_callV (pc' := 57) (M1 := mX10_writes) (as := [.ref r1, .int x3]) (r := r0) (rest := []) 8 dX10_settles_54 rfl ko_X10_267 kc_X10_writes ki_X10_writes ks_X10_writes (by decide) (by decide) hdd rfl rfl (le_l rfl) q11 k10 ?_
        refine v_pop (pc' := 58) dX10_settles_57 rfl rfl ?_
        refine v_iinc (pc' := 61) (loc' := [.ref r0, .ref r1, .int (x2 + 1), .int x3]) dX10_settles_58 rfl rfl (kX_1 _) rfl ?_
        refine v_aload_n (pc' := 62) dX10_settles_61 rfl rfl ?_
        refine v_aload_n (pc' := 63) dX10_settles_62 rfl rfl ?_
        refine v_iload_n (pc' := 64) dX10_settles_63 rfl rfl ?_
        obtain ⟨q14, T⟩ := T
        obtain ⟨h12, k13, T⟩ := T
        refine v_callV (pc' := 67) (M1 := mX10_spills) (as := [.ref r1, .int (x2 + 1)]) (r := r0) (rest := []) 8 dX10_settles_64 rfl ko_X10_407 kc_X10_spills ki_X10_spills ks_X10_spills (by decide) (by decide) hdd rfl rfl (le_l rfl) q14 k13 ?_
        refine v_iinc (pc' := 70) (loc' := [.ref r0, .ref r1, .int (x2 + 1), .int (x3 + 1)]) dX10_settles_67 rfl rfl (kX_1 _) rfl ?_
        refine v_goto (pc' := 23) dX10_settles_70 (by decide) ?_
        exact T
      · have T := T.2 c7
        refine v_iconst (pc' := 50) (v := (-1)) dX10_settles_49 rfl kI_m1 ?_
        exact v_iret dX10_settles_50 rfl T
    · have T := T.2 c6
      refine v_goto (pc' := 67) dX10_settles_39 (by decide) ?_
      refine v_iinc (pc' := 70) (loc' := [.ref r0, .ref r1, .int x2, .int (x3 + 1)]) dX10_settles_67 rfl rfl (kX_1 _) rfl ?_
      refine v_goto (pc' := 23) dX10_settles_70 (by decide) ?_
      exact T
theorem eX10_settle {G : GG} {d : Nat} {h : Hp} {o : OU} {h' : Hp} (r0 : Nat) (hd : 1 ≤ d) (T : kH h r0 = 18 ∧ ∃ h2, VM G mX10_copies (d - 1) [.ref (rH h r0 22), .ref (rH h r0 23)] (h.1, (upI h.2 r0 0 0)) (.inl none) h2 ∧ kH h2 r0 = 18 ∧ ∃ z6 h5, VM G mX10_settles (d - 1) [.ref r0, .ref (rH h2 r0 23)] h2 (.inl (some (.int z6))) h5 ∧ (o = .inl (some (.int z6)) ∧ h' = h5)) : VM G mX10_settle d [.ref r0] h o h' := by
  refine V.toM rfl rfl (le_l rfl) (cat_all rfl) ?_
  show V G mX10_settle d 0 [.ref r0] [] h o h'
  have hdd : d - 1 + 1 ≤ d := by omega
  refine v_aload_n (pc' := 1) dX10_settle_0 rfl rfl ?_
  refine v_iconst (pc' := 2) (v := 0) dX10_settle_1 rfl kI_0 ?_
  obtain ⟨q1, T⟩ := T
  refine v_putI (pc' := 5) 8 0 dX10_settle_2 rfl (by decide) (by decide) rfl rfl kf_X10_72 q1 ?_
  refine v_aload_n (pc' := 6) dX10_settle_5 rfl rfl ?_
  refine v_getR (pc' := 9) 8 22 dX10_settle_6 rfl (by decide) (by decide) rfl kf_X10_31 q1 ?_
  refine v_aload_n (pc' := 10) dX10_settle_9 rfl rfl ?_
  refine v_getR (pc' := 13) 8 23 dX10_settle_10 rfl (by decide) (by decide) rfl kf_X10_34 q1 ?_
  obtain ⟨h2, k3, T⟩ := T
  refine v_callS (pc' := 16) (M1 := mX10_copies) (as := [.ref (rH h r0 22), .ref (rH h r0 23)]) (rest := []) dX10_settle_13 rfl ko_X10_361 kc_X10_copies kt_X10_copies (by decide) hdd rfl rfl (le_l rfl) k3 ?_
  refine v_aload_n (pc' := 17) dX10_settle_16 rfl rfl ?_
  refine v_aload_n (pc' := 18) dX10_settle_17 rfl rfl ?_
  obtain ⟨q4, T⟩ := T
  refine v_getR (pc' := 21) 8 23 dX10_settle_18 rfl (by decide) (by decide) rfl kf_X10_34 q4 ?_
  obtain ⟨z6, h5, k7, T⟩ := T
  refine v_callV (pc' := 24) (M1 := mX10_settles) (as := [.ref (rH h2 r0 23)]) (r := r0) (rest := []) 8 dX10_settle_21 rfl ko_X10_410 kc_X10_settles ki_X10_settles ks_X10_settles (by decide) (by decide) hdd rfl rfl (le_l rfl) q4 k7 ?_
  exact v_iret dX10_settle_24 rfl T
theorem eX10_spill {G : GG} {d : Nat} {h : Hp} {o : OU} {h' : Hp} (r0 : Nat) (x1 : Int32) (hd : 1 ≤ d) (T : kH h r0 = 18 ∧ ∃ z3 h2, VM G mX10_in (d - 1) [.int x1, .int 0, .int 1] (h.1, (upI h.2 r0 0 0)) (.inl (some (.int z3))) h2 ∧ ((¬ z3 = 0 → kH h2 r0 = 18 ∧ ∃ z7 h6, VM G mX10_bad (d - 1) [.ref r0, .int 0, .int 1, .int 1] h2 (.inl (some (.int z7))) h6 ∧ ((z7 = 0 → kH h6 r0 = 18 ∧ ∃ h12, VM G mX10_copies (d - 1) [.ref (rH h6 r0 22), .ref (rH h6 r0 23)] h6 (.inl none) h12 ∧ kH h12 r0 = 18 ∧ ∃ z16 h15, VM G mX10_settles (d - 1) [.ref r0, .ref (rH h12 r0 23)] h12 (.inl (some (.int z16))) h15 ∧ ((¬ x1 = 0 → kH h15 r0 = 18 ∧ (o = .inl (some (.int (h15.2 r0 34))) ∧ h' = h15)) ∧ (x1 = 0 → kH h15 r0 = 18 ∧ (o = .inl (some (.int (h15.2 r0 33))) ∧ h' = h15)))) ∧ (¬ z7 = 0 → (o = .inl (some (.int 0)) ∧ h' = h6)))) ∧ (z3 = 0 → kH h2 r0 = 18 ∧ ∃ z22 h21, VM G mX10_bad (d - 1) [.ref r0, .int 1, .int 1, .int 1] h2 (.inl (some (.int z22))) h21 ∧ ((z22 = 0 → kH h21 r0 = 18 ∧ ∃ h27, VM G mX10_copies (d - 1) [.ref (rH h21 r0 22), .ref (rH h21 r0 23)] h21 (.inl none) h27 ∧ kH h27 r0 = 18 ∧ ∃ z31 h30, VM G mX10_settles (d - 1) [.ref r0, .ref (rH h27 r0 23)] h27 (.inl (some (.int z31))) h30 ∧ ((¬ x1 = 0 → kH h30 r0 = 18 ∧ (o = .inl (some (.int (h30.2 r0 34))) ∧ h' = h30)) ∧ (x1 = 0 → kH h30 r0 = 18 ∧ (o = .inl (some (.int (h30.2 r0 33))) ∧ h' = h30)))) ∧ (¬ z22 = 0 → (o = .inl (some (.int 0)) ∧ h' = h21)))))) : VM G mX10_spill d [.ref r0, .int x1] h o h' := by
  refine V.toM rfl rfl (le_l rfl) (cat_all rfl) ?_
  show V G mX10_spill d 0 [.ref r0, .int x1] [] h o h'
  have hdd : d - 1 + 1 ≤ d := by omega
  refine v_aload_n (pc' := 1) dX10_spill_0 rfl rfl ?_
  refine v_iconst (pc' := 2) (v := 0) dX10_spill_1 rfl kI_0 ?_
  obtain ⟨q1, T⟩ := T
  refine v_putI (pc' := 5) 8 0 dX10_spill_2 rfl (by decide) (by decide) rfl rfl kf_X10_72 q1 ?_
  refine v_aload_n (pc' := 6) dX10_spill_5 rfl rfl ?_
  refine v_iload_n (pc' := 7) dX10_spill_6 rfl rfl ?_
  refine v_iconst (pc' := 8) (v := 0) dX10_spill_7 rfl kI_0 ?_
  refine v_iconst (pc' := 9) (v := 1) dX10_spill_8 rfl kI_1 ?_
  obtain ⟨z3, h2, k4, T⟩ := T
  refine v_callS (pc' := 12) (M1 := mX10_in) (as := [.int x1, .int 0, .int 1]) (rest := [.ref r0]) dX10_spill_9 rfl ko_X10_106 kc_X10_in kt_X10_in (by decide) hdd rfl rfl (le_l rfl) k4 ?_
  refine v_if_ne (tgt := 19) (pc' := 15) dX10_spill_12 (by decide) rfl ⟨fun c5 => ?_, fun c5 => ?_⟩
  · have T := T.1 c5
    refine v_iconst (pc' := 20) (v := 0) dX10_spill_19 rfl kI_0 ?_
    refine v_iconst (pc' := 21) (v := 1) dX10_spill_20 rfl kI_1 ?_
    refine v_iconst (pc' := 22) (v := 1) dX10_spill_21 rfl kI_1 ?_
    obtain ⟨q9, T⟩ := T
    obtain ⟨z7, h6, k8, T⟩ := T
    refine v_callV (pc' := 25) (M1 := mX10_bad) (as := [.int 0, .int 1, .int 1]) (r := r0) (rest := []) 8 dX10_spill_22 rfl ko_X10_155 kc_X10_bad ki_X10_bad ks_X10_bad (by decide) (by decide) hdd rfl rfl (le_l rfl) q9 k8 ?_
    refine v_if_eq (tgt := 30) (pc' := 28) dX10_spill_25 (by decide) rfl ⟨fun c10 => ?_, fun c10 => ?_⟩
    · have T := T.1 c10
      refine v_aload_n (pc' := 31) dX10_spill_30 rfl rfl ?_
      obtain ⟨q11, T⟩ := T
      refine v_getR (pc' := 34) 8 22 dX10_spill_31 rfl (by decide) (by decide) rfl kf_X10_31 q11 ?_
      refine v_aload_n (pc' := 35) dX10_spill_34 rfl rfl ?_
      refine v_getR (pc' := 38) 8 23 dX10_spill_35 rfl (by decide) (by decide) rfl kf_X10_34 q11 ?_
      obtain ⟨h12, k13, T⟩ := T
      refine v_callS (pc' := 41) (M1 := mX10_copies) (as := [.ref (rH h6 r0 22), .ref (rH h6 r0 23)]) (rest := []) dX10_spill_38 rfl ko_X10_361 kc_X10_copies kt_X10_copies (by decide) hdd rfl rfl (le_l rfl) k13 ?_
      refine v_aload_n (pc' := 42) dX10_spill_41 rfl rfl ?_
      refine v_aload_n (pc' := 43) dX10_spill_42 rfl rfl ?_
      obtain ⟨q14, T⟩ := T
      refine v_getR (pc' := 46) 8 23 dX10_spill_43 rfl (by decide) (by decide) rfl kf_X10_34 q14 ?_
      obtain ⟨z16, h15, k17, T⟩ := T
      refine v_callV (pc' := 49) (M1 := mX10_settles) (as := [.ref (rH h12 r0 23)]) (r := r0) (rest := []) 8 dX10_spill_46 rfl ko_X10_410 kc_X10_settles ki_X10_settles ks_X10_settles (by decide) (by decide) hdd rfl rfl (le_l rfl) q14 k17 ?_
      refine v_pop (pc' := 50) dX10_spill_49 rfl rfl ?_
      refine v_iload_n (pc' := 51) dX10_spill_50 rfl rfl ?_
      refine v_if_ne (tgt := 61) (pc' := 54) dX10_spill_51 (by decide) rfl ⟨fun c18 => ?_, fun c18 => ?_⟩
      · have T := T.1 c18
        refine v_aload_n (pc' := 62) dX10_spill_61 rfl rfl ?_
        obtain ⟨q19, T⟩ := T
        refine v_getI (pc' := 65) 8 34 dX10_spill_62 rfl (by decide) (by decide) rfl kf_X10_404 q19 ?_
        exact v_iret dX10_spill_65 rfl T
      · have T := T.2 c18
        refine v_aload_n (pc' := 55) dX10_spill_54 rfl rfl ?_
        obtain ⟨q20, T⟩ := T
        refine v_getI (pc' := 58) 8 33 dX10_spill_55 rfl (by decide) (by decide) rfl kf_X10_401 q20 ?_
        refine v_goto (pc' := 65) dX10_spill_58 (by decide) ?_
        exact v_iret dX10_spill_65 rfl T
    · have T := T.2 c10
      refine v_iconst (pc' := 29) (v := 0) dX10_spill_28 rfl kI_0 ?_
      exact v_iret dX10_spill_29 rfl T
  · have T := T.2 c5
    refine v_iconst (pc' := 16) (v := 1) dX10_spill_15 rfl kI_1 ?_
    refine v_goto (pc' := 20) dX10_spill_16 (by decide) ?_
    refine v_iconst (pc' := 21) (v := 1) dX10_spill_20 rfl kI_1 ?_
    refine v_iconst (pc' := 22) (v := 1) dX10_spill_21 rfl kI_1 ?_
    obtain ⟨q24, T⟩ := T
    obtain ⟨z22, h21, k23, T⟩ := T
    refine v_callV (pc' := 25) (M1 := mX10_bad) (as := [.int 1, .int 1, .int 1]) (r := r0) (rest := []) 8 dX10_spill_22 rfl ko_X10_155 kc_X10_bad ki_X10_bad ks_X10_bad (by decide) (by decide) hdd rfl rfl (le_l rfl) q24 k23 ?_
    refine v_if_eq (tgt := 30) (pc' := 28) dX10_spill_25 (by decide) rfl ⟨fun c25 => ?_, fun c25 => ?_⟩
    · have T := T.1 c25
      refine v_aload_n (pc' := 31) dX10_spill_30 rfl rfl ?_
      obtain ⟨q26, T⟩ := T
      refine v_getR (pc' := 34) 8 22 dX10_spill_31 rfl (by decide) (by decide) rfl kf_X10_31 q26 ?_
      refine v_aload_n (pc' := 35) dX10_spill_34 rfl rfl ?_
      refine v_getR (pc' := 38) 8 23 dX10_spill_35 rfl (by decide) (by decide) rfl kf_X10_34 q26 ?_
      obtain ⟨h27, k28, T⟩ := T
      refine v_callS (pc' := 41) (M1 := mX10_copies) (as := [.ref (rH h21 r0 22), .ref (rH h21 r0 23)]) (rest := []) dX10_spill_38 rfl ko_X10_361 kc_X10_copies kt_X10_copies (by decide) hdd rfl rfl (le_l rfl) k28 ?_
      refine v_aload_n (pc' := 42) dX10_spill_41 rfl rfl ?_
      refine v_aload_n (pc' := 43) dX10_spill_42 rfl rfl ?_
      obtain ⟨q29, T⟩ := T
      refine v_getR (pc' := 46) 8 23 dX10_spill_43 rfl (by decide) (by decide) rfl kf_X10_34 q29 ?_
      obtain ⟨z31, h30, k32, T⟩ := T
      refine v_callV (pc' := 49) (M1 := mX10_settles) (as := [.ref (rH h27 r0 23)]) (r := r0) (rest := []) 8 dX10_spill_46 rfl ko_X10_410 kc_X10_settles ki_X10_settles ks_X10_settles (by decide) (by decide) hdd rfl rfl (le_l rfl) q29 k32 ?_
      refine v_pop (pc' := 50) dX10_spill_49 rfl rfl ?_
      refine v_iload_n (pc' := 51) dX10_spill_50 rfl rfl ?_
      refine v_if_ne (tgt := 61) (pc' := 54) dX10_spill_51 (by decide) rfl ⟨fun c33 => ?_, fun c33 => ?_⟩
      · have T := T.1 c33
        refine v_aload_n (pc' := 62) dX10_spill_61 rfl rfl ?_
        obtain ⟨q34, T⟩ := T
        refine v_getI (pc' := 65) 8 34 dX10_spill_62 rfl (by decide) (by decide) rfl kf_X10_404 q34 ?_
        exact v_iret dX10_spill_65 rfl T
      · have T := T.2 c33
        refine v_aload_n (pc' := 55) dX10_spill_54 rfl rfl ?_
        obtain ⟨q35, T⟩ := T
        refine v_getI (pc' := 58) 8 33 dX10_spill_55 rfl (by decide) (by decide) rfl kf_X10_401 q35 ?_
        refine v_goto (pc' := 65) dX10_spill_58 (by decide) ?_
        exact v_iret dX10_spill_65 rfl T
    · have T := T.2 c25
      refine v_iconst (pc' := 29) (v := 0) dX10_spill_28 rfl kI_0 ?_
      exact v_iret dX10_spill_29 rfl T
theorem eX10_isSafeBy {G : GG} {d : Nat} {h : Hp} {o : OU} {h' : Hp} (r0 : Nat) (x1 : Int32) (x2 : Int32) (hd : 1 ≤ d) (T : kH h r0 = 18 ∧ kH h (rH h r0 26) = 7 ∧ vp_in x1 (lH h (rH h r0 26)) ∧ ∃ z5 h4, VM G mX10_dirty (d - 1) [.ref r0, .ref (rH h (rH h r0 26) x1.toNatClampNeg)] h (.inl (some (.int z5))) h4 ∧ ∃ z8 h7, VM G mX10_ones (d - 1) [.int z5] h4 (.inl (some (.int z8))) h7 ∧ ((z8 ≤ x2 → V G mX10_isSafeBy d 24 [.ref r0, .int x1, .int x2, .int z5, .int 0] [] h7 o h') ∧ (¬ z8 ≤ x2 → (o = .inl (some (.int 0)) ∧ h' = h7)))) : VM G mX10_isSafeBy d [.ref r0, .int x1, .int x2] h o h' := by
  refine V.toM rfl rfl (le_l rfl) (cat_all rfl) ?_
  show V G mX10_isSafeBy d 0 [.ref r0, .int x1, .int x2, uV, uV] [] h o h'
  have hdd : d - 1 + 1 ≤ d := by omega
  refine v_aload_n (pc' := 1) dX10_isSafeBy_0 rfl rfl ?_
  refine v_aload_n (pc' := 2) dX10_isSafeBy_1 rfl rfl ?_
  obtain ⟨q1, T⟩ := T
  refine v_getR (pc' := 5) 8 26 dX10_isSafeBy_2 rfl (by decide) (by decide) rfl kf_X10_44 q1 ?_
  refine v_iload_n (pc' := 6) dX10_isSafeBy_5 rfl rfl ?_
  obtain ⟨q2, T⟩ := T
  obtain ⟨q3, T⟩ := T
  refine v_aald (pc' := 7) 7 dX10_isSafeBy_6 rfl rfl (by decide) q2 q3 ?_
  obtain ⟨z5, h4, k6, T⟩ := T
  refine v_callV (pc' := 10) (M1 := mX10_dirty) (as := [.ref (rH h (rH h r0 26) x1.toNatClampNeg)]) (r := r0) (rest := []) 8 dX10_isSafeBy_7 rfl ko_X10_365 kc_X10_dirty ki_X10_dirty ks_X10_dirty (by decide) (by decide) hdd rfl rfl (le_l rfl) q1 k6 ?_
  refine v_istore_n (pc' := 11) (loc' := [.ref r0, .int x1, .int x2, .int z5, uV]) dX10_isSafeBy_10 rfl (lt_l rfl) rfl ?_
  refine v_iload_n (pc' := 12) dX10_isSafeBy_11 rfl rfl ?_
  obtain ⟨z8, h7, k9, T⟩ := T
  refine v_callS (pc' := 15) (M1 := mX10_ones) (as := [.int z5]) (rest := []) dX10_isSafeBy_12 rfl ko_X10_398 kc_X10_ones kt_X10_ones (by decide) hdd rfl rfl (le_l rfl) k9 ?_
  refine v_iload_n (pc' := 16) dX10_isSafeBy_15 rfl rfl ?_
  refine v_icmp_le (tgt := 21) (pc' := 19) dX10_isSafeBy_16 (by decide) rfl ⟨fun c10 => ?_, fun c10 => ?_⟩
  · have T := T.1 c10
    refine v_iconst (pc' := 22) (v := 0) dX10_isSafeBy_21 rfl kI_0 ?_
    refine v_istore (pc' := 24) (loc' := [.ref r0, .int x1, .int x2, .int z5, .int 0]) dX10_isSafeBy_22 rfl (lt_l rfl) rfl ?_
    exact T
  · have T := T.2 c10
    refine v_iconst (pc' := 20) (v := 0) dX10_isSafeBy_19 rfl kI_0 ?_
    exact v_zret dX10_isSafeBy_20 rfl (Or.inl rfl) T
theorem bX10_isSafeBy_24 {G : GG} {d : Nat} {h : Hp} {o : OU} {h' : Hp} (r0 : Nat) (x1 : Int32) (x2 : Int32) (x3 : Int32) (x4 : Int32) (hd : 1 ≤ d) (T : kH h r0 = 18 ∧ (((h.2 r0 11) ≤ x4 → ((¬ x3 = 0 → (o = .inl (some (.int 0)) ∧ h' = h)) ∧ (x3 = 0 → (o = .inl (some (.int 1)) ∧ h' = h)))) ∧ (¬ (h.2 r0 11) ≤ x4 → ∃ z5 h4, VM G mX10_has (d - 1) [.int x3, .int x4] h (.inl (some (.int z5))) h4 ∧ ((¬ z5 = 0 → kH h4 r0 = 18 ∧ kH h4 (rH h4 r0 26) = 7 ∧ vp_in x1 (lH h4 (rH h4 r0 26)) ∧ vp_in (x1 + 1) (lH h4 (rH h4 r0 26)) ∧ ∃ h12, VM G mX10_copies (d - 1) [.ref (rH h4 (rH h4 r0 26) x1.toNatClampNeg), .ref (rH h4 (rH h4 r0 26) (x1 + 1).toNatClampNeg)] h4 (.inl none) h12 ∧ kH h12 r0 = 18 ∧ kH h12 (rH h12 r0 26) = 7 ∧ vp_in (x1 + 1) (lH h12 (rH h12 r0 26)) ∧ ∃ z18 h17, VM G mX10_writes (d - 1) [.ref r0, .ref (rH h12 (rH h12 r0 26) (x1 + 1).toNatClampNeg), .int x4] h12 (.inl (some (.int z18))) h17 ∧ kH h17 r0 = 18 ∧ ∃ z21 h20, VM G mX10_isSafeBy (d - 1) [.ref r0, .int (x1 + 1), .int (x2 - 1)] h17 (.inl (some (.int z21))) h20 ∧ ((z21 = 0 → V G mX10_isSafeBy d 24 [.ref r0, .int x1, .int x2, .int x3, .int (x4 + 1)] [] h20 o h') ∧ (¬ z21 = 0 → (o = .inl (some (.int 1)) ∧ h' = h20)))) ∧ (z5 = 0 → V G mX10_isSafeBy d 24 [.ref r0, .int x1, .int x2, .int x3, .int (x4 + 1)] [] h4 o h'))))) : V G mX10_isSafeBy d 24 [.ref r0, .int x1, .int x2, .int x3, .int x4] [] h o h' := by
  have hdd : d - 1 + 1 ≤ d := by omega
  refine v_iload (pc' := 26) dX10_isSafeBy_24 rfl rfl ?_
  refine v_aload_n (pc' := 27) dX10_isSafeBy_26 rfl rfl ?_
  obtain ⟨q1, T⟩ := T
  refine v_getI (pc' := 30) 8 11 dX10_isSafeBy_27 rfl (by decide) (by decide) rfl kf_X10_168 q1 ?_
  refine v_icmp_ge (tgt := 98) (pc' := 33) dX10_isSafeBy_30 (by decide) rfl ⟨fun c2 => ?_, fun c2 => ?_⟩
  · have T := T.1 c2
    refine v_iload_n (pc' := 99) dX10_isSafeBy_98 rfl rfl ?_
    refine v_if_ne (tgt := 106) (pc' := 102) dX10_isSafeBy_99 (by decide) rfl ⟨fun c3 => ?_, fun c3 => ?_⟩
    · have T := T.1 c3
      refine v_iconst (pc' := 107) (v := 0) dX10_isSafeBy_106 rfl kI_0 ?_
      exact v_zret dX10_isSafeBy_107 rfl (Or.inl rfl) T
    · have T := T.2 c3
      refine v_iconst (pc' := 103) (v := 1) dX10_isSafeBy_102 rfl kI_1 ?_
      refine v_goto (pc' := 107) dX10_isSafeBy_103 (by decide) ?_
      exact v_zret dX10_isSafeBy_107 rfl (Or.inr rfl) T
  · have T := T.2 c2
    refine v_iload_n (pc' := 34) dX10_isSafeBy_33 rfl rfl ?_
    refine v_iload (pc' := 36) dX10_isSafeBy_34 rfl rfl ?_
    obtain ⟨z5, h4, k6, T⟩ := T
    refine v_callS (pc' := 39) (M1 := mX10_has) (as := [.int x3, .int x4]) (rest := []) dX10_isSafeBy_36 rfl ko_X10_193 kc_X10_has kt_X10_has (by decide) hdd rfl rfl (le_l rfl) k6 ?_
    refine v_if_ne (tgt := 45) (pc' := 42) dX10_isSafeBy_39 (by decide) rfl ⟨fun c7 => ?_, fun c7 => ?_⟩
    · have T := T.1 c7
      refine v_aload_n (pc' := 46) dX10_isSafeBy_45 rfl rfl ?_
      obtain ⟨q8, T⟩ := T
      refine v_getR (pc' := 49) 8 26 dX10_isSafeBy_46 rfl (by decide) (by decide) rfl kf_X10_44 q8 ?_
      refine v_iload_n (pc' := 50) dX10_isSafeBy_49 rfl rfl ?_
      obtain ⟨q9, T⟩ := T
      obtain ⟨q10, T⟩ := T
      refine v_aald (pc' := 51) 7 dX10_isSafeBy_50 rfl rfl (by decide) q9 q10 ?_
      refine v_aload_n (pc' := 52) dX10_isSafeBy_51 rfl rfl ?_
      refine v_getR (pc' := 55) 8 26 dX10_isSafeBy_52 rfl (by decide) (by decide) rfl kf_X10_44 q8 ?_
      refine v_iload_n (pc' := 56) dX10_isSafeBy_55 rfl rfl ?_
      refine v_iconst (pc' := 57) (v := 1) dX10_isSafeBy_56 rfl kI_1 ?_
      refine v_iadd (pc' := 58) dX10_isSafeBy_57 rfl ?_
      obtain ⟨q11, T⟩ := T
      refine v_aald (pc' := 59) 7 dX10_isSafeBy_58 rfl rfl (by decide) q9 q11 ?_
      obtain ⟨h12, k13, T⟩ := T
      refine v_callS (pc' := 62) (M1 := mX10_copies) (as := [.ref (rH h4 (rH h4 r0 26) x1.toNatClampNeg), .ref (rH h4 (rH h4 r0 26) (x1 + 1).toNatClampNeg)]) (rest := []) dX10_isSafeBy_59 rfl ko_X10_361 kc_X10_copies kt_X10_copies (by decide) hdd rfl rfl (le_l rfl) k13 ?_
      refine v_aload_n (pc' := 63) dX10_isSafeBy_62 rfl rfl ?_
      refine v_aload_n (pc' := 64) dX10_isSafeBy_63 rfl rfl ?_
      obtain ⟨q14, T⟩ := T
      refine v_getR (pc' := 67) 8 26 dX10_isSafeBy_64 rfl (by decide) (by decide) rfl kf_X10_44 q14 ?_
      refine v_iload_n (pc' := 68) dX10_isSafeBy_67 rfl rfl ?_
      refine v_iconst (pc' := 69) (v := 1) dX10_isSafeBy_68 rfl kI_1 ?_
      refine v_iadd (pc' := 70) dX10_isSafeBy_69 rfl ?_
      obtain ⟨q15, T⟩ := T
      obtain ⟨q16, T⟩ := T
      refine v_aald (pc' := 71) 7 dX10_isSafeBy_70 rfl rfl (by decide) q15 q16 ?_
      refine v_iload (pc' := 73) dX10_isSafeBy_71 rfl rfl ?_
      obtain ⟨z18, h17, k19, T⟩ := T
      refine v_callV (pc' := 76) (M1 := mX10_writes) (as := [.ref (rH h12 (rH h12 r0 26) (x1 + 1).toNatClampNeg), .int x4]) (r := r0) (rest := []) 8 dX10_isSafeBy_73 rfl ko_X10_267 kc_X10_writes ki_X10_writes ks_X10_writes (by decide) (by decide) hdd rfl rfl (le_l rfl) q14 k19 ?_
      refine v_pop (pc' := 77) dX10_isSafeBy_76 rfl rfl ?_
      refine v_aload_n (pc' := 78) dX10_isSafeBy_77 rfl rfl ?_
      refine v_iload_n (pc' := 79) dX10_isSafeBy_78 rfl rfl ?_
      refine v_iconst (pc' := 80) (v := 1) dX10_isSafeBy_79 rfl kI_1 ?_
      refine v_iadd (pc' := 81) dX10_isSafeBy_80 rfl ?_
      refine v_iload_n (pc' := 82) dX10_isSafeBy_81 rfl rfl ?_
      refine v_iconst (pc' := 83) (v := 1) dX10_isSafeBy_82 rfl kI_1 ?_
      refine v_isub (pc' := 84) dX10_isSafeBy_83 rfl ?_
      obtain ⟨q23, T⟩ := T
      obtain ⟨z21, h20, k22, T⟩ := T
      refine v_callV (pc' := 87) (M1 := mX10_isSafeBy) (as := [.int (x1 + 1), .int (x2 - 1)]) (r := r0) (rest := []) 8 dX10_isSafeBy_84 rfl ko_X10_413 kc_X10_isSafeBy ki_X10_isSafeBy ks_X10_isSafeBy (by decide) (by decide) hdd rfl rfl (le_l rfl) q23 k22 ?_
      refine v_if_eq (tgt := 92) (pc' := 90) dX10_isSafeBy_87 (by decide) rfl ⟨fun c24 => ?_, fun c24 => ?_⟩
      · have T := T.1 c24
        refine v_iinc (pc' := 95) (loc' := [.ref r0, .int x1, .int x2, .int x3, .int (x4 + 1)]) dX10_isSafeBy_92 rfl rfl (kX_1 _) rfl ?_
        refine v_goto (pc' := 24) dX10_isSafeBy_95 (by decide) ?_
        exact T
      · have T := T.2 c24
        refine v_iconst (pc' := 91) (v := 1) dX10_isSafeBy_90 rfl kI_1 ?_
        exact v_zret dX10_isSafeBy_91 rfl (Or.inr rfl) T
    · have T := T.2 c7
      refine v_goto (pc' := 92) dX10_isSafeBy_42 (by decide) ?_
      refine v_iinc (pc' := 95) (loc' := [.ref r0, .int x1, .int x2, .int x3, .int (x4 + 1)]) dX10_isSafeBy_92 rfl rfl (kX_1 _) rfl ?_
      refine v_goto (pc' := 24) dX10_isSafeBy_95 (by decide) ?_
      exact T
theorem eX10_fewest {G : GG} {d : Nat} {h : Hp} {o : OU} {h' : Hp} (r0 : Nat) (hd : 1 ≤ d) (T : kH h r0 = 18 ∧ kH h (rH h r0 26) = 7 ∧ vp_in 0 (lH h (rH h r0 26)) ∧ ∃ h4, VM G mX10_copies (d - 1) [.ref (rH h r0 22), .ref (rH h (rH h r0 26) 0)] (h.1, (upI h.2 r0 0 0)) (.inl none) h4 ∧ V G mX10_fewest d 20 [.ref r0, .int 0] [] h4 o h') : VM G mX10_fewest d [.ref r0] h o h' := by
  refine V.toM rfl rfl (le_l rfl) (cat_all rfl) ?_
  show V G mX10_fewest d 0 [.ref r0, uV] [] h o h'
  have hdd : d - 1 + 1 ≤ d := by omega
  refine v_aload_n (pc' := 1) dX10_fewest_0 rfl rfl ?_
  refine v_iconst (pc' := 2) (v := 0) dX10_fewest_1 rfl kI_0 ?_
  obtain ⟨q1, T⟩ := T
  refine v_putI (pc' := 5) 8 0 dX10_fewest_2 rfl (by decide) (by decide) rfl rfl kf_X10_72 q1 ?_
  refine v_aload_n (pc' := 6) dX10_fewest_5 rfl rfl ?_
  refine v_getR (pc' := 9) 8 22 dX10_fewest_6 rfl (by decide) (by decide) rfl kf_X10_31 q1 ?_
  refine v_aload_n (pc' := 10) dX10_fewest_9 rfl rfl ?_
  refine v_getR (pc' := 13) 8 26 dX10_fewest_10 rfl (by decide) (by decide) rfl kf_X10_44 q1 ?_
  refine v_iconst (pc' := 14) (v := 0) dX10_fewest_13 rfl kI_0 ?_
  obtain ⟨q2, T⟩ := T
  obtain ⟨q3, T⟩ := T
  refine v_aald (pc' := 15) 7 dX10_fewest_14 rfl kN_0 (by decide) q2 q3 ?_
  obtain ⟨h4, k5, T⟩ := T
  refine v_callS (pc' := 18) (M1 := mX10_copies) (as := [.ref (rH h r0 22), .ref (rH h (rH h r0 26) 0)]) (rest := []) dX10_fewest_15 rfl ko_X10_361 kc_X10_copies kt_X10_copies (by decide) hdd rfl rfl (le_l rfl) k5 ?_
  refine v_iconst (pc' := 19) (v := 0) dX10_fewest_18 rfl kI_0 ?_
  refine v_istore_n (pc' := 20) (loc' := [.ref r0, .int 0]) dX10_fewest_19 rfl (lt_l rfl) rfl ?_
  exact T
theorem bX10_fewest_20 {G : GG} {d : Nat} {h : Hp} {o : OU} {h' : Hp} (r0 : Nat) (x1 : Int32) (hd : 1 ≤ d) (T : ((4 < x1 → (o = .inl (some (.int (-1))) ∧ h' = h)) ∧ (¬ 4 < x1 → kH h r0 = 18 ∧ ∃ z3 h2, VM G mX10_isSafeBy (d - 1) [.ref r0, .int 0, .int x1] h (.inl (some (.int z3))) h2 ∧ ((z3 = 0 → V G mX10_fewest d 20 [.ref r0, .int (x1 + 1)] [] h2 o h') ∧ (¬ z3 = 0 → (o = .inl (some (.int x1)) ∧ h' = h2)))))) : V G mX10_fewest d 20 [.ref r0, .int x1] [] h o h' := by
  have hdd : d - 1 + 1 ≤ d := by omega
  refine v_iload_n (pc' := 21) dX10_fewest_20 rfl rfl ?_
  refine v_iconst (pc' := 22) (v := 4) dX10_fewest_21 rfl kI_4 ?_
  refine v_icmp_gt (tgt := 42) (pc' := 25) dX10_fewest_22 (by decide) rfl ⟨fun c1 => ?_, fun c1 => ?_⟩
  · have T := T.1 c1
    refine v_iconst (pc' := 43) (v := (-1)) dX10_fewest_42 rfl kI_m1 ?_
    exact v_iret dX10_fewest_43 rfl T
  · have T := T.2 c1
    refine v_aload_n (pc' := 26) dX10_fewest_25 rfl rfl ?_
    refine v_iconst (pc' := 27) (v := 0) dX10_fewest_26 rfl kI_0 ?_
    refine v_iload_n (pc' := 28) dX10_fewest_27 rfl rfl ?_
    obtain ⟨q5, T⟩ := T
    obtain ⟨z3, h2, k4, T⟩ := T
    refine v_callV (pc' := 31) (M1 := mX10_isSafeBy) (as := [.int 0, .int x1]) (r := r0) (rest := []) 8 dX10_fewest_28 rfl ko_X10_413 kc_X10_isSafeBy ki_X10_isSafeBy ks_X10_isSafeBy (by decide) (by decide) hdd rfl rfl (le_l rfl) q5 k4 ?_
    refine v_if_eq (tgt := 36) (pc' := 34) dX10_fewest_31 (by decide) rfl ⟨fun c6 => ?_, fun c6 => ?_⟩
    · have T := T.1 c6
      refine v_iinc (pc' := 39) (loc' := [.ref r0, .int (x1 + 1)]) dX10_fewest_36 rfl rfl (kX_1 _) rfl ?_
      refine v_goto (pc' := 20) dX10_fewest_39 (by decide) ?_
      exact T
    · have T := T.2 c6
      refine v_iload_n (pc' := 35) dX10_fewest_34 rfl rfl ?_
      exact v_iret dX10_fewest_35 rfl T
theorem eX10_finds {G : GG} {d : Nat} {h : Hp} {o : OU} {h' : Hp} (r0 : Nat) (hd : 1 ≤ d) (T : kH h r0 = 18 ∧ ∃ z3 h2, VM G mX10_sweepAt (d - 1) [.ref r0, .ref (rH h r0 22)] (h.1, (upI h.2 r0 0 0)) (.inl (some (.int z3))) h2 ∧ (o = .inl (some (.int z3)) ∧ h' = h2)) : VM G mX10_finds d [.ref r0] h o h' := by
  refine V.toM rfl rfl (le_l rfl) (cat_all rfl) ?_
  show V G mX10_finds d 0 [.ref r0] [] h o h'
  have hdd : d - 1 + 1 ≤ d := by omega
  refine v_aload_n (pc' := 1) dX10_finds_0 rfl rfl ?_
  refine v_iconst (pc' := 2) (v := 0) dX10_finds_1 rfl kI_0 ?_
  obtain ⟨q1, T⟩ := T
  refine v_putI (pc' := 5) 8 0 dX10_finds_2 rfl (by decide) (by decide) rfl rfl kf_X10_72 q1 ?_
  refine v_aload_n (pc' := 6) dX10_finds_5 rfl rfl ?_
  refine v_aload_n (pc' := 7) dX10_finds_6 rfl rfl ?_
  refine v_getR (pc' := 10) 8 22 dX10_finds_7 rfl (by decide) (by decide) rfl kf_X10_31 q1 ?_
  obtain ⟨z3, h2, k4, T⟩ := T
  refine v_callV (pc' := 13) (M1 := mX10_sweepAt) (as := [.ref (rH h r0 22)]) (r := r0) (rest := []) 8 dX10_finds_10 rfl ko_X10_318 kc_X10_sweepAt ki_X10_sweepAt ks_X10_sweepAt (by decide) (by decide) hdd rfl rfl (le_l rfl) q1 k4 ?_
  exact v_iret dX10_finds_13 rfl T
theorem eX10_sweeps {G : GG} {d : Nat} {h : Hp} {o : OU} {h' : Hp} (r0 : Nat) (hd : 1 ≤ d) (T : kH h r0 = 18 ∧ ∃ h2, VM G mX10_copies (d - 1) [.ref (rH h r0 22), .ref (rH h r0 23)] (h.1, (upI h.2 r0 0 0)) (.inl none) h2 ∧ kH h2 r0 = 18 ∧ ∃ z6 h5, VM G mX10_crashes (d - 1) [.ref (rH h2 r0 23)] h2 (.inl (some (.int z6))) h5 ∧ V G mX10_sweeps d 26 [.ref r0, .int 0] [] h5 o h') : VM G mX10_sweeps d [.ref r0] h o h' := by
  refine V.toM rfl rfl (le_l rfl) (cat_all rfl) ?_
  show V G mX10_sweeps d 0 [.ref r0, uV] [] h o h'
  have hdd : d - 1 + 1 ≤ d := by omega
  refine v_aload_n (pc' := 1) dX10_sweeps_0 rfl rfl ?_
  refine v_iconst (pc' := 2) (v := 0) dX10_sweeps_1 rfl kI_0 ?_
  obtain ⟨q1, T⟩ := T
  refine v_putI (pc' := 5) 8 0 dX10_sweeps_2 rfl (by decide) (by decide) rfl rfl kf_X10_72 q1 ?_
  refine v_aload_n (pc' := 6) dX10_sweeps_5 rfl rfl ?_
  refine v_getR (pc' := 9) 8 22 dX10_sweeps_6 rfl (by decide) (by decide) rfl kf_X10_31 q1 ?_
  refine v_aload_n (pc' := 10) dX10_sweeps_9 rfl rfl ?_
  refine v_getR (pc' := 13) 8 23 dX10_sweeps_10 rfl (by decide) (by decide) rfl kf_X10_34 q1 ?_
  obtain ⟨h2, k3, T⟩ := T
  refine v_callS (pc' := 16) (M1 := mX10_copies) (as := [.ref (rH h r0 22), .ref (rH h r0 23)]) (rest := []) dX10_sweeps_13 rfl ko_X10_361 kc_X10_copies kt_X10_copies (by decide) hdd rfl rfl (le_l rfl) k3 ?_
  refine v_aload_n (pc' := 17) dX10_sweeps_16 rfl rfl ?_
  obtain ⟨q4, T⟩ := T
  refine v_getR (pc' := 20) 8 23 dX10_sweeps_17 rfl (by decide) (by decide) rfl kf_X10_34 q4 ?_
  obtain ⟨z6, h5, k7, T⟩ := T
  refine v_callS (pc' := 23) (M1 := mX10_crashes) (as := [.ref (rH h2 r0 23)]) (rest := []) dX10_sweeps_20 rfl ko_X10_346 kc_X10_crashes kt_X10_crashes (by decide) hdd rfl rfl (le_l rfl) k7 ?_
  refine v_pop (pc' := 24) dX10_sweeps_23 rfl rfl ?_
  refine v_iconst (pc' := 25) (v := 0) dX10_sweeps_24 rfl kI_0 ?_
  refine v_istore_n (pc' := 26) (loc' := [.ref r0, .int 0]) dX10_sweeps_25 rfl (lt_l rfl) rfl ?_
  exact T
theorem bX10_sweeps_26 {G : GG} {d : Nat} {h : Hp} {o : OU} {h' : Hp} (r0 : Nat) (x1 : Int32) (hd : 1 ≤ d) (T : kH h r0 = 18 ∧ ∃ z3 h2, VM G mX10_sweepsOne (d - 1) [.ref r0, .ref (rH h r0 23)] h (.inl (some (.int z3))) h2 ∧ ((z3 = 0 → (o = .inl (some (.int x1)) ∧ h' = h2)) ∧ (¬ z3 = 0 → kH h2 r0 = 18 ∧ ∃ z8 h7, VM G mX10_settles (d - 1) [.ref r0, .ref (rH h2 r0 23)] h2 (.inl (some (.int z8))) h7 ∧ V G mX10_sweeps d 26 [.ref r0, .int (x1 + 1)] [] h7 o h'))) : V G mX10_sweeps d 26 [.ref r0, .int x1] [] h o h' := by
  have hdd : d - 1 + 1 ≤ d := by omega
  refine v_aload_n (pc' := 27) dX10_sweeps_26 rfl rfl ?_
  refine v_aload_n (pc' := 28) dX10_sweeps_27 rfl rfl ?_
  obtain ⟨q1, T⟩ := T
  refine v_getR (pc' := 31) 8 23 dX10_sweeps_28 rfl (by decide) (by decide) rfl kf_X10_34 q1 ?_
  obtain ⟨z3, h2, k4, T⟩ := T
  refine v_callV (pc' := 34) (M1 := mX10_sweepsOne) (as := [.ref (rH h r0 23)]) (r := r0) (rest := []) 8 dX10_sweeps_31 rfl ko_X10_349 kc_X10_sweepsOne ki_X10_sweepsOne ks_X10_sweepsOne (by decide) (by decide) hdd rfl rfl (le_l rfl) q1 k4 ?_
  refine v_if_eq (tgt := 52) (pc' := 37) dX10_sweeps_34 (by decide) rfl ⟨fun c5 => ?_, fun c5 => ?_⟩
  · have T := T.1 c5
    refine v_iload_n (pc' := 53) dX10_sweeps_52 rfl rfl ?_
    exact v_iret dX10_sweeps_53 rfl T
  · have T := T.2 c5
    refine v_iinc (pc' := 40) (loc' := [.ref r0, .int (x1 + 1)]) dX10_sweeps_37 rfl rfl (kX_1 _) rfl ?_
    refine v_aload_n (pc' := 41) dX10_sweeps_40 rfl rfl ?_
    refine v_aload_n (pc' := 42) dX10_sweeps_41 rfl rfl ?_
    obtain ⟨q6, T⟩ := T
    refine v_getR (pc' := 45) 8 23 dX10_sweeps_42 rfl (by decide) (by decide) rfl kf_X10_34 q6 ?_
    obtain ⟨z8, h7, k9, T⟩ := T
    refine v_callV (pc' := 48) (M1 := mX10_settles) (as := [.ref (rH h2 r0 23)]) (r := r0) (rest := []) 8 dX10_sweeps_45 rfl ko_X10_410 kc_X10_settles ki_X10_settles ks_X10_settles (by decide) (by decide) hdd rfl rfl (le_l rfl) q6 k9 ?_
    refine v_pop (pc' := 49) dX10_sweeps_48 rfl rfl ?_
    refine v_goto (pc' := 26) dX10_sweeps_49 (by decide) ?_
    exact T
theorem eX10_isSo {G : GG} {d : Nat} {h : Hp} {o : OU} {h' : Hp} (r0 : Nat) (x1 : Int32) (hd : 1 ≤ d) (T : kH h r0 = 18 ∧ ∃ z3 h2, VM G mX10_copiesBlock (d - 1) [.ref r0, .ref (rH h r0 22), .int x1] h (.inl (some (.int z3))) h2 ∧ V G mX10_isSo d 12 [.ref r0, uV, .int 0] [] h2 o h') : VM G mX10_isSo d [.ref r0, .int x1] h o h' := by
  refine V.toM rfl rfl (le_l rfl) (cat_all rfl) ?_
  show V G mX10_isSo d 0 [.ref r0, .int x1, uV] [] h o h'
  have hdd : d - 1 + 1 ≤ d := by omega
  refine v_aload_n (pc' := 1) dX10_isSo_0 rfl rfl ?_
  refine v_aload_n (pc' := 2) dX10_isSo_1 rfl rfl ?_
  obtain ⟨q1, T⟩ := T
  refine v_getR (pc' := 5) 8 22 dX10_isSo_2 rfl (by decide) (by decide) rfl kf_X10_31 q1 ?_
  refine v_iload_n (pc' := 6) dX10_isSo_5 rfl rfl ?_
  obtain ⟨z3, h2, k4, T⟩ := T
  refine v_callV (pc' := 9) (M1 := mX10_copiesBlock) (as := [.ref (rH h r0 22), .int x1]) (r := r0) (rest := []) 8 dX10_isSo_6 rfl ko_X10_258 kc_X10_copiesBlock ki_X10_copiesBlock ks_X10_copiesBlock (by decide) (by decide) hdd rfl rfl (le_l rfl) q1 k4 ?_
  refine v_pop (pc' := 10) dX10_isSo_9 rfl rfl ?_
  refine v_iconst (pc' := 11) (v := 0) dX10_isSo_10 rfl kI_0 ?_
  refine v_istore_n (pc' := 12) (loc' := [.ref r0, .int x1, .int 0]) dX10_isSo_11 rfl (lt_l rfl) rfl ?_
  exact V.drop (llp_r (llp_u (llp_r llp_nil))) T
theorem bX10_isSo_12 {G : GG} {d : Nat} {h : Hp} {o : OU} {h' : Hp} (r0 : Nat) (x2 : Int32) (T : kH h r0 = 18 ∧ (((h.2 r0 13) ≤ x2 → (o = .inl (some (.int 1)) ∧ h' = h)) ∧ (¬ (h.2 r0 13) ≤ x2 → kH h (rH h r0 19) = 7 ∧ vp_in x2 (lH h (rH h r0 19)) ∧ kH h (rH h (rH h r0 19) x2.toNatClampNeg) = 1 ∧ vp_in 0 (lH h (rH h (rH h r0 19) x2.toNatClampNeg)) ∧ kH h (rH h r0 28) = 1 ∧ vp_in (h.2 (rH h (rH h r0 19) x2.toNatClampNeg) 0) (lH h (rH h r0 28)) ∧ vp_in 1 (lH h (rH h (rH h r0 19) x2.toNatClampNeg)) ∧ (((h.2 (rH h r0 28) (h.2 (rH h (rH h r0 19) x2.toNatClampNeg) 0).toNatClampNeg) = (h.2 (rH h (rH h r0 19) x2.toNatClampNeg) 1) → V G mX10_isSo d 12 [.ref r0, uV, .int (x2 + 1)] [] h o h') ∧ (¬ (h.2 (rH h r0 28) (h.2 (rH h (rH h r0 19) x2.toNatClampNeg) 0).toNatClampNeg) = (h.2 (rH h (rH h r0 19) x2.toNatClampNeg) 1) → (o = .inl (some (.int 0)) ∧ h' = h)))))) : V G mX10_isSo d 12 [.ref r0, uV, .int x2] [] h o h' := by
  refine v_iload_n (pc' := 13) dX10_isSo_12 rfl rfl ?_
  refine v_aload_n (pc' := 14) dX10_isSo_13 rfl rfl ?_
  obtain ⟨q1, T⟩ := T
  refine v_getI (pc' := 17) 8 13 dX10_isSo_14 rfl (by decide) (by decide) rfl kf_X10_181 q1 ?_
  refine v_icmp_ge (tgt := 52) (pc' := 20) dX10_isSo_17 (by decide) rfl ⟨fun c2 => ?_, fun c2 => ?_⟩
  · have T := T.1 c2
    refine v_iconst (pc' := 53) (v := 1) dX10_isSo_52 rfl kI_1 ?_
    exact v_zret dX10_isSo_53 rfl (Or.inr rfl) T
  · have T := T.2 c2
    refine v_aload_n (pc' := 21) dX10_isSo_20 rfl rfl ?_
    refine v_getR (pc' := 24) 8 28 dX10_isSo_21 rfl (by decide) (by decide) rfl kf_X10_51 q1 ?_
    refine v_aload_n (pc' := 25) dX10_isSo_24 rfl rfl ?_
    refine v_getR (pc' := 28) 8 19 dX10_isSo_25 rfl (by decide) (by decide) rfl kf_X10_22 q1 ?_
    refine v_iload_n (pc' := 29) dX10_isSo_28 rfl rfl ?_
    obtain ⟨q3, T⟩ := T
    obtain ⟨q4, T⟩ := T
    refine v_aald (pc' := 30) 7 dX10_isSo_29 rfl rfl (by decide) q3 q4 ?_
    refine v_iconst (pc' := 31) (v := 0) dX10_isSo_30 rfl kI_0 ?_
    obtain ⟨q5, T⟩ := T
    obtain ⟨q6, T⟩ := T
    refine v_iald (pc' := 32) dX10_isSo_31 rfl kN_0 q5 q6 ?_
    obtain ⟨q7, T⟩ := T
    obtain ⟨q8, T⟩ := T
    refine v_iald (pc' := 33) dX10_isSo_32 rfl rfl q7 q8 ?_
    refine v_aload_n (pc' := 34) dX10_isSo_33 rfl rfl ?_
    refine v_getR (pc' := 37) 8 19 dX10_isSo_34 rfl (by decide) (by decide) rfl kf_X10_22 q1 ?_
    refine v_iload_n (pc' := 38) dX10_isSo_37 rfl rfl ?_
    refine v_aald (pc' := 39) 7 dX10_isSo_38 rfl rfl (by decide) q3 q4 ?_
    refine v_iconst (pc' := 40) (v := 1) dX10_isSo_39 rfl kI_1 ?_
    obtain ⟨q9, T⟩ := T
    refine v_iald (pc' := 41) dX10_isSo_40 rfl kN_1 q5 q9 ?_
    refine v_icmp_eq (tgt := 46) (pc' := 44) dX10_isSo_41 (by decide) rfl ⟨fun c10 => ?_, fun c10 => ?_⟩
    · have T := T.1 c10
      refine v_iinc (pc' := 49) (loc' := [.ref r0, uV, .int (x2 + 1)]) dX10_isSo_46 rfl rfl (kX_1 _) rfl ?_
      refine v_goto (pc' := 12) dX10_isSo_49 (by decide) ?_
      exact T
    · have T := T.2 c10
      refine v_iconst (pc' := 45) (v := 0) dX10_isSo_44 rfl kI_0 ?_
      exact v_zret dX10_isSo_45 rfl (Or.inl rfl) T
theorem eX10_fitsNow {G : GG} {d : Nat} {h : Hp} {o : OU} {h' : Hp} (r0 : Nat) (T : V G mX10_fitsNow d 4 [.ref r0, .int 0, .int 0] [] h o h') : VM G mX10_fitsNow d [.ref r0] h o h' := by
  refine V.toM rfl rfl (le_l rfl) (cat_all rfl) ?_
  show V G mX10_fitsNow d 0 [.ref r0, uV, uV] [] h o h'
  refine v_iconst (pc' := 1) (v := 0) dX10_fitsNow_0 rfl kI_0 ?_
  refine v_istore_n (pc' := 2) (loc' := [.ref r0, .int 0, uV]) dX10_fitsNow_1 rfl (lt_l rfl) rfl ?_
  refine v_iconst (pc' := 3) (v := 0) dX10_fitsNow_2 rfl kI_0 ?_
  refine v_istore_n (pc' := 4) (loc' := [.ref r0, .int 0, .int 0]) dX10_fitsNow_3 rfl (lt_l rfl) rfl ?_
  exact T
theorem bX10_fitsNow_4 {G : GG} {d : Nat} {h : Hp} {o : OU} {h' : Hp} (r0 : Nat) (x1 : Int32) (x2 : Int32) (hd : 1 ≤ d) (T : kH h r0 = 18 ∧ (((h.2 r0 11) ≤ x2 → (o = .inl (some (.int x1)) ∧ h' = h)) ∧ (¬ (h.2 r0 11) ≤ x2 → ∃ z4 h3, VM G mX10_isDirty (d - 1) [.ref (rH h r0 22), .int x2] h (.inl (some (.int z4))) h3 ∧ ((z4 = 0 → V G mX10_fitsNow d 4 [.ref r0, .int (x1 ||| 0), .int (x2 + 1)] [] h3 o h') ∧ (¬ z4 = 0 → kH h3 r0 = 18 ∧ ∃ z8 h7, VM G mX10_isSo (d - 1) [.ref r0, .int x2] h3 (.inl (some (.int z8))) h7 ∧ ((z8 = 0 → V G mX10_fitsNow d 4 [.ref r0, .int (x1 ||| 0), .int (x2 + 1)] [] h7 o h') ∧ (¬ z8 = 0 → V G mX10_fitsNow d 4 [.ref r0, .int (x1 ||| (1 <<< (x2 &&& 31))), .int (x2 + 1)] [] h7 o h'))))))) : V G mX10_fitsNow d 4 [.ref r0, .int x1, .int x2] [] h o h' := by
  have hdd : d - 1 + 1 ≤ d := by omega
  refine v_iload_n (pc' := 5) dX10_fitsNow_4 rfl rfl ?_
  refine v_aload_n (pc' := 6) dX10_fitsNow_5 rfl rfl ?_
  obtain ⟨q1, T⟩ := T
  refine v_getI (pc' := 9) 8 11 dX10_fitsNow_6 rfl (by decide) (by decide) rfl kf_X10_168 q1 ?_
  refine v_icmp_ge (tgt := 47) (pc' := 12) dX10_fitsNow_9 (by decide) rfl ⟨fun c2 => ?_, fun c2 => ?_⟩
  · have T := T.1 c2
    refine v_iload_n (pc' := 48) dX10_fitsNow_47 rfl rfl ?_
    exact v_iret dX10_fitsNow_48 rfl T
  · have T := T.2 c2
    refine v_iload_n (pc' := 13) dX10_fitsNow_12 rfl rfl ?_
    refine v_aload_n (pc' := 14) dX10_fitsNow_13 rfl rfl ?_
    refine v_getR (pc' := 17) 8 22 dX10_fitsNow_14 rfl (by decide) (by decide) rfl kf_X10_31 q1 ?_
    refine v_iload_n (pc' := 18) dX10_fitsNow_17 rfl rfl ?_
    obtain ⟨z4, h3, k5, T⟩ := T
    refine v_callS (pc' := 21) (M1 := mX10_isDirty) (as := [.ref (rH h r0 22), .int x2]) (rest := [.int x1]) dX10_fitsNow_18 rfl ko_X10_208 kc_X10_isDirty kt_X10_isDirty (by decide) hdd rfl rfl (le_l rfl) k5 ?_
    refine v_if_eq (tgt := 38) (pc' := 24) dX10_fitsNow_21 (by decide) rfl ⟨fun c6 => ?_, fun c6 => ?_⟩
    · have T := T.1 c6
      refine v_iconst (pc' := 39) (v := 0) dX10_fitsNow_38 rfl kI_0 ?_
      refine v_ior (pc' := 40) dX10_fitsNow_39 rfl ?_
      refine v_istore_n (pc' := 41) (loc' := [.ref r0, .int (x1 ||| 0), .int x2]) dX10_fitsNow_40 rfl (lt_l rfl) rfl ?_
      refine v_iinc (pc' := 44) (loc' := [.ref r0, .int (x1 ||| 0), .int (x2 + 1)]) dX10_fitsNow_41 rfl rfl (kX_1 _) rfl ?_
      refine v_goto (pc' := 4) dX10_fitsNow_44 (by decide) ?_
      exact T
    · have T := T.2 c6
      refine v_aload_n (pc' := 25) dX10_fitsNow_24 rfl rfl ?_
      refine v_iload_n (pc' := 26) dX10_fitsNow_25 rfl rfl ?_
      obtain ⟨q10, T⟩ := T
      obtain ⟨z8, h7, k9, T⟩ := T
      refine v_callV (pc' := 29) (M1 := mX10_isSo) (as := [.int x2]) (r := r0) (rest := [.int x1]) 8 dX10_fitsNow_26 rfl ko_X10_416 kc_X10_isSo ki_X10_isSo ks_X10_isSo (by decide) (by decide) hdd rfl rfl (le_l rfl) q10 k9 ?_
      refine v_if_eq (tgt := 38) (pc' := 32) dX10_fitsNow_29 (by decide) rfl ⟨fun c11 => ?_, fun c11 => ?_⟩
      · have T := T.1 c11
        refine v_iconst (pc' := 39) (v := 0) dX10_fitsNow_38 rfl kI_0 ?_
        refine v_ior (pc' := 40) dX10_fitsNow_39 rfl ?_
        refine v_istore_n (pc' := 41) (loc' := [.ref r0, .int (x1 ||| 0), .int x2]) dX10_fitsNow_40 rfl (lt_l rfl) rfl ?_
        refine v_iinc (pc' := 44) (loc' := [.ref r0, .int (x1 ||| 0), .int (x2 + 1)]) dX10_fitsNow_41 rfl rfl (kX_1 _) rfl ?_
        refine v_goto (pc' := 4) dX10_fitsNow_44 (by decide) ?_
        exact T
      · have T := T.2 c11
        refine v_iconst (pc' := 33) (v := 1) dX10_fitsNow_32 rfl kI_1 ?_
        refine v_iload_n (pc' := 34) dX10_fitsNow_33 rfl rfl ?_
        refine v_ishl (pc' := 35) dX10_fitsNow_34 rfl ?_
        refine v_goto (pc' := 39) dX10_fitsNow_35 (by decide) ?_
        refine v_ior (pc' := 40) dX10_fitsNow_39 rfl ?_
        refine v_istore_n (pc' := 41) (loc' := [.ref r0, .int (x1 ||| (1 <<< (x2 &&& 31))), .int x2]) dX10_fitsNow_40 rfl (lt_l rfl) rfl ?_
        refine v_iinc (pc' := 44) (loc' := [.ref r0, .int (x1 ||| (1 <<< (x2 &&& 31))), .int (x2 + 1)]) dX10_fitsNow_41 rfl rfl (kX_1 _) rfl ?_
        refine v_goto (pc' := 4) dX10_fitsNow_44 (by decide) ?_
        exact T
theorem eX10_fits {G : GG} {d : Nat} {h : Hp} {o : OU} {h' : Hp} (r0 : Nat) (hd : 1 ≤ d) (T : kH h r0 = 18 ∧ ∃ z3 h2, VM G mX10_fitsNow (d - 1) [.ref r0] (h.1, (upI h.2 r0 0 0)) (.inl (some (.int z3))) h2 ∧ (o = .inl (some (.int z3)) ∧ h' = h2)) : VM G mX10_fits d [.ref r0] h o h' := by
  refine V.toM rfl rfl (le_l rfl) (cat_all rfl) ?_
  show V G mX10_fits d 0 [.ref r0] [] h o h'
  have hdd : d - 1 + 1 ≤ d := by omega
  refine v_aload_n (pc' := 1) dX10_fits_0 rfl rfl ?_
  refine v_iconst (pc' := 2) (v := 0) dX10_fits_1 rfl kI_0 ?_
  obtain ⟨q1, T⟩ := T
  refine v_putI (pc' := 5) 8 0 dX10_fits_2 rfl (by decide) (by decide) rfl rfl kf_X10_72 q1 ?_
  refine v_aload_n (pc' := 6) dX10_fits_5 rfl rfl ?_
  obtain ⟨z3, h2, k4, T⟩ := T
  refine v_callV (pc' := 9) (M1 := mX10_fitsNow) (as := []) (r := r0) (rest := []) 8 dX10_fits_6 rfl ko_X10_419 kc_X10_fitsNow ki_X10_fitsNow ks_X10_fitsNow (by decide) (by decide) hdd rfl rfl (le_l rfl) q1 k4 ?_
  exact v_iret dX10_fits_9 rfl T
theorem eX10_isTold {G : GG} {d : Nat} {h : Hp} {o : OU} {h' : Hp} (r0 : Nat) (x1 : Int32) (T : V G mX10_isTold d 2 [.ref r0, .int x1, .int 0] [] h o h') : VM G mX10_isTold d [.ref r0, .int x1] h o h' := by
  refine V.toM rfl rfl (le_l rfl) (cat_all rfl) ?_
  show V G mX10_isTold d 0 [.ref r0, .int x1, uV] [] h o h'
  refine v_iconst (pc' := 1) (v := 0) dX10_isTold_0 rfl kI_0 ?_
  refine v_istore_n (pc' := 2) (loc' := [.ref r0, .int x1, .int 0]) dX10_isTold_1 rfl (lt_l rfl) rfl ?_
  exact T
theorem bX10_isTold_2 {G : GG} {d : Nat} {h : Hp} {o : OU} {h' : Hp} (r0 : Nat) (x1 : Int32) (x2 : Int32) (T : kH h r0 = 18 ∧ (((h.2 r0 13) ≤ x2 → (o = .inl (some (.int 0)) ∧ h' = h)) ∧ (¬ (h.2 r0 13) ≤ x2 → kH h (rH h r0 19) = 7 ∧ vp_in x2 (lH h (rH h r0 19)) ∧ kH h (rH h (rH h r0 19) x2.toNatClampNeg) = 1 ∧ vp_in 0 (lH h (rH h (rH h r0 19) x2.toNatClampNeg)) ∧ ((¬ (h.2 (rH h (rH h r0 19) x2.toNatClampNeg) 0) = x1 → V G mX10_isTold d 2 [.ref r0, .int x1, .int (x2 + 1)] [] h o h') ∧ ((h.2 (rH h (rH h r0 19) x2.toNatClampNeg) 0) = x1 → (o = .inl (some (.int 1)) ∧ h' = h)))))) : V G mX10_isTold d 2 [.ref r0, .int x1, .int x2] [] h o h' := by
  refine v_iload_n (pc' := 3) dX10_isTold_2 rfl rfl ?_
  refine v_aload_n (pc' := 4) dX10_isTold_3 rfl rfl ?_
  obtain ⟨q1, T⟩ := T
  refine v_getI (pc' := 7) 8 13 dX10_isTold_4 rfl (by decide) (by decide) rfl kf_X10_181 q1 ?_
  refine v_icmp_ge (tgt := 30) (pc' := 10) dX10_isTold_7 (by decide) rfl ⟨fun c2 => ?_, fun c2 => ?_⟩
  · have T := T.1 c2
    refine v_iconst (pc' := 31) (v := 0) dX10_isTold_30 rfl kI_0 ?_
    exact v_zret dX10_isTold_31 rfl (Or.inl rfl) T
  · have T := T.2 c2
    refine v_aload_n (pc' := 11) dX10_isTold_10 rfl rfl ?_
    refine v_getR (pc' := 14) 8 19 dX10_isTold_11 rfl (by decide) (by decide) rfl kf_X10_22 q1 ?_
    refine v_iload_n (pc' := 15) dX10_isTold_14 rfl rfl ?_
    obtain ⟨q3, T⟩ := T
    obtain ⟨q4, T⟩ := T
    refine v_aald (pc' := 16) 7 dX10_isTold_15 rfl rfl (by decide) q3 q4 ?_
    refine v_iconst (pc' := 17) (v := 0) dX10_isTold_16 rfl kI_0 ?_
    obtain ⟨q5, T⟩ := T
    obtain ⟨q6, T⟩ := T
    refine v_iald (pc' := 18) dX10_isTold_17 rfl kN_0 q5 q6 ?_
    refine v_iload_n (pc' := 19) dX10_isTold_18 rfl rfl ?_
    refine v_icmp_ne (tgt := 24) (pc' := 22) dX10_isTold_19 (by decide) rfl ⟨fun c7 => ?_, fun c7 => ?_⟩
    · have T := T.1 c7
      refine v_iinc (pc' := 27) (loc' := [.ref r0, .int x1, .int (x2 + 1)]) dX10_isTold_24 rfl rfl (kX_1 _) rfl ?_
      refine v_goto (pc' := 2) dX10_isTold_27 (by decide) ?_
      exact T
    · have T := T.2 c7
      refine v_iconst (pc' := 23) (v := 1) dX10_isTold_22 rfl kI_1 ?_
      exact v_zret dX10_isTold_23 rfl (Or.inr rfl) T
theorem eX10_worstAt {G : GG} {d : Nat} {h : Hp} {o : OU} {h' : Hp} (r0 : Nat) (x1 : Int32) (x2 : Int32) (T : V G mX10_worstAt d 5 [.ref r0, .int x1, .int x2, .int 0, .int 0] [] h o h') : VM G mX10_worstAt d [.ref r0, .int x1, .int x2] h o h' := by
  refine V.toM rfl rfl (le_l rfl) (cat_all rfl) ?_
  show V G mX10_worstAt d 0 [.ref r0, .int x1, .int x2, uV, uV] [] h o h'
  refine v_iconst (pc' := 1) (v := 0) dX10_worstAt_0 rfl kI_0 ?_
  refine v_istore_n (pc' := 2) (loc' := [.ref r0, .int x1, .int x2, .int 0, uV]) dX10_worstAt_1 rfl (lt_l rfl) rfl ?_
  refine v_iconst (pc' := 3) (v := 0) dX10_worstAt_2 rfl kI_0 ?_
  refine v_istore (pc' := 5) (loc' := [.ref r0, .int x1, .int x2, .int 0, .int 0]) dX10_worstAt_3 rfl (lt_l rfl) rfl ?_
  exact T
theorem bX10_worstAt_5 {G : GG} {d : Nat} {h : Hp} {o : OU} {h' : Hp} (r0 : Nat) (x1 : Int32) (x2 : Int32) (x3 : Int32) (x4 : Int32) (T : ((256 ≤ x4 → V G mX10_worstAt d 30 [.ref r0, .int x1, .int x2, .int x3, .int 0] [] h o h') ∧ (¬ 256 ≤ x4 → kH h r0 = 18 ∧ kH h (rH h r0 35) = 1 ∧ vp_in x4 (lH h (rH h r0 35)) ∧ V G mX10_worstAt d 5 [.ref r0, .int x1, .int x2, .int x3, .int (x4 + 1)] [] (h.1, (upI h.2 (rH h r0 35) x4.toNatClampNeg 0)) o h'))) : V G mX10_worstAt d 5 [.ref r0, .int x1, .int x2, .int x3, .int x4] [] h o h' := by
  refine v_iload (pc' := 7) dX10_worstAt_5 rfl rfl ?_
  refine v_sipush (pc' := 10) (v := 256) dX10_worstAt_7 rfl kS_256 ?_
  refine v_icmp_ge (tgt := 27) (pc' := 13) dX10_worstAt_10 (by decide) rfl ⟨fun c1 => ?_, fun c1 => ?_⟩
  · have T := T.1 c1
    refine v_iconst (pc' := 28) (v := 0) dX10_worstAt_27 rfl kI_0 ?_
    refine v_istore (pc' := 30) (loc' := [.ref r0, .int x1, .int x2, .int x3, .int 0]) dX10_worstAt_28 rfl (lt_l rfl) rfl ?_
    exact T
  · have T := T.2 c1
    refine v_aload_n (pc' := 14) dX10_worstAt_13 rfl rfl ?_
    obtain ⟨q2, T⟩ := T
    refine v_getR (pc' := 17) 8 35 dX10_worstAt_14 rfl (by decide) (by decide) rfl kf_X10_57 q2 ?_
    refine v_iload (pc' := 19) dX10_worstAt_17 rfl rfl ?_
    refine v_iconst (pc' := 20) (v := 0) dX10_worstAt_19 rfl kI_0 ?_
    obtain ⟨q3, T⟩ := T
    obtain ⟨q4, T⟩ := T
    refine v_iast (pc' := 21) dX10_worstAt_20 rfl rfl q3 q4 ?_
    refine v_iinc (pc' := 24) (loc' := [.ref r0, .int x1, .int x2, .int x3, .int (x4 + 1)]) dX10_worstAt_21 rfl rfl (kX_1 _) rfl ?_
    refine v_goto (pc' := 5) dX10_worstAt_24 (by decide) ?_
    exact T
theorem bX10_worstAt_30 {G : GG} {d : Nat} {h : Hp} {o : OU} {h' : Hp} (r0 : Nat) (x1 : Int32) (x2 : Int32) (x3 : Int32) (x4 : Int32) (hd : 1 ≤ d) (T : kH h r0 = 18 ∧ (((h.2 r0 11) ≤ x4 → (o = .inl (some (.int x3)) ∧ h' = h)) ∧ (¬ (h.2 r0 11) ≤ x4 → ∃ z4 h3, VM G mX10_has (d - 1) [.int x2, .int x4] h (.inl (some (.int z4))) h3 ∧ ((¬ z4 = 0 → kH h3 r0 = 18 ∧ ∃ z9 h8, VM G mX10_copiesBlock (d - 1) [.ref r0, .ref (rH h3 r0 22), .int x4] h3 (.inl (some (.int z9))) h8 ∧ kH h8 r0 = 18 ∧ kH h8 (rH h8 r0 28) = 1 ∧ vp_in x1 (lH h8 (rH h8 r0 28)) ∧ kH h8 (rH h8 r0 35) = 1 ∧ vp_in (h8.2 (rH h8 r0 28) x1.toNatClampNeg) (lH h8 (rH h8 r0 35)) ∧ (∀ i16 : Nat → Nat → Int32, i16 = (upI h8.2 (rH h8 r0 35) (h8.2 (rH h8 r0 28) x1.toNatClampNeg).toNatClampNeg ((h8.2 (rH h8 r0 35) (h8.2 (rH h8 r0 28) x1.toNatClampNeg).toNatClampNeg) + 1)) → vp_in (i16 (rH h8 r0 28) x1.toNatClampNeg) (lH h8 (rH h8 r0 35)) ∧ ∃ z20 h19, VM G mX10_more (d - 1) [.int x3, .int (i16 (rH h8 r0 35) (i16 (rH h8 r0 28) x1.toNatClampNeg).toNatClampNeg)] (h8.1, i16) (.inl (some (.int z20))) h19 ∧ V G mX10_worstAt d 30 [.ref r0, .int x1, .int x2, .int z20, .int (x4 + 1)] [] h19 o h')) ∧ (z4 = 0 → V G mX10_worstAt d 30 [.ref r0, .int x1, .int x2, .int x3, .int (x4 + 1)] [] h3 o h'))))) : V G mX10_worstAt d 30 [.ref r0, .int x1, .int x2, .int x3, .int x4] [] h o h' := by
  have hdd : d - 1 + 1 ≤ d := by omega
  refine v_iload (pc' := 32) dX10_worstAt_30 rfl rfl ?_
  refine v_aload_n (pc' := 33) dX10_worstAt_32 rfl rfl ?_
  obtain ⟨q1, T⟩ := T
  refine v_getI (pc' := 36) 8 11 dX10_worstAt_33 rfl (by decide) (by decide) rfl kf_X10_168 q1 ?_
  refine v_icmp_ge (tgt := 99) (pc' := 39) dX10_worstAt_36 (by decide) rfl ⟨fun c2 => ?_, fun c2 => ?_⟩
  · have T := T.1 c2
    refine v_iload_n (pc' := 100) dX10_worstAt_99 rfl rfl ?_
    exact v_iret dX10_worstAt_100 rfl T
  · have T := T.2 c2
    refine v_iload_n (pc' := 40) dX10_worstAt_39 rfl rfl ?_
    refine v_iload (pc' := 42) dX10_worstAt_40 rfl rfl ?_
    obtain ⟨z4, h3, k5, T⟩ := T
    refine v_callS (pc' := 45) (M1 := mX10_has) (as := [.int x2, .int x4]) (rest := []) dX10_worstAt_42 rfl ko_X10_193 kc_X10_has kt_X10_has (by decide) hdd rfl rfl (le_l rfl) k5 ?_
    refine v_if_ne (tgt := 51) (pc' := 48) dX10_worstAt_45 (by decide) rfl ⟨fun c6 => ?_, fun c6 => ?_⟩
    · have T := T.1 c6
      refine v_aload_n (pc' := 52) dX10_worstAt_51 rfl rfl ?_
      refine v_aload_n (pc' := 53) dX10_worstAt_52 rfl rfl ?_
      obtain ⟨q7, T⟩ := T
      refine v_getR (pc' := 56) 8 22 dX10_worstAt_53 rfl (by decide) (by decide) rfl kf_X10_31 q7 ?_
      refine v_iload (pc' := 58) dX10_worstAt_56 rfl rfl ?_
      obtain ⟨z9, h8, k10, T⟩ := T
      refine v_callV (pc' := 61) (M1 := mX10_copiesBlock) (as := [.ref (rH h3 r0 22), .int x4]) (r := r0) (rest := []) 8 dX10_worstAt_58 rfl ko_X10_258 kc_X10_copiesBlock ki_X10_copiesBlock ks_X10_copiesBlock (by decide) (by decide) hdd rfl rfl (le_l rfl) q7 k10 ?_
      refine v_pop (pc' := 62) dX10_worstAt_61 rfl rfl ?_
      refine v_aload_n (pc' := 63) dX10_worstAt_62 rfl rfl ?_
      obtain ⟨q11, T⟩ := T
      refine v_getR (pc' := 66) 8 35 dX10_worstAt_63 rfl (by decide) (by decide) rfl kf_X10_57 q11 ?_
      refine v_aload_n (pc' := 67) dX10_worstAt_66 rfl rfl ?_
      refine v_getR (pc' := 70) 8 28 dX10_worstAt_67 rfl (by decide) (by decide) rfl kf_X10_51 q11 ?_
      refine v_iload_n (pc' := 71) dX10_worstAt_70 rfl rfl ?_
      obtain ⟨q12, T⟩ := T
      obtain ⟨q13, T⟩ := T
      refine v_iald (pc' := 72) dX10_worstAt_71 rfl rfl q12 q13 ?_
      refine v_dup2 (pc' := 73) dX10_worstAt_72 rfl rfl rfl ?_
      obtain ⟨q14, T⟩ := T
      obtain ⟨q15, T⟩ := T
      refine v_iald (pc' := 74) dX10_worstAt_73 rfl rfl q14 q15 ?_
      refine v_iconst (pc' := 75) (v := 1) dX10_worstAt_74 rfl kI_1 ?_
      refine v_iadd (pc' := 76) dX10_worstAt_75 rfl ?_
      refine v_iast (pc' := 77) dX10_worstAt_76 rfl rfl q14 q15 ?_
      show V G mX10_worstAt d 77 [.ref r0, .int x1, .int x2, .int x3, .int x4] [] (h8.1, (upI h8.2 (rH h8 r0 35) (h8.2 (rH h8 r0 28) x1.toNatClampNeg).toNatClampNeg ((h8.2 (rH h8 r0 35) (h8.2 (rH h8 r0 28) x1.toNatClampNeg).toNatClampNeg) + 1))) o h'
      obtain ⟨i16, e17⟩ : ∃ z : Nat → Nat → Int32, z = (upI h8.2 (rH h8 r0 35) (h8.2 (rH h8 r0 28) x1.toNatClampNeg).toNatClampNeg ((h8.2 (rH h8 r0 35) (h8.2 (rH h8 r0 28) x1.toNatClampNeg).toNatClampNeg) + 1)) := ⟨_, rfl⟩
      rw [← e17]
      have T := T i16 e17
      refine v_iload_n (pc' := 78) dX10_worstAt_77 rfl rfl ?_
      refine v_aload_n (pc' := 79) dX10_worstAt_78 rfl rfl ?_
      refine v_getR (pc' := 82) 8 35 dX10_worstAt_79 rfl (by decide) (by decide) rfl kf_X10_57 q11 ?_
      refine v_aload_n (pc' := 83) dX10_worstAt_82 rfl rfl ?_
      refine v_getR (pc' := 86) 8 28 dX10_worstAt_83 rfl (by decide) (by decide) rfl kf_X10_51 q11 ?_
      refine v_iload_n (pc' := 87) dX10_worstAt_86 rfl rfl ?_
      refine v_iald (pc' := 88) dX10_worstAt_87 rfl rfl q12 q13 ?_
      obtain ⟨q18, T⟩ := T
      refine v_iald (pc' := 89) dX10_worstAt_88 rfl rfl q14 q18 ?_
      obtain ⟨z20, h19, k21, T⟩ := T
      refine v_callS (pc' := 92) (M1 := mX10_more) (as := [.int x3, .int (i16 (rH h8 r0 35) (i16 (rH h8 r0 28) x1.toNatClampNeg).toNatClampNeg)]) (rest := []) dX10_worstAt_89 rfl ko_X10_392 kc_X10_more kt_X10_more (by decide) hdd rfl rfl (le_l rfl) k21 ?_
      refine v_istore_n (pc' := 93) (loc' := [.ref r0, .int x1, .int x2, .int z20, .int x4]) dX10_worstAt_92 rfl (lt_l rfl) rfl ?_
      refine v_iinc (pc' := 96) (loc' := [.ref r0, .int x1, .int x2, .int z20, .int (x4 + 1)]) dX10_worstAt_93 rfl rfl (kX_1 _) rfl ?_
      refine v_goto (pc' := 30) dX10_worstAt_96 (by decide) ?_
      exact T
    · have T := T.2 c6
      refine v_goto (pc' := 93) dX10_worstAt_48 (by decide) ?_
      refine v_iinc (pc' := 96) (loc' := [.ref r0, .int x1, .int x2, .int x3, .int (x4 + 1)]) dX10_worstAt_93 rfl rfl (kX_1 _) rfl ?_
      refine v_goto (pc' := 30) dX10_worstAt_96 (by decide) ?_
      exact T
theorem eX10_look {G : GG} {d : Nat} {h : Hp} {o : OU} {h' : Hp} (r0 : Nat) (x1 : Int32) (hd : 1 ≤ d) (T : kH h r0 = 18 ∧ ∃ z3 h2, VM G mX10_in (d - 1) [.int x1, .int 0, .int 1] (h.1, (upI h.2 r0 0 0)) (.inl (some (.int z3))) h2 ∧ ((¬ z3 = 0 → kH h2 r0 = 18 ∧ ∃ z7 h6, VM G mX10_bad (d - 1) [.ref r0, .int 0, .int 1, .int 1] h2 (.inl (some (.int z7))) h6 ∧ ((z7 = 0 → kH h6 r0 = 18 ∧ ∃ z12 h11, VM G mX10_fitsNow (d - 1) [.ref r0] h6 (.inl (some (.int z12))) h11 ∧ V G mX10_look d 43 [.ref r0, .int x1, .int (-1), .int (-1), .int z12, .int 0, uV] [] h11 o h') ∧ (¬ z7 = 0 → (o = .inl (some (.int 0)) ∧ h' = h6)))) ∧ (z3 = 0 → kH h2 r0 = 18 ∧ ∃ z16 h15, VM G mX10_bad (d - 1) [.ref r0, .int 1, .int 1, .int 1] h2 (.inl (some (.int z16))) h15 ∧ ((z16 = 0 → kH h15 r0 = 18 ∧ ∃ z21 h20, VM G mX10_fitsNow (d - 1) [.ref r0] h15 (.inl (some (.int z21))) h20 ∧ V G mX10_look d 43 [.ref r0, .int x1, .int (-1), .int (-1), .int z21, .int 0, uV] [] h20 o h') ∧ (¬ z16 = 0 → (o = .inl (some (.int 0)) ∧ h' = h15)))))) : VM G mX10_look d [.ref r0, .int x1] h o h' := by
  refine V.toM rfl rfl (le_l rfl) (cat_all rfl) ?_
  show V G mX10_look d 0 [.ref r0, .int x1, uV, uV, uV, uV, uV] [] h o h'
  have hdd : d - 1 + 1 ≤ d := by omega
  refine v_aload_n (pc' := 1) dX10_look_0 rfl rfl ?_
  refine v_iconst (pc' := 2) (v := 0) dX10_look_1 rfl kI_0 ?_
  obtain ⟨q1, T⟩ := T
  refine v_putI (pc' := 5) 8 0 dX10_look_2 rfl (by decide) (by decide) rfl rfl kf_X10_72 q1 ?_
  refine v_aload_n (pc' := 6) dX10_look_5 rfl rfl ?_
  refine v_iload_n (pc' := 7) dX10_look_6 rfl rfl ?_
  refine v_iconst (pc' := 8) (v := 0) dX10_look_7 rfl kI_0 ?_
  refine v_iconst (pc' := 9) (v := 1) dX10_look_8 rfl kI_1 ?_
  obtain ⟨z3, h2, k4, T⟩ := T
  refine v_callS (pc' := 12) (M1 := mX10_in) (as := [.int x1, .int 0, .int 1]) (rest := [.ref r0]) dX10_look_9 rfl ko_X10_106 kc_X10_in kt_X10_in (by decide) hdd rfl rfl (le_l rfl) k4 ?_
  refine v_if_ne (tgt := 19) (pc' := 15) dX10_look_12 (by decide) rfl ⟨fun c5 => ?_, fun c5 => ?_⟩
  · have T := T.1 c5
    refine v_iconst (pc' := 20) (v := 0) dX10_look_19 rfl kI_0 ?_
    refine v_iconst (pc' := 21) (v := 1) dX10_look_20 rfl kI_1 ?_
    refine v_iconst (pc' := 22) (v := 1) dX10_look_21 rfl kI_1 ?_
    obtain ⟨q9, T⟩ := T
    obtain ⟨z7, h6, k8, T⟩ := T
    refine v_callV (pc' := 25) (M1 := mX10_bad) (as := [.int 0, .int 1, .int 1]) (r := r0) (rest := []) 8 dX10_look_22 rfl ko_X10_155 kc_X10_bad ki_X10_bad ks_X10_bad (by decide) (by decide) hdd rfl rfl (le_l rfl) q9 k8 ?_
    refine v_if_eq (tgt := 30) (pc' := 28) dX10_look_25 (by decide) rfl ⟨fun c10 => ?_, fun c10 => ?_⟩
    · have T := T.1 c10
      refine v_iconst (pc' := 31) (v := (-1)) dX10_look_30 rfl kI_m1 ?_
      refine v_istore_n (pc' := 32) (loc' := [.ref r0, .int x1, .int (-1), uV, uV, uV, uV]) dX10_look_31 rfl (lt_l rfl) rfl ?_
      refine v_iconst (pc' := 33) (v := (-1)) dX10_look_32 rfl kI_m1 ?_
      refine v_istore_n (pc' := 34) (loc' := [.ref r0, .int x1, .int (-1), .int (-1), uV, uV, uV]) dX10_look_33 rfl (lt_l rfl) rfl ?_
      refine v_aload_n (pc' := 35) dX10_look_34 rfl rfl ?_
      obtain ⟨q14, T⟩ := T
      obtain ⟨z12, h11, k13, T⟩ := T
      refine v_callV (pc' := 38) (M1 := mX10_fitsNow) (as := []) (r := r0) (rest := []) 8 dX10_look_35 rfl ko_X10_419 kc_X10_fitsNow ki_X10_fitsNow ks_X10_fitsNow (by decide) (by decide) hdd rfl rfl (le_l rfl) q14 k13 ?_
      refine v_istore (pc' := 40) (loc' := [.ref r0, .int x1, .int (-1), .int (-1), .int z12, uV, uV]) dX10_look_38 rfl (lt_l rfl) rfl ?_
      refine v_iconst (pc' := 41) (v := 0) dX10_look_40 rfl kI_0 ?_
      refine v_istore (pc' := 43) (loc' := [.ref r0, .int x1, .int (-1), .int (-1), .int z12, .int 0, uV]) dX10_look_41 rfl (lt_l rfl) rfl ?_
      exact T
    · have T := T.2 c10
      refine v_iconst (pc' := 29) (v := 0) dX10_look_28 rfl kI_0 ?_
      exact v_iret dX10_look_29 rfl T
  · have T := T.2 c5
    refine v_iconst (pc' := 16) (v := 1) dX10_look_15 rfl kI_1 ?_
    refine v_goto (pc' := 20) dX10_look_16 (by decide) ?_
    refine v_iconst (pc' := 21) (v := 1) dX10_look_20 rfl kI_1 ?_
    refine v_iconst (pc' := 22) (v := 1) dX10_look_21 rfl kI_1 ?_
    obtain ⟨q18, T⟩ := T
    obtain ⟨z16, h15, k17, T⟩ := T
    refine v_callV (pc' := 25) (M1 := mX10_bad) (as := [.int 1, .int 1, .int 1]) (r := r0) (rest := []) 8 dX10_look_22 rfl ko_X10_155 kc_X10_bad ki_X10_bad ks_X10_bad (by decide) (by decide) hdd rfl rfl (le_l rfl) q18 k17 ?_
    refine v_if_eq (tgt := 30) (pc' := 28) dX10_look_25 (by decide) rfl ⟨fun c19 => ?_, fun c19 => ?_⟩
    · have T := T.1 c19
      refine v_iconst (pc' := 31) (v := (-1)) dX10_look_30 rfl kI_m1 ?_
      refine v_istore_n (pc' := 32) (loc' := [.ref r0, .int x1, .int (-1), uV, uV, uV, uV]) dX10_look_31 rfl (lt_l rfl) rfl ?_
      refine v_iconst (pc' := 33) (v := (-1)) dX10_look_32 rfl kI_m1 ?_
      refine v_istore_n (pc' := 34) (loc' := [.ref r0, .int x1, .int (-1), .int (-1), uV, uV, uV]) dX10_look_33 rfl (lt_l rfl) rfl ?_
      refine v_aload_n (pc' := 35) dX10_look_34 rfl rfl ?_
      obtain ⟨q23, T⟩ := T
      obtain ⟨z21, h20, k22, T⟩ := T
      refine v_callV (pc' := 38) (M1 := mX10_fitsNow) (as := []) (r := r0) (rest := []) 8 dX10_look_35 rfl ko_X10_419 kc_X10_fitsNow ki_X10_fitsNow ks_X10_fitsNow (by decide) (by decide) hdd rfl rfl (le_l rfl) q23 k22 ?_
      refine v_istore (pc' := 40) (loc' := [.ref r0, .int x1, .int (-1), .int (-1), .int z21, uV, uV]) dX10_look_38 rfl (lt_l rfl) rfl ?_
      refine v_iconst (pc' := 41) (v := 0) dX10_look_40 rfl kI_0 ?_
      refine v_istore (pc' := 43) (loc' := [.ref r0, .int x1, .int (-1), .int (-1), .int z21, .int 0, uV]) dX10_look_41 rfl (lt_l rfl) rfl ?_
      exact T
    · have T := T.2 c19
      refine v_iconst (pc' := 29) (v := 0) dX10_look_28 rfl kI_0 ?_
      exact v_iret dX10_look_29 rfl T
theorem bX10_look_43 {G : GG} {d : Nat} {h : Hp} {o : OU} {h' : Hp} (r0 : Nat) (x1 : Int32) (x2 : Int32) (x3 : Int32) (x4 : Int32) (x5 : Int32) (hd : 1 ≤ d) (T : ((16 ≤ x5 → ((¬ x1 = 0 → (o = .inl (some (.int x3)) ∧ h' = h)) ∧ (x1 = 0 → (o = .inl (some (.int x2)) ∧ h' = h)))) ∧ (¬ 16 ≤ x5 → kH h r0 = 18 ∧ ∃ z4 h3, VM G mX10_isTold (d - 1) [.ref r0, .int x5] h (.inl (some (.int z4))) h3 ∧ ((z4 = 0 → kH h3 r0 = 18 ∧ ∃ z9 h8, VM G mX10_worstAt (d - 1) [.ref r0, .int x5, .int x4] h3 (.inl (some (.int z9))) h8 ∧ ((x2 = (-1) → V G mX10_look d 43 [.ref r0, .int x1, .int x5, .int z9, .int x4, .int (x5 + 1), uV] [] h8 o h') ∧ (¬ x2 = (-1) → ((z9 < x3 → V G mX10_look d 43 [.ref r0, .int x1, .int x5, .int z9, .int x4, .int (x5 + 1), uV] [] h8 o h') ∧ (¬ z9 < x3 → V G mX10_look d 43 [.ref r0, .int x1, .int x2, .int x3, .int x4, .int (x5 + 1), uV] [] h8 o h'))))) ∧ (¬ z4 = 0 → V G mX10_look d 43 [.ref r0, .int x1, .int x2, .int x3, .int x4, .int (x5 + 1), uV] [] h3 o h'))))) : V G mX10_look d 43 [.ref r0, .int x1, .int x2, .int x3, .int x4, .int x5, uV] [] h o h' := by
  have hdd : d - 1 + 1 ≤ d := by omega
  refine v_iload (pc' := 45) dX10_look_43 rfl rfl ?_
  refine v_bipush (pc' := 47) (v := 16) dX10_look_45 rfl kB_16 ?_
  refine v_icmp_ge (tgt := 98) (pc' := 50) dX10_look_47 (by decide) rfl ⟨fun c1 => ?_, fun c1 => ?_⟩
  · have T := T.1 c1
    refine v_iload_n (pc' := 99) dX10_look_98 rfl rfl ?_
    refine v_if_ne (tgt := 106) (pc' := 102) dX10_look_99 (by decide) rfl ⟨fun c2 => ?_, fun c2 => ?_⟩
    · have T := T.1 c2
      refine v_iload_n (pc' := 107) dX10_look_106 rfl rfl ?_
      exact v_iret dX10_look_107 rfl T
    · have T := T.2 c2
      refine v_iload_n (pc' := 103) dX10_look_102 rfl rfl ?_
      refine v_goto (pc' := 107) dX10_look_103 (by decide) ?_
      exact v_iret dX10_look_107 rfl T
  · have T := T.2 c1
    refine v_aload_n (pc' := 51) dX10_look_50 rfl rfl ?_
    refine v_iload (pc' := 53) dX10_look_51 rfl rfl ?_
    obtain ⟨q6, T⟩ := T
    obtain ⟨z4, h3, k5, T⟩ := T
    refine v_callV (pc' := 56) (M1 := mX10_isTold) (as := [.int x5]) (r := r0) (rest := []) 8 dX10_look_53 rfl ko_X10_422 kc_X10_isTold ki_X10_isTold ks_X10_isTold (by decide) (by decide) hdd rfl rfl (le_l rfl) q6 k5 ?_
    refine v_if_eq (tgt := 62) (pc' := 59) dX10_look_56 (by decide) rfl ⟨fun c7 => ?_, fun c7 => ?_⟩
    · have T := T.1 c7
      refine v_aload_n (pc' := 63) dX10_look_62 rfl rfl ?_
      refine v_iload (pc' := 65) dX10_look_63 rfl rfl ?_
      refine v_iload (pc' := 67) dX10_look_65 rfl rfl ?_
      obtain ⟨q11, T⟩ := T
      obtain ⟨z9, h8, k10, T⟩ := T
      refine v_callV (pc' := 70) (M1 := mX10_worstAt) (as := [.int x5, .int x4]) (r := r0) (rest := []) 8 dX10_look_67 rfl ko_X10_425 kc_X10_worstAt ki_X10_worstAt ks_X10_worstAt (by decide) (by decide) hdd rfl rfl (le_l rfl) q11 k10 ?_
      refine v_istore (pc' := 72) (loc' := [.ref r0, .int x1, .int x2, .int x3, .int x4, .int x5, .int z9]) dX10_look_70 rfl (lt_l rfl) rfl ?_
      refine v_iload_n (pc' := 73) dX10_look_72 rfl rfl ?_
      refine v_iconst (pc' := 74) (v := (-1)) dX10_look_73 rfl kI_m1 ?_
      refine v_icmp_eq (tgt := 86) (pc' := 77) dX10_look_74 (by decide) rfl ⟨fun c12 => ?_, fun c12 => ?_⟩
      · have T := T.1 c12
        refine v_iload (pc' := 88) dX10_look_86 rfl rfl ?_
        refine v_istore_n (pc' := 89) (loc' := [.ref r0, .int x1, .int x5, .int x3, .int x4, .int x5, .int z9]) dX10_look_88 rfl (lt_l rfl) rfl ?_
        refine v_iload (pc' := 91) dX10_look_89 rfl rfl ?_
        refine v_istore_n (pc' := 92) (loc' := [.ref r0, .int x1, .int x5, .int z9, .int x4, .int x5, .int z9]) dX10_look_91 rfl (lt_l rfl) rfl ?_
        refine v_iinc (pc' := 95) (loc' := [.ref r0, .int x1, .int x5, .int z9, .int x4, .int (x5 + 1), .int z9]) dX10_look_92 rfl rfl (kX_1 _) rfl ?_
        refine v_goto (pc' := 43) dX10_look_95 (by decide) ?_
        exact V.drop (llp_r (llp_r (llp_r (llp_r (llp_r (llp_r (llp_u llp_nil))))))) T
      · have T := T.2 c12
        refine v_iload (pc' := 79) dX10_look_77 rfl rfl ?_
        refine v_iload_n (pc' := 80) dX10_look_79 rfl rfl ?_
        refine v_icmp_lt (tgt := 86) (pc' := 83) dX10_look_80 (by decide) rfl ⟨fun c13 => ?_, fun c13 => ?_⟩
        · have T := T.1 c13
          refine v_iload (pc' := 88) dX10_look_86 rfl rfl ?_
          refine v_istore_n (pc' := 89) (loc' := [.ref r0, .int x1, .int x5, .int x3, .int x4, .int x5, .int z9]) dX10_look_88 rfl (lt_l rfl) rfl ?_
          refine v_iload (pc' := 91) dX10_look_89 rfl rfl ?_
          refine v_istore_n (pc' := 92) (loc' := [.ref r0, .int x1, .int x5, .int z9, .int x4, .int x5, .int z9]) dX10_look_91 rfl (lt_l rfl) rfl ?_
          refine v_iinc (pc' := 95) (loc' := [.ref r0, .int x1, .int x5, .int z9, .int x4, .int (x5 + 1), .int z9]) dX10_look_92 rfl rfl (kX_1 _) rfl ?_
          refine v_goto (pc' := 43) dX10_look_95 (by decide) ?_
          exact V.drop (llp_r (llp_r (llp_r (llp_r (llp_r (llp_r (llp_u llp_nil))))))) T
        · have T := T.2 c13
          refine v_goto (pc' := 92) dX10_look_83 (by decide) ?_
          refine v_iinc (pc' := 95) (loc' := [.ref r0, .int x1, .int x2, .int x3, .int x4, .int (x5 + 1), .int z9]) dX10_look_92 rfl rfl (kX_1 _) rfl ?_
          refine v_goto (pc' := 43) dX10_look_95 (by decide) ?_
          exact V.drop (llp_r (llp_r (llp_r (llp_r (llp_r (llp_r (llp_u llp_nil))))))) T
    · have T := T.2 c7
      refine v_goto (pc' := 92) dX10_look_59 (by decide) ?_
      refine v_iinc (pc' := 95) (loc' := [.ref r0, .int x1, .int x2, .int x3, .int x4, .int (x5 + 1), uV]) dX10_look_92 rfl rfl (kX_1 _) rfl ?_
      refine v_goto (pc' := 43) dX10_look_95 (by decide) ?_
      exact T
theorem eX10_room {G : GG} {d : Nat} {h : Hp} {o : OU} {h' : Hp} (r0 : Nat) (x1 : Int32) (hd : 1 ≤ d) (T : kH h r0 = 18 ∧ ∃ z3 h2, VM G mX10_isNode (d - 1) [.int x1] (h.1, (upI h.2 r0 0 0)) (.inl (some (.int z3))) h2 ∧ ((¬ z3 = 0 → kH h2 r0 = 18 ∧ ∃ z7 h6, VM G mX10_bad (d - 1) [.ref r0, .int 0, .int 1, .int 0] h2 (.inl (some (.int z7))) h6 ∧ ((z7 = 0 → V G mX10_room d 32 [.ref r0, .int x1, .int 0, .int 0] [] h6 o h') ∧ (¬ z7 = 0 → (o = .inl (some (.int 0)) ∧ h' = h6)))) ∧ (z3 = 0 → kH h2 r0 = 18 ∧ ∃ z12 h11, VM G mX10_bad (d - 1) [.ref r0, .int 1, .int 1, .int 0] h2 (.inl (some (.int z12))) h11 ∧ ((z12 = 0 → V G mX10_room d 32 [.ref r0, .int x1, .int 0, .int 0] [] h11 o h') ∧ (¬ z12 = 0 → (o = .inl (some (.int 0)) ∧ h' = h11)))))) : VM G mX10_room d [.ref r0, .int x1] h o h' := by
  refine V.toM rfl rfl (le_l rfl) (cat_all rfl) ?_
  show V G mX10_room d 0 [.ref r0, .int x1, uV, uV] [] h o h'
  have hdd : d - 1 + 1 ≤ d := by omega
  refine v_aload_n (pc' := 1) dX10_room_0 rfl rfl ?_
  refine v_iconst (pc' := 2) (v := 0) dX10_room_1 rfl kI_0 ?_
  obtain ⟨q1, T⟩ := T
  refine v_putI (pc' := 5) 8 0 dX10_room_2 rfl (by decide) (by decide) rfl rfl kf_X10_72 q1 ?_
  refine v_aload_n (pc' := 6) dX10_room_5 rfl rfl ?_
  refine v_iload_n (pc' := 7) dX10_room_6 rfl rfl ?_
  obtain ⟨z3, h2, k4, T⟩ := T
  refine v_callS (pc' := 10) (M1 := mX10_isNode) (as := [.int x1]) (rest := [.ref r0]) dX10_room_7 rfl ko_X10_377 kc_X10_isNode kt_X10_isNode (by decide) hdd rfl rfl (le_l rfl) k4 ?_
  refine v_if_ne (tgt := 17) (pc' := 13) dX10_room_10 (by decide) rfl ⟨fun c5 => ?_, fun c5 => ?_⟩
  · have T := T.1 c5
    refine v_iconst (pc' := 18) (v := 0) dX10_room_17 rfl kI_0 ?_
    refine v_iconst (pc' := 19) (v := 1) dX10_room_18 rfl kI_1 ?_
    refine v_iconst (pc' := 20) (v := 0) dX10_room_19 rfl kI_0 ?_
    obtain ⟨q9, T⟩ := T
    obtain ⟨z7, h6, k8, T⟩ := T
    refine v_callV (pc' := 23) (M1 := mX10_bad) (as := [.int 0, .int 1, .int 0]) (r := r0) (rest := []) 8 dX10_room_20 rfl ko_X10_155 kc_X10_bad ki_X10_bad ks_X10_bad (by decide) (by decide) hdd rfl rfl (le_l rfl) q9 k8 ?_
    refine v_if_eq (tgt := 28) (pc' := 26) dX10_room_23 (by decide) rfl ⟨fun c10 => ?_, fun c10 => ?_⟩
    · have T := T.1 c10
      refine v_iconst (pc' := 29) (v := 0) dX10_room_28 rfl kI_0 ?_
      refine v_istore_n (pc' := 30) (loc' := [.ref r0, .int x1, .int 0, uV]) dX10_room_29 rfl (lt_l rfl) rfl ?_
      refine v_iconst (pc' := 31) (v := 0) dX10_room_30 rfl kI_0 ?_
      refine v_istore_n (pc' := 32) (loc' := [.ref r0, .int x1, .int 0, .int 0]) dX10_room_31 rfl (lt_l rfl) rfl ?_
      exact T
    · have T := T.2 c10
      refine v_iconst (pc' := 27) (v := 0) dX10_room_26 rfl kI_0 ?_
      exact v_iret dX10_room_27 rfl T
  · have T := T.2 c5
    refine v_iconst (pc' := 14) (v := 1) dX10_room_13 rfl kI_1 ?_
    refine v_goto (pc' := 18) dX10_room_14 (by decide) ?_
    refine v_iconst (pc' := 19) (v := 1) dX10_room_18 rfl kI_1 ?_
    refine v_iconst (pc' := 20) (v := 0) dX10_room_19 rfl kI_0 ?_
    obtain ⟨q14, T⟩ := T
    obtain ⟨z12, h11, k13, T⟩ := T
    refine v_callV (pc' := 23) (M1 := mX10_bad) (as := [.int 1, .int 1, .int 0]) (r := r0) (rest := []) 8 dX10_room_20 rfl ko_X10_155 kc_X10_bad ki_X10_bad ks_X10_bad (by decide) (by decide) hdd rfl rfl (le_l rfl) q14 k13 ?_
    refine v_if_eq (tgt := 28) (pc' := 26) dX10_room_23 (by decide) rfl ⟨fun c15 => ?_, fun c15 => ?_⟩
    · have T := T.1 c15
      refine v_iconst (pc' := 29) (v := 0) dX10_room_28 rfl kI_0 ?_
      refine v_istore_n (pc' := 30) (loc' := [.ref r0, .int x1, .int 0, uV]) dX10_room_29 rfl (lt_l rfl) rfl ?_
      refine v_iconst (pc' := 31) (v := 0) dX10_room_30 rfl kI_0 ?_
      refine v_istore_n (pc' := 32) (loc' := [.ref r0, .int x1, .int 0, .int 0]) dX10_room_31 rfl (lt_l rfl) rfl ?_
      exact T
    · have T := T.2 c15
      refine v_iconst (pc' := 27) (v := 0) dX10_room_26 rfl kI_0 ?_
      exact v_iret dX10_room_27 rfl T
theorem bX10_room_32 {G : GG} {d : Nat} {h : Hp} {o : OU} {h' : Hp} (r0 : Nat) (x1 : Int32) (x2 : Int32) (x3 : Int32) (hd : 1 ≤ d) (T : kH h r0 = 18 ∧ ∃ z3 h2, VM G mX10_isKind (d - 1) [.ref (rH h r0 22), .int 0, .int x1, .int 2] h (.inl (some (.int z3))) h2 ∧ ((z3 = 0 → (o = .inl (some (.int x2)) ∧ h' = h2)) ∧ (¬ z3 = 0 → kH h2 r0 = 18 ∧ ∃ z8 h7, VM G mX10_entryOf (d - 1) [.ref (rH h2 r0 22), .int 0, .int x1, .int x3] h2 (.inl (some (.int z8))) h7 ∧ ((z8 = (-1) → (o = .inl (some (.int x2)) ∧ h' = h7)) ∧ (¬ z8 = (-1) → kH h7 r0 = 18 ∧ ∃ z13 h12, VM G mX10_entryOf (d - 1) [.ref (rH h7 r0 22), .int 0, .int x1, .int x3] h7 (.inl (some (.int z13))) h12 ∧ kH h12 (rH h7 r0 22) = 1 ∧ vp_in (0 + z13) (lH h12 (rH h7 r0 22)) ∧ ((¬ (h12.2 (rH h7 r0 22) (0 + z13).toNatClampNeg) = 0 → V G mX10_room d 32 [.ref r0, .int x1, .int (x2 + 0), .int (x3 + 1)] [] h12 o h') ∧ ((h12.2 (rH h7 r0 22) (0 + z13).toNatClampNeg) = 0 → V G mX10_room d 32 [.ref r0, .int x1, .int (x2 + 1), .int (x3 + 1)] [] h12 o h'))))))) : V G mX10_room d 32 [.ref r0, .int x1, .int x2, .int x3] [] h o h' := by
  have hdd : d - 1 + 1 ≤ d := by omega
  refine v_aload_n (pc' := 33) dX10_room_32 rfl rfl ?_
  obtain ⟨q1, T⟩ := T
  refine v_getR (pc' := 36) 8 22 dX10_room_33 rfl (by decide) (by decide) rfl kf_X10_31 q1 ?_
  refine v_iconst (pc' := 37) (v := 0) dX10_room_36 rfl kI_0 ?_
  refine v_iload_n (pc' := 38) dX10_room_37 rfl rfl ?_
  refine v_iconst (pc' := 39) (v := 2) dX10_room_38 rfl kI_2 ?_
  obtain ⟨z3, h2, k4, T⟩ := T
  refine v_callS (pc' := 42) (M1 := mX10_isKind) (as := [.ref (rH h r0 22), .int 0, .int x1, .int 2]) (rest := []) dX10_room_39 rfl ko_X10_273 kc_X10_isKind kt_X10_isKind (by decide) hdd rfl rfl (le_l rfl) k4 ?_
  refine v_if_eq (tgt := 93) (pc' := 45) dX10_room_42 (by decide) rfl ⟨fun c5 => ?_, fun c5 => ?_⟩
  · have T := T.1 c5
    refine v_iload_n (pc' := 94) dX10_room_93 rfl rfl ?_
    exact v_iret dX10_room_94 rfl T
  · have T := T.2 c5
    refine v_aload_n (pc' := 46) dX10_room_45 rfl rfl ?_
    obtain ⟨q6, T⟩ := T
    refine v_getR (pc' := 49) 8 22 dX10_room_46 rfl (by decide) (by decide) rfl kf_X10_31 q6 ?_
    refine v_iconst (pc' := 50) (v := 0) dX10_room_49 rfl kI_0 ?_
    refine v_iload_n (pc' := 51) dX10_room_50 rfl rfl ?_
    refine v_iload_n (pc' := 52) dX10_room_51 rfl rfl ?_
    obtain ⟨z8, h7, k9, T⟩ := T
    refine v_callS (pc' := 55) (M1 := mX10_entryOf) (as := [.ref (rH h2 r0 22), .int 0, .int x1, .int x3]) (rest := []) dX10_room_52 rfl ko_X10_270 kc_X10_entryOf kt_X10_entryOf (by decide) hdd rfl rfl (le_l rfl) k9 ?_
    refine v_iconst (pc' := 56) (v := (-1)) dX10_room_55 rfl kI_m1 ?_
    refine v_icmp_eq (tgt := 93) (pc' := 59) dX10_room_56 (by decide) rfl ⟨fun c10 => ?_, fun c10 => ?_⟩
    · have T := T.1 c10
      refine v_iload_n (pc' := 94) dX10_room_93 rfl rfl ?_
      exact v_iret dX10_room_94 rfl T
    · have T := T.2 c10
      refine v_iload_n (pc' := 60) dX10_room_59 rfl rfl ?_
      refine v_aload_n (pc' := 61) dX10_room_60 rfl rfl ?_
      obtain ⟨q11, T⟩ := T
      refine v_getR (pc' := 64) 8 22 dX10_room_61 rfl (by decide) (by decide) rfl kf_X10_31 q11 ?_
      refine v_iconst (pc' := 65) (v := 0) dX10_room_64 rfl kI_0 ?_
      refine v_aload_n (pc' := 66) dX10_room_65 rfl rfl ?_
      refine v_getR (pc' := 69) 8 22 dX10_room_66 rfl (by decide) (by decide) rfl kf_X10_31 q11 ?_
      refine v_iconst (pc' := 70) (v := 0) dX10_room_69 rfl kI_0 ?_
      refine v_iload_n (pc' := 71) dX10_room_70 rfl rfl ?_
      refine v_iload_n (pc' := 72) dX10_room_71 rfl rfl ?_
      obtain ⟨z13, h12, k14, T⟩ := T
      refine v_callS (pc' := 75) (M1 := mX10_entryOf) (as := [.ref (rH h7 r0 22), .int 0, .int x1, .int x3]) (rest := [.int 0, .ref (rH h7 r0 22), .int x2]) dX10_room_72 rfl ko_X10_270 kc_X10_entryOf kt_X10_entryOf (by decide) hdd rfl rfl (le_l rfl) k14 ?_
      refine v_iadd (pc' := 76) dX10_room_75 rfl ?_
      obtain ⟨q15, T⟩ := T
      obtain ⟨q16, T⟩ := T
      refine v_iald (pc' := 77) dX10_room_76 rfl rfl q15 q16 ?_
      refine v_if_ne (tgt := 84) (pc' := 80) dX10_room_77 (by decide) rfl ⟨fun c17 => ?_, fun c17 => ?_⟩
      · have T := T.1 c17
        refine v_iconst (pc' := 85) (v := 0) dX10_room_84 rfl kI_0 ?_
        refine v_iadd (pc' := 86) dX10_room_85 rfl ?_
        refine v_istore_n (pc' := 87) (loc' := [.ref r0, .int x1, .int (x2 + 0), .int x3]) dX10_room_86 rfl (lt_l rfl) rfl ?_
        refine v_iinc (pc' := 90) (loc' := [.ref r0, .int x1, .int (x2 + 0), .int (x3 + 1)]) dX10_room_87 rfl rfl (kX_1 _) rfl ?_
        refine v_goto (pc' := 32) dX10_room_90 (by decide) ?_
        exact T
      · have T := T.2 c17
        refine v_iconst (pc' := 81) (v := 1) dX10_room_80 rfl kI_1 ?_
        refine v_goto (pc' := 85) dX10_room_81 (by decide) ?_
        refine v_iadd (pc' := 86) dX10_room_85 rfl ?_
        refine v_istore_n (pc' := 87) (loc' := [.ref r0, .int x1, .int (x2 + 1), .int x3]) dX10_room_86 rfl (lt_l rfl) rfl ?_
        refine v_iinc (pc' := 90) (loc' := [.ref r0, .int x1, .int (x2 + 1), .int (x3 + 1)]) dX10_room_87 rfl rfl (kX_1 _) rfl ?_
        refine v_goto (pc' := 32) dX10_room_90 (by decide) ?_
        exact T
theorem eX10_owner {G : GG} {d : Nat} {h : Hp} {o : OU} {h' : Hp} (r0 : Nat) (x1 : Int32) (x2 : Int32) (hd : 1 ≤ d) (T : kH h r0 = 18 ∧ ∃ z3 h2, VM G mX10_isWhere (d - 1) [.int x2] (h.1, (upI h.2 r0 0 0)) (.inl (some (.int z3))) h2 ∧ ((¬ z3 = 0 → V G mX10_owner d 18 [.ref r0, .int x1, .int x2] [.int 0, .ref r0] h2 o h') ∧ (z3 = 0 → V G mX10_owner d 18 [.ref r0, .int x1, .int x2] [.int 1, .ref r0] h2 o h'))) : VM G mX10_owner d [.ref r0, .int x1, .int x2] h o h' := by
  refine V.toM rfl rfl (le_l rfl) (cat_all rfl) ?_
  show V G mX10_owner d 0 [.ref r0, .int x1, .int x2] [] h o h'
  have hdd : d - 1 + 1 ≤ d := by omega
  refine v_aload_n (pc' := 1) dX10_owner_0 rfl rfl ?_
  refine v_iconst (pc' := 2) (v := 0) dX10_owner_1 rfl kI_0 ?_
  obtain ⟨q1, T⟩ := T
  refine v_putI (pc' := 5) 8 0 dX10_owner_2 rfl (by decide) (by decide) rfl rfl kf_X10_72 q1 ?_
  refine v_aload_n (pc' := 6) dX10_owner_5 rfl rfl ?_
  refine v_iload_n (pc' := 7) dX10_owner_6 rfl rfl ?_
  obtain ⟨z3, h2, k4, T⟩ := T
  refine v_callS (pc' := 10) (M1 := mX10_isWhere) (as := [.int x2]) (rest := [.ref r0]) dX10_owner_7 rfl ko_X10_368 kc_X10_isWhere kt_X10_isWhere (by decide) hdd rfl rfl (le_l rfl) k4 ?_
  refine v_if_ne (tgt := 17) (pc' := 13) dX10_owner_10 (by decide) rfl ⟨fun c5 => ?_, fun c5 => ?_⟩
  · have T := T.1 c5
    refine v_iconst (pc' := 18) (v := 0) dX10_owner_17 rfl kI_0 ?_
    exact T
  · have T := T.2 c5
    refine v_iconst (pc' := 14) (v := 1) dX10_owner_13 rfl kI_1 ?_
    refine v_goto (pc' := 18) dX10_owner_14 (by decide) ?_
    exact T
theorem bX10_owner_18 {G : GG} {d : Nat} {h : Hp} {o : OU} {h' : Hp} (r0 : Nat) (x1 : Int32) (x2 : Int32) (s0 : Int32) (t1 : Nat) (hd : 1 ≤ d) (T : kH h t1 = 18 ∧ ∃ z2 h1, VM G mX10_bad (d - 1) [.ref t1, .int s0, .int 1, .int 1] h (.inl (some (.int z2))) h1 ∧ ((¬ z2 = 0 → (o = .inl (some (.int 0)) ∧ h' = h1)) ∧ (z2 = 0 → kH h1 r0 = 18 ∧ ∃ z7 h6, VM G mX10_isBlock (d - 1) [.ref r0, .int x1] h1 (.inl (some (.int z7))) h6 ∧ ((¬ z7 = 0 → kH h6 r0 = 18 ∧ ∃ z12 h11, VM G mX10_bad (d - 1) [.ref r0, .int 0, .int 2, .int 3] h6 (.inl (some (.int z12))) h11 ∧ ((z12 = 0 → ((¬ x1 = 0 → kH h11 r0 = 18 ∧ ∃ z19 h18, VM G mX10_whereOf (d - 1) [.int x2] h11 (.inl (some (.int z19))) h18 ∧ kH h18 r0 = 18 ∧ ∃ z23 h22, VM G mX10_whereOf (d - 1) [.int x2] h18 (.inl (some (.int z23))) h22 ∧ ∃ z26 h25, VM G mX10_linked (d - 1) [.ref (rH h18 r0 22), .int z23] h22 (.inl (some (.int z26))) h25 ∧ ∃ z29 h28, VM G mX10_pointer (d - 1) [.ref (rH h11 r0 22), .int z19, .int z26, .int x1] h25 (.inl (some (.int z29))) h28 ∧ (o = .inl (some (.int z29)) ∧ h' = h28)) ∧ (x1 = 0 → (o = .inl (some (.int (-1))) ∧ h' = h11)))) ∧ (¬ z12 = 0 → (o = .inl (some (.int 0)) ∧ h' = h11)))) ∧ (z7 = 0 → kH h6 r0 = 18 ∧ ∃ z32 h31, VM G mX10_bad (d - 1) [.ref r0, .int 1, .int 2, .int 3] h6 (.inl (some (.int z32))) h31 ∧ ((z32 = 0 → ((¬ x1 = 0 → kH h31 r0 = 18 ∧ ∃ z39 h38, VM G mX10_whereOf (d - 1) [.int x2] h31 (.inl (some (.int z39))) h38 ∧ kH h38 r0 = 18 ∧ ∃ z43 h42, VM G mX10_whereOf (d - 1) [.int x2] h38 (.inl (some (.int z43))) h42 ∧ ∃ z46 h45, VM G mX10_linked (d - 1) [.ref (rH h38 r0 22), .int z43] h42 (.inl (some (.int z46))) h45 ∧ ∃ z49 h48, VM G mX10_pointer (d - 1) [.ref (rH h31 r0 22), .int z39, .int z46, .int x1] h45 (.inl (some (.int z49))) h48 ∧ (o = .inl (some (.int z49)) ∧ h' = h48)) ∧ (x1 = 0 → (o = .inl (some (.int (-1))) ∧ h' = h31)))) ∧ (¬ z32 = 0 → (o = .inl (some (.int 0)) ∧ h' = h31)))))))) : V G mX10_owner d 18 [.ref r0, .int x1, .int x2] [.int s0, .ref t1] h o h' := by
  have hdd : d - 1 + 1 ≤ d := by omega
  refine v_iconst (pc' := 19) (v := 1) dX10_owner_18 rfl kI_1 ?_
  refine v_iconst (pc' := 20) (v := 1) dX10_owner_19 rfl kI_1 ?_
  obtain ⟨q4, T⟩ := T
  obtain ⟨z2, h1, k3, T⟩ := T
  refine v_callV (pc' := 23) (M1 := mX10_bad) (as := [.int s0, .int 1, .int 1]) (r := t1) (rest := []) 8 dX10_owner_20 rfl ko_X10_155 kc_X10_bad ki_X10_bad ks_X10_bad (by decide) (by decide) hdd rfl rfl (le_l rfl) q4 k3 ?_
  refine v_if_ne (tgt := 48) (pc' := 26) dX10_owner_23 (by decide) rfl ⟨fun c5 => ?_, fun c5 => ?_⟩
  · have T := T.1 c5
    refine v_iconst (pc' := 49) (v := 0) dX10_owner_48 rfl kI_0 ?_
    exact v_iret dX10_owner_49 rfl T
  · have T := T.2 c5
    refine v_aload_n (pc' := 27) dX10_owner_26 rfl rfl ?_
    refine v_aload_n (pc' := 28) dX10_owner_27 rfl rfl ?_
    refine v_iload_n (pc' := 29) dX10_owner_28 rfl rfl ?_
    obtain ⟨q9, T⟩ := T
    obtain ⟨z7, h6, k8, T⟩ := T
    refine v_callV (pc' := 32) (M1 := mX10_isBlock) (as := [.int x1]) (r := r0) (rest := [.ref r0]) 8 dX10_owner_29 rfl ko_X10_371 kc_X10_isBlock ki_X10_isBlock ks_X10_isBlock (by decide) (by decide) hdd rfl rfl (le_l rfl) q9 k8 ?_
    refine v_if_ne (tgt := 39) (pc' := 35) dX10_owner_32 (by decide) rfl ⟨fun c10 => ?_, fun c10 => ?_⟩
    · have T := T.1 c10
      refine v_iconst (pc' := 40) (v := 0) dX10_owner_39 rfl kI_0 ?_
      refine v_iconst (pc' := 41) (v := 2) dX10_owner_40 rfl kI_2 ?_
      refine v_iconst (pc' := 42) (v := 3) dX10_owner_41 rfl kI_3 ?_
      obtain ⟨q14, T⟩ := T
      obtain ⟨z12, h11, k13, T⟩ := T
      refine v_callV (pc' := 45) (M1 := mX10_bad) (as := [.int 0, .int 2, .int 3]) (r := r0) (rest := []) 8 dX10_owner_42 rfl ko_X10_155 kc_X10_bad ki_X10_bad ks_X10_bad (by decide) (by decide) hdd rfl rfl (le_l rfl) q14 k13 ?_
      refine v_if_eq (tgt := 50) (pc' := 48) dX10_owner_45 (by decide) rfl ⟨fun c15 => ?_, fun c15 => ?_⟩
      · have T := T.1 c15
        refine v_iload_n (pc' := 51) dX10_owner_50 rfl rfl ?_
        refine v_if_ne (tgt := 58) (pc' := 54) dX10_owner_51 (by decide) rfl ⟨fun c16 => ?_, fun c16 => ?_⟩
        · have T := T.1 c16
          refine v_aload_n (pc' := 59) dX10_owner_58 rfl rfl ?_
          obtain ⟨q17, T⟩ := T
          refine v_getR (pc' := 62) 8 22 dX10_owner_59 rfl (by decide) (by decide) rfl kf_X10_31 q17 ?_
          refine v_iload_n (pc' := 63) dX10_owner_62 rfl rfl ?_
          obtain ⟨z19, h18, k20, T⟩ := T
          refine v_callS (pc' := 66) (M1 := mX10_whereOf) (as := [.int x2]) (rest := [.ref (rH h11 r0 22)]) dX10_owner_63 rfl ko_X10_374 kc_X10_whereOf kt_X10_whereOf (by decide) hdd rfl rfl (le_l rfl) k20 ?_
          refine v_aload_n (pc' := 67) dX10_owner_66 rfl rfl ?_
          obtain ⟨q21, T⟩ := T
          refine v_getR (pc' := 70) 8 22 dX10_owner_67 rfl (by decide) (by decide) rfl kf_X10_31 q21 ?_
          refine v_iload_n (pc' := 71) dX10_owner_70 rfl rfl ?_
          obtain ⟨z23, h22, k24, T⟩ := T
          refine v_callS (pc' := 74) (M1 := mX10_whereOf) (as := [.int x2]) (rest := [.ref (rH h18 r0 22), .int z19, .ref (rH h11 r0 22)]) dX10_owner_71 rfl ko_X10_374 kc_X10_whereOf kt_X10_whereOf (by decide) hdd rfl rfl (le_l rfl) k24 ?_
          obtain ⟨z26, h25, k27, T⟩ := T
          refine v_callS (pc' := 77) (M1 := mX10_linked) (as := [.ref (rH h18 r0 22), .int z23]) (rest := [.int z19, .ref (rH h11 r0 22)]) dX10_owner_74 rfl ko_X10_315 kc_X10_linked kt_X10_linked (by decide) hdd rfl rfl (le_l rfl) k27 ?_
          refine v_iload_n (pc' := 78) dX10_owner_77 rfl rfl ?_
          obtain ⟨z29, h28, k30, T⟩ := T
          refine v_callS (pc' := 81) (M1 := mX10_pointer) (as := [.ref (rH h11 r0 22), .int z19, .int z26, .int x1]) (rest := []) dX10_owner_78 rfl ko_X10_306 kc_X10_pointer kt_X10_pointer (by decide) hdd rfl rfl (le_l rfl) k30 ?_
          exact v_iret dX10_owner_81 rfl T
        · have T := T.2 c16
          refine v_iconst (pc' := 55) (v := (-1)) dX10_owner_54 rfl kI_m1 ?_
          refine v_goto (pc' := 81) dX10_owner_55 (by decide) ?_
          exact v_iret dX10_owner_81 rfl T
      · have T := T.2 c15
        refine v_iconst (pc' := 49) (v := 0) dX10_owner_48 rfl kI_0 ?_
        exact v_iret dX10_owner_49 rfl T
    · have T := T.2 c10
      refine v_iconst (pc' := 36) (v := 1) dX10_owner_35 rfl kI_1 ?_
      refine v_goto (pc' := 40) dX10_owner_36 (by decide) ?_
      refine v_iconst (pc' := 41) (v := 2) dX10_owner_40 rfl kI_2 ?_
      refine v_iconst (pc' := 42) (v := 3) dX10_owner_41 rfl kI_3 ?_
      obtain ⟨q34, T⟩ := T
      obtain ⟨z32, h31, k33, T⟩ := T
      refine v_callV (pc' := 45) (M1 := mX10_bad) (as := [.int 1, .int 2, .int 3]) (r := r0) (rest := []) 8 dX10_owner_42 rfl ko_X10_155 kc_X10_bad ki_X10_bad ks_X10_bad (by decide) (by decide) hdd rfl rfl (le_l rfl) q34 k33 ?_
      refine v_if_eq (tgt := 50) (pc' := 48) dX10_owner_45 (by decide) rfl ⟨fun c35 => ?_, fun c35 => ?_⟩
      · have T := T.1 c35
        refine v_iload_n (pc' := 51) dX10_owner_50 rfl rfl ?_
        refine v_if_ne (tgt := 58) (pc' := 54) dX10_owner_51 (by decide) rfl ⟨fun c36 => ?_, fun c36 => ?_⟩
        · have T := T.1 c36
          refine v_aload_n (pc' := 59) dX10_owner_58 rfl rfl ?_
          obtain ⟨q37, T⟩ := T
          refine v_getR (pc' := 62) 8 22 dX10_owner_59 rfl (by decide) (by decide) rfl kf_X10_31 q37 ?_
          refine v_iload_n (pc' := 63) dX10_owner_62 rfl rfl ?_
          obtain ⟨z39, h38, k40, T⟩ := T
          refine v_callS (pc' := 66) (M1 := mX10_whereOf) (as := [.int x2]) (rest := [.ref (rH h31 r0 22)]) dX10_owner_63 rfl ko_X10_374 kc_X10_whereOf kt_X10_whereOf (by decide) hdd rfl rfl (le_l rfl) k40 ?_
          refine v_aload_n (pc' := 67) dX10_owner_66 rfl rfl ?_
          obtain ⟨q41, T⟩ := T
          refine v_getR (pc' := 70) 8 22 dX10_owner_67 rfl (by decide) (by decide) rfl kf_X10_31 q41 ?_
          refine v_iload_n (pc' := 71) dX10_owner_70 rfl rfl ?_
          obtain ⟨z43, h42, k44, T⟩ := T
          refine v_callS (pc' := 74) (M1 := mX10_whereOf) (as := [.int x2]) (rest := [.ref (rH h38 r0 22), .int z39, .ref (rH h31 r0 22)]) dX10_owner_71 rfl ko_X10_374 kc_X10_whereOf kt_X10_whereOf (by decide) hdd rfl rfl (le_l rfl) k44 ?_
          obtain ⟨z46, h45, k47, T⟩ := T
          refine v_callS (pc' := 77) (M1 := mX10_linked) (as := [.ref (rH h38 r0 22), .int z43]) (rest := [.int z39, .ref (rH h31 r0 22)]) dX10_owner_74 rfl ko_X10_315 kc_X10_linked kt_X10_linked (by decide) hdd rfl rfl (le_l rfl) k47 ?_
          refine v_iload_n (pc' := 78) dX10_owner_77 rfl rfl ?_
          obtain ⟨z49, h48, k50, T⟩ := T
          refine v_callS (pc' := 81) (M1 := mX10_pointer) (as := [.ref (rH h31 r0 22), .int z39, .int z46, .int x1]) (rest := []) dX10_owner_78 rfl ko_X10_306 kc_X10_pointer kt_X10_pointer (by decide) hdd rfl rfl (le_l rfl) k50 ?_
          exact v_iret dX10_owner_81 rfl T
        · have T := T.2 c36
          refine v_iconst (pc' := 55) (v := (-1)) dX10_owner_54 rfl kI_m1 ?_
          refine v_goto (pc' := 81) dX10_owner_55 (by decide) ?_
          exact v_iret dX10_owner_81 rfl T
      · have T := T.2 c35
        refine v_iconst (pc' := 49) (v := 0) dX10_owner_48 rfl kI_0 ?_
        exact v_iret dX10_owner_49 rfl T
theorem eX10_unlike {G : GG} {d : Nat} {h : Hp} {o : OU} {h' : Hp} (r0 : Nat) (x1 : Int32) (hd : 1 ≤ d) (T : kH h r0 = 18 ∧ ∃ z3 h2, VM G mX10_isBlock (d - 1) [.ref r0, .int x1] (h.1, (upI h.2 r0 0 0)) (.inl (some (.int z3))) h2 ∧ ((¬ z3 = 0 → kH h2 r0 = 18 ∧ ∃ z7 h6, VM G mX10_bad (d - 1) [.ref r0, .int 0, .int 1, .int 3] h2 (.inl (some (.int z7))) h6 ∧ ((z7 = 0 → V G mX10_unlike d 33 [.ref r0, .int x1, .int 0, .int 0] [] h6 o h') ∧ (¬ z7 = 0 → (o = .inl (some (.int 0)) ∧ h' = h6)))) ∧ (z3 = 0 → kH h2 r0 = 18 ∧ ∃ z12 h11, VM G mX10_bad (d - 1) [.ref r0, .int 1, .int 1, .int 3] h2 (.inl (some (.int z12))) h11 ∧ ((z12 = 0 → V G mX10_unlike d 33 [.ref r0, .int x1, .int 0, .int 0] [] h11 o h') ∧ (¬ z12 = 0 → (o = .inl (some (.int 0)) ∧ h' = h11)))))) : VM G mX10_unlike d [.ref r0, .int x1] h o h' := by
  refine V.toM rfl rfl (le_l rfl) (cat_all rfl) ?_
  show V G mX10_unlike d 0 [.ref r0, .int x1, uV, uV] [] h o h'
  have hdd : d - 1 + 1 ≤ d := by omega
  refine v_aload_n (pc' := 1) dX10_unlike_0 rfl rfl ?_
  refine v_iconst (pc' := 2) (v := 0) dX10_unlike_1 rfl kI_0 ?_
  obtain ⟨q1, T⟩ := T
  refine v_putI (pc' := 5) 8 0 dX10_unlike_2 rfl (by decide) (by decide) rfl rfl kf_X10_72 q1 ?_
  refine v_aload_n (pc' := 6) dX10_unlike_5 rfl rfl ?_
  refine v_aload_n (pc' := 7) dX10_unlike_6 rfl rfl ?_
  refine v_iload_n (pc' := 8) dX10_unlike_7 rfl rfl ?_
  obtain ⟨z3, h2, k4, T⟩ := T
  refine v_callV (pc' := 11) (M1 := mX10_isBlock) (as := [.int x1]) (r := r0) (rest := [.ref r0]) 8 dX10_unlike_8 rfl ko_X10_371 kc_X10_isBlock ki_X10_isBlock ks_X10_isBlock (by decide) (by decide) hdd rfl rfl (le_l rfl) q1 k4 ?_
  refine v_if_ne (tgt := 18) (pc' := 14) dX10_unlike_11 (by decide) rfl ⟨fun c5 => ?_, fun c5 => ?_⟩
  · have T := T.1 c5
    refine v_iconst (pc' := 19) (v := 0) dX10_unlike_18 rfl kI_0 ?_
    refine v_iconst (pc' := 20) (v := 1) dX10_unlike_19 rfl kI_1 ?_
    refine v_iconst (pc' := 21) (v := 3) dX10_unlike_20 rfl kI_3 ?_
    obtain ⟨q9, T⟩ := T
    obtain ⟨z7, h6, k8, T⟩ := T
    refine v_callV (pc' := 24) (M1 := mX10_bad) (as := [.int 0, .int 1, .int 3]) (r := r0) (rest := []) 8 dX10_unlike_21 rfl ko_X10_155 kc_X10_bad ki_X10_bad ks_X10_bad (by decide) (by decide) hdd rfl rfl (le_l rfl) q9 k8 ?_
    refine v_if_eq (tgt := 29) (pc' := 27) dX10_unlike_24 (by decide) rfl ⟨fun c10 => ?_, fun c10 => ?_⟩
    · have T := T.1 c10
      refine v_iconst (pc' := 30) (v := 0) dX10_unlike_29 rfl kI_0 ?_
      refine v_istore_n (pc' := 31) (loc' := [.ref r0, .int x1, .int 0, uV]) dX10_unlike_30 rfl (lt_l rfl) rfl ?_
      refine v_iconst (pc' := 32) (v := 0) dX10_unlike_31 rfl kI_0 ?_
      refine v_istore_n (pc' := 33) (loc' := [.ref r0, .int x1, .int 0, .int 0]) dX10_unlike_32 rfl (lt_l rfl) rfl ?_
      exact T
    · have T := T.2 c10
      refine v_iconst (pc' := 28) (v := 0) dX10_unlike_27 rfl kI_0 ?_
      exact v_iret dX10_unlike_28 rfl T
  · have T := T.2 c5
    refine v_iconst (pc' := 15) (v := 1) dX10_unlike_14 rfl kI_1 ?_
    refine v_goto (pc' := 19) dX10_unlike_15 (by decide) ?_
    refine v_iconst (pc' := 20) (v := 1) dX10_unlike_19 rfl kI_1 ?_
    refine v_iconst (pc' := 21) (v := 3) dX10_unlike_20 rfl kI_3 ?_
    obtain ⟨q14, T⟩ := T
    obtain ⟨z12, h11, k13, T⟩ := T
    refine v_callV (pc' := 24) (M1 := mX10_bad) (as := [.int 1, .int 1, .int 3]) (r := r0) (rest := []) 8 dX10_unlike_21 rfl ko_X10_155 kc_X10_bad ki_X10_bad ks_X10_bad (by decide) (by decide) hdd rfl rfl (le_l rfl) q14 k13 ?_
    refine v_if_eq (tgt := 29) (pc' := 27) dX10_unlike_24 (by decide) rfl ⟨fun c15 => ?_, fun c15 => ?_⟩
    · have T := T.1 c15
      refine v_iconst (pc' := 30) (v := 0) dX10_unlike_29 rfl kI_0 ?_
      refine v_istore_n (pc' := 31) (loc' := [.ref r0, .int x1, .int 0, uV]) dX10_unlike_30 rfl (lt_l rfl) rfl ?_
      refine v_iconst (pc' := 32) (v := 0) dX10_unlike_31 rfl kI_0 ?_
      refine v_istore_n (pc' := 33) (loc' := [.ref r0, .int x1, .int 0, .int 0]) dX10_unlike_32 rfl (lt_l rfl) rfl ?_
      exact T
    · have T := T.2 c15
      refine v_iconst (pc' := 28) (v := 0) dX10_unlike_27 rfl kI_0 ?_
      exact v_iret dX10_unlike_28 rfl T
theorem bX10_unlike_33 {G : GG} {d : Nat} {h : Hp} {o : OU} {h' : Hp} (r0 : Nat) (x1 : Int32) (x2 : Int32) (x3 : Int32) (T : ((16 ≤ x3 → (o = .inl (some (.int x2)) ∧ h' = h)) ∧ (¬ 16 ≤ x3 → kH h r0 = 18 ∧ kH h (rH h r0 22) = 1 ∧ vp_in ((0 + (16 * x1)) + x3) (lH h (rH h r0 22)) ∧ vp_in ((256 + (16 * x1)) + x3) (lH h (rH h r0 22)) ∧ ((¬ (h.2 (rH h r0 22) ((0 + (16 * x1)) + x3).toNatClampNeg) = (h.2 (rH h r0 22) ((256 + (16 * x1)) + x3).toNatClampNeg) → V G mX10_unlike d 33 [.ref r0, .int x1, .int (x2 + 1), .int (x3 + 1)] [] h o h') ∧ ((h.2 (rH h r0 22) ((0 + (16 * x1)) + x3).toNatClampNeg) = (h.2 (rH h r0 22) ((256 + (16 * x1)) + x3).toNatClampNeg) → V G mX10_unlike d 33 [.ref r0, .int x1, .int (x2 + 0), .int (x3 + 1)] [] h o h'))))) : V G mX10_unlike d 33 [.ref r0, .int x1, .int x2, .int x3] [] h o h' := by
  refine v_iload_n (pc' := 34) dX10_unlike_33 rfl rfl ?_
  refine v_bipush (pc' := 36) (v := 16) dX10_unlike_34 rfl kB_16 ?_
  refine v_icmp_ge (tgt := 84) (pc' := 39) dX10_unlike_36 (by decide) rfl ⟨fun c1 => ?_, fun c1 => ?_⟩
  · have T := T.1 c1
    refine v_iload_n (pc' := 85) dX10_unlike_84 rfl rfl ?_
    exact v_iret dX10_unlike_85 rfl T
  · have T := T.2 c1
    refine v_iload_n (pc' := 40) dX10_unlike_39 rfl rfl ?_
    refine v_aload_n (pc' := 41) dX10_unlike_40 rfl rfl ?_
    obtain ⟨q2, T⟩ := T
    refine v_getR (pc' := 44) 8 22 dX10_unlike_41 rfl (by decide) (by decide) rfl kf_X10_31 q2 ?_
    refine v_iconst (pc' := 45) (v := 0) dX10_unlike_44 rfl kI_0 ?_
    refine v_bipush (pc' := 47) (v := 16) dX10_unlike_45 rfl kB_16 ?_
    refine v_iload_n (pc' := 48) dX10_unlike_47 rfl rfl ?_
    refine v_imul (pc' := 49) dX10_unlike_48 rfl ?_
    refine v_iadd (pc' := 50) dX10_unlike_49 rfl ?_
    refine v_iload_n (pc' := 51) dX10_unlike_50 rfl rfl ?_
    refine v_iadd (pc' := 52) dX10_unlike_51 rfl ?_
    obtain ⟨q3, T⟩ := T
    obtain ⟨q4, T⟩ := T
    refine v_iald (pc' := 53) dX10_unlike_52 rfl rfl q3 q4 ?_
    refine v_aload_n (pc' := 54) dX10_unlike_53 rfl rfl ?_
    refine v_getR (pc' := 57) 8 22 dX10_unlike_54 rfl (by decide) (by decide) rfl kf_X10_31 q2 ?_
    refine v_sipush (pc' := 60) (v := 256) dX10_unlike_57 rfl kS_256 ?_
    refine v_bipush (pc' := 62) (v := 16) dX10_unlike_60 rfl kB_16 ?_
    refine v_iload_n (pc' := 63) dX10_unlike_62 rfl rfl ?_
    refine v_imul (pc' := 64) dX10_unlike_63 rfl ?_
    refine v_iadd (pc' := 65) dX10_unlike_64 rfl ?_
    refine v_iload_n (pc' := 66) dX10_unlike_65 rfl rfl ?_
    refine v_iadd (pc' := 67) dX10_unlike_66 rfl ?_
    obtain ⟨q5, T⟩ := T
    refine v_iald (pc' := 68) dX10_unlike_67 rfl rfl q3 q5 ?_
    refine v_icmp_ne (tgt := 75) (pc' := 71) dX10_unlike_68 (by decide) rfl ⟨fun c6 => ?_, fun c6 => ?_⟩
    · have T := T.1 c6
      refine v_iconst (pc' := 76) (v := 1) dX10_unlike_75 rfl kI_1 ?_
      refine v_iadd (pc' := 77) dX10_unlike_76 rfl ?_
      refine v_istore_n (pc' := 78) (loc' := [.ref r0, .int x1, .int (x2 + 1), .int x3]) dX10_unlike_77 rfl (lt_l rfl) rfl ?_
      refine v_iinc (pc' := 81) (loc' := [.ref r0, .int x1, .int (x2 + 1), .int (x3 + 1)]) dX10_unlike_78 rfl rfl (kX_1 _) rfl ?_
      refine v_goto (pc' := 33) dX10_unlike_81 (by decide) ?_
      exact T
    · have T := T.2 c6
      refine v_iconst (pc' := 72) (v := 0) dX10_unlike_71 rfl kI_0 ?_
      refine v_goto (pc' := 76) dX10_unlike_72 (by decide) ?_
      refine v_iadd (pc' := 77) dX10_unlike_76 rfl ?_
      refine v_istore_n (pc' := 78) (loc' := [.ref r0, .int x1, .int (x2 + 0), .int x3]) dX10_unlike_77 rfl (lt_l rfl) rfl ?_
      refine v_iinc (pc' := 81) (loc' := [.ref r0, .int x1, .int (x2 + 0), .int (x3 + 1)]) dX10_unlike_78 rfl rfl (kX_1 _) rfl ?_
      refine v_goto (pc' := 33) dX10_unlike_81 (by decide) ?_
      exact T
theorem eX10_draw {G : GG} {d : Nat} {h : Hp} {o : OU} {h' : Hp} (r0 : Nat) (x1 : Int32) (T : kH h r0 = 18 ∧ ¬ x1 = 0 ∧ (o = .inl (some (.int (((((upI h.2 r0 36 (((h.2 r0 36) * 1103515245) + 12345)) r0 36) >>> ((16 : Int32) &&& 31)) &&& 32767) - ((((upI h.2 r0 36 (((h.2 r0 36) * 1103515245) + 12345)) r0 36) >>> ((16 : Int32) &&& 31)) &&& 32767) / x1 * x1))) ∧ h' = (h.1, (upI h.2 r0 36 (((h.2 r0 36) * 1103515245) + 12345))))) : VM G mX10_draw d [.ref r0, .int x1] h o h' := by
  refine V.toM rfl rfl (le_l rfl) (cat_all rfl) ?_
  show V G mX10_draw d 0 [.ref r0, .int x1] [] h o h'
  refine v_aload_n (pc' := 1) dX10_draw_0 rfl rfl ?_
  refine v_aload_n (pc' := 2) dX10_draw_1 rfl rfl ?_
  obtain ⟨q1, T⟩ := T
  refine v_getI (pc' := 5) 8 36 dX10_draw_2 rfl (by decide) (by decide) rfl kf_X10_428 q1 ?_
  refine v_ldc_w (pc' := 8) (v := 1103515245) dX10_draw_5 rfl kv_X10_431 ?_
  refine v_imul (pc' := 9) dX10_draw_8 rfl ?_
  refine v_sipush (pc' := 12) (v := 12345) dX10_draw_9 rfl kS_12345 ?_
  refine v_iadd (pc' := 13) dX10_draw_12 rfl ?_
  refine v_putI (pc' := 16) 8 36 dX10_draw_13 rfl (by decide) (by decide) rfl rfl kf_X10_428 q1 ?_
  refine v_aload_n (pc' := 17) dX10_draw_16 rfl rfl ?_
  refine v_getI (pc' := 20) 8 36 dX10_draw_17 rfl (by decide) (by decide) rfl kf_X10_428 q1 ?_
  refine v_bipush (pc' := 22) (v := 16) dX10_draw_20 rfl kB_16 ?_
  refine v_ishr (pc' := 23) dX10_draw_22 rfl ?_
  refine v_sipush (pc' := 26) (v := 32767) dX10_draw_23 rfl kS_32767 ?_
  refine v_iand (pc' := 27) dX10_draw_26 rfl ?_
  refine v_iload_n (pc' := 28) dX10_draw_27 rfl rfl ?_
  obtain ⟨q2, T⟩ := T
  refine v_irem (pc' := 29) dX10_draw_28 rfl q2 ?_
  exact v_iret dX10_draw_29 rfl T
theorem eX10_stormBy {G : GG} {d : Nat} {h : Hp} {o : OU} {h' : Hp} (r0 : Nat) (x1 : Int32) (x2 : Int32) (x3 : Int32) (hd : 1 ≤ d) (T : kH h r0 = 18 ∧ ∃ h2, VM G mX10_copies (d - 1) [.ref (rH h r0 22), .ref (rH h r0 23)] h (.inl none) h2 ∧ kH h2 r0 = 18 ∧ V G mX10_stormBy d 19 [.ref r0, uV, .int x2, .int x3, .int 0, uV] [] (h2.1, (upI h2.2 r0 36 x1)) o h') : VM G mX10_stormBy d [.ref r0, .int x1, .int x2, .int x3] h o h' := by
  refine V.toM rfl rfl (le_l rfl) (cat_all rfl) ?_
  show V G mX10_stormBy d 0 [.ref r0, .int x1, .int x2, .int x3, uV, uV] [] h o h'
  have hdd : d - 1 + 1 ≤ d := by omega
  refine v_aload_n (pc' := 1) dX10_stormBy_0 rfl rfl ?_
  obtain ⟨q1, T⟩ := T
  refine v_getR (pc' := 4) 8 22 dX10_stormBy_1 rfl (by decide) (by decide) rfl kf_X10_31 q1 ?_
  refine v_aload_n (pc' := 5) dX10_stormBy_4 rfl rfl ?_
  refine v_getR (pc' := 8) 8 23 dX10_stormBy_5 rfl (by decide) (by decide) rfl kf_X10_34 q1 ?_
  obtain ⟨h2, k3, T⟩ := T
  refine v_callS (pc' := 11) (M1 := mX10_copies) (as := [.ref (rH h r0 22), .ref (rH h r0 23)]) (rest := []) dX10_stormBy_8 rfl ko_X10_361 kc_X10_copies kt_X10_copies (by decide) hdd rfl rfl (le_l rfl) k3 ?_
  refine v_aload_n (pc' := 12) dX10_stormBy_11 rfl rfl ?_
  refine v_iload_n (pc' := 13) dX10_stormBy_12 rfl rfl ?_
  obtain ⟨q4, T⟩ := T
  refine v_putI (pc' := 16) 8 36 dX10_stormBy_13 rfl (by decide) (by decide) rfl rfl kf_X10_428 q4 ?_
  refine v_iconst (pc' := 17) (v := 0) dX10_stormBy_16 rfl kI_0 ?_
  refine v_istore (pc' := 19) (loc' := [.ref r0, .int x1, .int x2, .int x3, .int 0, uV]) dX10_stormBy_17 rfl (lt_l rfl) rfl ?_
  exact V.drop (llp_r (llp_u (llp_r (llp_r (llp_r (llp_r llp_nil)))))) T
theorem bX10_stormBy_19 {G : GG} {d : Nat} {h : Hp} {o : OU} {h' : Hp} (r0 : Nat) (x2 : Int32) (x3 : Int32) (x4 : Int32) (hd : 1 ≤ d) (T : ((x2 ≤ x4 → (o = .inl none ∧ h' = h)) ∧ (¬ x2 ≤ x4 → kH h r0 = 18 ∧ ∃ z3 h2, VM G mX10_draw (d - 1) [.ref r0, .int 8] h (.inl (some (.int z3))) h2 ∧ kH h2 r0 = 18 ∧ ((2 ≤ z3 → ((¬ z3 = 2 → ((¬ z3 = 3 → ((¬ z3 = 4 → V G mX10_stormBy d 81 [.ref r0, uV, .int x2, .int x3, .int x4, .int z3] [.int 7, .int 0, .ref (rH h2 r0 37)] h2 o h') ∧ (z3 = 4 → V G mX10_stormBy d 81 [.ref r0, uV, .int x2, .int x3, .int x4, .int z3] [.int 5, .int 0, .ref (rH h2 r0 37)] h2 o h'))) ∧ (z3 = 3 → V G mX10_stormBy d 81 [.ref r0, uV, .int x2, .int x3, .int x4, .int z3] [.int 3, .int 0, .ref (rH h2 r0 37)] h2 o h'))) ∧ (z3 = 2 → V G mX10_stormBy d 81 [.ref r0, uV, .int x2, .int x3, .int x4, .int z3] [.int 6, .int 0, .ref (rH h2 r0 37)] h2 o h'))) ∧ (¬ 2 ≤ z3 → V G mX10_stormBy d 81 [.ref r0, uV, .int x2, .int x3, .int x4, .int z3] [.int 0, .int 0, .ref (rH h2 r0 37)] h2 o h'))))) : V G mX10_stormBy d 19 [.ref r0, uV, .int x2, .int x3, .int x4, uV] [] h o h' := by
  have hdd : d - 1 + 1 ≤ d := by omega
  refine v_iload (pc' := 21) dX10_stormBy_19 rfl rfl ?_
  refine v_iload_n (pc' := 22) dX10_stormBy_21 rfl rfl ?_
  refine v_icmp_ge (tgt := 193) (pc' := 25) dX10_stormBy_22 (by decide) rfl ⟨fun c1 => ?_, fun c1 => ?_⟩
  · have T := T.1 c1
    exact v_vret dX10_stormBy_193 rfl T
  · have T := T.2 c1
    refine v_aload_n (pc' := 26) dX10_stormBy_25 rfl rfl ?_
    refine v_bipush (pc' := 28) (v := 8) dX10_stormBy_26 rfl kB_8 ?_
    obtain ⟨q5, T⟩ := T
    obtain ⟨z3, h2, k4, T⟩ := T
    refine v_callV (pc' := 31) (M1 := mX10_draw) (as := [.int 8]) (r := r0) (rest := []) 8 dX10_stormBy_28 rfl ko_X10_432 kc_X10_draw ki_X10_draw ks_X10_draw (by decide) (by decide) hdd rfl rfl (le_l rfl) q5 k4 ?_
    refine v_istore (pc' := 33) (loc' := [.ref r0, uV, .int x2, .int x3, .int x4, .int z3]) dX10_stormBy_31 rfl (lt_l rfl) rfl ?_
    refine v_aload_n (pc' := 34) dX10_stormBy_33 rfl rfl ?_
    obtain ⟨q6, T⟩ := T
    refine v_getR (pc' := 37) 8 37 dX10_stormBy_34 rfl (by decide) (by decide) rfl kf_X10_60 q6 ?_
    refine v_iconst (pc' := 38) (v := 0) dX10_stormBy_37 rfl kI_0 ?_
    refine v_iload (pc' := 40) dX10_stormBy_38 rfl rfl ?_
    refine v_iconst (pc' := 41) (v := 2) dX10_stormBy_40 rfl kI_2 ?_
    refine v_icmp_ge (tgt := 48) (pc' := 44) dX10_stormBy_41 (by decide) rfl ⟨fun c7 => ?_, fun c7 => ?_⟩
    · have T := T.1 c7
      refine v_iload (pc' := 50) dX10_stormBy_48 rfl rfl ?_
      refine v_iconst (pc' := 51) (v := 2) dX10_stormBy_50 rfl kI_2 ?_
      refine v_icmp_ne (tgt := 59) (pc' := 54) dX10_stormBy_51 (by decide) rfl ⟨fun c8 => ?_, fun c8 => ?_⟩
      · have T := T.1 c8
        refine v_iload (pc' := 61) dX10_stormBy_59 rfl rfl ?_
        refine v_iconst (pc' := 62) (v := 3) dX10_stormBy_61 rfl kI_3 ?_
        refine v_icmp_ne (tgt := 69) (pc' := 65) dX10_stormBy_62 (by decide) rfl ⟨fun c9 => ?_, fun c9 => ?_⟩
        · have T := T.1 c9
          refine v_iload (pc' := 71) dX10_stormBy_69 rfl rfl ?_
          refine v_iconst (pc' := 72) (v := 4) dX10_stormBy_71 rfl kI_4 ?_
          refine v_icmp_ne (tgt := 79) (pc' := 75) dX10_stormBy_72 (by decide) rfl ⟨fun c10 => ?_, fun c10 => ?_⟩
          · have T := T.1 c10
            refine v_bipush (pc' := 81) (v := 7) dX10_stormBy_79 rfl kB_7 ?_
            exact T
          · have T := T.2 c10
            refine v_iconst (pc' := 76) (v := 5) dX10_stormBy_75 rfl kI_5 ?_
            refine v_goto (pc' := 81) dX10_stormBy_76 (by decide) ?_
            exact T
        · have T := T.2 c9
          refine v_iconst (pc' := 66) (v := 3) dX10_stormBy_65 rfl kI_3 ?_
          refine v_goto (pc' := 81) dX10_stormBy_66 (by decide) ?_
          exact T
      · have T := T.2 c8
        refine v_bipush (pc' := 56) (v := 6) dX10_stormBy_54 rfl kB_6 ?_
        refine v_goto (pc' := 81) dX10_stormBy_56 (by decide) ?_
        exact T
    · have T := T.2 c7
      refine v_iconst (pc' := 45) (v := 0) dX10_stormBy_44 rfl kI_0 ?_
      refine v_goto (pc' := 81) dX10_stormBy_45 (by decide) ?_
      exact T
theorem bX10_stormBy_81 {G : GG} {d : Nat} {h : Hp} {o : OU} {h' : Hp} (r0 : Nat) (x2 : Int32) (x3 : Int32) (x4 : Int32) (x5 : Int32) (s0 : Int32) (s1 : Int32) (t2 : Nat) (hd : 1 ≤ d) (T : kH h t2 = 1 ∧ vp_in s1 (lH h t2) ∧ kH h r0 = 18 ∧ ((3 ≤ x5 → ((5 ≤ x5 → ∃ z7 h6, VM G mX10_draw (d - 1) [.ref r0, .int ((upI h.2 t2 s1.toNatClampNeg s0) r0 11)] (h.1, (upI h.2 t2 s1.toNatClampNeg s0)) (.inl (some (.int z7))) h6 ∧ V G mX10_stormBy d 116 [.ref r0, uV, .int x2, .int x3, .int x4, .int x5] [.int z7, .int 1, .ref (rH h r0 37)] h6 o h') ∧ (¬ 5 ≤ x5 → ∃ z10 h9, VM G mX10_draw (d - 1) [.ref r0, .int 12] (h.1, (upI h.2 t2 s1.toNatClampNeg s0)) (.inl (some (.int z10))) h9 ∧ V G mX10_stormBy d 116 [.ref r0, uV, .int x2, .int x3, .int x4, .int x5] [.int z10, .int 1, .ref (rH h r0 37)] h9 o h'))) ∧ (¬ 3 ≤ x5 → V G mX10_stormBy d 116 [.ref r0, uV, .int x2, .int x3, .int x4, .int x5] [.int 0, .int 1, .ref (rH h r0 37)] (h.1, (upI h.2 t2 s1.toNatClampNeg s0)) o h'))) : V G mX10_stormBy d 81 [.ref r0, uV, .int x2, .int x3, .int x4, .int x5] [.int s0, .int s1, .ref t2] h o h' := by
  have hdd : d - 1 + 1 ≤ d := by omega
  obtain ⟨q1, T⟩ := T
  obtain ⟨q2, T⟩ := T
  refine v_iast (pc' := 82) dX10_stormBy_81 rfl rfl q1 q2 ?_
  refine v_aload_n (pc' := 83) dX10_stormBy_82 rfl rfl ?_
  obtain ⟨q3, T⟩ := T
  refine v_getR (pc' := 86) 8 37 dX10_stormBy_83 rfl (by decide) (by decide) rfl kf_X10_60 q3 ?_
  refine v_iconst (pc' := 87) (v := 1) dX10_stormBy_86 rfl kI_1 ?_
  refine v_iload (pc' := 89) dX10_stormBy_87 rfl rfl ?_
  refine v_iconst (pc' := 90) (v := 3) dX10_stormBy_89 rfl kI_3 ?_
  refine v_icmp_ge (tgt := 97) (pc' := 93) dX10_stormBy_90 (by decide) rfl ⟨fun c4 => ?_, fun c4 => ?_⟩
  · have T := T.1 c4
    refine v_aload_n (pc' := 98) dX10_stormBy_97 rfl rfl ?_
    refine v_iload (pc' := 100) dX10_stormBy_98 rfl rfl ?_
    refine v_iconst (pc' := 101) (v := 5) dX10_stormBy_100 rfl kI_5 ?_
    refine v_icmp_ge (tgt := 109) (pc' := 104) dX10_stormBy_101 (by decide) rfl ⟨fun c5 => ?_, fun c5 => ?_⟩
    · have T := T.1 c5
      refine v_aload_n (pc' := 110) dX10_stormBy_109 rfl rfl ?_
      refine v_getI (pc' := 113) 8 11 dX10_stormBy_110 rfl (by decide) (by decide) rfl kf_X10_168 q3 ?_
      obtain ⟨z7, h6, k8, T⟩ := T
      refine v_callV (pc' := 116) (M1 := mX10_draw) (as := [.int ((upI h.2 t2 s1.toNatClampNeg s0) r0 11)]) (r := r0) (rest := [.int 1, .ref (rH h r0 37)]) 8 dX10_stormBy_113 rfl ko_X10_432 kc_X10_draw ki_X10_draw ks_X10_draw (by decide) (by decide) hdd rfl rfl (le_l rfl) q3 k8 ?_
      exact T
    · have T := T.2 c5
      refine v_bipush (pc' := 106) (v := 12) dX10_stormBy_104 rfl kB_12 ?_
      refine v_goto (pc' := 113) dX10_stormBy_106 (by decide) ?_
      obtain ⟨z10, h9, k11, T⟩ := T
      refine v_callV (pc' := 116) (M1 := mX10_draw) (as := [.int 12]) (r := r0) (rest := [.int 1, .ref (rH h r0 37)]) 8 dX10_stormBy_113 rfl ko_X10_432 kc_X10_draw ki_X10_draw ks_X10_draw (by decide) (by decide) hdd rfl rfl (le_l rfl) q3 k11 ?_
      exact T
  · have T := T.2 c4
    refine v_iconst (pc' := 94) (v := 0) dX10_stormBy_93 rfl kI_0 ?_
    refine v_goto (pc' := 116) dX10_stormBy_94 (by decide) ?_
    exact T
theorem bX10_stormBy_116 {G : GG} {d : Nat} {h : Hp} {o : OU} {h' : Hp} (r0 : Nat) (x2 : Int32) (x3 : Int32) (x4 : Int32) (x5 : Int32) (s0 : Int32) (s1 : Int32) (t2 : Nat) (hd : 1 ≤ d) (T : kH h t2 = 1 ∧ vp_in s1 (lH h t2) ∧ kH h r0 = 18 ∧ ((3 ≤ x5 → ((¬ x5 = 3 → kH h (rH h r0 37) = 1 ∧ vp_in 2 (lH h (rH h r0 37)) ∧ ∃ z9 h8, VM G mX10_does (d - 1) [.ref r0, .ref (rH h r0 23), .ref (rH h r0 37)] (h.1, (upI (upI h.2 t2 s1.toNatClampNeg s0) (rH h r0 37) 2 0)) (.inl (some (.int z9))) h8 ∧ kH h8 r0 = 18 ∧ ∃ z12 h11, VM G mX10_draw (d - 1) [.ref r0, .int 16] h8 (.inl (some (.int z12))) h11 ∧ ((x3 ≤ z12 → V G mX10_stormBy d 19 [.ref r0, uV, .int x2, .int x3, .int (x4 + 1), uV] [] h11 o h') ∧ (¬ x3 ≤ z12 → kH h11 r0 = 18 ∧ ∃ z18 h17, VM G mX10_crashes (d - 1) [.ref (rH h11 r0 23)] h11 (.inl (some (.int z18))) h17 ∧ V G mX10_stormBy d 19 [.ref r0, uV, .int x2, .int x3, .int (x4 + 1), uV] [] h17 o h'))) ∧ (x5 = 3 → ∃ z21 h20, VM G mX10_draw (d - 1) [.ref r0, .int 100] (h.1, (upI h.2 t2 s1.toNatClampNeg s0)) (.inl (some (.int z21))) h20 ∧ kH h20 (rH h r0 37) = 1 ∧ vp_in 2 (lH h20 (rH h r0 37)) ∧ kH h20 r0 = 18 ∧ ∃ z27 h26, VM G mX10_does (d - 1) [.ref r0, .ref (rH h20 r0 23), .ref (rH h20 r0 37)] (h20.1, (upI h20.2 (rH h r0 37) 2 z21)) (.inl (some (.int z27))) h26 ∧ kH h26 r0 = 18 ∧ ∃ z30 h29, VM G mX10_draw (d - 1) [.ref r0, .int 16] h26 (.inl (some (.int z30))) h29 ∧ ((x3 ≤ z30 → V G mX10_stormBy d 19 [.ref r0, uV, .int x2, .int x3, .int (x4 + 1), uV] [] h29 o h') ∧ (¬ x3 ≤ z30 → kH h29 r0 = 18 ∧ ∃ z36 h35, VM G mX10_crashes (d - 1) [.ref (rH h29 r0 23)] h29 (.inl (some (.int z36))) h35 ∧ V G mX10_stormBy d 19 [.ref r0, uV, .int x2, .int x3, .int (x4 + 1), uV] [] h35 o h'))))) ∧ (¬ 3 ≤ x5 → ∃ z39 h38, VM G mX10_draw (d - 1) [.ref r0, .int 9] (h.1, (upI h.2 t2 s1.toNatClampNeg s0)) (.inl (some (.int z39))) h38 ∧ kH h38 (rH h r0 37) = 1 ∧ vp_in 2 (lH h38 (rH h r0 37)) ∧ kH h38 r0 = 18 ∧ ∃ z45 h44, VM G mX10_does (d - 1) [.ref r0, .ref (rH h38 r0 23), .ref (rH h38 r0 37)] (h38.1, (upI h38.2 (rH h r0 37) 2 (1 + z39))) (.inl (some (.int z45))) h44 ∧ kH h44 r0 = 18 ∧ ∃ z48 h47, VM G mX10_draw (d - 1) [.ref r0, .int 16] h44 (.inl (some (.int z48))) h47 ∧ ((x3 ≤ z48 → V G mX10_stormBy d 19 [.ref r0, uV, .int x2, .int x3, .int (x4 + 1), uV] [] h47 o h') ∧ (¬ x3 ≤ z48 → kH h47 r0 = 18 ∧ ∃ z54 h53, VM G mX10_crashes (d - 1) [.ref (rH h47 r0 23)] h47 (.inl (some (.int z54))) h53 ∧ V G mX10_stormBy d 19 [.ref r0, uV, .int x2, .int x3, .int (x4 + 1), uV] [] h53 o h'))))) : V G mX10_stormBy d 116 [.ref r0, uV, .int x2, .int x3, .int x4, .int x5] [.int s0, .int s1, .ref t2] h o h' := by
  have hdd : d - 1 + 1 ≤ d := by omega
  obtain ⟨q1, T⟩ := T
  obtain ⟨q2, T⟩ := T
  refine v_iast (pc' := 117) dX10_stormBy_116 rfl rfl q1 q2 ?_
  refine v_aload_n (pc' := 118) dX10_stormBy_117 rfl rfl ?_
  obtain ⟨q3, T⟩ := T
  refine v_getR (pc' := 121) 8 37 dX10_stormBy_118 rfl (by decide) (by decide) rfl kf_X10_60 q3 ?_
  refine v_iconst (pc' := 122) (v := 2) dX10_stormBy_121 rfl kI_2 ?_
  refine v_iload (pc' := 124) dX10_stormBy_122 rfl rfl ?_
  refine v_iconst (pc' := 125) (v := 3) dX10_stormBy_124 rfl kI_3 ?_
  refine v_icmp_ge (tgt := 139) (pc' := 128) dX10_stormBy_125 (by decide) rfl ⟨fun c4 => ?_, fun c4 => ?_⟩
  · have T := T.1 c4
    refine v_iload (pc' := 141) dX10_stormBy_139 rfl rfl ?_
    refine v_iconst (pc' := 142) (v := 3) dX10_stormBy_141 rfl kI_3 ?_
    refine v_icmp_ne (tgt := 154) (pc' := 145) dX10_stormBy_142 (by decide) rfl ⟨fun c5 => ?_, fun c5 => ?_⟩
    · have T := T.1 c5
      refine v_iconst (pc' := 155) (v := 0) dX10_stormBy_154 rfl kI_0 ?_
      obtain ⟨q6, T⟩ := T
      obtain ⟨q7, T⟩ := T
      refine v_iast (pc' := 156) dX10_stormBy_155 rfl kN_2 q6 q7 ?_
      refine v_aload_n (pc' := 157) dX10_stormBy_156 rfl rfl ?_
      refine v_aload_n (pc' := 158) dX10_stormBy_157 rfl rfl ?_
      refine v_getR (pc' := 161) 8 23 dX10_stormBy_158 rfl (by decide) (by decide) rfl kf_X10_34 q3 ?_
      refine v_aload_n (pc' := 162) dX10_stormBy_161 rfl rfl ?_
      refine v_getR (pc' := 165) 8 37 dX10_stormBy_162 rfl (by decide) (by decide) rfl kf_X10_60 q3 ?_
      obtain ⟨z9, h8, k10, T⟩ := T
      refine v_callV (pc' := 168) (M1 := mX10_does) (as := [.ref (rH h r0 23), .ref (rH h r0 37)]) (r := r0) (rest := []) 8 dX10_stormBy_165 rfl ko_X10_177 kc_X10_does ki_X10_does ks_X10_does (by decide) (by decide) hdd rfl rfl (le_l rfl) q3 k10 ?_
      refine v_pop (pc' := 169) dX10_stormBy_168 rfl rfl ?_
      refine v_aload_n (pc' := 170) dX10_stormBy_169 rfl rfl ?_
      refine v_bipush (pc' := 172) (v := 16) dX10_stormBy_170 rfl kB_16 ?_
      obtain ⟨q14, T⟩ := T
      obtain ⟨z12, h11, k13, T⟩ := T
      refine v_callV (pc' := 175) (M1 := mX10_draw) (as := [.int 16]) (r := r0) (rest := []) 8 dX10_stormBy_172 rfl ko_X10_432 kc_X10_draw ki_X10_draw ks_X10_draw (by decide) (by decide) hdd rfl rfl (le_l rfl) q14 k13 ?_
      refine v_iload_n (pc' := 176) dX10_stormBy_175 rfl rfl ?_
      refine v_icmp_ge (tgt := 187) (pc' := 179) dX10_stormBy_176 (by decide) rfl ⟨fun c15 => ?_, fun c15 => ?_⟩
      · have T := T.1 c15
        refine v_iinc (pc' := 190) (loc' := [.ref r0, uV, .int x2, .int x3, .int (x4 + 1), .int x5]) dX10_stormBy_187 rfl rfl (kX_1 _) rfl ?_
        refine v_goto (pc' := 19) dX10_stormBy_190 (by decide) ?_
        exact V.drop (llp_r (llp_r (llp_r (llp_r (llp_r (llp_u llp_nil)))))) T
      · have T := T.2 c15
        refine v_aload_n (pc' := 180) dX10_stormBy_179 rfl rfl ?_
        obtain ⟨q16, T⟩ := T
        refine v_getR (pc' := 183) 8 23 dX10_stormBy_180 rfl (by decide) (by decide) rfl kf_X10_34 q16 ?_
        obtain ⟨z18, h17, k19, T⟩ := T
        refine v_callS (pc' := 186) (M1 := mX10_crashes) (as := [.ref (rH h11 r0 23)]) (rest := []) dX10_stormBy_183 rfl ko_X10_346 kc_X10_crashes kt_X10_crashes (by decide) hdd rfl rfl (le_l rfl) k19 ?_
        refine v_pop (pc' := 187) dX10_stormBy_186 rfl rfl ?_
        refine v_iinc (pc' := 190) (loc' := [.ref r0, uV, .int x2, .int x3, .int (x4 + 1), .int x5]) dX10_stormBy_187 rfl rfl (kX_1 _) rfl ?_
        refine v_goto (pc' := 19) dX10_stormBy_190 (by decide) ?_
        exact V.drop (llp_r (llp_r (llp_r (llp_r (llp_r (llp_u llp_nil)))))) T
    · have T := T.2 c5
      refine v_aload_n (pc' := 146) dX10_stormBy_145 rfl rfl ?_
      refine v_bipush (pc' := 148) (v := 100) dX10_stormBy_146 rfl kB_100 ?_
      obtain ⟨z21, h20, k22, T⟩ := T
      refine v_callV (pc' := 151) (M1 := mX10_draw) (as := [.int 100]) (r := r0) (rest := [.int 2, .ref (rH h r0 37)]) 8 dX10_stormBy_148 rfl ko_X10_432 kc_X10_draw ki_X10_draw ks_X10_draw (by decide) (by decide) hdd rfl rfl (le_l rfl) q3 k22 ?_
      refine v_goto (pc' := 155) dX10_stormBy_151 (by decide) ?_
      obtain ⟨q23, T⟩ := T
      obtain ⟨q24, T⟩ := T
      refine v_iast (pc' := 156) dX10_stormBy_155 rfl kN_2 q23 q24 ?_
      refine v_aload_n (pc' := 157) dX10_stormBy_156 rfl rfl ?_
      refine v_aload_n (pc' := 158) dX10_stormBy_157 rfl rfl ?_
      obtain ⟨q25, T⟩ := T
      refine v_getR (pc' := 161) 8 23 dX10_stormBy_158 rfl (by decide) (by decide) rfl kf_X10_34 q25 ?_
      refine v_aload_n (pc' := 162) dX10_stormBy_161 rfl rfl ?_
      refine v_getR (pc' := 165) 8 37 dX10_stormBy_162 rfl (by decide) (by decide) rfl kf_X10_60 q25 ?_
      obtain ⟨z27, h26, k28, T⟩ := T
      refine v_callV (pc' := 168) (M1 := mX10_does) (as := [.ref (rH h20 r0 23), .ref (rH h20 r0 37)]) (r := r0) (rest := []) 8 dX10_stormBy_165 rfl ko_X10_177 kc_X10_does ki_X10_does ks_X10_does (by decide) (by decide) hdd rfl rfl (le_l rfl) q25 k28 ?_
      refine v_pop (pc' := 169) dX10_stormBy_168 rfl rfl ?_
      refine v_aload_n (pc' := 170) dX10_stormBy_169 rfl rfl ?_
      refine v_bipush (pc' := 172) (v := 16) dX10_stormBy_170 rfl kB_16 ?_
      obtain ⟨q32, T⟩ := T
      obtain ⟨z30, h29, k31, T⟩ := T
      refine v_callV (pc' := 175) (M1 := mX10_draw) (as := [.int 16]) (r := r0) (rest := []) 8 dX10_stormBy_172 rfl ko_X10_432 kc_X10_draw ki_X10_draw ks_X10_draw (by decide) (by decide) hdd rfl rfl (le_l rfl) q32 k31 ?_
      refine v_iload_n (pc' := 176) dX10_stormBy_175 rfl rfl ?_
      refine v_icmp_ge (tgt := 187) (pc' := 179) dX10_stormBy_176 (by decide) rfl ⟨fun c33 => ?_, fun c33 => ?_⟩
      · have T := T.1 c33
        refine v_iinc (pc' := 190) (loc' := [.ref r0, uV, .int x2, .int x3, .int (x4 + 1), .int x5]) dX10_stormBy_187 rfl rfl (kX_1 _) rfl ?_
        refine v_goto (pc' := 19) dX10_stormBy_190 (by decide) ?_
        exact V.drop (llp_r (llp_r (llp_r (llp_r (llp_r (llp_u llp_nil)))))) T
      · have T := T.2 c33
        refine v_aload_n (pc' := 180) dX10_stormBy_179 rfl rfl ?_
        obtain ⟨q34, T⟩ := T
        refine v_getR (pc' := 183) 8 23 dX10_stormBy_180 rfl (by decide) (by decide) rfl kf_X10_34 q34 ?_
        obtain ⟨z36, h35, k37, T⟩ := T
        refine v_callS (pc' := 186) (M1 := mX10_crashes) (as := [.ref (rH h29 r0 23)]) (rest := []) dX10_stormBy_183 rfl ko_X10_346 kc_X10_crashes kt_X10_crashes (by decide) hdd rfl rfl (le_l rfl) k37 ?_
        refine v_pop (pc' := 187) dX10_stormBy_186 rfl rfl ?_
        refine v_iinc (pc' := 190) (loc' := [.ref r0, uV, .int x2, .int x3, .int (x4 + 1), .int x5]) dX10_stormBy_187 rfl rfl (kX_1 _) rfl ?_
        refine v_goto (pc' := 19) dX10_stormBy_190 (by decide) ?_
        exact V.drop (llp_r (llp_r (llp_r (llp_r (llp_r (llp_u llp_nil)))))) T
  · have T := T.2 c4
    refine v_iconst (pc' := 129) (v := 1) dX10_stormBy_128 rfl kI_1 ?_
    refine v_aload_n (pc' := 130) dX10_stormBy_129 rfl rfl ?_
    refine v_bipush (pc' := 132) (v := 9) dX10_stormBy_130 rfl kB_9 ?_
    obtain ⟨z39, h38, k40, T⟩ := T
    refine v_callV (pc' := 135) (M1 := mX10_draw) (as := [.int 9]) (r := r0) (rest := [.int 1, .int 2, .ref (rH h r0 37)]) 8 dX10_stormBy_132 rfl ko_X10_432 kc_X10_draw ki_X10_draw ks_X10_draw (by decide) (by decide) hdd rfl rfl (le_l rfl) q3 k40 ?_
    refine v_iadd (pc' := 136) dX10_stormBy_135 rfl ?_
    refine v_goto (pc' := 155) dX10_stormBy_136 (by decide) ?_
    obtain ⟨q41, T⟩ := T
    obtain ⟨q42, T⟩ := T
    refine v_iast (pc' := 156) dX10_stormBy_155 rfl kN_2 q41 q42 ?_
    refine v_aload_n (pc' := 157) dX10_stormBy_156 rfl rfl ?_
    refine v_aload_n (pc' := 158) dX10_stormBy_157 rfl rfl ?_
    obtain ⟨q43, T⟩ := T
    refine v_getR (pc' := 161) 8 23 dX10_stormBy_158 rfl (by decide) (by decide) rfl kf_X10_34 q43 ?_
    refine v_aload_n (pc' := 162) dX10_stormBy_161 rfl rfl ?_
    refine v_getR (pc' := 165) 8 37 dX10_stormBy_162 rfl (by decide) (by decide) rfl kf_X10_60 q43 ?_
    obtain ⟨z45, h44, k46, T⟩ := T
    refine v_callV (pc' := 168) (M1 := mX10_does) (as := [.ref (rH h38 r0 23), .ref (rH h38 r0 37)]) (r := r0) (rest := []) 8 dX10_stormBy_165 rfl ko_X10_177 kc_X10_does ki_X10_does ks_X10_does (by decide) (by decide) hdd rfl rfl (le_l rfl) q43 k46 ?_
    refine v_pop (pc' := 169) dX10_stormBy_168 rfl rfl ?_
    refine v_aload_n (pc' := 170) dX10_stormBy_169 rfl rfl ?_
    refine v_bipush (pc' := 172) (v := 16) dX10_stormBy_170 rfl kB_16 ?_
    obtain ⟨q50, T⟩ := T
    obtain ⟨z48, h47, k49, T⟩ := T
    refine v_callV (pc' := 175) (M1 := mX10_draw) (as := [.int 16]) (r := r0) (rest := []) 8 dX10_stormBy_172 rfl ko_X10_432 kc_X10_draw ki_X10_draw ks_X10_draw (by decide) (by decide) hdd rfl rfl (le_l rfl) q50 k49 ?_
    refine v_iload_n (pc' := 176) dX10_stormBy_175 rfl rfl ?_
    refine v_icmp_ge (tgt := 187) (pc' := 179) dX10_stormBy_176 (by decide) rfl ⟨fun c51 => ?_, fun c51 => ?_⟩
    · have T := T.1 c51
      refine v_iinc (pc' := 190) (loc' := [.ref r0, uV, .int x2, .int x3, .int (x4 + 1), .int x5]) dX10_stormBy_187 rfl rfl (kX_1 _) rfl ?_
      refine v_goto (pc' := 19) dX10_stormBy_190 (by decide) ?_
      exact V.drop (llp_r (llp_r (llp_r (llp_r (llp_r (llp_u llp_nil)))))) T
    · have T := T.2 c51
      refine v_aload_n (pc' := 180) dX10_stormBy_179 rfl rfl ?_
      obtain ⟨q52, T⟩ := T
      refine v_getR (pc' := 183) 8 23 dX10_stormBy_180 rfl (by decide) (by decide) rfl kf_X10_34 q52 ?_
      obtain ⟨z54, h53, k55, T⟩ := T
      refine v_callS (pc' := 186) (M1 := mX10_crashes) (as := [.ref (rH h47 r0 23)]) (rest := []) dX10_stormBy_183 rfl ko_X10_346 kc_X10_crashes kt_X10_crashes (by decide) hdd rfl rfl (le_l rfl) k55 ?_
      refine v_pop (pc' := 187) dX10_stormBy_186 rfl rfl ?_
      refine v_iinc (pc' := 190) (loc' := [.ref r0, uV, .int x2, .int x3, .int (x4 + 1), .int x5]) dX10_stormBy_187 rfl rfl (kX_1 _) rfl ?_
      refine v_goto (pc' := 19) dX10_stormBy_190 (by decide) ?_
      exact V.drop (llp_r (llp_r (llp_r (llp_r (llp_r (llp_u llp_nil)))))) T
theorem eX10_isStorm {G : GG} {d : Nat} {h : Hp} {o : OU} {h' : Hp} (x0 : Int32) (x1 : Int32) (hd : 1 ≤ d) (T : ∃ z2 h1, VM G mX10_in (d - 1) [.int x0, .int 1, .int 96] h (.inl (some (.int z2))) h1 ∧ ((z2 = 0 → (o = .inl (some (.int 0)) ∧ h' = h1)) ∧ (¬ z2 = 0 → ∃ z6 h5, VM G mX10_in (d - 1) [.int x1, .int 0, .int 16] h1 (.inl (some (.int z6))) h5 ∧ ((z6 = 0 → (o = .inl (some (.int 0)) ∧ h' = h5)) ∧ (¬ z6 = 0 → (o = .inl (some (.int 1)) ∧ h' = h5)))))) : VM G mX10_isStorm d [.int x0, .int x1] h o h' := by
  refine V.toM rfl rfl (le_l rfl) (cat_all rfl) ?_
  show V G mX10_isStorm d 0 [.int x0, .int x1] [] h o h'
  have hdd : d - 1 + 1 ≤ d := by omega
  refine v_iload_n (pc' := 1) dX10_isStorm_0 rfl rfl ?_
  refine v_iconst (pc' := 2) (v := 1) dX10_isStorm_1 rfl kI_1 ?_
  refine v_bipush (pc' := 4) (v := 96) dX10_isStorm_2 rfl kB_96 ?_
  obtain ⟨z2, h1, k3, T⟩ := T
  refine v_callS (pc' := 7) (M1 := mX10_in) (as := [.int x0, .int 1, .int 96]) (rest := []) dX10_isStorm_4 rfl ko_X10_106 kc_X10_in kt_X10_in (by decide) hdd rfl rfl (le_l rfl) k3 ?_
  refine v_if_eq (tgt := 24) (pc' := 10) dX10_isStorm_7 (by decide) rfl ⟨fun c4 => ?_, fun c4 => ?_⟩
  · have T := T.1 c4
    refine v_iconst (pc' := 25) (v := 0) dX10_isStorm_24 rfl kI_0 ?_
    exact v_zret dX10_isStorm_25 rfl (Or.inl rfl) T
  · have T := T.2 c4
    refine v_iload_n (pc' := 11) dX10_isStorm_10 rfl rfl ?_
    refine v_iconst (pc' := 12) (v := 0) dX10_isStorm_11 rfl kI_0 ?_
    refine v_bipush (pc' := 14) (v := 16) dX10_isStorm_12 rfl kB_16 ?_
    obtain ⟨z6, h5, k7, T⟩ := T
    refine v_callS (pc' := 17) (M1 := mX10_in) (as := [.int x1, .int 0, .int 16]) (rest := []) dX10_isStorm_14 rfl ko_X10_106 kc_X10_in kt_X10_in (by decide) hdd rfl rfl (le_l rfl) k7 ?_
    refine v_if_eq (tgt := 24) (pc' := 20) dX10_isStorm_17 (by decide) rfl ⟨fun c8 => ?_, fun c8 => ?_⟩
    · have T := T.1 c8
      refine v_iconst (pc' := 25) (v := 0) dX10_isStorm_24 rfl kI_0 ?_
      exact v_zret dX10_isStorm_25 rfl (Or.inl rfl) T
    · have T := T.2 c8
      refine v_iconst (pc' := 21) (v := 1) dX10_isStorm_20 rfl kI_1 ?_
      refine v_goto (pc' := 25) dX10_isStorm_21 (by decide) ?_
      exact v_zret dX10_isStorm_25 rfl (Or.inr rfl) T
theorem eX10_storm {G : GG} {d : Nat} {h : Hp} {o : OU} {h' : Hp} (r0 : Nat) (x1 : Int32) (x2 : Int32) (x3 : Int32) (x4 : Int32) (hd : 1 ≤ d) (T : kH h r0 = 18 ∧ ∃ z3 h2, VM G mX10_isStorm (d - 1) [.int x2, .int x3] (h.1, (upI h.2 r0 0 0)) (.inl (some (.int z3))) h2 ∧ ((z3 = 0 → V G mX10_storm d 29 [.ref r0, .int x1, .int x2, .int x3, .int x4] [.int 1, .ref r0] h2 o h') ∧ (¬ z3 = 0 → ∃ z7 h6, VM G mX10_in (d - 1) [.int x4, .int 0, .int 3] h2 (.inl (some (.int z7))) h6 ∧ ((¬ z7 = 0 → V G mX10_storm d 29 [.ref r0, .int x1, .int x2, .int x3, .int x4] [.int 0, .ref r0] h6 o h') ∧ (z7 = 0 → V G mX10_storm d 29 [.ref r0, .int x1, .int x2, .int x3, .int x4] [.int 1, .ref r0] h6 o h'))))) : VM G mX10_storm d [.ref r0, .int x1, .int x2, .int x3, .int x4] h o h' := by
  refine V.toM rfl rfl (le_l rfl) (cat_all rfl) ?_
  show V G mX10_storm d 0 [.ref r0, .int x1, .int x2, .int x3, .int x4] [] h o h'
  have hdd : d - 1 + 1 ≤ d := by omega
  refine v_aload_n (pc' := 1) dX10_storm_0 rfl rfl ?_
  refine v_iconst (pc' := 2) (v := 0) dX10_storm_1 rfl kI_0 ?_
  obtain ⟨q1, T⟩ := T
  refine v_putI (pc' := 5) 8 0 dX10_storm_2 rfl (by decide) (by decide) rfl rfl kf_X10_72 q1 ?_
  refine v_aload_n (pc' := 6) dX10_storm_5 rfl rfl ?_
  refine v_iload_n (pc' := 7) dX10_storm_6 rfl rfl ?_
  refine v_iload_n (pc' := 8) dX10_storm_7 rfl rfl ?_
  obtain ⟨z3, h2, k4, T⟩ := T
  refine v_callS (pc' := 11) (M1 := mX10_isStorm) (as := [.int x2, .int x3]) (rest := [.ref r0]) dX10_storm_8 rfl ko_X10_435 kc_X10_isStorm kt_X10_isStorm (by decide) hdd rfl rfl (le_l rfl) k4 ?_
  refine v_if_eq (tgt := 24) (pc' := 14) dX10_storm_11 (by decide) rfl ⟨fun c5 => ?_, fun c5 => ?_⟩
  · have T := T.1 c5
    refine v_iconst (pc' := 25) (v := 1) dX10_storm_24 rfl kI_1 ?_
    refine v_goto (pc' := 29) dX10_storm_25 (by decide) ?_
    exact T
  · have T := T.2 c5
    refine v_iload (pc' := 16) dX10_storm_14 rfl rfl ?_
    refine v_iconst (pc' := 17) (v := 0) dX10_storm_16 rfl kI_0 ?_
    refine v_iconst (pc' := 18) (v := 3) dX10_storm_17 rfl kI_3 ?_
    obtain ⟨z7, h6, k8, T⟩ := T
    refine v_callS (pc' := 21) (M1 := mX10_in) (as := [.int x4, .int 0, .int 3]) (rest := [.ref r0]) dX10_storm_18 rfl ko_X10_106 kc_X10_in kt_X10_in (by decide) hdd rfl rfl (le_l rfl) k8 ?_
    refine v_if_ne (tgt := 28) (pc' := 24) dX10_storm_21 (by decide) rfl ⟨fun c9 => ?_, fun c9 => ?_⟩
    · have T := T.1 c9
      refine v_iconst (pc' := 29) (v := 0) dX10_storm_28 rfl kI_0 ?_
      exact T
    · have T := T.2 c9
      refine v_iconst (pc' := 25) (v := 1) dX10_storm_24 rfl kI_1 ?_
      refine v_goto (pc' := 29) dX10_storm_25 (by decide) ?_
      exact T
theorem bX10_storm_29 {G : GG} {d : Nat} {h : Hp} {o : OU} {h' : Hp} (r0 : Nat) (x1 : Int32) (x2 : Int32) (x3 : Int32) (x4 : Int32) (s0 : Int32) (t1 : Nat) (hd : 1 ≤ d) (T : kH h t1 = 18 ∧ ∃ z2 h1, VM G mX10_bad (d - 1) [.ref t1, .int s0, .int 1, .int 1] h (.inl (some (.int z2))) h1 ∧ ((z2 = 0 → kH h1 r0 = 18 ∧ ∃ h6, VM G mX10_stormBy (d - 1) [.ref r0, .int x1, .int x2, .int x3] h1 (.inl none) h6 ∧ ((¬ x4 = 0 → ((¬ x4 = 1 → ((¬ x4 = 2 → kH h6 r0 = 18 ∧ ∃ z14 h13, VM G mX10_brokenOf (d - 1) [.ref r0, .ref (rH h6 r0 23), .int 256] h6 (.inl (some (.int z14))) h13 ∧ (o = .inl (some (.int z14)) ∧ h' = h13)) ∧ (x4 = 2 → kH h6 r0 = 18 ∧ kH h6 (rH h6 r0 23) = 1 ∧ vp_in 3395 (lH h6 (rH h6 r0 23)) ∧ kH h6 (rH h6 r0 22) = 1 ∧ vp_in 3395 (lH h6 (rH h6 r0 22)) ∧ (o = .inl (some (.int ((h6.2 (rH h6 r0 23) 3395) - (h6.2 (rH h6 r0 22) 3395)))) ∧ h' = h6)))) ∧ (x4 = 1 → kH h6 r0 = 18 ∧ ∃ z23 h22, VM G mX10_linked (d - 1) [.ref (rH h6 r0 23), .int 256] h6 (.inl (some (.int z23))) h22 ∧ (o = .inl (some (.int z23)) ∧ h' = h22)))) ∧ (x4 = 0 → kH h6 r0 = 18 ∧ ∃ z27 h26, VM G mX10_leaking (d - 1) [.ref r0, .ref (rH h6 r0 23), .int 256] h6 (.inl (some (.int z27))) h26 ∧ ∃ z30 h29, VM G mX10_ones (d - 1) [.int z27] h26 (.inl (some (.int z30))) h29 ∧ (o = .inl (some (.int z30)) ∧ h' = h29)))) ∧ (¬ z2 = 0 → (o = .inl (some (.int 0)) ∧ h' = h1)))) : V G mX10_storm d 29 [.ref r0, .int x1, .int x2, .int x3, .int x4] [.int s0, .ref t1] h o h' := by
  have hdd : d - 1 + 1 ≤ d := by omega
  refine v_iconst (pc' := 30) (v := 1) dX10_storm_29 rfl kI_1 ?_
  refine v_iconst (pc' := 31) (v := 1) dX10_storm_30 rfl kI_1 ?_
  obtain ⟨q4, T⟩ := T
  obtain ⟨z2, h1, k3, T⟩ := T
  refine v_callV (pc' := 34) (M1 := mX10_bad) (as := [.int s0, .int 1, .int 1]) (r := t1) (rest := []) 8 dX10_storm_31 rfl ko_X10_155 kc_X10_bad ki_X10_bad ks_X10_bad (by decide) (by decide) hdd rfl rfl (le_l rfl) q4 k3 ?_
  refine v_if_eq (tgt := 39) (pc' := 37) dX10_storm_34 (by decide) rfl ⟨fun c5 => ?_, fun c5 => ?_⟩
  · have T := T.1 c5
    refine v_aload_n (pc' := 40) dX10_storm_39 rfl rfl ?_
    refine v_iload_n (pc' := 41) dX10_storm_40 rfl rfl ?_
    refine v_iload_n (pc' := 42) dX10_storm_41 rfl rfl ?_
    refine v_iload_n (pc' := 43) dX10_storm_42 rfl rfl ?_
    obtain ⟨q8, T⟩ := T
    obtain ⟨h6, k7, T⟩ := T
    refine v_callV (pc' := 46) (M1 := mX10_stormBy) (as := [.int x1, .int x2, .int x3]) (r := r0) (rest := []) 8 dX10_storm_43 rfl ko_X10_438 kc_X10_stormBy ki_X10_stormBy ks_X10_stormBy (by decide) (by decide) hdd rfl rfl (le_l rfl) q8 k7 ?_
    refine v_iload (pc' := 48) dX10_storm_46 rfl rfl ?_
    refine v_if_ne (tgt := 68) (pc' := 51) dX10_storm_48 (by decide) rfl ⟨fun c9 => ?_, fun c9 => ?_⟩
    · have T := T.1 c9
      refine v_iload (pc' := 70) dX10_storm_68 rfl rfl ?_
      refine v_iconst (pc' := 71) (v := 1) dX10_storm_70 rfl kI_1 ?_
      refine v_icmp_ne (tgt := 87) (pc' := 74) dX10_storm_71 (by decide) rfl ⟨fun c10 => ?_, fun c10 => ?_⟩
      · have T := T.1 c10
        refine v_iload (pc' := 89) dX10_storm_87 rfl rfl ?_
        refine v_iconst (pc' := 90) (v := 2) dX10_storm_89 rfl kI_2 ?_
        refine v_icmp_ne (tgt := 113) (pc' := 93) dX10_storm_90 (by decide) rfl ⟨fun c11 => ?_, fun c11 => ?_⟩
        · have T := T.1 c11
          refine v_aload_n (pc' := 114) dX10_storm_113 rfl rfl ?_
          refine v_aload_n (pc' := 115) dX10_storm_114 rfl rfl ?_
          obtain ⟨q12, T⟩ := T
          refine v_getR (pc' := 118) 8 23 dX10_storm_115 rfl (by decide) (by decide) rfl kf_X10_34 q12 ?_
          refine v_sipush (pc' := 121) (v := 256) dX10_storm_118 rfl kS_256 ?_
          obtain ⟨z14, h13, k15, T⟩ := T
          refine v_callV (pc' := 124) (M1 := mX10_brokenOf) (as := [.ref (rH h6 r0 23), .int 256]) (r := r0) (rest := []) 8 dX10_storm_121 rfl ko_X10_383 kc_X10_brokenOf ki_X10_brokenOf ks_X10_brokenOf (by decide) (by decide) hdd rfl rfl (le_l rfl) q12 k15 ?_
          exact v_iret dX10_storm_124 rfl T
        · have T := T.2 c11
          refine v_aload_n (pc' := 94) dX10_storm_93 rfl rfl ?_
          obtain ⟨q16, T⟩ := T
          refine v_getR (pc' := 97) 8 23 dX10_storm_94 rfl (by decide) (by decide) rfl kf_X10_34 q16 ?_
          refine v_sipush (pc' := 100) (v := 3395) dX10_storm_97 rfl kS_3395 ?_
          obtain ⟨q17, T⟩ := T
          obtain ⟨q18, T⟩ := T
          refine v_iald (pc' := 101) dX10_storm_100 rfl kN_3395 q17 q18 ?_
          refine v_aload_n (pc' := 102) dX10_storm_101 rfl rfl ?_
          refine v_getR (pc' := 105) 8 22 dX10_storm_102 rfl (by decide) (by decide) rfl kf_X10_31 q16 ?_
          refine v_sipush (pc' := 108) (v := 3395) dX10_storm_105 rfl kS_3395 ?_
          obtain ⟨q19, T⟩ := T
          obtain ⟨q20, T⟩ := T
          refine v_iald (pc' := 109) dX10_storm_108 rfl kN_3395 q19 q20 ?_
          refine v_isub (pc' := 110) dX10_storm_109 rfl ?_
          refine v_goto (pc' := 124) dX10_storm_110 (by decide) ?_
          exact v_iret dX10_storm_124 rfl T
      · have T := T.2 c10
        refine v_aload_n (pc' := 75) dX10_storm_74 rfl rfl ?_
        obtain ⟨q21, T⟩ := T
        refine v_getR (pc' := 78) 8 23 dX10_storm_75 rfl (by decide) (by decide) rfl kf_X10_34 q21 ?_
        refine v_sipush (pc' := 81) (v := 256) dX10_storm_78 rfl kS_256 ?_
        obtain ⟨z23, h22, k24, T⟩ := T
        refine v_callS (pc' := 84) (M1 := mX10_linked) (as := [.ref (rH h6 r0 23), .int 256]) (rest := []) dX10_storm_81 rfl ko_X10_315 kc_X10_linked kt_X10_linked (by decide) hdd rfl rfl (le_l rfl) k24 ?_
        refine v_goto (pc' := 124) dX10_storm_84 (by decide) ?_
        exact v_iret dX10_storm_124 rfl T
    · have T := T.2 c9
      refine v_aload_n (pc' := 52) dX10_storm_51 rfl rfl ?_
      refine v_aload_n (pc' := 53) dX10_storm_52 rfl rfl ?_
      obtain ⟨q25, T⟩ := T
      refine v_getR (pc' := 56) 8 23 dX10_storm_53 rfl (by decide) (by decide) rfl kf_X10_34 q25 ?_
      refine v_sipush (pc' := 59) (v := 256) dX10_storm_56 rfl kS_256 ?_
      obtain ⟨z27, h26, k28, T⟩ := T
      refine v_callV (pc' := 62) (M1 := mX10_leaking) (as := [.ref (rH h6 r0 23), .int 256]) (r := r0) (rest := []) 8 dX10_storm_59 rfl ko_X10_380 kc_X10_leaking ki_X10_leaking ks_X10_leaking (by decide) (by decide) hdd rfl rfl (le_l rfl) q25 k28 ?_
      obtain ⟨z30, h29, k31, T⟩ := T
      refine v_callS (pc' := 65) (M1 := mX10_ones) (as := [.int z27]) (rest := []) dX10_storm_62 rfl ko_X10_398 kc_X10_ones kt_X10_ones (by decide) hdd rfl rfl (le_l rfl) k31 ?_
      refine v_goto (pc' := 124) dX10_storm_65 (by decide) ?_
      exact v_iret dX10_storm_124 rfl T
  · have T := T.2 c5
    refine v_iconst (pc' := 38) (v := 0) dX10_storm_37 rfl kI_0 ?_
    exact v_iret dX10_storm_38 rfl T
theorem eX10_span {G : GG} {d : Nat} {h : Hp} {o : OU} {h' : Hp} (r0 : Nat) (x1 : Int32) (x2 : Int32) (x3 : Int32) (x4 : Int32) (x5 : Int32) (x6 : Int32) (hd : 1 ≤ d) (T : kH h r0 = 18 ∧ ∃ z3 h2, VM G mX10_isNode (d - 1) [.int x6] (h.1, (upI h.2 r0 0 0)) (.inl (some (.int z3))) h2 ∧ ((¬ z3 = 0 → V G mX10_span d 19 [.ref r0, .int x1, .int x2, .int x3, .int x4, .int x5, .int x6, uV, uV, uV, uV, uV] [.int 0, .ref r0] h2 o h') ∧ (z3 = 0 → V G mX10_span d 19 [.ref r0, .int x1, .int x2, .int x3, .int x4, .int x5, .int x6, uV, uV, uV, uV, uV] [.int 1, .ref r0] h2 o h'))) : VM G mX10_span d [.ref r0, .int x1, .int x2, .int x3, .int x4, .int x5, .int x6] h o h' := by
  refine V.toM rfl rfl (le_l rfl) (cat_all rfl) ?_
  show V G mX10_span d 0 [.ref r0, .int x1, .int x2, .int x3, .int x4, .int x5, .int x6, uV, uV, uV, uV, uV] [] h o h'
  have hdd : d - 1 + 1 ≤ d := by omega
  refine v_aload_n (pc' := 1) dX10_span_0 rfl rfl ?_
  refine v_iconst (pc' := 2) (v := 0) dX10_span_1 rfl kI_0 ?_
  obtain ⟨q1, T⟩ := T
  refine v_putI (pc' := 5) 8 0 dX10_span_2 rfl (by decide) (by decide) rfl rfl kf_X10_72 q1 ?_
  refine v_aload_n (pc' := 6) dX10_span_5 rfl rfl ?_
  refine v_iload (pc' := 8) dX10_span_6 rfl rfl ?_
  obtain ⟨z3, h2, k4, T⟩ := T
  refine v_callS (pc' := 11) (M1 := mX10_isNode) (as := [.int x6]) (rest := [.ref r0]) dX10_span_8 rfl ko_X10_377 kc_X10_isNode kt_X10_isNode (by decide) hdd rfl rfl (le_l rfl) k4 ?_
  refine v_if_ne (tgt := 18) (pc' := 14) dX10_span_11 (by decide) rfl ⟨fun c5 => ?_, fun c5 => ?_⟩
  · have T := T.1 c5
    refine v_iconst (pc' := 19) (v := 0) dX10_span_18 rfl kI_0 ?_
    exact T
  · have T := T.2 c5
    refine v_iconst (pc' := 15) (v := 1) dX10_span_14 rfl kI_1 ?_
    refine v_goto (pc' := 19) dX10_span_15 (by decide) ?_
    exact T
theorem bX10_span_19 {G : GG} {d : Nat} {h : Hp} {o : OU} {h' : Hp} (r0 : Nat) (x1 : Int32) (x2 : Int32) (x3 : Int32) (x4 : Int32) (x5 : Int32) (x6 : Int32) (s0 : Int32) (t1 : Nat) (hd : 1 ≤ d) (T : kH h t1 = 18 ∧ ∃ z2 h1, VM G mX10_bad (d - 1) [.ref t1, .int s0, .int 1, .int 0] h (.inl (some (.int z2))) h1 ∧ ((¬ z2 = 0 → (o = .inl (some (.int 0)) ∧ h' = h1)) ∧ (z2 = 0 → ∃ z7 h6, VM G mX10_in (d - 1) [.int x2, .int 1, .int 5] h1 (.inl (some (.int z7))) h6 ∧ ((z7 = 0 → kH h6 r0 = 18 ∧ ∃ z11 h10, VM G mX10_bad (d - 1) [.ref r0, .int 1, .int 2, .int 1] h6 (.inl (some (.int z11))) h10 ∧ ((z11 = 0 → V G mX10_span d 83 [.ref r0, .int x1, .int x2, .int x3, .int x4, .int x5, .int x6, .int (-1), .int 0, .int 0, .int 0, uV] [] h10 o h') ∧ (¬ z11 = 0 → (o = .inl (some (.int 0)) ∧ h' = h10)))) ∧ (¬ z7 = 0 → ∃ z16 h15, VM G mX10_isStorm (d - 1) [.int x3, .int x4] h6 (.inl (some (.int z16))) h15 ∧ ((z16 = 0 → kH h15 r0 = 18 ∧ ∃ z20 h19, VM G mX10_bad (d - 1) [.ref r0, .int 1, .int 2, .int 1] h15 (.inl (some (.int z20))) h19 ∧ ((z20 = 0 → V G mX10_span d 83 [.ref r0, .int x1, .int x2, .int x3, .int x4, .int x5, .int x6, .int (-1), .int 0, .int 0, .int 0, uV] [] h19 o h') ∧ (¬ z20 = 0 → (o = .inl (some (.int 0)) ∧ h' = h19)))) ∧ (¬ z16 = 0 → ∃ z25 h24, VM G mX10_in (d - 1) [.int x5, .int 0, .int 2] h15 (.inl (some (.int z25))) h24 ∧ ((¬ z25 = 0 → kH h24 r0 = 18 ∧ ∃ z29 h28, VM G mX10_bad (d - 1) [.ref r0, .int 0, .int 2, .int 1] h24 (.inl (some (.int z29))) h28 ∧ ((z29 = 0 → V G mX10_span d 83 [.ref r0, .int x1, .int x2, .int x3, .int x4, .int x5, .int x6, .int (-1), .int 0, .int 0, .int 0, uV] [] h28 o h') ∧ (¬ z29 = 0 → (o = .inl (some (.int 0)) ∧ h' = h28)))) ∧ (z25 = 0 → kH h24 r0 = 18 ∧ ∃ z34 h33, VM G mX10_bad (d - 1) [.ref r0, .int 1, .int 2, .int 1] h24 (.inl (some (.int z34))) h33 ∧ ((z34 = 0 → V G mX10_span d 83 [.ref r0, .int x1, .int x2, .int x3, .int x4, .int x5, .int x6, .int (-1), .int 0, .int 0, .int 0, uV] [] h33 o h') ∧ (¬ z34 = 0 → (o = .inl (some (.int 0)) ∧ h' = h33)))))))))))) : V G mX10_span d 19 [.ref r0, .int x1, .int x2, .int x3, .int x4, .int x5, .int x6, uV, uV, uV, uV, uV] [.int s0, .ref t1] h o h' := by
  have hdd : d - 1 + 1 ≤ d := by omega
  refine v_iconst (pc' := 20) (v := 1) dX10_span_19 rfl kI_1 ?_
  refine v_iconst (pc' := 21) (v := 0) dX10_span_20 rfl kI_0 ?_
  obtain ⟨q4, T⟩ := T
  obtain ⟨z2, h1, k3, T⟩ := T
  refine v_callV (pc' := 24) (M1 := mX10_bad) (as := [.int s0, .int 1, .int 0]) (r := t1) (rest := []) 8 dX10_span_21 rfl ko_X10_155 kc_X10_bad ki_X10_bad ks_X10_bad (by decide) (by decide) hdd rfl rfl (le_l rfl) q4 k3 ?_
  refine v_if_ne (tgt := 69) (pc' := 27) dX10_span_24 (by decide) rfl ⟨fun c5 => ?_, fun c5 => ?_⟩
  · have T := T.1 c5
    refine v_iconst (pc' := 70) (v := 0) dX10_span_69 rfl kI_0 ?_
    exact v_iret dX10_span_70 rfl T
  · have T := T.2 c5
    refine v_aload_n (pc' := 28) dX10_span_27 rfl rfl ?_
    refine v_iload_n (pc' := 29) dX10_span_28 rfl rfl ?_
    refine v_iconst (pc' := 30) (v := 1) dX10_span_29 rfl kI_1 ?_
    refine v_iconst (pc' := 31) (v := 5) dX10_span_30 rfl kI_5 ?_
    obtain ⟨z7, h6, k8, T⟩ := T
    refine v_callS (pc' := 34) (M1 := mX10_in) (as := [.int x2, .int 1, .int 5]) (rest := [.ref r0]) dX10_span_31 rfl ko_X10_106 kc_X10_in kt_X10_in (by decide) hdd rfl rfl (le_l rfl) k8 ?_
    refine v_if_eq (tgt := 56) (pc' := 37) dX10_span_34 (by decide) rfl ⟨fun c9 => ?_, fun c9 => ?_⟩
    · have T := T.1 c9
      refine v_iconst (pc' := 57) (v := 1) dX10_span_56 rfl kI_1 ?_
      refine v_goto (pc' := 61) dX10_span_57 (by decide) ?_
      refine v_iconst (pc' := 62) (v := 2) dX10_span_61 rfl kI_2 ?_
      refine v_iconst (pc' := 63) (v := 1) dX10_span_62 rfl kI_1 ?_
      obtain ⟨q13, T⟩ := T
      obtain ⟨z11, h10, k12, T⟩ := T
      refine v_callV (pc' := 66) (M1 := mX10_bad) (as := [.int 1, .int 2, .int 1]) (r := r0) (rest := []) 8 dX10_span_63 rfl ko_X10_155 kc_X10_bad ki_X10_bad ks_X10_bad (by decide) (by decide) hdd rfl rfl (le_l rfl) q13 k12 ?_
      refine v_if_eq (tgt := 71) (pc' := 69) dX10_span_66 (by decide) rfl ⟨fun c14 => ?_, fun c14 => ?_⟩
      · have T := T.1 c14
        refine v_iconst (pc' := 72) (v := (-1)) dX10_span_71 rfl kI_m1 ?_
        refine v_istore (pc' := 74) (loc' := [.ref r0, .int x1, .int x2, .int x3, .int x4, .int x5, .int x6, .int (-1), uV, uV, uV, uV]) dX10_span_72 rfl (lt_l rfl) rfl ?_
        refine v_iconst (pc' := 75) (v := 0) dX10_span_74 rfl kI_0 ?_
        refine v_istore (pc' := 77) (loc' := [.ref r0, .int x1, .int x2, .int x3, .int x4, .int x5, .int x6, .int (-1), .int 0, uV, uV, uV]) dX10_span_75 rfl (lt_l rfl) rfl ?_
        refine v_iconst (pc' := 78) (v := 0) dX10_span_77 rfl kI_0 ?_
        refine v_istore (pc' := 80) (loc' := [.ref r0, .int x1, .int x2, .int x3, .int x4, .int x5, .int x6, .int (-1), .int 0, .int 0, uV, uV]) dX10_span_78 rfl (lt_l rfl) rfl ?_
        refine v_iconst (pc' := 81) (v := 0) dX10_span_80 rfl kI_0 ?_
        refine v_istore (pc' := 83) (loc' := [.ref r0, .int x1, .int x2, .int x3, .int x4, .int x5, .int x6, .int (-1), .int 0, .int 0, .int 0, uV]) dX10_span_81 rfl (lt_l rfl) rfl ?_
        exact T
      · have T := T.2 c14
        refine v_iconst (pc' := 70) (v := 0) dX10_span_69 rfl kI_0 ?_
        exact v_iret dX10_span_70 rfl T
    · have T := T.2 c9
      refine v_iload_n (pc' := 38) dX10_span_37 rfl rfl ?_
      refine v_iload (pc' := 40) dX10_span_38 rfl rfl ?_
      obtain ⟨z16, h15, k17, T⟩ := T
      refine v_callS (pc' := 43) (M1 := mX10_isStorm) (as := [.int x3, .int x4]) (rest := [.ref r0]) dX10_span_40 rfl ko_X10_435 kc_X10_isStorm kt_X10_isStorm (by decide) hdd rfl rfl (le_l rfl) k17 ?_
      refine v_if_eq (tgt := 56) (pc' := 46) dX10_span_43 (by decide) rfl ⟨fun c18 => ?_, fun c18 => ?_⟩
      · have T := T.1 c18
        refine v_iconst (pc' := 57) (v := 1) dX10_span_56 rfl kI_1 ?_
        refine v_goto (pc' := 61) dX10_span_57 (by decide) ?_
        refine v_iconst (pc' := 62) (v := 2) dX10_span_61 rfl kI_2 ?_
        refine v_iconst (pc' := 63) (v := 1) dX10_span_62 rfl kI_1 ?_
        obtain ⟨q22, T⟩ := T
        obtain ⟨z20, h19, k21, T⟩ := T
        refine v_callV (pc' := 66) (M1 := mX10_bad) (as := [.int 1, .int 2, .int 1]) (r := r0) (rest := []) 8 dX10_span_63 rfl ko_X10_155 kc_X10_bad ki_X10_bad ks_X10_bad (by decide) (by decide) hdd rfl rfl (le_l rfl) q22 k21 ?_
        refine v_if_eq (tgt := 71) (pc' := 69) dX10_span_66 (by decide) rfl ⟨fun c23 => ?_, fun c23 => ?_⟩
        · have T := T.1 c23
          refine v_iconst (pc' := 72) (v := (-1)) dX10_span_71 rfl kI_m1 ?_
          refine v_istore (pc' := 74) (loc' := [.ref r0, .int x1, .int x2, .int x3, .int x4, .int x5, .int x6, .int (-1), uV, uV, uV, uV]) dX10_span_72 rfl (lt_l rfl) rfl ?_
          refine v_iconst (pc' := 75) (v := 0) dX10_span_74 rfl kI_0 ?_
          refine v_istore (pc' := 77) (loc' := [.ref r0, .int x1, .int x2, .int x3, .int x4, .int x5, .int x6, .int (-1), .int 0, uV, uV, uV]) dX10_span_75 rfl (lt_l rfl) rfl ?_
          refine v_iconst (pc' := 78) (v := 0) dX10_span_77 rfl kI_0 ?_
          refine v_istore (pc' := 80) (loc' := [.ref r0, .int x1, .int x2, .int x3, .int x4, .int x5, .int x6, .int (-1), .int 0, .int 0, uV, uV]) dX10_span_78 rfl (lt_l rfl) rfl ?_
          refine v_iconst (pc' := 81) (v := 0) dX10_span_80 rfl kI_0 ?_
          refine v_istore (pc' := 83) (loc' := [.ref r0, .int x1, .int x2, .int x3, .int x4, .int x5, .int x6, .int (-1), .int 0, .int 0, .int 0, uV]) dX10_span_81 rfl (lt_l rfl) rfl ?_
          exact T
        · have T := T.2 c23
          refine v_iconst (pc' := 70) (v := 0) dX10_span_69 rfl kI_0 ?_
          exact v_iret dX10_span_70 rfl T
      · have T := T.2 c18
        refine v_iload (pc' := 48) dX10_span_46 rfl rfl ?_
        refine v_iconst (pc' := 49) (v := 0) dX10_span_48 rfl kI_0 ?_
        refine v_iconst (pc' := 50) (v := 2) dX10_span_49 rfl kI_2 ?_
        obtain ⟨z25, h24, k26, T⟩ := T
        refine v_callS (pc' := 53) (M1 := mX10_in) (as := [.int x5, .int 0, .int 2]) (rest := [.ref r0]) dX10_span_50 rfl ko_X10_106 kc_X10_in kt_X10_in (by decide) hdd rfl rfl (le_l rfl) k26 ?_
        refine v_if_ne (tgt := 60) (pc' := 56) dX10_span_53 (by decide) rfl ⟨fun c27 => ?_, fun c27 => ?_⟩
        · have T := T.1 c27
          refine v_iconst (pc' := 61) (v := 0) dX10_span_60 rfl kI_0 ?_
          refine v_iconst (pc' := 62) (v := 2) dX10_span_61 rfl kI_2 ?_
          refine v_iconst (pc' := 63) (v := 1) dX10_span_62 rfl kI_1 ?_
          obtain ⟨q31, T⟩ := T
          obtain ⟨z29, h28, k30, T⟩ := T
          refine v_callV (pc' := 66) (M1 := mX10_bad) (as := [.int 0, .int 2, .int 1]) (r := r0) (rest := []) 8 dX10_span_63 rfl ko_X10_155 kc_X10_bad ki_X10_bad ks_X10_bad (by decide) (by decide) hdd rfl rfl (le_l rfl) q31 k30 ?_
          refine v_if_eq (tgt := 71) (pc' := 69) dX10_span_66 (by decide) rfl ⟨fun c32 => ?_, fun c32 => ?_⟩
          · have T := T.1 c32
            refine v_iconst (pc' := 72) (v := (-1)) dX10_span_71 rfl kI_m1 ?_
            refine v_istore (pc' := 74) (loc' := [.ref r0, .int x1, .int x2, .int x3, .int x4, .int x5, .int x6, .int (-1), uV, uV, uV, uV]) dX10_span_72 rfl (lt_l rfl) rfl ?_
            refine v_iconst (pc' := 75) (v := 0) dX10_span_74 rfl kI_0 ?_
            refine v_istore (pc' := 77) (loc' := [.ref r0, .int x1, .int x2, .int x3, .int x4, .int x5, .int x6, .int (-1), .int 0, uV, uV, uV]) dX10_span_75 rfl (lt_l rfl) rfl ?_
            refine v_iconst (pc' := 78) (v := 0) dX10_span_77 rfl kI_0 ?_
            refine v_istore (pc' := 80) (loc' := [.ref r0, .int x1, .int x2, .int x3, .int x4, .int x5, .int x6, .int (-1), .int 0, .int 0, uV, uV]) dX10_span_78 rfl (lt_l rfl) rfl ?_
            refine v_iconst (pc' := 81) (v := 0) dX10_span_80 rfl kI_0 ?_
            refine v_istore (pc' := 83) (loc' := [.ref r0, .int x1, .int x2, .int x3, .int x4, .int x5, .int x6, .int (-1), .int 0, .int 0, .int 0, uV]) dX10_span_81 rfl (lt_l rfl) rfl ?_
            exact T
          · have T := T.2 c32
            refine v_iconst (pc' := 70) (v := 0) dX10_span_69 rfl kI_0 ?_
            exact v_iret dX10_span_70 rfl T
        · have T := T.2 c27
          refine v_iconst (pc' := 57) (v := 1) dX10_span_56 rfl kI_1 ?_
          refine v_goto (pc' := 61) dX10_span_57 (by decide) ?_
          refine v_iconst (pc' := 62) (v := 2) dX10_span_61 rfl kI_2 ?_
          refine v_iconst (pc' := 63) (v := 1) dX10_span_62 rfl kI_1 ?_
          obtain ⟨q36, T⟩ := T
          obtain ⟨z34, h33, k35, T⟩ := T
          refine v_callV (pc' := 66) (M1 := mX10_bad) (as := [.int 1, .int 2, .int 1]) (r := r0) (rest := []) 8 dX10_span_63 rfl ko_X10_155 kc_X10_bad ki_X10_bad ks_X10_bad (by decide) (by decide) hdd rfl rfl (le_l rfl) q36 k35 ?_
          refine v_if_eq (tgt := 71) (pc' := 69) dX10_span_66 (by decide) rfl ⟨fun c37 => ?_, fun c37 => ?_⟩
          · have T := T.1 c37
            refine v_iconst (pc' := 72) (v := (-1)) dX10_span_71 rfl kI_m1 ?_
            refine v_istore (pc' := 74) (loc' := [.ref r0, .int x1, .int x2, .int x3, .int x4, .int x5, .int x6, .int (-1), uV, uV, uV, uV]) dX10_span_72 rfl (lt_l rfl) rfl ?_
            refine v_iconst (pc' := 75) (v := 0) dX10_span_74 rfl kI_0 ?_
            refine v_istore (pc' := 77) (loc' := [.ref r0, .int x1, .int x2, .int x3, .int x4, .int x5, .int x6, .int (-1), .int 0, uV, uV, uV]) dX10_span_75 rfl (lt_l rfl) rfl ?_
            refine v_iconst (pc' := 78) (v := 0) dX10_span_77 rfl kI_0 ?_
            refine v_istore (pc' := 80) (loc' := [.ref r0, .int x1, .int x2, .int x3, .int x4, .int x5, .int x6, .int (-1), .int 0, .int 0, uV, uV]) dX10_span_78 rfl (lt_l rfl) rfl ?_
            refine v_iconst (pc' := 81) (v := 0) dX10_span_80 rfl kI_0 ?_
            refine v_istore (pc' := 83) (loc' := [.ref r0, .int x1, .int x2, .int x3, .int x4, .int x5, .int x6, .int (-1), .int 0, .int 0, .int 0, uV]) dX10_span_81 rfl (lt_l rfl) rfl ?_
            exact T
          · have T := T.2 c37
            refine v_iconst (pc' := 70) (v := 0) dX10_span_69 rfl kI_0 ?_
            exact v_iret dX10_span_70 rfl T
theorem bX10_span_83 {G : GG} {d : Nat} {h : Hp} {o : OU} {h' : Hp} (r0 : Nat) (x1 : Int32) (x2 : Int32) (x3 : Int32) (x4 : Int32) (x5 : Int32) (x6 : Int32) (x7 : Int32) (x8 : Int32) (x9 : Int32) (x10 : Int32) (hd : 1 ≤ d) (T : ((x2 ≤ x10 → ((¬ x5 = 0 → ((¬ x5 = 1 → (o = .inl (some (.int x9)) ∧ h' = h)) ∧ (x5 = 1 → (o = .inl (some (.int x8)) ∧ h' = h)))) ∧ (x5 = 0 → (o = .inl (some (.int x7)) ∧ h' = h)))) ∧ (¬ x2 ≤ x10 → kH h r0 = 18 ∧ ∃ h4, VM G mX10_stormBy (d - 1) [.ref r0, .int (x1 + x10), .int x3, .int x4] h (.inl none) h4 ∧ kH h4 r0 = 18 ∧ ∃ z9 h8, VM G mX10_leaking (d - 1) [.ref r0, .ref (rH h4 r0 23), .int 256] h4 (.inl (some (.int z9))) h8 ∧ ∃ z12 h11, VM G mX10_ones (d - 1) [.int z9] h8 (.inl (some (.int z12))) h11 ∧ ((¬ x7 = (-1) → ∃ z16 h15, VM G mX10_less (d - 1) [.int x7, .int z12] h11 (.inl (some (.int z16))) h15 ∧ ∃ z19 h18, VM G mX10_more (d - 1) [.int x8, .int z12] h15 (.inl (some (.int z19))) h18 ∧ kH h18 r0 = 18 ∧ ∃ z23 h22, VM G mX10_fieldOf (d - 1) [.ref (rH h18 r0 23), .int 256, .int x6, .int 0] h18 (.inl (some (.int z23))) h22 ∧ ((z23 ≤ 0 → V G mX10_span d 83 [.ref r0, .int x1, .int x2, .int x3, .int x4, .int x5, .int x6, .int z16, .int z19, .int (x9 + 0), .int (x10 + 1), uV] [] h22 o h') ∧ (¬ z23 ≤ 0 → V G mX10_span d 83 [.ref r0, .int x1, .int x2, .int x3, .int x4, .int x5, .int x6, .int z16, .int z19, .int (x9 + 1), .int (x10 + 1), uV] [] h22 o h'))) ∧ (x7 = (-1) → ∃ z27 h26, VM G mX10_more (d - 1) [.int x8, .int z12] h11 (.inl (some (.int z27))) h26 ∧ kH h26 r0 = 18 ∧ ∃ z31 h30, VM G mX10_fieldOf (d - 1) [.ref (rH h26 r0 23), .int 256, .int x6, .int 0] h26 (.inl (some (.int z31))) h30 ∧ ((z31 ≤ 0 → V G mX10_span d 83 [.ref r0, .int x1, .int x2, .int x3, .int x4, .int x5, .int x6, .int z12, .int z27, .int (x9 + 0), .int (x10 + 1), uV] [] h30 o h') ∧ (¬ z31 ≤ 0 → V G mX10_span d 83 [.ref r0, .int x1, .int x2, .int x3, .int x4, .int x5, .int x6, .int z12, .int z27, .int (x9 + 1), .int (x10 + 1), uV] [] h30 o h'))))))) : V G mX10_span d 83 [.ref r0, .int x1, .int x2, .int x3, .int x4, .int x5, .int x6, .int x7, .int x8, .int x9, .int x10, uV] [] h o h' := by
  have hdd : d - 1 + 1 ≤ d := by omega
  refine v_iload (pc' := 85) dX10_span_83 rfl rfl ?_
  refine v_iload_n (pc' := 86) dX10_span_85 rfl rfl ?_
  refine v_icmp_ge (tgt := 177) (pc' := 89) dX10_span_86 (by decide) rfl ⟨fun c1 => ?_, fun c1 => ?_⟩
  · have T := T.1 c1
    refine v_iload (pc' := 179) dX10_span_177 rfl rfl ?_
    refine v_if_ne (tgt := 187) (pc' := 182) dX10_span_179 (by decide) rfl ⟨fun c2 => ?_, fun c2 => ?_⟩
    · have T := T.1 c2
      refine v_iload (pc' := 189) dX10_span_187 rfl rfl ?_
      refine v_iconst (pc' := 190) (v := 1) dX10_span_189 rfl kI_1 ?_
      refine v_icmp_ne (tgt := 198) (pc' := 193) dX10_span_190 (by decide) rfl ⟨fun c3 => ?_, fun c3 => ?_⟩
      · have T := T.1 c3
        refine v_iload (pc' := 200) dX10_span_198 rfl rfl ?_
        exact v_iret dX10_span_200 rfl T
      · have T := T.2 c3
        refine v_iload (pc' := 195) dX10_span_193 rfl rfl ?_
        refine v_goto (pc' := 200) dX10_span_195 (by decide) ?_
        exact v_iret dX10_span_200 rfl T
    · have T := T.2 c2
      refine v_iload (pc' := 184) dX10_span_182 rfl rfl ?_
      refine v_goto (pc' := 200) dX10_span_184 (by decide) ?_
      exact v_iret dX10_span_200 rfl T
  · have T := T.2 c1
    refine v_aload_n (pc' := 90) dX10_span_89 rfl rfl ?_
    refine v_iload_n (pc' := 91) dX10_span_90 rfl rfl ?_
    refine v_iload (pc' := 93) dX10_span_91 rfl rfl ?_
    refine v_iadd (pc' := 94) dX10_span_93 rfl ?_
    refine v_iload_n (pc' := 95) dX10_span_94 rfl rfl ?_
    refine v_iload (pc' := 97) dX10_span_95 rfl rfl ?_
    obtain ⟨q6, T⟩ := T
    obtain ⟨h4, k5, T⟩ := T
    refine v_callV (pc' := 100) (M1 := mX10_stormBy) (as := [.int (x1 + x10), .int x3, .int x4]) (r := r0) (rest := []) 8 dX10_span_97 rfl ko_X10_438 kc_X10_stormBy ki_X10_stormBy ks_X10_stormBy (by decide) (by decide) hdd rfl rfl (le_l rfl) q6 k5 ?_
    refine v_aload_n (pc' := 101) dX10_span_100 rfl rfl ?_
    refine v_aload_n (pc' := 102) dX10_span_101 rfl rfl ?_
    obtain ⟨q7, T⟩ := T
    refine v_getR (pc' := 105) 8 23 dX10_span_102 rfl (by decide) (by decide) rfl kf_X10_34 q7 ?_
    refine v_sipush (pc' := 108) (v := 256) dX10_span_105 rfl kS_256 ?_
    obtain ⟨z9, h8, k10, T⟩ := T
    refine v_callV (pc' := 111) (M1 := mX10_leaking) (as := [.ref (rH h4 r0 23), .int 256]) (r := r0) (rest := []) 8 dX10_span_108 rfl ko_X10_380 kc_X10_leaking ki_X10_leaking ks_X10_leaking (by decide) (by decide) hdd rfl rfl (le_l rfl) q7 k10 ?_
    obtain ⟨z12, h11, k13, T⟩ := T
    refine v_callS (pc' := 114) (M1 := mX10_ones) (as := [.int z9]) (rest := []) dX10_span_111 rfl ko_X10_398 kc_X10_ones kt_X10_ones (by decide) hdd rfl rfl (le_l rfl) k13 ?_
    refine v_istore (pc' := 116) (loc' := [.ref r0, .int x1, .int x2, .int x3, .int x4, .int x5, .int x6, .int x7, .int x8, .int x9, .int x10, .int z12]) dX10_span_114 rfl (lt_l rfl) rfl ?_
    refine v_iload (pc' := 118) dX10_span_116 rfl rfl ?_
    refine v_iconst (pc' := 119) (v := (-1)) dX10_span_118 rfl kI_m1 ?_
    refine v_icmp_ne (tgt := 127) (pc' := 122) dX10_span_119 (by decide) rfl ⟨fun c14 => ?_, fun c14 => ?_⟩
    · have T := T.1 c14
      refine v_iload (pc' := 129) dX10_span_127 rfl rfl ?_
      refine v_iload (pc' := 131) dX10_span_129 rfl rfl ?_
      obtain ⟨z16, h15, k17, T⟩ := T
      refine v_callS (pc' := 134) (M1 := mX10_less) (as := [.int x7, .int z12]) (rest := []) dX10_span_131 rfl ko_X10_442 kc_X10_less kt_X10_less (by decide) hdd rfl rfl (le_l rfl) k17 ?_
      refine v_istore (pc' := 136) (loc' := [.ref r0, .int x1, .int x2, .int x3, .int x4, .int x5, .int x6, .int z16, .int x8, .int x9, .int x10, .int z12]) dX10_span_134 rfl (lt_l rfl) rfl ?_
      refine v_iload (pc' := 138) dX10_span_136 rfl rfl ?_
      refine v_iload (pc' := 140) dX10_span_138 rfl rfl ?_
      obtain ⟨z19, h18, k20, T⟩ := T
      refine v_callS (pc' := 143) (M1 := mX10_more) (as := [.int x8, .int z12]) (rest := []) dX10_span_140 rfl ko_X10_392 kc_X10_more kt_X10_more (by decide) hdd rfl rfl (le_l rfl) k20 ?_
      refine v_istore (pc' := 145) (loc' := [.ref r0, .int x1, .int x2, .int x3, .int x4, .int x5, .int x6, .int z16, .int z19, .int x9, .int x10, .int z12]) dX10_span_143 rfl (lt_l rfl) rfl ?_
      refine v_iload (pc' := 147) dX10_span_145 rfl rfl ?_
      refine v_aload_n (pc' := 148) dX10_span_147 rfl rfl ?_
      obtain ⟨q21, T⟩ := T
      refine v_getR (pc' := 151) 8 23 dX10_span_148 rfl (by decide) (by decide) rfl kf_X10_34 q21 ?_
      refine v_sipush (pc' := 154) (v := 256) dX10_span_151 rfl kS_256 ?_
      refine v_iload (pc' := 156) dX10_span_154 rfl rfl ?_
      refine v_iconst (pc' := 157) (v := 0) dX10_span_156 rfl kI_0 ?_
      obtain ⟨z23, h22, k24, T⟩ := T
      refine v_callS (pc' := 160) (M1 := mX10_fieldOf) (as := [.ref (rH h18 r0 23), .int 256, .int x6, .int 0]) (rest := [.int x9]) dX10_span_157 rfl ko_X10_233 kc_X10_fieldOf kt_X10_fieldOf (by decide) hdd rfl rfl (le_l rfl) k24 ?_
      refine v_if_le (tgt := 167) (pc' := 163) dX10_span_160 (by decide) rfl ⟨fun c25 => ?_, fun c25 => ?_⟩
      · have T := T.1 c25
        refine v_iconst (pc' := 168) (v := 0) dX10_span_167 rfl kI_0 ?_
        refine v_iadd (pc' := 169) dX10_span_168 rfl ?_
        refine v_istore (pc' := 171) (loc' := [.ref r0, .int x1, .int x2, .int x3, .int x4, .int x5, .int x6, .int z16, .int z19, .int (x9 + 0), .int x10, .int z12]) dX10_span_169 rfl (lt_l rfl) rfl ?_
        refine v_iinc (pc' := 174) (loc' := [.ref r0, .int x1, .int x2, .int x3, .int x4, .int x5, .int x6, .int z16, .int z19, .int (x9 + 0), .int (x10 + 1), .int z12]) dX10_span_171 rfl rfl (kX_1 _) rfl ?_
        refine v_goto (pc' := 83) dX10_span_174 (by decide) ?_
        exact V.drop (llp_r (llp_r (llp_r (llp_r (llp_r (llp_r (llp_r (llp_r (llp_r (llp_r (llp_r (llp_u llp_nil)))))))))))) T
      · have T := T.2 c25
        refine v_iconst (pc' := 164) (v := 1) dX10_span_163 rfl kI_1 ?_
        refine v_goto (pc' := 168) dX10_span_164 (by decide) ?_
        refine v_iadd (pc' := 169) dX10_span_168 rfl ?_
        refine v_istore (pc' := 171) (loc' := [.ref r0, .int x1, .int x2, .int x3, .int x4, .int x5, .int x6, .int z16, .int z19, .int (x9 + 1), .int x10, .int z12]) dX10_span_169 rfl (lt_l rfl) rfl ?_
        refine v_iinc (pc' := 174) (loc' := [.ref r0, .int x1, .int x2, .int x3, .int x4, .int x5, .int x6, .int z16, .int z19, .int (x9 + 1), .int (x10 + 1), .int z12]) dX10_span_171 rfl rfl (kX_1 _) rfl ?_
        refine v_goto (pc' := 83) dX10_span_174 (by decide) ?_
        exact V.drop (llp_r (llp_r (llp_r (llp_r (llp_r (llp_r (llp_r (llp_r (llp_r (llp_r (llp_r (llp_u llp_nil)))))))))))) T
    · have T := T.2 c14
      refine v_iload (pc' := 124) dX10_span_122 rfl rfl ?_
      refine v_goto (pc' := 134) dX10_span_124 (by decide) ?_
      refine v_istore (pc' := 136) (loc' := [.ref r0, .int x1, .int x2, .int x3, .int x4, .int x5, .int x6, .int z12, .int x8, .int x9, .int x10, .int z12]) dX10_span_134 rfl (lt_l rfl) rfl ?_
      refine v_iload (pc' := 138) dX10_span_136 rfl rfl ?_
      refine v_iload (pc' := 140) dX10_span_138 rfl rfl ?_
      obtain ⟨z27, h26, k28, T⟩ := T
      refine v_callS (pc' := 143) (M1 := mX10_more) (as := [.int x8, .int z12]) (rest := []) dX10_span_140 rfl ko_X10_392 kc_X10_more kt_X10_more (by decide) hdd rfl rfl (le_l rfl) k28 ?_
      refine v_istore (pc' := 145) (loc' := [.ref r0, .int x1, .int x2, .int x3, .int x4, .int x5, .int x6, .int z12, .int z27, .int x9, .int x10, .int z12]) dX10_span_143 rfl (lt_l rfl) rfl ?_
      refine v_iload (pc' := 147) dX10_span_145 rfl rfl ?_
      refine v_aload_n (pc' := 148) dX10_span_147 rfl rfl ?_
      obtain ⟨q29, T⟩ := T
      refine v_getR (pc' := 151) 8 23 dX10_span_148 rfl (by decide) (by decide) rfl kf_X10_34 q29 ?_
      refine v_sipush (pc' := 154) (v := 256) dX10_span_151 rfl kS_256 ?_
      refine v_iload (pc' := 156) dX10_span_154 rfl rfl ?_
      refine v_iconst (pc' := 157) (v := 0) dX10_span_156 rfl kI_0 ?_
      obtain ⟨z31, h30, k32, T⟩ := T
      refine v_callS (pc' := 160) (M1 := mX10_fieldOf) (as := [.ref (rH h26 r0 23), .int 256, .int x6, .int 0]) (rest := [.int x9]) dX10_span_157 rfl ko_X10_233 kc_X10_fieldOf kt_X10_fieldOf (by decide) hdd rfl rfl (le_l rfl) k32 ?_
      refine v_if_le (tgt := 167) (pc' := 163) dX10_span_160 (by decide) rfl ⟨fun c33 => ?_, fun c33 => ?_⟩
      · have T := T.1 c33
        refine v_iconst (pc' := 168) (v := 0) dX10_span_167 rfl kI_0 ?_
        refine v_iadd (pc' := 169) dX10_span_168 rfl ?_
        refine v_istore (pc' := 171) (loc' := [.ref r0, .int x1, .int x2, .int x3, .int x4, .int x5, .int x6, .int z12, .int z27, .int (x9 + 0), .int x10, .int z12]) dX10_span_169 rfl (lt_l rfl) rfl ?_
        refine v_iinc (pc' := 174) (loc' := [.ref r0, .int x1, .int x2, .int x3, .int x4, .int x5, .int x6, .int z12, .int z27, .int (x9 + 0), .int (x10 + 1), .int z12]) dX10_span_171 rfl rfl (kX_1 _) rfl ?_
        refine v_goto (pc' := 83) dX10_span_174 (by decide) ?_
        exact V.drop (llp_r (llp_r (llp_r (llp_r (llp_r (llp_r (llp_r (llp_r (llp_r (llp_r (llp_r (llp_u llp_nil)))))))))))) T
      · have T := T.2 c33
        refine v_iconst (pc' := 164) (v := 1) dX10_span_163 rfl kI_1 ?_
        refine v_goto (pc' := 168) dX10_span_164 (by decide) ?_
        refine v_iadd (pc' := 169) dX10_span_168 rfl ?_
        refine v_istore (pc' := 171) (loc' := [.ref r0, .int x1, .int x2, .int x3, .int x4, .int x5, .int x6, .int z12, .int z27, .int (x9 + 1), .int x10, .int z12]) dX10_span_169 rfl (lt_l rfl) rfl ?_
        refine v_iinc (pc' := 174) (loc' := [.ref r0, .int x1, .int x2, .int x3, .int x4, .int x5, .int x6, .int z12, .int z27, .int (x9 + 1), .int (x10 + 1), .int z12]) dX10_span_171 rfl rfl (kX_1 _) rfl ?_
        refine v_goto (pc' := 83) dX10_span_174 (by decide) ?_
        exact V.drop (llp_r (llp_r (llp_r (llp_r (llp_r (llp_r (llp_r (llp_r (llp_r (llp_r (llp_r (llp_u llp_nil)))))))))))) T
theorem eX10_lays {G : GG} {d : Nat} {h : Hp} {o : OU} {h' : Hp} (r0 : Nat) (r1 : Nat) (x2 : Int32) (x3 : Int32) (T : ((¬ x3 = 0 → kH h r0 = 18 ∧ kH h r1 = 1 ∧ vp_in (((upI h.2 r0 17 ((h.2 r0 17) + 1)) r0 17) - 1) (lH h r1) ∧ (o = .inl (some (.int ((upI h.2 r0 17 ((h.2 r0 17) + 1)) r1 (((upI h.2 r0 17 ((h.2 r0 17) + 1)) r0 17) - 1).toNatClampNeg))) ∧ h' = (h.1, (upI h.2 r0 17 ((h.2 r0 17) + 1))))) ∧ (x3 = 0 → kH h r0 = 18 ∧ kH h r1 = 1 ∧ vp_in (h.2 r0 17) (lH h r1) ∧ vp_in (((upI (upI h.2 r1 (h.2 r0 17).toNatClampNeg x2) r0 17 (((upI h.2 r1 (h.2 r0 17).toNatClampNeg x2) r0 17) + 1)) r0 17) - 1) (lH h r1) ∧ (o = .inl (some (.int ((upI (upI h.2 r1 (h.2 r0 17).toNatClampNeg x2) r0 17 (((upI h.2 r1 (h.2 r0 17).toNatClampNeg x2) r0 17) + 1)) r1 (((upI (upI h.2 r1 (h.2 r0 17).toNatClampNeg x2) r0 17 (((upI h.2 r1 (h.2 r0 17).toNatClampNeg x2) r0 17) + 1)) r0 17) - 1).toNatClampNeg))) ∧ h' = (h.1, (upI (upI h.2 r1 (h.2 r0 17).toNatClampNeg x2) r0 17 (((upI h.2 r1 (h.2 r0 17).toNatClampNeg x2) r0 17) + 1))))))) : VM G mX10_lays d [.ref r0, .ref r1, .int x2, .int x3] h o h' := by
  refine V.toM rfl rfl (le_l rfl) (cat_all rfl) ?_
  show V G mX10_lays d 0 [.ref r0, .ref r1, .int x2, .int x3] [] h o h'
  refine v_iload_n (pc' := 1) dX10_lays_0 rfl rfl ?_
  refine v_if_ne (tgt := 11) (pc' := 4) dX10_lays_1 (by decide) rfl ⟨fun c1 => ?_, fun c1 => ?_⟩
  · have T := T.1 c1
    refine v_aload_n (pc' := 12) dX10_lays_11 rfl rfl ?_
    refine v_dup (pc' := 13) dX10_lays_12 rfl rfl ?_
    obtain ⟨q2, T⟩ := T
    refine v_getI (pc' := 16) 8 17 dX10_lays_13 rfl (by decide) (by decide) rfl kf_X10_445 q2 ?_
    refine v_iconst (pc' := 17) (v := 1) dX10_lays_16 rfl kI_1 ?_
    refine v_iadd (pc' := 18) dX10_lays_17 rfl ?_
    refine v_putI (pc' := 21) 8 17 dX10_lays_18 rfl (by decide) (by decide) rfl rfl kf_X10_445 q2 ?_
    refine v_aload_n (pc' := 22) dX10_lays_21 rfl rfl ?_
    refine v_aload_n (pc' := 23) dX10_lays_22 rfl rfl ?_
    refine v_getI (pc' := 26) 8 17 dX10_lays_23 rfl (by decide) (by decide) rfl kf_X10_445 q2 ?_
    refine v_iconst (pc' := 27) (v := 1) dX10_lays_26 rfl kI_1 ?_
    refine v_isub (pc' := 28) dX10_lays_27 rfl ?_
    obtain ⟨q3, T⟩ := T
    obtain ⟨q4, T⟩ := T
    refine v_iald (pc' := 29) dX10_lays_28 rfl rfl q3 q4 ?_
    exact v_iret dX10_lays_29 rfl T
  · have T := T.2 c1
    refine v_aload_n (pc' := 5) dX10_lays_4 rfl rfl ?_
    refine v_aload_n (pc' := 6) dX10_lays_5 rfl rfl ?_
    obtain ⟨q5, T⟩ := T
    refine v_getI (pc' := 9) 8 17 dX10_lays_6 rfl (by decide) (by decide) rfl kf_X10_445 q5 ?_
    refine v_iload_n (pc' := 10) dX10_lays_9 rfl rfl ?_
    obtain ⟨q6, T⟩ := T
    obtain ⟨q7, T⟩ := T
    refine v_iast (pc' := 11) dX10_lays_10 rfl rfl q6 q7 ?_
    refine v_aload_n (pc' := 12) dX10_lays_11 rfl rfl ?_
    refine v_dup (pc' := 13) dX10_lays_12 rfl rfl ?_
    refine v_getI (pc' := 16) 8 17 dX10_lays_13 rfl (by decide) (by decide) rfl kf_X10_445 q5 ?_
    refine v_iconst (pc' := 17) (v := 1) dX10_lays_16 rfl kI_1 ?_
    refine v_iadd (pc' := 18) dX10_lays_17 rfl ?_
    refine v_putI (pc' := 21) 8 17 dX10_lays_18 rfl (by decide) (by decide) rfl rfl kf_X10_445 q5 ?_
    refine v_aload_n (pc' := 22) dX10_lays_21 rfl rfl ?_
    refine v_aload_n (pc' := 23) dX10_lays_22 rfl rfl ?_
    refine v_getI (pc' := 26) 8 17 dX10_lays_23 rfl (by decide) (by decide) rfl kf_X10_445 q5 ?_
    refine v_iconst (pc' := 27) (v := 1) dX10_lays_26 rfl kI_1 ?_
    refine v_isub (pc' := 28) dX10_lays_27 rfl ?_
    obtain ⟨q8, T⟩ := T
    refine v_iald (pc' := 29) dX10_lays_28 rfl rfl q6 q8 ?_
    exact v_iret dX10_lays_29 rfl T
theorem eX10_putsAll {G : GG} {d : Nat} {h : Hp} {o : OU} {h' : Hp} (r0 : Nat) (r1 : Nat) (x2 : Int32) (hd : 1 ≤ d) (T : kH h r0 = 18 ∧ ∃ z3 h2, VM G mX10_lays (d - 1) [.ref r0, .ref r1, .int ((upI h.2 r0 17 0) r0 14), .int x2] (h.1, (upI h.2 r0 17 0)) (.inl (some (.int z3))) h2 ∧ kH h2 r0 = 18 ∧ V G mX10_putsAll d 21 [.ref r0, .ref r1, .int x2, .int 0, uV] [] (h2.1, (upI h2.2 r0 14 z3)) o h') : VM G mX10_putsAll d [.ref r0, .ref r1, .int x2] h o h' := by
  refine V.toM rfl rfl (le_l rfl) (cat_all rfl) ?_
  show V G mX10_putsAll d 0 [.ref r0, .ref r1, .int x2, uV, uV] [] h o h'
  have hdd : d - 1 + 1 ≤ d := by omega
  refine v_aload_n (pc' := 1) dX10_putsAll_0 rfl rfl ?_
  refine v_iconst (pc' := 2) (v := 0) dX10_putsAll_1 rfl kI_0 ?_
  obtain ⟨q1, T⟩ := T
  refine v_putI (pc' := 5) 8 17 dX10_putsAll_2 rfl (by decide) (by decide) rfl rfl kf_X10_445 q1 ?_
  refine v_aload_n (pc' := 6) dX10_putsAll_5 rfl rfl ?_
  refine v_aload_n (pc' := 7) dX10_putsAll_6 rfl rfl ?_
  refine v_aload_n (pc' := 8) dX10_putsAll_7 rfl rfl ?_
  refine v_aload_n (pc' := 9) dX10_putsAll_8 rfl rfl ?_
  refine v_getI (pc' := 12) 8 14 dX10_putsAll_9 rfl (by decide) (by decide) rfl kf_X10_184 q1 ?_
  refine v_iload_n (pc' := 13) dX10_putsAll_12 rfl rfl ?_
  obtain ⟨z3, h2, k4, T⟩ := T
  refine v_callV (pc' := 16) (M1 := mX10_lays) (as := [.ref r1, .int ((upI h.2 r0 17 0) r0 14), .int x2]) (r := r0) (rest := [.ref r0]) 8 dX10_putsAll_13 rfl ko_X10_448 kc_X10_lays ki_X10_lays ks_X10_lays (by decide) (by decide) hdd rfl rfl (le_l rfl) q1 k4 ?_
  obtain ⟨q5, T⟩ := T
  refine v_putI (pc' := 19) 8 14 dX10_putsAll_16 rfl (by decide) (by decide) rfl rfl kf_X10_184 q5 ?_
  refine v_iconst (pc' := 20) (v := 0) dX10_putsAll_19 rfl kI_0 ?_
  refine v_istore_n (pc' := 21) (loc' := [.ref r0, .ref r1, .int x2, .int 0, uV]) dX10_putsAll_20 rfl (lt_l rfl) rfl ?_
  exact T
theorem bX10_putsAll_21 {G : GG} {d : Nat} {h : Hp} {o : OU} {h' : Hp} (r0 : Nat) (r1 : Nat) (x2 : Int32) (x3 : Int32) (hd : 1 ≤ d) (T : ((3398 ≤ x3 → V G mX10_putsAll d 54 [.ref r0, .ref r1, .int x2, .int 0, uV] [] h o h') ∧ (¬ 3398 ≤ x3 → kH h r0 = 18 ∧ kH h (rH h r0 22) = 1 ∧ vp_in x3 (lH h (rH h r0 22)) ∧ ∃ z6 h5, VM G mX10_lays (d - 1) [.ref r0, .ref r1, .int (h.2 (rH h r0 22) x3.toNatClampNeg), .int x2] h (.inl (some (.int z6))) h5 ∧ kH h5 (rH h r0 22) = 1 ∧ vp_in x3 (lH h5 (rH h r0 22)) ∧ V G mX10_putsAll d 21 [.ref r0, .ref r1, .int x2, .int (x3 + 1), uV] [] (h5.1, (upI h5.2 (rH h r0 22) x3.toNatClampNeg z6)) o h'))) : V G mX10_putsAll d 21 [.ref r0, .ref r1, .int x2, .int x3, uV] [] h o h' := by
  have hdd : d - 1 + 1 ≤ d := by omega
  refine v_iload_n (pc' := 22) dX10_putsAll_21 rfl rfl ?_
  refine v_sipush (pc' := 25) (v := 3398) dX10_putsAll_22 rfl kS_3398 ?_
  refine v_icmp_ge (tgt := 52) (pc' := 28) dX10_putsAll_25 (by decide) rfl ⟨fun c1 => ?_, fun c1 => ?_⟩
  · have T := T.1 c1
    refine v_iconst (pc' := 53) (v := 0) dX10_putsAll_52 rfl kI_0 ?_
    refine v_istore_n (pc' := 54) (loc' := [.ref r0, .ref r1, .int x2, .int 0, uV]) dX10_putsAll_53 rfl (lt_l rfl) rfl ?_
    exact T
  · have T := T.2 c1
    refine v_aload_n (pc' := 29) dX10_putsAll_28 rfl rfl ?_
    obtain ⟨q2, T⟩ := T
    refine v_getR (pc' := 32) 8 22 dX10_putsAll_29 rfl (by decide) (by decide) rfl kf_X10_31 q2 ?_
    refine v_iload_n (pc' := 33) dX10_putsAll_32 rfl rfl ?_
    refine v_aload_n (pc' := 34) dX10_putsAll_33 rfl rfl ?_
    refine v_aload_n (pc' := 35) dX10_putsAll_34 rfl rfl ?_
    refine v_aload_n (pc' := 36) dX10_putsAll_35 rfl rfl ?_
    refine v_getR (pc' := 39) 8 22 dX10_putsAll_36 rfl (by decide) (by decide) rfl kf_X10_31 q2 ?_
    refine v_iload_n (pc' := 40) dX10_putsAll_39 rfl rfl ?_
    obtain ⟨q3, T⟩ := T
    obtain ⟨q4, T⟩ := T
    refine v_iald (pc' := 41) dX10_putsAll_40 rfl rfl q3 q4 ?_
    refine v_iload_n (pc' := 42) dX10_putsAll_41 rfl rfl ?_
    obtain ⟨z6, h5, k7, T⟩ := T
    refine v_callV (pc' := 45) (M1 := mX10_lays) (as := [.ref r1, .int (h.2 (rH h r0 22) x3.toNatClampNeg), .int x2]) (r := r0) (rest := [.int x3, .ref (rH h r0 22)]) 8 dX10_putsAll_42 rfl ko_X10_448 kc_X10_lays ki_X10_lays ks_X10_lays (by decide) (by decide) hdd rfl rfl (le_l rfl) q2 k7 ?_
    obtain ⟨q8, T⟩ := T
    obtain ⟨q9, T⟩ := T
    refine v_iast (pc' := 46) dX10_putsAll_45 rfl rfl q8 q9 ?_
    refine v_iinc (pc' := 49) (loc' := [.ref r0, .ref r1, .int x2, .int (x3 + 1), uV]) dX10_putsAll_46 rfl rfl (kX_1 _) rfl ?_
    refine v_goto (pc' := 21) dX10_putsAll_49 (by decide) ?_
    exact T
theorem bX10_putsAll_54 {G : GG} {d : Nat} {h : Hp} {o : OU} {h' : Hp} (r0 : Nat) (r1 : Nat) (x2 : Int32) (x3 : Int32) (T : ((16 ≤ x3 → (o = .inl none ∧ h' = h)) ∧ (¬ 16 ≤ x3 → V G mX10_putsAll d 63 [.ref r0, .ref r1, .int x2, .int x3, .int 0] [] h o h'))) : V G mX10_putsAll d 54 [.ref r0, .ref r1, .int x2, .int x3, uV] [] h o h' := by
  refine v_iload_n (pc' := 55) dX10_putsAll_54 rfl rfl ?_
  refine v_bipush (pc' := 57) (v := 16) dX10_putsAll_55 rfl kB_16 ?_
  refine v_icmp_ge (tgt := 107) (pc' := 60) dX10_putsAll_57 (by decide) rfl ⟨fun c1 => ?_, fun c1 => ?_⟩
  · have T := T.1 c1
    exact v_vret dX10_putsAll_107 rfl T
  · have T := T.2 c1
    refine v_iconst (pc' := 61) (v := 0) dX10_putsAll_60 rfl kI_0 ?_
    refine v_istore (pc' := 63) (loc' := [.ref r0, .ref r1, .int x2, .int x3, .int 0]) dX10_putsAll_61 rfl (lt_l rfl) rfl ?_
    exact T
theorem bX10_putsAll_63 {G : GG} {d : Nat} {h : Hp} {o : OU} {h' : Hp} (r0 : Nat) (r1 : Nat) (x2 : Int32) (x3 : Int32) (x4 : Int32) (hd : 1 ≤ d) (T : ((3398 ≤ x4 → V G mX10_putsAll d 54 [.ref r0, .ref r1, .int x2, .int (x3 + 1), uV] [] h o h') ∧ (¬ 3398 ≤ x4 → kH h r0 = 18 ∧ kH h (rH h r0 24) = 7 ∧ vp_in x3 (lH h (rH h r0 24)) ∧ kH h (rH h (rH h r0 24) x3.toNatClampNeg) = 1 ∧ vp_in x4 (lH h (rH h (rH h r0 24) x3.toNatClampNeg)) ∧ ∃ z8 h7, VM G mX10_lays (d - 1) [.ref r0, .ref r1, .int (h.2 (rH h (rH h r0 24) x3.toNatClampNeg) x4.toNatClampNeg), .int x2] h (.inl (some (.int z8))) h7 ∧ kH h7 (rH h (rH h r0 24) x3.toNatClampNeg) = 1 ∧ vp_in x4 (lH h7 (rH h (rH h r0 24) x3.toNatClampNeg)) ∧ V G mX10_putsAll d 63 [.ref r0, .ref r1, .int x2, .int x3, .int (x4 + 1)] [] (h7.1, (upI h7.2 (rH h (rH h r0 24) x3.toNatClampNeg) x4.toNatClampNeg z8)) o h'))) : V G mX10_putsAll d 63 [.ref r0, .ref r1, .int x2, .int x3, .int x4] [] h o h' := by
  have hdd : d - 1 + 1 ≤ d := by omega
  refine v_iload (pc' := 65) dX10_putsAll_63 rfl rfl ?_
  refine v_sipush (pc' := 68) (v := 3398) dX10_putsAll_65 rfl kS_3398 ?_
  refine v_icmp_ge (tgt := 101) (pc' := 71) dX10_putsAll_68 (by decide) rfl ⟨fun c1 => ?_, fun c1 => ?_⟩
  · have T := T.1 c1
    refine v_iinc (pc' := 104) (loc' := [.ref r0, .ref r1, .int x2, .int (x3 + 1), .int x4]) dX10_putsAll_101 rfl rfl (kX_1 _) rfl ?_
    refine v_goto (pc' := 54) dX10_putsAll_104 (by decide) ?_
    exact V.drop (llp_r (llp_r (llp_r (llp_r (llp_u llp_nil))))) T
  · have T := T.2 c1
    refine v_aload_n (pc' := 72) dX10_putsAll_71 rfl rfl ?_
    obtain ⟨q2, T⟩ := T
    refine v_getR (pc' := 75) 8 24 dX10_putsAll_72 rfl (by decide) (by decide) rfl kf_X10_37 q2 ?_
    refine v_iload_n (pc' := 76) dX10_putsAll_75 rfl rfl ?_
    obtain ⟨q3, T⟩ := T
    obtain ⟨q4, T⟩ := T
    refine v_aald (pc' := 77) 7 dX10_putsAll_76 rfl rfl (by decide) q3 q4 ?_
    refine v_iload (pc' := 79) dX10_putsAll_77 rfl rfl ?_
    refine v_aload_n (pc' := 80) dX10_putsAll_79 rfl rfl ?_
    refine v_aload_n (pc' := 81) dX10_putsAll_80 rfl rfl ?_
    refine v_aload_n (pc' := 82) dX10_putsAll_81 rfl rfl ?_
    refine v_getR (pc' := 85) 8 24 dX10_putsAll_82 rfl (by decide) (by decide) rfl kf_X10_37 q2 ?_
    refine v_iload_n (pc' := 86) dX10_putsAll_85 rfl rfl ?_
    refine v_aald (pc' := 87) 7 dX10_putsAll_86 rfl rfl (by decide) q3 q4 ?_
    refine v_iload (pc' := 89) dX10_putsAll_87 rfl rfl ?_
    obtain ⟨q5, T⟩ := T
    obtain ⟨q6, T⟩ := T
    refine v_iald (pc' := 90) dX10_putsAll_89 rfl rfl q5 q6 ?_
    refine v_iload_n (pc' := 91) dX10_putsAll_90 rfl rfl ?_
    obtain ⟨z8, h7, k9, T⟩ := T
    refine v_callV (pc' := 94) (M1 := mX10_lays) (as := [.ref r1, .int (h.2 (rH h (rH h r0 24) x3.toNatClampNeg) x4.toNatClampNeg), .int x2]) (r := r0) (rest := [.int x4, .ref (rH h (rH h r0 24) x3.toNatClampNeg)]) 8 dX10_putsAll_91 rfl ko_X10_448 kc_X10_lays ki_X10_lays ks_X10_lays (by decide) (by decide) hdd rfl rfl (le_l rfl) q2 k9 ?_
    obtain ⟨q10, T⟩ := T
    obtain ⟨q11, T⟩ := T
    refine v_iast (pc' := 95) dX10_putsAll_94 rfl rfl q10 q11 ?_
    refine v_iinc (pc' := 98) (loc' := [.ref r0, .ref r1, .int x2, .int x3, .int (x4 + 1)]) dX10_putsAll_95 rfl rfl (kX_1 _) rfl ?_
    refine v_goto (pc' := 63) dX10_putsAll_98 (by decide) ?_
    exact T
theorem eX10_image {G : GG} {d : Nat} {h : Hp} {o : OU} {h' : Hp} (r0 : Nat) (hd : 1 ≤ d) (T : kH h r0 = 18 ∧ ((¬ ((upI h.2 r0 0 0) r0 16) = 3 → kH h (rH h r0 25) = 7 ∧ vp_in ((upI h.2 r0 0 0) r0 16) (lH h (rH h r0 25)) ∧ ∃ h5, VM G mX10_putsAll (d - 1) [.ref r0, .ref (rH h (rH h r0 25) ((upI h.2 r0 0 0) r0 16).toNatClampNeg), .int 0] (h.1, (upI h.2 r0 0 0)) (.inl none) h5 ∧ kH h5 r0 = 18 ∧ (o = .inl (some (.int ((upI h5.2 r0 16 ((h5.2 r0 16) + 1)) r0 16))) ∧ h' = (h5.1, (upI h5.2 r0 16 ((h5.2 r0 16) + 1))))) ∧ (((upI h.2 r0 0 0) r0 16) = 3 → (o = .inl (some (.int (-1))) ∧ h' = (h.1, (upI h.2 r0 0 0)))))) : VM G mX10_image d [.ref r0] h o h' := by
  refine V.toM rfl rfl (le_l rfl) (cat_all rfl) ?_
  show V G mX10_image d 0 [.ref r0] [] h o h'
  have hdd : d - 1 + 1 ≤ d := by omega
  refine v_aload_n (pc' := 1) dX10_image_0 rfl rfl ?_
  refine v_iconst (pc' := 2) (v := 0) dX10_image_1 rfl kI_0 ?_
  obtain ⟨q1, T⟩ := T
  refine v_putI (pc' := 5) 8 0 dX10_image_2 rfl (by decide) (by decide) rfl rfl kf_X10_72 q1 ?_
  refine v_aload_n (pc' := 6) dX10_image_5 rfl rfl ?_
  refine v_getI (pc' := 9) 8 16 dX10_image_6 rfl (by decide) (by decide) rfl kf_X10_190 q1 ?_
  refine v_iconst (pc' := 10) (v := 3) dX10_image_9 rfl kI_3 ?_
  refine v_icmp_ne (tgt := 15) (pc' := 13) dX10_image_10 (by decide) rfl ⟨fun c2 => ?_, fun c2 => ?_⟩
  · have T := T.1 c2
    refine v_aload_n (pc' := 16) dX10_image_15 rfl rfl ?_
    refine v_aload_n (pc' := 17) dX10_image_16 rfl rfl ?_
    refine v_getR (pc' := 20) 8 25 dX10_image_17 rfl (by decide) (by decide) rfl kf_X10_41 q1 ?_
    refine v_aload_n (pc' := 21) dX10_image_20 rfl rfl ?_
    refine v_getI (pc' := 24) 8 16 dX10_image_21 rfl (by decide) (by decide) rfl kf_X10_190 q1 ?_
    obtain ⟨q3, T⟩ := T
    obtain ⟨q4, T⟩ := T
    refine v_aald (pc' := 25) 7 dX10_image_24 rfl rfl (by decide) q3 q4 ?_
    refine v_iconst (pc' := 26) (v := 0) dX10_image_25 rfl kI_0 ?_
    obtain ⟨h5, k6, T⟩ := T
    refine v_callV (pc' := 29) (M1 := mX10_putsAll) (as := [.ref (rH h (rH h r0 25) ((upI h.2 r0 0 0) r0 16).toNatClampNeg), .int 0]) (r := r0) (rest := []) 8 dX10_image_26 rfl ko_X10_452 kc_X10_putsAll ki_X10_putsAll ks_X10_putsAll (by decide) (by decide) hdd rfl rfl (le_l rfl) q1 k6 ?_
    refine v_aload_n (pc' := 30) dX10_image_29 rfl rfl ?_
    refine v_dup (pc' := 31) dX10_image_30 rfl rfl ?_
    obtain ⟨q7, T⟩ := T
    refine v_getI (pc' := 34) 8 16 dX10_image_31 rfl (by decide) (by decide) rfl kf_X10_190 q7 ?_
    refine v_iconst (pc' := 35) (v := 1) dX10_image_34 rfl kI_1 ?_
    refine v_iadd (pc' := 36) dX10_image_35 rfl ?_
    refine v_putI (pc' := 39) 8 16 dX10_image_36 rfl (by decide) (by decide) rfl rfl kf_X10_190 q7 ?_
    refine v_aload_n (pc' := 40) dX10_image_39 rfl rfl ?_
    refine v_getI (pc' := 43) 8 16 dX10_image_40 rfl (by decide) (by decide) rfl kf_X10_190 q7 ?_
    exact v_iret dX10_image_43 rfl T
  · have T := T.2 c2
    refine v_iconst (pc' := 14) (v := (-1)) dX10_image_13 rfl kI_m1 ?_
    exact v_iret dX10_image_14 rfl T
theorem eX10_restore {G : GG} {d : Nat} {h : Hp} {o : OU} {h' : Hp} (r0 : Nat) (hd : 1 ≤ d) (T : kH h r0 = 18 ∧ ((¬ ((upI h.2 r0 0 0) r0 16) = 0 → kH h (rH h r0 25) = 7 ∧ vp_in ((upI (upI h.2 r0 0 0) r0 16 (((upI h.2 r0 0 0) r0 16) - 1)) r0 16) (lH h (rH h r0 25)) ∧ ∃ h5, VM G mX10_putsAll (d - 1) [.ref r0, .ref (rH h (rH h r0 25) ((upI (upI h.2 r0 0 0) r0 16 (((upI h.2 r0 0 0) r0 16) - 1)) r0 16).toNatClampNeg), .int 1] (h.1, (upI (upI h.2 r0 0 0) r0 16 (((upI h.2 r0 0 0) r0 16) - 1))) (.inl none) h5 ∧ kH h5 r0 = 18 ∧ (o = .inl (some (.int ((upI h5.2 r0 15 0) r0 16))) ∧ h' = (h5.1, (upI h5.2 r0 15 0)))) ∧ (((upI h.2 r0 0 0) r0 16) = 0 → (o = .inl (some (.int (-1))) ∧ h' = (h.1, (upI h.2 r0 0 0)))))) : VM G mX10_restore d [.ref r0] h o h' := by
  refine V.toM rfl rfl (le_l rfl) (cat_all rfl) ?_
  show V G mX10_restore d 0 [.ref r0] [] h o h'
  have hdd : d - 1 + 1 ≤ d := by omega
  refine v_aload_n (pc' := 1) dX10_restore_0 rfl rfl ?_
  refine v_iconst (pc' := 2) (v := 0) dX10_restore_1 rfl kI_0 ?_
  obtain ⟨q1, T⟩ := T
  refine v_putI (pc' := 5) 8 0 dX10_restore_2 rfl (by decide) (by decide) rfl rfl kf_X10_72 q1 ?_
  refine v_aload_n (pc' := 6) dX10_restore_5 rfl rfl ?_
  refine v_getI (pc' := 9) 8 16 dX10_restore_6 rfl (by decide) (by decide) rfl kf_X10_190 q1 ?_
  refine v_if_ne (tgt := 14) (pc' := 12) dX10_restore_9 (by decide) rfl ⟨fun c2 => ?_, fun c2 => ?_⟩
  · have T := T.1 c2
    refine v_aload_n (pc' := 15) dX10_restore_14 rfl rfl ?_
    refine v_dup (pc' := 16) dX10_restore_15 rfl rfl ?_
    refine v_getI (pc' := 19) 8 16 dX10_restore_16 rfl (by decide) (by decide) rfl kf_X10_190 q1 ?_
    refine v_iconst (pc' := 20) (v := 1) dX10_restore_19 rfl kI_1 ?_
    refine v_isub (pc' := 21) dX10_restore_20 rfl ?_
    refine v_putI (pc' := 24) 8 16 dX10_restore_21 rfl (by decide) (by decide) rfl rfl kf_X10_190 q1 ?_
    refine v_aload_n (pc' := 25) dX10_restore_24 rfl rfl ?_
    refine v_aload_n (pc' := 26) dX10_restore_25 rfl rfl ?_
    refine v_getR (pc' := 29) 8 25 dX10_restore_26 rfl (by decide) (by decide) rfl kf_X10_41 q1 ?_
    refine v_aload_n (pc' := 30) dX10_restore_29 rfl rfl ?_
    refine v_getI (pc' := 33) 8 16 dX10_restore_30 rfl (by decide) (by decide) rfl kf_X10_190 q1 ?_
    obtain ⟨q3, T⟩ := T
    obtain ⟨q4, T⟩ := T
    refine v_aald (pc' := 34) 7 dX10_restore_33 rfl rfl (by decide) q3 q4 ?_
    refine v_iconst (pc' := 35) (v := 1) dX10_restore_34 rfl kI_1 ?_
    obtain ⟨h5, k6, T⟩ := T
    refine v_callV (pc' := 38) (M1 := mX10_putsAll) (as := [.ref (rH h (rH h r0 25) ((upI (upI h.2 r0 0 0) r0 16 (((upI h.2 r0 0 0) r0 16) - 1)) r0 16).toNatClampNeg), .int 1]) (r := r0) (rest := []) 8 dX10_restore_35 rfl ko_X10_452 kc_X10_putsAll ki_X10_putsAll ks_X10_putsAll (by decide) (by decide) hdd rfl rfl (le_l rfl) q1 k6 ?_
    refine v_aload_n (pc' := 39) dX10_restore_38 rfl rfl ?_
    refine v_iconst (pc' := 40) (v := 0) dX10_restore_39 rfl kI_0 ?_
    obtain ⟨q7, T⟩ := T
    refine v_putI (pc' := 43) 8 15 dX10_restore_40 rfl (by decide) (by decide) rfl rfl kf_X10_187 q7 ?_
    refine v_aload_n (pc' := 44) dX10_restore_43 rfl rfl ?_
    refine v_getI (pc' := 47) 8 16 dX10_restore_44 rfl (by decide) (by decide) rfl kf_X10_190 q7 ?_
    exact v_iret dX10_restore_47 rfl T
  · have T := T.2 c2
    refine v_iconst (pc' := 13) (v := (-1)) dX10_restore_12 rfl kI_m1 ?_
    exact v_iret dX10_restore_13 rfl T
theorem eX10_status {G : GG} {d : Nat} {h : Hp} {o : OU} {h' : Hp} (r0 : Nat) (x1 : Int32) (hd : 1 ≤ d) (T : kH h r0 = 18 ∧ ∃ z3 h2, VM G mX10_in (d - 1) [.int x1, .int 0, .int 3] (h.1, (upI h.2 r0 0 0)) (.inl (some (.int z3))) h2 ∧ ((z3 = 0 → (o = .inl (some (.int (-1))) ∧ h' = h2)) ∧ (¬ z3 = 0 → kH h2 r0 = 18 ∧ kH h2 (rH h2 r0 10) = 1 ∧ vp_in x1 (lH h2 (rH h2 r0 10)) ∧ (o = .inl (some (.int (h2.2 (rH h2 r0 10) x1.toNatClampNeg))) ∧ h' = h2)))) : VM G mX10_status d [.ref r0, .int x1] h o h' := by
  refine V.toM rfl rfl (le_l rfl) (cat_all rfl) ?_
  show V G mX10_status d 0 [.ref r0, .int x1] [] h o h'
  have hdd : d - 1 + 1 ≤ d := by omega
  refine v_aload_n (pc' := 1) dX10_status_0 rfl rfl ?_
  refine v_iconst (pc' := 2) (v := 0) dX10_status_1 rfl kI_0 ?_
  obtain ⟨q1, T⟩ := T
  refine v_putI (pc' := 5) 8 0 dX10_status_2 rfl (by decide) (by decide) rfl rfl kf_X10_72 q1 ?_
  refine v_iload_n (pc' := 6) dX10_status_5 rfl rfl ?_
  refine v_iconst (pc' := 7) (v := 0) dX10_status_6 rfl kI_0 ?_
  refine v_iconst (pc' := 8) (v := 3) dX10_status_7 rfl kI_3 ?_
  obtain ⟨z3, h2, k4, T⟩ := T
  refine v_callS (pc' := 11) (M1 := mX10_in) (as := [.int x1, .int 0, .int 3]) (rest := []) dX10_status_8 rfl ko_X10_106 kc_X10_in kt_X10_in (by decide) hdd rfl rfl (le_l rfl) k4 ?_
  refine v_if_eq (tgt := 23) (pc' := 14) dX10_status_11 (by decide) rfl ⟨fun c5 => ?_, fun c5 => ?_⟩
  · have T := T.1 c5
    refine v_iconst (pc' := 24) (v := (-1)) dX10_status_23 rfl kI_m1 ?_
    exact v_iret dX10_status_24 rfl T
  · have T := T.2 c5
    refine v_aload_n (pc' := 15) dX10_status_14 rfl rfl ?_
    obtain ⟨q6, T⟩ := T
    refine v_getR (pc' := 18) 8 10 dX10_status_15 rfl (by decide) (by decide) rfl kf_X10_17 q6 ?_
    refine v_iload_n (pc' := 19) dX10_status_18 rfl rfl ?_
    obtain ⟨q7, T⟩ := T
    obtain ⟨q8, T⟩ := T
    refine v_iald (pc' := 20) dX10_status_19 rfl rfl q7 q8 ?_
    refine v_goto (pc' := 24) dX10_status_20 (by decide) ?_
    exact v_iret dX10_status_24 rfl T
theorem eX10_count {G : GG} {d : Nat} {h : Hp} {o : OU} {h' : Hp} (r0 : Nat) (x1 : Int32) (T : kH h r0 = 18 ∧ ((¬ x1 = 0 → ((¬ x1 = 1 → ((¬ x1 = 2 → (o = .inl (some (.int (-1))) ∧ h' = (h.1, (upI h.2 r0 0 0)))) ∧ (x1 = 2 → (o = .inl (some (.int ((upI h.2 r0 0 0) r0 14))) ∧ h' = (h.1, (upI h.2 r0 0 0)))))) ∧ (x1 = 1 → (o = .inl (some (.int ((upI h.2 r0 0 0) r0 1))) ∧ h' = (h.1, (upI h.2 r0 0 0)))))) ∧ (x1 = 0 → (o = .inl (some (.int ((upI h.2 r0 0 0) r0 16))) ∧ h' = (h.1, (upI h.2 r0 0 0)))))) : VM G mX10_count d [.ref r0, .int x1] h o h' := by
  refine V.toM rfl rfl (le_l rfl) (cat_all rfl) ?_
  show V G mX10_count d 0 [.ref r0, .int x1] [] h o h'
  refine v_aload_n (pc' := 1) dX10_count_0 rfl rfl ?_
  refine v_iconst (pc' := 2) (v := 0) dX10_count_1 rfl kI_0 ?_
  obtain ⟨q1, T⟩ := T
  refine v_putI (pc' := 5) 8 0 dX10_count_2 rfl (by decide) (by decide) rfl rfl kf_X10_72 q1 ?_
  refine v_iload_n (pc' := 6) dX10_count_5 rfl rfl ?_
  refine v_if_ne (tgt := 16) (pc' := 9) dX10_count_6 (by decide) rfl ⟨fun c2 => ?_, fun c2 => ?_⟩
  · have T := T.1 c2
    refine v_iload_n (pc' := 17) dX10_count_16 rfl rfl ?_
    refine v_iconst (pc' := 18) (v := 1) dX10_count_17 rfl kI_1 ?_
    refine v_icmp_ne (tgt := 28) (pc' := 21) dX10_count_18 (by decide) rfl ⟨fun c3 => ?_, fun c3 => ?_⟩
    · have T := T.1 c3
      refine v_iload_n (pc' := 29) dX10_count_28 rfl rfl ?_
      refine v_iconst (pc' := 30) (v := 2) dX10_count_29 rfl kI_2 ?_
      refine v_icmp_ne (tgt := 40) (pc' := 33) dX10_count_30 (by decide) rfl ⟨fun c4 => ?_, fun c4 => ?_⟩
      · have T := T.1 c4
        refine v_iconst (pc' := 41) (v := (-1)) dX10_count_40 rfl kI_m1 ?_
        exact v_iret dX10_count_41 rfl T
      · have T := T.2 c4
        refine v_aload_n (pc' := 34) dX10_count_33 rfl rfl ?_
        refine v_getI (pc' := 37) 8 14 dX10_count_34 rfl (by decide) (by decide) rfl kf_X10_184 q1 ?_
        refine v_goto (pc' := 41) dX10_count_37 (by decide) ?_
        exact v_iret dX10_count_41 rfl T
    · have T := T.2 c3
      refine v_aload_n (pc' := 22) dX10_count_21 rfl rfl ?_
      refine v_getI (pc' := 25) 8 1 dX10_count_22 rfl (by decide) (by decide) rfl kf_X10_75 q1 ?_
      refine v_goto (pc' := 41) dX10_count_25 (by decide) ?_
      exact v_iret dX10_count_41 rfl T
  · have T := T.2 c2
    refine v_aload_n (pc' := 10) dX10_count_9 rfl rfl ?_
    refine v_getI (pc' := 13) 8 16 dX10_count_10 rfl (by decide) (by decide) rfl kf_X10_190 q1 ?_
    refine v_goto (pc' := 41) dX10_count_13 (by decide) ?_
    exact v_iret dX10_count_41 rfl T
