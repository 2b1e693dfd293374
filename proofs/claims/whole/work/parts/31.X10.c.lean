theorem dX10_sweepAt_0 : decode cX10_sweepAt 0 = .ok (.iconst 1, 1) := by decide +kernel
theorem dX10_sweepAt_1 : decode cX10_sweepAt 1 = .ok (.istore_n 2, 1) := by decide +kernel
theorem dX10_sweepAt_2 : decode cX10_sweepAt 2 = .ok (.iload_n 2, 1) := by decide +kernel
theorem dX10_sweepAt_3 : decode cX10_sweepAt 3 = .ok (.bipush 12, 2) := by decide +kernel
theorem dX10_sweepAt_5 : decode cX10_sweepAt 5 = .ok (.if_icmp .ge 34, 3) := by decide +kernel
theorem dX10_sweepAt_8 : decode cX10_sweepAt 8 = .ok (.aload_n 1, 1) := by decide +kernel
theorem dX10_sweepAt_9 : decode cX10_sweepAt 9 = .ok (.iconst 0, 1) := by decide +kernel
theorem dX10_sweepAt_10 : decode cX10_sweepAt 10 = .ok (.iload_n 2, 1) := by decide +kernel
theorem dX10_sweepAt_11 : decode cX10_sweepAt 11 = .ok (.iconst 0, 1) := by decide +kernel
theorem dX10_sweepAt_12 : decode cX10_sweepAt 12 = .ok (.invokestatic 233, 3) := by decide +kernel
theorem dX10_sweepAt_15 : decode cX10_sweepAt 15 = .ok (.aload_n 1, 1) := by decide +kernel
theorem dX10_sweepAt_16 : decode cX10_sweepAt 16 = .ok (.iconst 0, 1) := by decide +kernel
theorem dX10_sweepAt_17 : decode cX10_sweepAt 17 = .ok (.iload_n 2, 1) := by decide +kernel
theorem dX10_sweepAt_18 : decode cX10_sweepAt 18 = .ok (.invokestatic 309, 3) := by decide +kernel
theorem dX10_sweepAt_21 : decode cX10_sweepAt 21 = .ok (.aload_n 1, 1) := by decide +kernel
theorem dX10_sweepAt_22 : decode cX10_sweepAt 22 = .ok (.iconst 1, 1) := by decide +kernel
theorem dX10_sweepAt_23 : decode cX10_sweepAt 23 = .ok (.iload_n 2, 1) := by decide +kernel
theorem dX10_sweepAt_24 : decode cX10_sweepAt 24 = .ok (.invokestatic 312, 3) := by decide +kernel
theorem dX10_sweepAt_27 : decode cX10_sweepAt 27 = .ok (.iadd, 1) := by decide +kernel
theorem dX10_sweepAt_28 : decode cX10_sweepAt 28 = .ok (.if_icmp .le 5, 3) := by decide +kernel
theorem dX10_sweepAt_31 : decode cX10_sweepAt 31 = .ok (.iload_n 2, 1) := by decide +kernel
theorem dX10_sweepAt_32 : decode cX10_sweepAt 32 = .ok (.ireturn, 1) := by decide +kernel
theorem dX10_sweepAt_33 : decode cX10_sweepAt 33 = .ok (.iinc 2 1, 3) := by decide +kernel
theorem dX10_sweepAt_36 : decode cX10_sweepAt 36 = .ok (.goto (-34), 3) := by decide +kernel
theorem dX10_sweepAt_39 : decode cX10_sweepAt 39 = .ok (.iconst 4, 1) := by decide +kernel
theorem dX10_sweepAt_40 : decode cX10_sweepAt 40 = .ok (.istore_n 2, 1) := by decide +kernel
theorem dX10_sweepAt_41 : decode cX10_sweepAt 41 = .ok (.iload_n 2, 1) := by decide +kernel
theorem dX10_sweepAt_42 : decode cX10_sweepAt 42 = .ok (.aload_n 0, 1) := by decide +kernel
theorem dX10_sweepAt_43 : decode cX10_sweepAt 43 = .ok (.getfield 168, 3) := by decide +kernel
theorem dX10_sweepAt_46 : decode cX10_sweepAt 46 = .ok (.if_icmp .ge 46, 3) := by decide +kernel
theorem dX10_sweepAt_49 : decode cX10_sweepAt 49 = .ok (.aload_n 1, 1) := by decide +kernel
theorem dX10_sweepAt_50 : decode cX10_sweepAt 50 = .ok (.iconst 0, 1) := by decide +kernel
theorem dX10_sweepAt_51 : decode cX10_sweepAt 51 = .ok (.iload_n 2, 1) := by decide +kernel
theorem dX10_sweepAt_52 : decode cX10_sweepAt 52 = .ok (.iadd, 1) := by decide +kernel
theorem dX10_sweepAt_53 : decode cX10_sweepAt 53 = .ok (.iaload, 1) := by decide +kernel
theorem dX10_sweepAt_54 : decode cX10_sweepAt 54 = .ok (.ifCond .eq 32, 3) := by decide +kernel
theorem dX10_sweepAt_57 : decode cX10_sweepAt 57 = .ok (.aload_n 1, 1) := by decide +kernel
theorem dX10_sweepAt_58 : decode cX10_sweepAt 58 = .ok (.iconst 0, 1) := by decide +kernel
theorem dX10_sweepAt_59 : decode cX10_sweepAt 59 = .ok (.aload_n 1, 1) := by decide +kernel
theorem dX10_sweepAt_60 : decode cX10_sweepAt 60 = .ok (.iconst 0, 1) := by decide +kernel
theorem dX10_sweepAt_61 : decode cX10_sweepAt 61 = .ok (.invokestatic 315, 3) := by decide +kernel
theorem dX10_sweepAt_64 : decode cX10_sweepAt 64 = .ok (.iload_n 2, 1) := by decide +kernel
theorem dX10_sweepAt_65 : decode cX10_sweepAt 65 = .ok (.invokestatic 306, 3) := by decide +kernel
theorem dX10_sweepAt_68 : decode cX10_sweepAt 68 = .ok (.iconst (-1), 1) := by decide +kernel
theorem dX10_sweepAt_69 : decode cX10_sweepAt 69 = .ok (.if_icmp .ne 17, 3) := by decide +kernel
theorem dX10_sweepAt_72 : decode cX10_sweepAt 72 = .ok (.aload_n 1, 1) := by decide +kernel
theorem dX10_sweepAt_73 : decode cX10_sweepAt 73 = .ok (.iconst 0, 1) := by decide +kernel
theorem dX10_sweepAt_74 : decode cX10_sweepAt 74 = .ok (.iload_n 2, 1) := by decide +kernel
theorem dX10_sweepAt_75 : decode cX10_sweepAt 75 = .ok (.invokestatic 312, 3) := by decide +kernel
theorem dX10_sweepAt_78 : decode cX10_sweepAt 78 = .ok (.ifCond .ne 8, 3) := by decide +kernel
theorem dX10_sweepAt_81 : decode cX10_sweepAt 81 = .ok (.bipush 100, 2) := by decide +kernel
theorem dX10_sweepAt_83 : decode cX10_sweepAt 83 = .ok (.iload_n 2, 1) := by decide +kernel
theorem dX10_sweepAt_84 : decode cX10_sweepAt 84 = .ok (.iadd, 1) := by decide +kernel
theorem dX10_sweepAt_85 : decode cX10_sweepAt 85 = .ok (.ireturn, 1) := by decide +kernel
theorem dX10_sweepAt_86 : decode cX10_sweepAt 86 = .ok (.iinc 2 1, 3) := by decide +kernel
theorem dX10_sweepAt_89 : decode cX10_sweepAt 89 = .ok (.goto (-48), 3) := by decide +kernel
theorem dX10_sweepAt_92 : decode cX10_sweepAt 92 = .ok (.iconst (-1), 1) := by decide +kernel
theorem dX10_sweepAt_93 : decode cX10_sweepAt 93 = .ok (.ireturn, 1) := by decide +kernel
theorem dX10_sweepsOne_0 : decode cX10_sweepsOne 0 = .ok (.aload_n 0, 1) := by decide +kernel
theorem dX10_sweepsOne_1 : decode cX10_sweepsOne 1 = .ok (.aload_n 1, 1) := by decide +kernel
theorem dX10_sweepsOne_2 : decode cX10_sweepsOne 2 = .ok (.invokevirtual 318, 3) := by decide +kernel
theorem dX10_sweepsOne_5 : decode cX10_sweepsOne 5 = .ok (.istore_n 2, 1) := by decide +kernel
theorem dX10_sweepsOne_6 : decode cX10_sweepsOne 6 = .ok (.iload_n 2, 1) := by decide +kernel
theorem dX10_sweepsOne_7 : decode cX10_sweepsOne 7 = .ok (.iconst (-1), 1) := by decide +kernel
theorem dX10_sweepsOne_8 : decode cX10_sweepsOne 8 = .ok (.if_icmp .ne 5, 3) := by decide +kernel
theorem dX10_sweepsOne_11 : decode cX10_sweepsOne 11 = .ok (.iconst 0, 1) := by decide +kernel
theorem dX10_sweepsOne_12 : decode cX10_sweepsOne 12 = .ok (.ireturn, 1) := by decide +kernel
theorem dX10_sweepsOne_13 : decode cX10_sweepsOne 13 = .ok (.iload_n 2, 1) := by decide +kernel
theorem dX10_sweepsOne_14 : decode cX10_sweepsOne 14 = .ok (.bipush 100, 2) := by decide +kernel
theorem dX10_sweepsOne_16 : decode cX10_sweepsOne 16 = .ok (.if_icmp .lt 16, 3) := by decide +kernel
theorem dX10_sweepsOne_19 : decode cX10_sweepsOne 19 = .ok (.aload_n 1, 1) := by decide +kernel
theorem dX10_sweepsOne_20 : decode cX10_sweepsOne 20 = .ok (.iconst 0, 1) := by decide +kernel
theorem dX10_sweepsOne_21 : decode cX10_sweepsOne 21 = .ok (.iload_n 2, 1) := by decide +kernel
theorem dX10_sweepsOne_22 : decode cX10_sweepsOne 22 = .ok (.bipush 100, 2) := by decide +kernel
theorem dX10_sweepsOne_24 : decode cX10_sweepsOne 24 = .ok (.isub, 1) := by decide +kernel
theorem dX10_sweepsOne_25 : decode cX10_sweepsOne 25 = .ok (.iconst 0, 1) := by decide +kernel
theorem dX10_sweepsOne_26 : decode cX10_sweepsOne 26 = .ok (.invokestatic 252, 3) := by decide +kernel
theorem dX10_sweepsOne_29 : decode cX10_sweepsOne 29 = .ok (.pop, 1) := by decide +kernel
theorem dX10_sweepsOne_30 : decode cX10_sweepsOne 30 = .ok (.iconst 1, 1) := by decide +kernel
theorem dX10_sweepsOne_31 : decode cX10_sweepsOne 31 = .ok (.ireturn, 1) := by decide +kernel
theorem dX10_sweepsOne_32 : decode cX10_sweepsOne 32 = .ok (.aload_n 1, 1) := by decide +kernel
theorem dX10_sweepsOne_33 : decode cX10_sweepsOne 33 = .ok (.iconst 0, 1) := by decide +kernel
theorem dX10_sweepsOne_34 : decode cX10_sweepsOne 34 = .ok (.iload_n 2, 1) := by decide +kernel
theorem dX10_sweepsOne_35 : decode cX10_sweepsOne 35 = .ok (.invokestatic 309, 3) := by decide +kernel
theorem dX10_sweepsOne_38 : decode cX10_sweepsOne 38 = .ok (.aload_n 1, 1) := by decide +kernel
theorem dX10_sweepsOne_39 : decode cX10_sweepsOne 39 = .ok (.iconst 1, 1) := by decide +kernel
theorem dX10_sweepsOne_40 : decode cX10_sweepsOne 40 = .ok (.iload_n 2, 1) := by decide +kernel
theorem dX10_sweepsOne_41 : decode cX10_sweepsOne 41 = .ok (.invokestatic 312, 3) := by decide +kernel
theorem dX10_sweepsOne_44 : decode cX10_sweepsOne 44 = .ok (.iadd, 1) := by decide +kernel
theorem dX10_sweepsOne_45 : decode cX10_sweepsOne 45 = .ok (.istore_n 3, 1) := by decide +kernel
theorem dX10_sweepsOne_46 : decode cX10_sweepsOne 46 = .ok (.aload_n 1, 1) := by decide +kernel
theorem dX10_sweepsOne_47 : decode cX10_sweepsOne 47 = .ok (.iload_n 2, 1) := by decide +kernel
theorem dX10_sweepsOne_48 : decode cX10_sweepsOne 48 = .ok (.iconst 0, 1) := by decide +kernel
theorem dX10_sweepsOne_49 : decode cX10_sweepsOne 49 = .ok (.iload_n 3, 1) := by decide +kernel
theorem dX10_sweepsOne_50 : decode cX10_sweepsOne 50 = .ok (.iconst 0, 1) := by decide +kernel
theorem dX10_sweepsOne_51 : decode cX10_sweepsOne 51 = .ok (.iconst 0, 1) := by decide +kernel
theorem dX10_sweepsOne_52 : decode cX10_sweepsOne 52 = .ok (.invokestatic 237, 3) := by decide +kernel
theorem dX10_sweepsOne_55 : decode cX10_sweepsOne 55 = .ok (.pop, 1) := by decide +kernel
theorem dX10_sweepsOne_56 : decode cX10_sweepsOne 56 = .ok (.iload_n 3, 1) := by decide +kernel
theorem dX10_sweepsOne_57 : decode cX10_sweepsOne 57 = .ok (.ifCond .ne 8, 3) := by decide +kernel
theorem dX10_sweepsOne_60 : decode cX10_sweepsOne 60 = .ok (.aload_n 1, 1) := by decide +kernel
theorem dX10_sweepsOne_61 : decode cX10_sweepsOne 61 = .ok (.iload_n 2, 1) := by decide +kernel
theorem dX10_sweepsOne_62 : decode cX10_sweepsOne 62 = .ok (.invokestatic 241, 3) := by decide +kernel
theorem dX10_sweepsOne_65 : decode cX10_sweepsOne 65 = .ok (.iconst 1, 1) := by decide +kernel
theorem dX10_sweepsOne_66 : decode cX10_sweepsOne 66 = .ok (.ireturn, 1) := by decide +kernel
theorem dX10_crashes_0 : decode cX10_crashes 0 = .ok (.iconst 0, 1) := by decide +kernel
theorem dX10_crashes_1 : decode cX10_crashes 1 = .ok (.istore_n 1, 1) := by decide +kernel
theorem dX10_crashes_2 : decode cX10_crashes 2 = .ok (.iload_n 1, 1) := by decide +kernel
theorem dX10_crashes_3 : decode cX10_crashes 3 = .ok (.sipush 256, 3) := by decide +kernel
theorem dX10_crashes_6 : decode cX10_crashes 6 = .ok (.if_icmp .ge 21, 3) := by decide +kernel
theorem dX10_crashes_9 : decode cX10_crashes 9 = .ok (.aload_n 0, 1) := by decide +kernel
theorem dX10_crashes_10 : decode cX10_crashes 10 = .ok (.iconst 0, 1) := by decide +kernel
theorem dX10_crashes_11 : decode cX10_crashes 11 = .ok (.iload_n 1, 1) := by decide +kernel
theorem dX10_crashes_12 : decode cX10_crashes 12 = .ok (.iadd, 1) := by decide +kernel
theorem dX10_crashes_13 : decode cX10_crashes 13 = .ok (.aload_n 0, 1) := by decide +kernel
theorem dX10_crashes_14 : decode cX10_crashes 14 = .ok (.sipush 256, 3) := by decide +kernel
theorem dX10_crashes_17 : decode cX10_crashes 17 = .ok (.iload_n 1, 1) := by decide +kernel
theorem dX10_crashes_18 : decode cX10_crashes 18 = .ok (.iadd, 1) := by decide +kernel
theorem dX10_crashes_19 : decode cX10_crashes 19 = .ok (.iaload, 1) := by decide +kernel
theorem dX10_crashes_20 : decode cX10_crashes 20 = .ok (.iastore, 1) := by decide +kernel
theorem dX10_crashes_21 : decode cX10_crashes 21 = .ok (.iinc 1 1, 3) := by decide +kernel
theorem dX10_crashes_24 : decode cX10_crashes 24 = .ok (.goto (-22), 3) := by decide +kernel
theorem dX10_crashes_27 : decode cX10_crashes 27 = .ok (.aload_n 0, 1) := by decide +kernel
theorem dX10_crashes_28 : decode cX10_crashes 28 = .ok (.sipush 3392, 3) := by decide +kernel
theorem dX10_crashes_31 : decode cX10_crashes 31 = .ok (.iconst 0, 1) := by decide +kernel
theorem dX10_crashes_32 : decode cX10_crashes 32 = .ok (.iastore, 1) := by decide +kernel
theorem dX10_crashes_33 : decode cX10_crashes 33 = .ok (.aload_n 0, 1) := by decide +kernel
theorem dX10_crashes_34 : decode cX10_crashes 34 = .ok (.sipush 3393, 3) := by decide +kernel
theorem dX10_crashes_37 : decode cX10_crashes 37 = .ok (.iconst 0, 1) := by decide +kernel
theorem dX10_crashes_38 : decode cX10_crashes 38 = .ok (.iastore, 1) := by decide +kernel
theorem dX10_crashes_39 : decode cX10_crashes 39 = .ok (.aload_n 0, 1) := by decide +kernel
theorem dX10_crashes_40 : decode cX10_crashes 40 = .ok (.sipush 3397, 3) := by decide +kernel
theorem dX10_crashes_43 : decode cX10_crashes 43 = .ok (.dup2, 1) := by decide +kernel
theorem dX10_crashes_44 : decode cX10_crashes 44 = .ok (.iaload, 1) := by decide +kernel
theorem dX10_crashes_45 : decode cX10_crashes 45 = .ok (.iconst 1, 1) := by decide +kernel
theorem dX10_crashes_46 : decode cX10_crashes 46 = .ok (.iadd, 1) := by decide +kernel
theorem dX10_crashes_47 : decode cX10_crashes 47 = .ok (.iastore, 1) := by decide +kernel
theorem dX10_crashes_48 : decode cX10_crashes 48 = .ok (.iconst 1, 1) := by decide +kernel
theorem dX10_crashes_49 : decode cX10_crashes 49 = .ok (.ireturn, 1) := by decide +kernel
theorem dX10_does_0 : decode cX10_does 0 = .ok (.aload_n 2, 1) := by decide +kernel
theorem dX10_does_1 : decode cX10_does 1 = .ok (.iconst 0, 1) := by decide +kernel
theorem dX10_does_2 : decode cX10_does 2 = .ok (.iaload, 1) := by decide +kernel
theorem dX10_does_3 : decode cX10_does 3 = .ok (.istore_n 3, 1) := by decide +kernel
theorem dX10_does_4 : decode cX10_does 4 = .ok (.aload_n 2, 1) := by decide +kernel
theorem dX10_does_5 : decode cX10_does 5 = .ok (.iconst 1, 1) := by decide +kernel
theorem dX10_does_6 : decode cX10_does 6 = .ok (.iaload, 1) := by decide +kernel
theorem dX10_does_7 : decode cX10_does 7 = .ok (.istore 4, 2) := by decide +kernel
theorem dX10_does_9 : decode cX10_does 9 = .ok (.aload_n 2, 1) := by decide +kernel
theorem dX10_does_10 : decode cX10_does 10 = .ok (.iconst 2, 1) := by decide +kernel
theorem dX10_does_11 : decode cX10_does 11 = .ok (.iaload, 1) := by decide +kernel
theorem dX10_does_12 : decode cX10_does 12 = .ok (.istore 5, 2) := by decide +kernel
theorem dX10_does_14 : decode cX10_does 14 = .ok (.iload_n 3, 1) := by decide +kernel
theorem dX10_does_15 : decode cX10_does 15 = .ok (.bipush 7, 2) := by decide +kernel
theorem dX10_does_17 : decode cX10_does 17 = .ok (.if_icmp .lt 9, 3) := by decide +kernel
theorem dX10_does_20 : decode cX10_does 20 = .ok (.iload_n 3, 1) := by decide +kernel
theorem dX10_does_21 : decode cX10_does 21 = .ok (.bipush 10, 2) := by decide +kernel
theorem dX10_does_23 : decode cX10_does 23 = .ok (.if_icmp .ne 12, 3) := by decide +kernel
theorem dX10_does_26 : decode cX10_does 26 = .ok (.aload_n 1, 1) := by decide +kernel
theorem dX10_does_27 : decode cX10_does 27 = .ok (.invokestatic 321, 3) := by decide +kernel
theorem dX10_does_30 : decode cX10_does 30 = .ok (.ifCond .eq 5, 3) := by decide +kernel
theorem dX10_does_33 : decode cX10_does 33 = .ok (.iconst 0, 1) := by decide +kernel
theorem dX10_does_34 : decode cX10_does 34 = .ok (.ireturn, 1) := by decide +kernel
theorem dX10_does_35 : decode cX10_does 35 = .ok (.iload_n 3, 1) := by decide +kernel
theorem dX10_does_36 : decode cX10_does 36 = .ok (.tableswitch 148 0 9 #[56, 67, 78, 91, 101, 113, 120, 129, 137, 143], 56) := by decide +kernel
theorem dX10_does_92 : decode cX10_does 92 = .ok (.aload_n 0, 1) := by decide +kernel
theorem dX10_does_93 : decode cX10_does 93 = .ok (.aload_n 1, 1) := by decide +kernel
theorem dX10_does_94 : decode cX10_does 94 = .ok (.iload 4, 2) := by decide +kernel
theorem dX10_does_96 : decode cX10_does 96 = .ok (.iload 5, 2) := by decide +kernel
theorem dX10_does_98 : decode cX10_does 98 = .ok (.iconst 1, 1) := by decide +kernel
theorem dX10_does_99 : decode cX10_does 99 = .ok (.invokevirtual 325, 3) := by decide +kernel
theorem dX10_does_102 : decode cX10_does 102 = .ok (.ireturn, 1) := by decide +kernel
theorem dX10_does_103 : decode cX10_does 103 = .ok (.aload_n 0, 1) := by decide +kernel
theorem dX10_does_104 : decode cX10_does 104 = .ok (.aload_n 1, 1) := by decide +kernel
theorem dX10_does_105 : decode cX10_does 105 = .ok (.iload 4, 2) := by decide +kernel
theorem dX10_does_107 : decode cX10_does 107 = .ok (.iload 5, 2) := by decide +kernel
theorem dX10_does_109 : decode cX10_does 109 = .ok (.iconst 2, 1) := by decide +kernel
theorem dX10_does_110 : decode cX10_does 110 = .ok (.invokevirtual 325, 3) := by decide +kernel
theorem dX10_does_113 : decode cX10_does 113 = .ok (.ireturn, 1) := by decide +kernel
theorem dX10_does_114 : decode cX10_does 114 = .ok (.aload_n 0, 1) := by decide +kernel
theorem dX10_does_115 : decode cX10_does 115 = .ok (.aload_n 1, 1) := by decide +kernel
theorem dX10_does_116 : decode cX10_does 116 = .ok (.iload 4, 2) := by decide +kernel
theorem dX10_does_118 : decode cX10_does 118 = .ok (.iload 5, 2) := by decide +kernel
theorem dX10_does_120 : decode cX10_does 120 = .ok (.aload_n 2, 1) := by decide +kernel
theorem dX10_does_121 : decode cX10_does 121 = .ok (.iconst 3, 1) := by decide +kernel
theorem dX10_does_122 : decode cX10_does 122 = .ok (.iaload, 1) := by decide +kernel
theorem dX10_does_123 : decode cX10_does 123 = .ok (.invokevirtual 328, 3) := by decide +kernel
theorem dX10_does_126 : decode cX10_does 126 = .ok (.ireturn, 1) := by decide +kernel
theorem dX10_does_127 : decode cX10_does 127 = .ok (.aload_n 0, 1) := by decide +kernel
theorem dX10_does_128 : decode cX10_does 128 = .ok (.aload_n 1, 1) := by decide +kernel
theorem dX10_does_129 : decode cX10_does 129 = .ok (.iload 4, 2) := by decide +kernel
theorem dX10_does_131 : decode cX10_does 131 = .ok (.iload 5, 2) := by decide +kernel
theorem dX10_does_133 : decode cX10_does 133 = .ok (.invokevirtual 331, 3) := by decide +kernel
theorem dX10_does_136 : decode cX10_does 136 = .ok (.ireturn, 1) := by decide +kernel
theorem dX10_does_137 : decode cX10_does 137 = .ok (.aload_n 1, 1) := by decide +kernel
theorem dX10_does_138 : decode cX10_does 138 = .ok (.iload 4, 2) := by decide +kernel
theorem dX10_does_140 : decode cX10_does 140 = .ok (.iload 5, 2) := by decide +kernel
theorem dX10_does_142 : decode cX10_does 142 = .ok (.aload_n 2, 1) := by decide +kernel
theorem dX10_does_143 : decode cX10_does 143 = .ok (.iconst 3, 1) := by decide +kernel
theorem dX10_does_144 : decode cX10_does 144 = .ok (.iaload, 1) := by decide +kernel
theorem dX10_does_145 : decode cX10_does 145 = .ok (.invokestatic 334, 3) := by decide +kernel
theorem dX10_does_148 : decode cX10_does 148 = .ok (.ireturn, 1) := by decide +kernel
theorem dX10_does_149 : decode cX10_does 149 = .ok (.aload_n 1, 1) := by decide +kernel
theorem dX10_does_150 : decode cX10_does 150 = .ok (.iload 4, 2) := by decide +kernel
theorem dX10_does_152 : decode cX10_does 152 = .ok (.invokestatic 337, 3) := by decide +kernel
theorem dX10_does_155 : decode cX10_does 155 = .ok (.ireturn, 1) := by decide +kernel
theorem dX10_does_156 : decode cX10_does 156 = .ok (.aload_n 1, 1) := by decide +kernel
theorem dX10_does_157 : decode cX10_does 157 = .ok (.iload 4, 2) := by decide +kernel
theorem dX10_does_159 : decode cX10_does 159 = .ok (.iload 5, 2) := by decide +kernel
theorem dX10_does_161 : decode cX10_does 161 = .ok (.invokestatic 340, 3) := by decide +kernel
theorem dX10_does_164 : decode cX10_does 164 = .ok (.ireturn, 1) := by decide +kernel
theorem dX10_does_165 : decode cX10_does 165 = .ok (.aload_n 0, 1) := by decide +kernel
theorem dX10_does_166 : decode cX10_does 166 = .ok (.aload_n 1, 1) := by decide +kernel
theorem dX10_does_167 : decode cX10_does 167 = .ok (.iload 4, 2) := by decide +kernel
theorem dX10_does_169 : decode cX10_does 169 = .ok (.invokevirtual 267, 3) := by decide +kernel
theorem dX10_does_172 : decode cX10_does 172 = .ok (.ireturn, 1) := by decide +kernel
theorem dX10_does_173 : decode cX10_does 173 = .ok (.aload_n 0, 1) := by decide +kernel
theorem dX10_does_174 : decode cX10_does 174 = .ok (.aload_n 1, 1) := by decide +kernel
theorem dX10_does_175 : decode cX10_does 175 = .ok (.invokevirtual 343, 3) := by decide +kernel
theorem dX10_does_178 : decode cX10_does 178 = .ok (.ireturn, 1) := by decide +kernel
theorem dX10_does_179 : decode cX10_does 179 = .ok (.aload_n 1, 1) := by decide +kernel
theorem dX10_does_180 : decode cX10_does 180 = .ok (.invokestatic 346, 3) := by decide +kernel
theorem dX10_does_183 : decode cX10_does 183 = .ok (.ireturn, 1) := by decide +kernel
theorem dX10_does_184 : decode cX10_does 184 = .ok (.aload_n 0, 1) := by decide +kernel
theorem dX10_does_185 : decode cX10_does 185 = .ok (.aload_n 1, 1) := by decide +kernel
theorem dX10_does_186 : decode cX10_does 186 = .ok (.invokevirtual 349, 3) := by decide +kernel
theorem dX10_does_189 : decode cX10_does 189 = .ok (.ireturn, 1) := by decide +kernel
theorem dX10_goes_0 : decode cX10_goes 0 = .ok (.iload_n 1, 1) := by decide +kernel
theorem dX10_goes_1 : decode cX10_goes 1 = .ok (.istore_n 3, 1) := by decide +kernel
theorem dX10_goes_2 : decode cX10_goes 2 = .ok (.iload_n 3, 1) := by decide +kernel
theorem dX10_goes_3 : decode cX10_goes 3 = .ok (.iload_n 2, 1) := by decide +kernel
theorem dX10_goes_4 : decode cX10_goes 4 = .ok (.if_icmp .ge 152, 3) := by decide +kernel
theorem dX10_goes_7 : decode cX10_goes 7 = .ok (.aload_n 0, 1) := by decide +kernel
theorem dX10_goes_8 : decode cX10_goes 8 = .ok (.getfield 352, 3) := by decide +kernel
theorem dX10_goes_11 : decode cX10_goes 11 = .ok (.sipush 200, 3) := by decide +kernel
theorem dX10_goes_14 : decode cX10_goes 14 = .ok (.if_icmp .ge 142, 3) := by decide +kernel
theorem dX10_goes_17 : decode cX10_goes 17 = .ok (.aload_n 0, 1) := by decide +kernel
theorem dX10_goes_18 : decode cX10_goes 18 = .ok (.dup, 1) := by decide +kernel
theorem dX10_goes_19 : decode cX10_goes 19 = .ok (.getfield 352, 3) := by decide +kernel
theorem dX10_goes_22 : decode cX10_goes 22 = .ok (.iconst 1, 1) := by decide +kernel
theorem dX10_goes_23 : decode cX10_goes 23 = .ok (.iadd, 1) := by decide +kernel
theorem dX10_goes_24 : decode cX10_goes 24 = .ok (.putfield 352, 3) := by decide +kernel
theorem dX10_goes_27 : decode cX10_goes 27 = .ok (.aload_n 0, 1) := by decide +kernel
theorem dX10_goes_28 : decode cX10_goes 28 = .ok (.getfield 28, 3) := by decide +kernel
theorem dX10_goes_31 : decode cX10_goes 31 = .ok (.iload_n 3, 1) := by decide +kernel
theorem dX10_goes_32 : decode cX10_goes 32 = .ok (.aaload, 1) := by decide +kernel
theorem dX10_goes_33 : decode cX10_goes 33 = .ok (.iconst 0, 1) := by decide +kernel
theorem dX10_goes_34 : decode cX10_goes 34 = .ok (.iaload, 1) := by decide +kernel
theorem dX10_goes_35 : decode cX10_goes 35 = .ok (.bipush 11, 2) := by decide +kernel
theorem dX10_goes_37 : decode cX10_goes 37 = .ok (.if_icmp .ne 53, 3) := by decide +kernel
theorem dX10_goes_40 : decode cX10_goes 40 = .ok (.iconst 0, 1) := by decide +kernel
theorem dX10_goes_41 : decode cX10_goes 41 = .ok (.istore 4, 2) := by decide +kernel
theorem dX10_goes_43 : decode cX10_goes 43 = .ok (.iload 4, 2) := by decide +kernel
theorem dX10_goes_45 : decode cX10_goes 45 = .ok (.aload_n 0, 1) := by decide +kernel
theorem dX10_goes_46 : decode cX10_goes 46 = .ok (.getfield 28, 3) := by decide +kernel
theorem dX10_goes_49 : decode cX10_goes 49 = .ok (.iload_n 3, 1) := by decide +kernel
theorem dX10_goes_50 : decode cX10_goes 50 = .ok (.aaload, 1) := by decide +kernel
theorem dX10_goes_51 : decode cX10_goes 51 = .ok (.iconst 1, 1) := by decide +kernel
theorem dX10_goes_52 : decode cX10_goes 52 = .ok (.iaload, 1) := by decide +kernel
theorem dX10_goes_53 : decode cX10_goes 53 = .ok (.if_icmp .ge 34, 3) := by decide +kernel
theorem dX10_goes_56 : decode cX10_goes 56 = .ok (.aload_n 0, 1) := by decide +kernel
theorem dX10_goes_57 : decode cX10_goes 57 = .ok (.getfield 352, 3) := by decide +kernel
theorem dX10_goes_60 : decode cX10_goes 60 = .ok (.sipush 200, 3) := by decide +kernel
theorem dX10_goes_63 : decode cX10_goes 63 = .ok (.if_icmp .ge 24, 3) := by decide +kernel
theorem dX10_goes_66 : decode cX10_goes 66 = .ok (.aload_n 0, 1) := by decide +kernel
theorem dX10_goes_67 : decode cX10_goes 67 = .ok (.iload_n 3, 1) := by decide +kernel
theorem dX10_goes_68 : decode cX10_goes 68 = .ok (.iconst 1, 1) := by decide +kernel
theorem dX10_goes_69 : decode cX10_goes 69 = .ok (.iadd, 1) := by decide +kernel
theorem dX10_goes_70 : decode cX10_goes 70 = .ok (.aload_n 0, 1) := by decide +kernel
theorem dX10_goes_71 : decode cX10_goes 71 = .ok (.getfield 28, 3) := by decide +kernel
theorem dX10_goes_74 : decode cX10_goes 74 = .ok (.iload_n 3, 1) := by decide +kernel
theorem dX10_goes_75 : decode cX10_goes 75 = .ok (.aaload, 1) := by decide +kernel
theorem dX10_goes_76 : decode cX10_goes 76 = .ok (.iconst 4, 1) := by decide +kernel
theorem dX10_goes_77 : decode cX10_goes 77 = .ok (.iaload, 1) := by decide +kernel
theorem dX10_goes_78 : decode cX10_goes 78 = .ok (.invokevirtual 355, 3) := by decide +kernel
theorem dX10_goes_81 : decode cX10_goes 81 = .ok (.iinc 4 1, 3) := by decide +kernel
theorem dX10_goes_84 : decode cX10_goes 84 = .ok (.goto (-41), 3) := by decide +kernel
theorem dX10_goes_87 : decode cX10_goes 87 = .ok (.goto 57, 3) := by decide +kernel
theorem dX10_goes_90 : decode cX10_goes 90 = .ok (.aload_n 0, 1) := by decide +kernel
theorem dX10_goes_91 : decode cX10_goes 91 = .ok (.aload_n 0, 1) := by decide +kernel
theorem dX10_goes_92 : decode cX10_goes 92 = .ok (.getfield 31, 3) := by decide +kernel
theorem dX10_goes_95 : decode cX10_goes 95 = .ok (.aload_n 0, 1) := by decide +kernel
theorem dX10_goes_96 : decode cX10_goes 96 = .ok (.getfield 28, 3) := by decide +kernel
theorem dX10_goes_99 : decode cX10_goes 99 = .ok (.iload_n 3, 1) := by decide +kernel
theorem dX10_goes_100 : decode cX10_goes 100 = .ok (.aaload, 1) := by decide +kernel
theorem dX10_goes_101 : decode cX10_goes 101 = .ok (.invokevirtual 177, 3) := by decide +kernel
theorem dX10_goes_104 : decode cX10_goes 104 = .ok (.istore 4, 2) := by decide +kernel
theorem dX10_goes_106 : decode cX10_goes 106 = .ok (.aload_n 0, 1) := by decide +kernel
theorem dX10_goes_107 : decode cX10_goes 107 = .ok (.dup, 1) := by decide +kernel
theorem dX10_goes_108 : decode cX10_goes 108 = .ok (.getfield 358, 3) := by decide +kernel
theorem dX10_goes_111 : decode cX10_goes 111 = .ok (.iload 4, 2) := by decide +kernel
theorem dX10_goes_113 : decode cX10_goes 113 = .ok (.ifCond .eq 7, 3) := by decide +kernel
theorem dX10_goes_116 : decode cX10_goes 116 = .ok (.iconst 1, 1) := by decide +kernel
theorem dX10_goes_117 : decode cX10_goes 117 = .ok (.goto 4, 3) := by decide +kernel
theorem dX10_goes_120 : decode cX10_goes 120 = .ok (.iconst 0, 1) := by decide +kernel
theorem dX10_goes_121 : decode cX10_goes 121 = .ok (.iadd, 1) := by decide +kernel
theorem dX10_goes_122 : decode cX10_goes 122 = .ok (.putfield 358, 3) := by decide +kernel
theorem dX10_goes_125 : decode cX10_goes 125 = .ok (.aload_n 0, 1) := by decide +kernel
theorem dX10_goes_126 : decode cX10_goes 126 = .ok (.dup, 1) := by decide +kernel
theorem dX10_goes_127 : decode cX10_goes 127 = .ok (.getfield 187, 3) := by decide +kernel
theorem dX10_goes_130 : decode cX10_goes 130 = .ok (.iload 4, 2) := by decide +kernel
theorem dX10_goes_132 : decode cX10_goes 132 = .ok (.ifCond .eq 7, 3) := by decide +kernel
theorem dX10_goes_135 : decode cX10_goes 135 = .ok (.iconst 0, 1) := by decide +kernel
theorem dX10_goes_136 : decode cX10_goes 136 = .ok (.goto 4, 3) := by decide +kernel
theorem dX10_goes_139 : decode cX10_goes 139 = .ok (.iconst 1, 1) := by decide +kernel
theorem dX10_goes_140 : decode cX10_goes 140 = .ok (.iadd, 1) := by decide +kernel
theorem dX10_goes_141 : decode cX10_goes 141 = .ok (.putfield 187, 3) := by decide +kernel
theorem dX10_goes_144 : decode cX10_goes 144 = .ok (.aload_n 0, 1) := by decide +kernel
theorem dX10_goes_145 : decode cX10_goes 145 = .ok (.getfield 28, 3) := by decide +kernel
theorem dX10_goes_148 : decode cX10_goes 148 = .ok (.iload_n 3, 1) := by decide +kernel
theorem dX10_goes_149 : decode cX10_goes 149 = .ok (.aaload, 1) := by decide +kernel
theorem dX10_goes_150 : decode cX10_goes 150 = .ok (.iconst 4, 1) := by decide +kernel
theorem dX10_goes_151 : decode cX10_goes 151 = .ok (.iaload, 1) := by decide +kernel
theorem dX10_goes_152 : decode cX10_goes 152 = .ok (.istore_n 3, 1) := by decide +kernel
theorem dX10_goes_153 : decode cX10_goes 153 = .ok (.goto (-151), 3) := by decide +kernel
theorem dX10_goes_156 : decode cX10_goes 156 = .ok (.return_, 1) := by decide +kernel
theorem dX10_work_0 : decode cX10_work 0 = .ok (.aload_n 0, 1) := by decide +kernel
theorem dX10_work_1 : decode cX10_work 1 = .ok (.iconst 0, 1) := by decide +kernel
theorem dX10_work_2 : decode cX10_work 2 = .ok (.putfield 72, 3) := by decide +kernel
theorem dX10_work_5 : decode cX10_work 5 = .ok (.aload_n 0, 1) := by decide +kernel
theorem dX10_work_6 : decode cX10_work 6 = .ok (.iload_n 1, 1) := by decide +kernel
theorem dX10_work_7 : decode cX10_work 7 = .ok (.iconst 0, 1) := by decide +kernel
theorem dX10_work_8 : decode cX10_work 8 = .ok (.aload_n 0, 1) := by decide +kernel
theorem dX10_work_9 : decode cX10_work 9 = .ok (.getfield 75, 3) := by decide +kernel
theorem dX10_work_12 : decode cX10_work 12 = .ok (.invokestatic 106, 3) := by decide +kernel
theorem dX10_work_15 : decode cX10_work 15 = .ok (.ifCond .eq 10, 3) := by decide +kernel
theorem dX10_work_18 : decode cX10_work 18 = .ok (.iload_n 1, 1) := by decide +kernel
theorem dX10_work_19 : decode cX10_work 19 = .ok (.sipush 150, 3) := by decide +kernel
theorem dX10_work_22 : decode cX10_work 22 = .ok (.if_icmp .le 7, 3) := by decide +kernel
theorem dX10_work_25 : decode cX10_work 25 = .ok (.iconst 1, 1) := by decide +kernel
theorem dX10_work_26 : decode cX10_work 26 = .ok (.goto 4, 3) := by decide +kernel
theorem dX10_work_29 : decode cX10_work 29 = .ok (.iconst 0, 1) := by decide +kernel
theorem dX10_work_30 : decode cX10_work 30 = .ok (.iconst 1, 1) := by decide +kernel
theorem dX10_work_31 : decode cX10_work 31 = .ok (.iconst 1, 1) := by decide +kernel
theorem dX10_work_32 : decode cX10_work 32 = .ok (.invokevirtual 155, 3) := by decide +kernel
theorem dX10_work_35 : decode cX10_work 35 = .ok (.ifCond .eq 5, 3) := by decide +kernel
theorem dX10_work_38 : decode cX10_work 38 = .ok (.iconst 0, 1) := by decide +kernel
theorem dX10_work_39 : decode cX10_work 39 = .ok (.ireturn, 1) := by decide +kernel
theorem dX10_work_40 : decode cX10_work 40 = .ok (.aload_n 0, 1) := by decide +kernel
theorem dX10_work_41 : decode cX10_work 41 = .ok (.getfield 184, 3) := by decide +kernel
theorem dX10_work_44 : decode cX10_work 44 = .ok (.bipush 16, 2) := by decide +kernel
theorem dX10_work_46 : decode cX10_work 46 = .ok (.if_icmp .ne 16, 3) := by decide +kernel
theorem dX10_work_49 : decode cX10_work 49 = .ok (.aload_n 0, 1) := by decide +kernel
theorem dX10_work_50 : decode cX10_work 50 = .ok (.iconst 0, 1) := by decide +kernel
theorem dX10_work_51 : decode cX10_work 51 = .ok (.putfield 75, 3) := by decide +kernel
theorem dX10_work_54 : decode cX10_work 54 = .ok (.aload_n 0, 1) := by decide +kernel
theorem dX10_work_55 : decode cX10_work 55 = .ok (.iconst (-1), 1) := by decide +kernel
theorem dX10_work_56 : decode cX10_work 56 = .ok (.putfield 9, 3) := by decide +kernel
theorem dX10_work_59 : decode cX10_work 59 = .ok (.bipush (-20), 2) := by decide +kernel
theorem dX10_work_61 : decode cX10_work 61 = .ok (.ireturn, 1) := by decide +kernel
theorem dX10_work_62 : decode cX10_work 62 = .ok (.aload_n 0, 1) := by decide +kernel
theorem dX10_work_63 : decode cX10_work 63 = .ok (.iload_n 1, 1) := by decide +kernel
theorem dX10_work_64 : decode cX10_work 64 = .ok (.invokevirtual 159, 3) := by decide +kernel
theorem dX10_work_67 : decode cX10_work 67 = .ok (.aload_n 0, 1) := by decide +kernel
theorem dX10_work_68 : decode cX10_work 68 = .ok (.iconst 0, 1) := by decide +kernel
theorem dX10_work_69 : decode cX10_work 69 = .ok (.putfield 66, 3) := by decide +kernel
theorem dX10_work_72 : decode cX10_work 72 = .ok (.aload_n 0, 1) := by decide +kernel
theorem dX10_work_73 : decode cX10_work 73 = .ok (.getfield 88, 3) := by decide +kernel
theorem dX10_work_76 : decode cX10_work 76 = .ok (.ifCond .ne 25, 3) := by decide +kernel
theorem dX10_work_79 : decode cX10_work 79 = .ok (.aload_n 0, 1) := by decide +kernel
theorem dX10_work_80 : decode cX10_work 80 = .ok (.getfield 81, 3) := by decide +kernel
theorem dX10_work_83 : decode cX10_work 83 = .ok (.aload_n 0, 1) := by decide +kernel
theorem dX10_work_84 : decode cX10_work 84 = .ok (.getfield 78, 3) := by decide +kernel
theorem dX10_work_87 : decode cX10_work 87 = .ok (.if_icmp .ge 14, 3) := by decide +kernel
theorem dX10_work_90 : decode cX10_work 90 = .ok (.aload_n 0, 1) := by decide +kernel
theorem dX10_work_91 : decode cX10_work 91 = .ok (.invokevirtual 139, 3) := by decide +kernel
theorem dX10_work_94 : decode cX10_work 94 = .ok (.aload_n 0, 1) := by decide +kernel
theorem dX10_work_95 : decode cX10_work 95 = .ok (.invokevirtual 94, 3) := by decide +kernel
theorem dX10_work_98 : decode cX10_work 98 = .ok (.goto (-26), 3) := by decide +kernel
theorem dX10_work_101 : decode cX10_work 101 = .ok (.aload_n 0, 1) := by decide +kernel
theorem dX10_work_102 : decode cX10_work 102 = .ok (.getfield 88, 3) := by decide +kernel
theorem dX10_work_105 : decode cX10_work 105 = .ok (.ifCond .eq 8, 3) := by decide +kernel
theorem dX10_work_108 : decode cX10_work 108 = .ok (.aload_n 0, 1) := by decide +kernel
theorem dX10_work_109 : decode cX10_work 109 = .ok (.invokevirtual 165, 3) := by decide +kernel
theorem dX10_work_112 : decode cX10_work 112 = .ok (.ireturn, 1) := by decide +kernel
theorem dX10_work_113 : decode cX10_work 113 = .ok (.aload_n 0, 1) := by decide +kernel
theorem dX10_work_114 : decode cX10_work 114 = .ok (.iconst (-1), 1) := by decide +kernel
theorem dX10_work_115 : decode cX10_work 115 = .ok (.putfield 9, 3) := by decide +kernel
theorem dX10_work_118 : decode cX10_work 118 = .ok (.aload_n 0, 1) := by decide +kernel
theorem dX10_work_119 : decode cX10_work 119 = .ok (.getfield 31, 3) := by decide +kernel
theorem dX10_work_122 : decode cX10_work 122 = .ok (.aload_n 0, 1) := by decide +kernel
theorem dX10_work_123 : decode cX10_work 123 = .ok (.getfield 37, 3) := by decide +kernel
theorem dX10_work_126 : decode cX10_work 126 = .ok (.aload_n 0, 1) := by decide +kernel
theorem dX10_work_127 : decode cX10_work 127 = .ok (.getfield 184, 3) := by decide +kernel
theorem dX10_work_130 : decode cX10_work 130 = .ok (.aaload, 1) := by decide +kernel
theorem dX10_work_131 : decode cX10_work 131 = .ok (.invokestatic 361, 3) := by decide +kernel
theorem dX10_work_134 : decode cX10_work 134 = .ok (.aload_n 0, 1) := by decide +kernel
theorem dX10_work_135 : decode cX10_work 135 = .ok (.dup, 1) := by decide +kernel
theorem dX10_work_136 : decode cX10_work 136 = .ok (.getfield 184, 3) := by decide +kernel
theorem dX10_work_139 : decode cX10_work 139 = .ok (.iconst 1, 1) := by decide +kernel
theorem dX10_work_140 : decode cX10_work 140 = .ok (.iadd, 1) := by decide +kernel
theorem dX10_work_141 : decode cX10_work 141 = .ok (.putfield 184, 3) := by decide +kernel
theorem dX10_work_144 : decode cX10_work 144 = .ok (.aload_n 0, 1) := by decide +kernel
theorem dX10_work_145 : decode cX10_work 145 = .ok (.iconst 0, 1) := by decide +kernel
theorem dX10_work_146 : decode cX10_work 146 = .ok (.putfield 352, 3) := by decide +kernel
theorem dX10_work_149 : decode cX10_work 149 = .ok (.aload_n 0, 1) := by decide +kernel
theorem dX10_work_150 : decode cX10_work 150 = .ok (.iconst 0, 1) := by decide +kernel
theorem dX10_work_151 : decode cX10_work 151 = .ok (.putfield 358, 3) := by decide +kernel
theorem dX10_work_154 : decode cX10_work 154 = .ok (.aload_n 0, 1) := by decide +kernel
theorem dX10_work_155 : decode cX10_work 155 = .ok (.iconst 0, 1) := by decide +kernel
theorem dX10_work_156 : decode cX10_work 156 = .ok (.putfield 187, 3) := by decide +kernel
theorem dX10_work_159 : decode cX10_work 159 = .ok (.aload_n 0, 1) := by decide +kernel
theorem dX10_work_160 : decode cX10_work 160 = .ok (.iconst 0, 1) := by decide +kernel
theorem dX10_work_161 : decode cX10_work 161 = .ok (.aload_n 0, 1) := by decide +kernel
theorem dX10_work_162 : decode cX10_work 162 = .ok (.getfield 66, 3) := by decide +kernel
theorem dX10_work_165 : decode cX10_work 165 = .ok (.invokevirtual 355, 3) := by decide +kernel
theorem dX10_work_168 : decode cX10_work 168 = .ok (.aload_n 0, 1) := by decide +kernel
theorem dX10_work_169 : decode cX10_work 169 = .ok (.getfield 358, 3) := by decide +kernel
theorem dX10_work_172 : decode cX10_work 172 = .ok (.ireturn, 1) := by decide +kernel
theorem dX10_undo_0 : decode cX10_undo 0 = .ok (.aload_n 0, 1) := by decide +kernel
theorem dX10_undo_1 : decode cX10_undo 1 = .ok (.iconst 0, 1) := by decide +kernel
theorem dX10_undo_2 : decode cX10_undo 2 = .ok (.putfield 72, 3) := by decide +kernel
theorem dX10_undo_5 : decode cX10_undo 5 = .ok (.aload_n 0, 1) := by decide +kernel
theorem dX10_undo_6 : decode cX10_undo 6 = .ok (.getfield 184, 3) := by decide +kernel
theorem dX10_undo_9 : decode cX10_undo 9 = .ok (.ifCond .ne 5, 3) := by decide +kernel
theorem dX10_undo_12 : decode cX10_undo 12 = .ok (.iconst (-1), 1) := by decide +kernel
theorem dX10_undo_13 : decode cX10_undo 13 = .ok (.ireturn, 1) := by decide +kernel
theorem dX10_undo_14 : decode cX10_undo 14 = .ok (.aload_n 0, 1) := by decide +kernel
theorem dX10_undo_15 : decode cX10_undo 15 = .ok (.dup, 1) := by decide +kernel
theorem dX10_undo_16 : decode cX10_undo 16 = .ok (.getfield 184, 3) := by decide +kernel
theorem dX10_undo_19 : decode cX10_undo 19 = .ok (.iconst 1, 1) := by decide +kernel
theorem dX10_undo_20 : decode cX10_undo 20 = .ok (.isub, 1) := by decide +kernel
theorem dX10_undo_21 : decode cX10_undo 21 = .ok (.putfield 184, 3) := by decide +kernel
theorem dX10_undo_24 : decode cX10_undo 24 = .ok (.aload_n 0, 1) := by decide +kernel
theorem dX10_undo_25 : decode cX10_undo 25 = .ok (.getfield 37, 3) := by decide +kernel
theorem dX10_undo_28 : decode cX10_undo 28 = .ok (.aload_n 0, 1) := by decide +kernel
theorem dX10_undo_29 : decode cX10_undo 29 = .ok (.getfield 184, 3) := by decide +kernel
theorem dX10_undo_32 : decode cX10_undo 32 = .ok (.aaload, 1) := by decide +kernel
theorem dX10_undo_33 : decode cX10_undo 33 = .ok (.aload_n 0, 1) := by decide +kernel
theorem dX10_undo_34 : decode cX10_undo 34 = .ok (.getfield 31, 3) := by decide +kernel
theorem dX10_undo_37 : decode cX10_undo 37 = .ok (.invokestatic 361, 3) := by decide +kernel
theorem dX10_undo_40 : decode cX10_undo 40 = .ok (.aload_n 0, 1) := by decide +kernel
theorem dX10_undo_41 : decode cX10_undo 41 = .ok (.iconst 0, 1) := by decide +kernel
theorem dX10_undo_42 : decode cX10_undo 42 = .ok (.putfield 187, 3) := by decide +kernel
theorem dX10_undo_45 : decode cX10_undo 45 = .ok (.aload_n 0, 1) := by decide +kernel
theorem dX10_undo_46 : decode cX10_undo 46 = .ok (.getfield 184, 3) := by decide +kernel
theorem dX10_undo_49 : decode cX10_undo 49 = .ok (.ireturn, 1) := by decide +kernel
theorem dX10_told_0 : decode cX10_told 0 = .ok (.aload_n 0, 1) := by decide +kernel
theorem dX10_told_1 : decode cX10_told 1 = .ok (.iconst 0, 1) := by decide +kernel
theorem dX10_told_2 : decode cX10_told 2 = .ok (.putfield 72, 3) := by decide +kernel
theorem dX10_told_5 : decode cX10_told 5 = .ok (.aload_n 0, 1) := by decide +kernel
theorem dX10_told_6 : decode cX10_told 6 = .ok (.iload_n 1, 1) := by decide +kernel
theorem dX10_told_7 : decode cX10_told 7 = .ok (.iconst 0, 1) := by decide +kernel
theorem dX10_told_8 : decode cX10_told 8 = .ok (.bipush 9, 2) := by decide +kernel
theorem dX10_told_10 : decode cX10_told 10 = .ok (.invokestatic 106, 3) := by decide +kernel
theorem dX10_told_13 : decode cX10_told 13 = .ok (.ifCond .ne 7, 3) := by decide +kernel
theorem dX10_told_16 : decode cX10_told 16 = .ok (.iconst 1, 1) := by decide +kernel
theorem dX10_told_17 : decode cX10_told 17 = .ok (.goto 4, 3) := by decide +kernel
theorem dX10_told_20 : decode cX10_told 20 = .ok (.iconst 0, 1) := by decide +kernel
theorem dX10_told_21 : decode cX10_told 21 = .ok (.iconst 1, 1) := by decide +kernel
theorem dX10_told_22 : decode cX10_told 22 = .ok (.iconst 1, 1) := by decide +kernel
theorem dX10_told_23 : decode cX10_told 23 = .ok (.invokevirtual 155, 3) := by decide +kernel
theorem dX10_told_26 : decode cX10_told 26 = .ok (.ifCond .eq 5, 3) := by decide +kernel
theorem dX10_told_29 : decode cX10_told 29 = .ok (.iconst 0, 1) := by decide +kernel
theorem dX10_told_30 : decode cX10_told 30 = .ok (.ireturn, 1) := by decide +kernel
theorem dX10_told_31 : decode cX10_told 31 = .ok (.iload_n 1, 1) := by decide +kernel
theorem dX10_told_32 : decode cX10_told 32 = .ok (.tableswitch 121 0 8 #[52, 57, 66, 75, 84, 93, 102, 111, 116], 52) := by decide +kernel
theorem dX10_told_84 : decode cX10_told 84 = .ok (.aload_n 0, 1) := by decide +kernel
theorem dX10_told_85 : decode cX10_told 85 = .ok (.getfield 168, 3) := by decide +kernel
theorem dX10_told_88 : decode cX10_told 88 = .ok (.ireturn, 1) := by decide +kernel
theorem dX10_told_89 : decode cX10_told 89 = .ok (.aload_n 0, 1) := by decide +kernel
theorem dX10_told_90 : decode cX10_told 90 = .ok (.getfield 31, 3) := by decide +kernel
theorem dX10_told_93 : decode cX10_told 93 = .ok (.sipush 3392, 3) := by decide +kernel
theorem dX10_told_96 : decode cX10_told 96 = .ok (.iaload, 1) := by decide +kernel
theorem dX10_told_97 : decode cX10_told 97 = .ok (.ireturn, 1) := by decide +kernel
theorem dX10_told_98 : decode cX10_told 98 = .ok (.aload_n 0, 1) := by decide +kernel
theorem dX10_told_99 : decode cX10_told 99 = .ok (.getfield 31, 3) := by decide +kernel
theorem dX10_told_102 : decode cX10_told 102 = .ok (.sipush 3393, 3) := by decide +kernel
theorem dX10_told_105 : decode cX10_told 105 = .ok (.iaload, 1) := by decide +kernel
theorem dX10_told_106 : decode cX10_told 106 = .ok (.ireturn, 1) := by decide +kernel
theorem dX10_told_107 : decode cX10_told 107 = .ok (.aload_n 0, 1) := by decide +kernel
theorem dX10_told_108 : decode cX10_told 108 = .ok (.aload_n 0, 1) := by decide +kernel
theorem dX10_told_109 : decode cX10_told 109 = .ok (.getfield 31, 3) := by decide +kernel
theorem dX10_told_112 : decode cX10_told 112 = .ok (.invokevirtual 365, 3) := by decide +kernel
theorem dX10_told_115 : decode cX10_told 115 = .ok (.ireturn, 1) := by decide +kernel
theorem dX10_told_116 : decode cX10_told 116 = .ok (.aload_n 0, 1) := by decide +kernel
theorem dX10_told_117 : decode cX10_told 117 = .ok (.getfield 31, 3) := by decide +kernel
theorem dX10_told_120 : decode cX10_told 120 = .ok (.sipush 3395, 3) := by decide +kernel
theorem dX10_told_123 : decode cX10_told 123 = .ok (.iaload, 1) := by decide +kernel
theorem dX10_told_124 : decode cX10_told 124 = .ok (.ireturn, 1) := by decide +kernel
theorem dX10_told_125 : decode cX10_told 125 = .ok (.aload_n 0, 1) := by decide +kernel
theorem dX10_told_126 : decode cX10_told 126 = .ok (.getfield 31, 3) := by decide +kernel
theorem dX10_told_129 : decode cX10_told 129 = .ok (.sipush 3396, 3) := by decide +kernel
theorem dX10_told_132 : decode cX10_told 132 = .ok (.iaload, 1) := by decide +kernel
theorem dX10_told_133 : decode cX10_told 133 = .ok (.ireturn, 1) := by decide +kernel
theorem dX10_told_134 : decode cX10_told 134 = .ok (.aload_n 0, 1) := by decide +kernel
theorem dX10_told_135 : decode cX10_told 135 = .ok (.getfield 31, 3) := by decide +kernel
theorem dX10_told_138 : decode cX10_told 138 = .ok (.sipush 3397, 3) := by decide +kernel
theorem dX10_told_141 : decode cX10_told 141 = .ok (.iaload, 1) := by decide +kernel
theorem dX10_told_142 : decode cX10_told 142 = .ok (.ireturn, 1) := by decide +kernel
theorem dX10_told_143 : decode cX10_told 143 = .ok (.aload_n 0, 1) := by decide +kernel
theorem dX10_told_144 : decode cX10_told 144 = .ok (.getfield 181, 3) := by decide +kernel
theorem dX10_told_147 : decode cX10_told 147 = .ok (.ireturn, 1) := by decide +kernel
theorem dX10_told_148 : decode cX10_told 148 = .ok (.aload_n 0, 1) := by decide +kernel
theorem dX10_told_149 : decode cX10_told 149 = .ok (.getfield 187, 3) := by decide +kernel
theorem dX10_told_152 : decode cX10_told 152 = .ok (.ireturn, 1) := by decide +kernel
theorem dX10_told_153 : decode cX10_told 153 = .ok (.aload_n 0, 1) := by decide +kernel
theorem dX10_told_154 : decode cX10_told 154 = .ok (.getfield 31, 3) := by decide +kernel
theorem dX10_told_157 : decode cX10_told 157 = .ok (.sipush 3394, 3) := by decide +kernel
theorem dX10_told_160 : decode cX10_told 160 = .ok (.iaload, 1) := by decide +kernel
theorem dX10_told_161 : decode cX10_told 161 = .ok (.ireturn, 1) := by decide +kernel
theorem dX10_isWhere_0 : decode cX10_isWhere 0 = .ok (.iload_n 0, 1) := by decide +kernel
theorem dX10_isWhere_1 : decode cX10_isWhere 1 = .ok (.iconst 0, 1) := by decide +kernel
theorem dX10_isWhere_2 : decode cX10_isWhere 2 = .ok (.iconst 1, 1) := by decide +kernel
theorem dX10_isWhere_3 : decode cX10_isWhere 3 = .ok (.invokestatic 106, 3) := by decide +kernel
theorem dX10_isWhere_6 : decode cX10_isWhere 6 = .ok (.ireturn, 1) := by decide +kernel
theorem dX10_whereOf_0 : decode cX10_whereOf 0 = .ok (.iload_n 0, 1) := by decide +kernel
theorem dX10_whereOf_1 : decode cX10_whereOf 1 = .ok (.ifCond .ne 7, 3) := by decide +kernel
theorem dX10_whereOf_4 : decode cX10_whereOf 4 = .ok (.iconst 0, 1) := by decide +kernel
theorem dX10_whereOf_5 : decode cX10_whereOf 5 = .ok (.goto 6, 3) := by decide +kernel
theorem dX10_whereOf_8 : decode cX10_whereOf 8 = .ok (.sipush 256, 3) := by decide +kernel
theorem dX10_whereOf_11 : decode cX10_whereOf 11 = .ok (.ireturn, 1) := by decide +kernel
theorem dX10_isBlock_0 : decode cX10_isBlock 0 = .ok (.iload_n 1, 1) := by decide +kernel
theorem dX10_isBlock_1 : decode cX10_isBlock 1 = .ok (.iconst 0, 1) := by decide +kernel
theorem dX10_isBlock_2 : decode cX10_isBlock 2 = .ok (.aload_n 0, 1) := by decide +kernel
theorem dX10_isBlock_3 : decode cX10_isBlock 3 = .ok (.getfield 168, 3) := by decide +kernel
theorem dX10_isBlock_6 : decode cX10_isBlock 6 = .ok (.iconst 1, 1) := by decide +kernel
theorem dX10_isBlock_7 : decode cX10_isBlock 7 = .ok (.isub, 1) := by decide +kernel
theorem dX10_isBlock_8 : decode cX10_isBlock 8 = .ok (.invokestatic 106, 3) := by decide +kernel
theorem dX10_isBlock_11 : decode cX10_isBlock 11 = .ok (.ireturn, 1) := by decide +kernel
theorem dX10_isNode_0 : decode cX10_isNode 0 = .ok (.iload_n 0, 1) := by decide +kernel
theorem dX10_isNode_1 : decode cX10_isNode 1 = .ok (.iconst 0, 1) := by decide +kernel
theorem dX10_isNode_2 : decode cX10_isNode 2 = .ok (.bipush 11, 2) := by decide +kernel
theorem dX10_isNode_4 : decode cX10_isNode 4 = .ok (.invokestatic 106, 3) := by decide +kernel
theorem dX10_isNode_7 : decode cX10_isNode 7 = .ok (.ireturn, 1) := by decide +kernel
theorem dX10_peek_0 : decode cX10_peek 0 = .ok (.aload_n 0, 1) := by decide +kernel
theorem dX10_peek_1 : decode cX10_peek 1 = .ok (.iconst 0, 1) := by decide +kernel
theorem dX10_peek_2 : decode cX10_peek 2 = .ok (.putfield 72, 3) := by decide +kernel
theorem dX10_peek_5 : decode cX10_peek 5 = .ok (.aload_n 0, 1) := by decide +kernel
theorem dX10_peek_6 : decode cX10_peek 6 = .ok (.iload_n 3, 1) := by decide +kernel
theorem dX10_peek_7 : decode cX10_peek 7 = .ok (.invokestatic 368, 3) := by decide +kernel
theorem dX10_peek_10 : decode cX10_peek 10 = .ok (.ifCond .ne 7, 3) := by decide +kernel
theorem dX10_peek_13 : decode cX10_peek 13 = .ok (.iconst 1, 1) := by decide +kernel
theorem dX10_peek_14 : decode cX10_peek 14 = .ok (.goto 4, 3) := by decide +kernel
theorem dX10_peek_17 : decode cX10_peek 17 = .ok (.iconst 0, 1) := by decide +kernel
theorem dX10_peek_18 : decode cX10_peek 18 = .ok (.iconst 1, 1) := by decide +kernel
theorem dX10_peek_19 : decode cX10_peek 19 = .ok (.iconst 1, 1) := by decide +kernel
theorem dX10_peek_20 : decode cX10_peek 20 = .ok (.invokevirtual 155, 3) := by decide +kernel
theorem dX10_peek_23 : decode cX10_peek 23 = .ok (.ifCond .ne 35, 3) := by decide +kernel
theorem dX10_peek_26 : decode cX10_peek 26 = .ok (.aload_n 0, 1) := by decide +kernel
theorem dX10_peek_27 : decode cX10_peek 27 = .ok (.aload_n 0, 1) := by decide +kernel
theorem dX10_peek_28 : decode cX10_peek 28 = .ok (.iload_n 1, 1) := by decide +kernel
theorem dX10_peek_29 : decode cX10_peek 29 = .ok (.invokevirtual 371, 3) := by decide +kernel
theorem dX10_peek_32 : decode cX10_peek 32 = .ok (.ifCond .eq 13, 3) := by decide +kernel
theorem dX10_peek_35 : decode cX10_peek 35 = .ok (.iload_n 2, 1) := by decide +kernel
theorem dX10_peek_36 : decode cX10_peek 36 = .ok (.iconst 0, 1) := by decide +kernel
theorem dX10_peek_37 : decode cX10_peek 37 = .ok (.bipush 15, 2) := by decide +kernel
theorem dX10_peek_39 : decode cX10_peek 39 = .ok (.invokestatic 106, 3) := by decide +kernel
theorem dX10_peek_42 : decode cX10_peek 42 = .ok (.ifCond .ne 7, 3) := by decide +kernel
theorem dX10_peek_45 : decode cX10_peek 45 = .ok (.iconst 1, 1) := by decide +kernel
theorem dX10_peek_46 : decode cX10_peek 46 = .ok (.goto 4, 3) := by decide +kernel
theorem dX10_peek_49 : decode cX10_peek 49 = .ok (.iconst 0, 1) := by decide +kernel
theorem dX10_peek_50 : decode cX10_peek 50 = .ok (.iconst 2, 1) := by decide +kernel
theorem dX10_peek_51 : decode cX10_peek 51 = .ok (.iconst 3, 1) := by decide +kernel
theorem dX10_peek_52 : decode cX10_peek 52 = .ok (.invokevirtual 155, 3) := by decide +kernel
theorem dX10_peek_55 : decode cX10_peek 55 = .ok (.ifCond .eq 5, 3) := by decide +kernel
theorem dX10_peek_58 : decode cX10_peek 58 = .ok (.iconst 0, 1) := by decide +kernel
theorem dX10_peek_59 : decode cX10_peek 59 = .ok (.ireturn, 1) := by decide +kernel
theorem dX10_peek_60 : decode cX10_peek 60 = .ok (.aload_n 0, 1) := by decide +kernel
theorem dX10_peek_61 : decode cX10_peek 61 = .ok (.getfield 31, 3) := by decide +kernel
theorem dX10_peek_64 : decode cX10_peek 64 = .ok (.iload_n 3, 1) := by decide +kernel
theorem dX10_peek_65 : decode cX10_peek 65 = .ok (.invokestatic 374, 3) := by decide +kernel
theorem dX10_peek_68 : decode cX10_peek 68 = .ok (.bipush 16, 2) := by decide +kernel
theorem dX10_peek_70 : decode cX10_peek 70 = .ok (.iload_n 1, 1) := by decide +kernel
theorem dX10_peek_71 : decode cX10_peek 71 = .ok (.imul, 1) := by decide +kernel
theorem dX10_peek_72 : decode cX10_peek 72 = .ok (.iadd, 1) := by decide +kernel
theorem dX10_peek_73 : decode cX10_peek 73 = .ok (.iload_n 2, 1) := by decide +kernel
theorem dX10_peek_74 : decode cX10_peek 74 = .ok (.iadd, 1) := by decide +kernel
theorem dX10_peek_75 : decode cX10_peek 75 = .ok (.iaload, 1) := by decide +kernel
theorem dX10_peek_76 : decode cX10_peek 76 = .ok (.ireturn, 1) := by decide +kernel
theorem dX10_node_0 : decode cX10_node 0 = .ok (.aload_n 0, 1) := by decide +kernel
theorem dX10_node_1 : decode cX10_node 1 = .ok (.iconst 0, 1) := by decide +kernel
theorem dX10_node_2 : decode cX10_node 2 = .ok (.putfield 72, 3) := by decide +kernel
theorem dX10_node_5 : decode cX10_node 5 = .ok (.aload_n 0, 1) := by decide +kernel
theorem dX10_node_6 : decode cX10_node 6 = .ok (.iload_n 1, 1) := by decide +kernel
theorem dX10_node_7 : decode cX10_node 7 = .ok (.invokestatic 377, 3) := by decide +kernel
theorem dX10_node_10 : decode cX10_node 10 = .ok (.ifCond .ne 7, 3) := by decide +kernel
theorem dX10_node_13 : decode cX10_node 13 = .ok (.iconst 1, 1) := by decide +kernel
theorem dX10_node_14 : decode cX10_node 14 = .ok (.goto 4, 3) := by decide +kernel
theorem dX10_node_17 : decode cX10_node 17 = .ok (.iconst 0, 1) := by decide +kernel
theorem dX10_node_18 : decode cX10_node 18 = .ok (.iconst 1, 1) := by decide +kernel
theorem dX10_node_19 : decode cX10_node 19 = .ok (.iconst 0, 1) := by decide +kernel
theorem dX10_node_20 : decode cX10_node 20 = .ok (.invokevirtual 155, 3) := by decide +kernel
theorem dX10_node_23 : decode cX10_node 23 = .ok (.ifCond .ne 33, 3) := by decide +kernel
theorem dX10_node_26 : decode cX10_node 26 = .ok (.aload_n 0, 1) := by decide +kernel
theorem dX10_node_27 : decode cX10_node 27 = .ok (.iload_n 2, 1) := by decide +kernel
theorem dX10_node_28 : decode cX10_node 28 = .ok (.iconst 0, 1) := by decide +kernel
theorem dX10_node_29 : decode cX10_node 29 = .ok (.iconst 4, 1) := by decide +kernel
theorem dX10_node_30 : decode cX10_node 30 = .ok (.invokestatic 106, 3) := by decide +kernel
theorem dX10_node_33 : decode cX10_node 33 = .ok (.ifCond .eq 10, 3) := by decide +kernel
theorem dX10_node_36 : decode cX10_node 36 = .ok (.iload_n 3, 1) := by decide +kernel
theorem dX10_node_37 : decode cX10_node 37 = .ok (.invokestatic 368, 3) := by decide +kernel
theorem dX10_node_40 : decode cX10_node 40 = .ok (.ifCond .ne 7, 3) := by decide +kernel
theorem dX10_node_43 : decode cX10_node 43 = .ok (.iconst 1, 1) := by decide +kernel
theorem dX10_node_44 : decode cX10_node 44 = .ok (.goto 4, 3) := by decide +kernel
theorem dX10_node_47 : decode cX10_node 47 = .ok (.iconst 0, 1) := by decide +kernel
theorem dX10_node_48 : decode cX10_node 48 = .ok (.iconst 2, 1) := by decide +kernel
theorem dX10_node_49 : decode cX10_node 49 = .ok (.iconst 1, 1) := by decide +kernel
theorem dX10_node_50 : decode cX10_node 50 = .ok (.invokevirtual 155, 3) := by decide +kernel
theorem dX10_node_53 : decode cX10_node 53 = .ok (.ifCond .eq 5, 3) := by decide +kernel
theorem dX10_node_56 : decode cX10_node 56 = .ok (.iconst 0, 1) := by decide +kernel
theorem dX10_node_57 : decode cX10_node 57 = .ok (.ireturn, 1) := by decide +kernel
theorem dX10_node_58 : decode cX10_node 58 = .ok (.iload_n 2, 1) := by decide +kernel
theorem dX10_node_59 : decode cX10_node 59 = .ok (.iconst 4, 1) := by decide +kernel
theorem dX10_node_60 : decode cX10_node 60 = .ok (.if_icmp .ge 19, 3) := by decide +kernel
theorem dX10_node_63 : decode cX10_node 63 = .ok (.aload_n 0, 1) := by decide +kernel
theorem dX10_node_64 : decode cX10_node 64 = .ok (.getfield 31, 3) := by decide +kernel
theorem dX10_node_67 : decode cX10_node 67 = .ok (.iload_n 3, 1) := by decide +kernel
theorem dX10_node_68 : decode cX10_node 68 = .ok (.invokestatic 374, 3) := by decide +kernel
theorem dX10_node_71 : decode cX10_node 71 = .ok (.iload_n 1, 1) := by decide +kernel
theorem dX10_node_72 : decode cX10_node 72 = .ok (.iload_n 2, 1) := by decide +kernel
theorem dX10_node_73 : decode cX10_node 73 = .ok (.invokestatic 233, 3) := by decide +kernel
theorem dX10_node_76 : decode cX10_node 76 = .ok (.goto 26, 3) := by decide +kernel
theorem dX10_node_79 : decode cX10_node 79 = .ok (.aload_n 0, 1) := by decide +kernel
theorem dX10_node_80 : decode cX10_node 80 = .ok (.getfield 31, 3) := by decide +kernel
theorem dX10_node_83 : decode cX10_node 83 = .ok (.iload_n 3, 1) := by decide +kernel
theorem dX10_node_84 : decode cX10_node 84 = .ok (.invokestatic 374, 3) := by decide +kernel
theorem dX10_node_87 : decode cX10_node 87 = .ok (.invokestatic 276, 3) := by decide +kernel
theorem dX10_node_90 : decode cX10_node 90 = .ok (.iload_n 1, 1) := by decide +kernel
theorem dX10_node_91 : decode cX10_node 91 = .ok (.invokestatic 193, 3) := by decide +kernel
theorem dX10_node_94 : decode cX10_node 94 = .ok (.ifCond .eq 7, 3) := by decide +kernel
theorem dX10_node_97 : decode cX10_node 97 = .ok (.iconst 1, 1) := by decide +kernel
theorem dX10_node_98 : decode cX10_node 98 = .ok (.goto 4, 3) := by decide +kernel
theorem dX10_node_101 : decode cX10_node 101 = .ok (.iconst 0, 1) := by decide +kernel
theorem dX10_node_102 : decode cX10_node 102 = .ok (.ireturn, 1) := by decide +kernel
theorem dX10_find_0 : decode cX10_find 0 = .ok (.aload_n 0, 1) := by decide +kernel
theorem dX10_find_1 : decode cX10_find 1 = .ok (.iconst 0, 1) := by decide +kernel
theorem dX10_find_2 : decode cX10_find 2 = .ok (.putfield 72, 3) := by decide +kernel
theorem dX10_find_5 : decode cX10_find 5 = .ok (.aload_n 0, 1) := by decide +kernel
theorem dX10_find_6 : decode cX10_find 6 = .ok (.iload_n 1, 1) := by decide +kernel
theorem dX10_find_7 : decode cX10_find 7 = .ok (.invokestatic 377, 3) := by decide +kernel
theorem dX10_find_10 : decode cX10_find 10 = .ok (.ifCond .ne 7, 3) := by decide +kernel
theorem dX10_find_13 : decode cX10_find 13 = .ok (.iconst 1, 1) := by decide +kernel
theorem dX10_find_14 : decode cX10_find 14 = .ok (.goto 4, 3) := by decide +kernel
theorem dX10_find_17 : decode cX10_find 17 = .ok (.iconst 0, 1) := by decide +kernel
theorem dX10_find_18 : decode cX10_find 18 = .ok (.iconst 1, 1) := by decide +kernel
theorem dX10_find_19 : decode cX10_find 19 = .ok (.iconst 0, 1) := by decide +kernel
theorem dX10_find_20 : decode cX10_find 20 = .ok (.invokevirtual 155, 3) := by decide +kernel
theorem dX10_find_23 : decode cX10_find 23 = .ok (.ifCond .ne 34, 3) := by decide +kernel
theorem dX10_find_26 : decode cX10_find 26 = .ok (.aload_n 0, 1) := by decide +kernel
theorem dX10_find_27 : decode cX10_find 27 = .ok (.iload_n 2, 1) := by decide +kernel
theorem dX10_find_28 : decode cX10_find 28 = .ok (.iconst 1, 1) := by decide +kernel
theorem dX10_find_29 : decode cX10_find 29 = .ok (.bipush 99, 2) := by decide +kernel
theorem dX10_find_31 : decode cX10_find 31 = .ok (.invokestatic 106, 3) := by decide +kernel
theorem dX10_find_34 : decode cX10_find 34 = .ok (.ifCond .eq 10, 3) := by decide +kernel
theorem dX10_find_37 : decode cX10_find 37 = .ok (.iload_n 3, 1) := by decide +kernel
theorem dX10_find_38 : decode cX10_find 38 = .ok (.invokestatic 368, 3) := by decide +kernel
theorem dX10_find_41 : decode cX10_find 41 = .ok (.ifCond .ne 7, 3) := by decide +kernel
theorem dX10_find_44 : decode cX10_find 44 = .ok (.iconst 1, 1) := by decide +kernel
theorem dX10_find_45 : decode cX10_find 45 = .ok (.goto 4, 3) := by decide +kernel
theorem dX10_find_48 : decode cX10_find 48 = .ok (.iconst 0, 1) := by decide +kernel
theorem dX10_find_49 : decode cX10_find 49 = .ok (.iconst 2, 1) := by decide +kernel
theorem dX10_find_50 : decode cX10_find 50 = .ok (.iconst 1, 1) := by decide +kernel
theorem dX10_find_51 : decode cX10_find 51 = .ok (.invokevirtual 155, 3) := by decide +kernel
theorem dX10_find_54 : decode cX10_find 54 = .ok (.ifCond .eq 5, 3) := by decide +kernel
theorem dX10_find_57 : decode cX10_find 57 = .ok (.iconst 0, 1) := by decide +kernel
theorem dX10_find_58 : decode cX10_find 58 = .ok (.ireturn, 1) := by decide +kernel
theorem dX10_find_59 : decode cX10_find 59 = .ok (.iload_n 3, 1) := by decide +kernel
theorem dX10_find_60 : decode cX10_find 60 = .ok (.invokestatic 374, 3) := by decide +kernel
theorem dX10_find_63 : decode cX10_find 63 = .ok (.istore 4, 2) := by decide +kernel
theorem dX10_find_65 : decode cX10_find 65 = .ok (.aload_n 0, 1) := by decide +kernel
theorem dX10_find_66 : decode cX10_find 66 = .ok (.getfield 31, 3) := by decide +kernel
theorem dX10_find_69 : decode cX10_find 69 = .ok (.iload 4, 2) := by decide +kernel
theorem dX10_find_71 : decode cX10_find 71 = .ok (.iload_n 1, 1) := by decide +kernel
theorem dX10_find_72 : decode cX10_find 72 = .ok (.iconst 2, 1) := by decide +kernel
theorem dX10_find_73 : decode cX10_find 73 = .ok (.invokestatic 273, 3) := by decide +kernel
theorem dX10_find_76 : decode cX10_find 76 = .ok (.ifCond .eq 18, 3) := by decide +kernel
theorem dX10_find_79 : decode cX10_find 79 = .ok (.aload_n 0, 1) := by decide +kernel
theorem dX10_find_80 : decode cX10_find 80 = .ok (.getfield 31, 3) := by decide +kernel
theorem dX10_find_83 : decode cX10_find 83 = .ok (.iload 4, 2) := by decide +kernel
theorem dX10_find_85 : decode cX10_find 85 = .ok (.iload_n 1, 1) := by decide +kernel
theorem dX10_find_86 : decode cX10_find 86 = .ok (.iload_n 2, 1) := by decide +kernel
theorem dX10_find_87 : decode cX10_find 87 = .ok (.invokestatic 279, 3) := by decide +kernel
theorem dX10_find_90 : decode cX10_find 90 = .ok (.iconst (-1), 1) := by decide +kernel
theorem dX10_find_91 : decode cX10_find 91 = .ok (.if_icmp .ne 5, 3) := by decide +kernel
theorem dX10_find_94 : decode cX10_find 94 = .ok (.iconst (-1), 1) := by decide +kernel
theorem dX10_find_95 : decode cX10_find 95 = .ok (.ireturn, 1) := by decide +kernel
theorem dX10_find_96 : decode cX10_find 96 = .ok (.aload_n 0, 1) := by decide +kernel
theorem dX10_find_97 : decode cX10_find 97 = .ok (.getfield 31, 3) := by decide +kernel
theorem dX10_find_100 : decode cX10_find 100 = .ok (.iload 4, 2) := by decide +kernel
theorem dX10_find_102 : decode cX10_find 102 = .ok (.aload_n 0, 1) := by decide +kernel
theorem dX10_find_103 : decode cX10_find 103 = .ok (.getfield 31, 3) := by decide +kernel
theorem dX10_find_106 : decode cX10_find 106 = .ok (.iload 4, 2) := by decide +kernel
theorem dX10_find_108 : decode cX10_find 108 = .ok (.iload_n 1, 1) := by decide +kernel
theorem dX10_find_109 : decode cX10_find 109 = .ok (.iload_n 2, 1) := by decide +kernel
theorem dX10_find_110 : decode cX10_find 110 = .ok (.invokestatic 279, 3) := by decide +kernel
theorem dX10_find_113 : decode cX10_find 113 = .ok (.iadd, 1) := by decide +kernel
theorem dX10_find_114 : decode cX10_find 114 = .ok (.iconst 1, 1) := by decide +kernel
theorem dX10_find_115 : decode cX10_find 115 = .ok (.iadd, 1) := by decide +kernel
theorem dX10_find_116 : decode cX10_find 116 = .ok (.iaload, 1) := by decide +kernel
theorem dX10_find_117 : decode cX10_find 117 = .ok (.ireturn, 1) := by decide +kernel
theorem dX10_used_0 : decode cX10_used 0 = .ok (.aload_n 0, 1) := by decide +kernel
theorem dX10_used_1 : decode cX10_used 1 = .ok (.iconst 0, 1) := by decide +kernel
theorem dX10_used_2 : decode cX10_used 2 = .ok (.putfield 72, 3) := by decide +kernel
theorem dX10_used_5 : decode cX10_used 5 = .ok (.aload_n 0, 1) := by decide +kernel
theorem dX10_used_6 : decode cX10_used 6 = .ok (.iload_n 1, 1) := by decide +kernel
theorem dX10_used_7 : decode cX10_used 7 = .ok (.invokestatic 368, 3) := by decide +kernel
theorem dX10_used_10 : decode cX10_used 10 = .ok (.ifCond .ne 7, 3) := by decide +kernel
theorem dX10_used_13 : decode cX10_used 13 = .ok (.iconst 1, 1) := by decide +kernel
theorem dX10_used_14 : decode cX10_used 14 = .ok (.goto 4, 3) := by decide +kernel
theorem dX10_used_17 : decode cX10_used 17 = .ok (.iconst 0, 1) := by decide +kernel
theorem dX10_used_18 : decode cX10_used 18 = .ok (.iconst 1, 1) := by decide +kernel
theorem dX10_used_19 : decode cX10_used 19 = .ok (.iconst 1, 1) := by decide +kernel
theorem dX10_used_20 : decode cX10_used 20 = .ok (.invokevirtual 155, 3) := by decide +kernel
theorem dX10_used_23 : decode cX10_used 23 = .ok (.ifCond .eq 5, 3) := by decide +kernel
theorem dX10_used_26 : decode cX10_used 26 = .ok (.iconst 0, 1) := by decide +kernel
theorem dX10_used_27 : decode cX10_used 27 = .ok (.ireturn, 1) := by decide +kernel
theorem dX10_used_28 : decode cX10_used 28 = .ok (.iconst 0, 1) := by decide +kernel
theorem dX10_used_29 : decode cX10_used 29 = .ok (.istore_n 2, 1) := by decide +kernel
theorem dX10_used_30 : decode cX10_used 30 = .ok (.iconst 0, 1) := by decide +kernel
theorem dX10_used_31 : decode cX10_used 31 = .ok (.istore_n 3, 1) := by decide +kernel
theorem dX10_used_32 : decode cX10_used 32 = .ok (.iload_n 3, 1) := by decide +kernel
theorem dX10_used_33 : decode cX10_used 33 = .ok (.aload_n 0, 1) := by decide +kernel
theorem dX10_used_34 : decode cX10_used 34 = .ok (.getfield 168, 3) := by decide +kernel
theorem dX10_used_37 : decode cX10_used 37 = .ok (.if_icmp .ge 33, 3) := by decide +kernel
theorem dX10_used_40 : decode cX10_used 40 = .ok (.iload_n 2, 1) := by decide +kernel
theorem dX10_used_41 : decode cX10_used 41 = .ok (.aload_n 0, 1) := by decide +kernel
theorem dX10_used_42 : decode cX10_used 42 = .ok (.getfield 31, 3) := by decide +kernel
theorem dX10_used_45 : decode cX10_used 45 = .ok (.iload_n 1, 1) := by decide +kernel
theorem dX10_used_46 : decode cX10_used 46 = .ok (.invokestatic 374, 3) := by decide +kernel
theorem dX10_used_49 : decode cX10_used 49 = .ok (.iload_n 3, 1) := by decide +kernel
theorem dX10_used_50 : decode cX10_used 50 = .ok (.iadd, 1) := by decide +kernel
theorem dX10_used_51 : decode cX10_used 51 = .ok (.iaload, 1) := by decide +kernel
theorem dX10_used_52 : decode cX10_used 52 = .ok (.ifCond .eq 9, 3) := by decide +kernel
theorem dX10_used_55 : decode cX10_used 55 = .ok (.iconst 1, 1) := by decide +kernel
theorem dX10_used_56 : decode cX10_used 56 = .ok (.iload_n 3, 1) := by decide +kernel
theorem dX10_used_57 : decode cX10_used 57 = .ok (.ishl, 1) := by decide +kernel
theorem dX10_used_58 : decode cX10_used 58 = .ok (.goto 4, 3) := by decide +kernel
theorem dX10_used_61 : decode cX10_used 61 = .ok (.iconst 0, 1) := by decide +kernel
theorem dX10_used_62 : decode cX10_used 62 = .ok (.ior, 1) := by decide +kernel
theorem dX10_used_63 : decode cX10_used 63 = .ok (.istore_n 2, 1) := by decide +kernel
theorem dX10_used_64 : decode cX10_used 64 = .ok (.iinc 3 1, 3) := by decide +kernel
theorem dX10_used_67 : decode cX10_used 67 = .ok (.goto (-35), 3) := by decide +kernel
theorem dX10_used_70 : decode cX10_used 70 = .ok (.iload_n 2, 1) := by decide +kernel
theorem dX10_used_71 : decode cX10_used 71 = .ok (.ireturn, 1) := by decide +kernel
theorem dX10_leaks_0 : decode cX10_leaks 0 = .ok (.aload_n 0, 1) := by decide +kernel
theorem dX10_leaks_1 : decode cX10_leaks 1 = .ok (.iconst 0, 1) := by decide +kernel
theorem dX10_leaks_2 : decode cX10_leaks 2 = .ok (.putfield 72, 3) := by decide +kernel
theorem dX10_leaks_5 : decode cX10_leaks 5 = .ok (.aload_n 0, 1) := by decide +kernel
theorem dX10_leaks_6 : decode cX10_leaks 6 = .ok (.iload_n 1, 1) := by decide +kernel
theorem dX10_leaks_7 : decode cX10_leaks 7 = .ok (.invokestatic 368, 3) := by decide +kernel
theorem dX10_leaks_10 : decode cX10_leaks 10 = .ok (.ifCond .ne 7, 3) := by decide +kernel
theorem dX10_leaks_13 : decode cX10_leaks 13 = .ok (.iconst 1, 1) := by decide +kernel
theorem dX10_leaks_14 : decode cX10_leaks 14 = .ok (.goto 4, 3) := by decide +kernel
theorem dX10_leaks_17 : decode cX10_leaks 17 = .ok (.iconst 0, 1) := by decide +kernel
theorem dX10_leaks_18 : decode cX10_leaks 18 = .ok (.iconst 1, 1) := by decide +kernel
theorem dX10_leaks_19 : decode cX10_leaks 19 = .ok (.iconst 1, 1) := by decide +kernel
theorem dX10_leaks_20 : decode cX10_leaks 20 = .ok (.invokevirtual 155, 3) := by decide +kernel
theorem dX10_leaks_23 : decode cX10_leaks 23 = .ok (.ifCond .eq 5, 3) := by decide +kernel
theorem dX10_leaks_26 : decode cX10_leaks 26 = .ok (.iconst 0, 1) := by decide +kernel
theorem dX10_leaks_27 : decode cX10_leaks 27 = .ok (.ireturn, 1) := by decide +kernel
theorem dX10_leaks_28 : decode cX10_leaks 28 = .ok (.aload_n 0, 1) := by decide +kernel
theorem dX10_leaks_29 : decode cX10_leaks 29 = .ok (.aload_n 0, 1) := by decide +kernel
theorem dX10_leaks_30 : decode cX10_leaks 30 = .ok (.getfield 31, 3) := by decide +kernel
theorem dX10_leaks_33 : decode cX10_leaks 33 = .ok (.iload_n 1, 1) := by decide +kernel
theorem dX10_leaks_34 : decode cX10_leaks 34 = .ok (.invokestatic 374, 3) := by decide +kernel
theorem dX10_leaks_37 : decode cX10_leaks 37 = .ok (.invokevirtual 380, 3) := by decide +kernel
theorem dX10_leaks_40 : decode cX10_leaks 40 = .ok (.ireturn, 1) := by decide +kernel
theorem dX10_lost_0 : decode cX10_lost 0 = .ok (.aload_n 0, 1) := by decide +kernel
theorem dX10_lost_1 : decode cX10_lost 1 = .ok (.iconst 0, 1) := by decide +kernel
theorem dX10_lost_2 : decode cX10_lost 2 = .ok (.putfield 72, 3) := by decide +kernel
theorem dX10_lost_5 : decode cX10_lost 5 = .ok (.aload_n 0, 1) := by decide +kernel
theorem dX10_lost_6 : decode cX10_lost 6 = .ok (.iload_n 1, 1) := by decide +kernel
theorem dX10_lost_7 : decode cX10_lost 7 = .ok (.invokestatic 368, 3) := by decide +kernel
theorem dX10_lost_10 : decode cX10_lost 10 = .ok (.ifCond .ne 7, 3) := by decide +kernel
theorem dX10_lost_13 : decode cX10_lost 13 = .ok (.iconst 1, 1) := by decide +kernel
theorem dX10_lost_14 : decode cX10_lost 14 = .ok (.goto 4, 3) := by decide +kernel
theorem dX10_lost_17 : decode cX10_lost 17 = .ok (.iconst 0, 1) := by decide +kernel
theorem dX10_lost_18 : decode cX10_lost 18 = .ok (.iconst 1, 1) := by decide +kernel
theorem dX10_lost_19 : decode cX10_lost 19 = .ok (.iconst 1, 1) := by decide +kernel
theorem dX10_lost_20 : decode cX10_lost 20 = .ok (.invokevirtual 155, 3) := by decide +kernel
theorem dX10_lost_23 : decode cX10_lost 23 = .ok (.ifCond .eq 5, 3) := by decide +kernel
theorem dX10_lost_26 : decode cX10_lost 26 = .ok (.iconst 0, 1) := by decide +kernel
theorem dX10_lost_27 : decode cX10_lost 27 = .ok (.ireturn, 1) := by decide +kernel
theorem dX10_lost_28 : decode cX10_lost 28 = .ok (.aload_n 0, 1) := by decide +kernel
theorem dX10_lost_29 : decode cX10_lost 29 = .ok (.getfield 31, 3) := by decide +kernel
theorem dX10_lost_32 : decode cX10_lost 32 = .ok (.iload_n 1, 1) := by decide +kernel
theorem dX10_lost_33 : decode cX10_lost 33 = .ok (.invokestatic 374, 3) := by decide +kernel
theorem dX10_lost_36 : decode cX10_lost 36 = .ok (.invokestatic 315, 3) := by decide +kernel
theorem dX10_lost_39 : decode cX10_lost 39 = .ok (.aload_n 0, 1) := by decide +kernel
theorem dX10_lost_40 : decode cX10_lost 40 = .ok (.getfield 31, 3) := by decide +kernel
theorem dX10_lost_43 : decode cX10_lost 43 = .ok (.iload_n 1, 1) := by decide +kernel
theorem dX10_lost_44 : decode cX10_lost 44 = .ok (.invokestatic 374, 3) := by decide +kernel
theorem dX10_lost_47 : decode cX10_lost 47 = .ok (.invokestatic 276, 3) := by decide +kernel
theorem dX10_lost_50 : decode cX10_lost 50 = .ok (.iconst (-1), 1) := by decide +kernel
theorem dX10_lost_51 : decode cX10_lost 51 = .ok (.ixor, 1) := by decide +kernel
theorem dX10_lost_52 : decode cX10_lost 52 = .ok (.iand, 1) := by decide +kernel
theorem dX10_lost_53 : decode cX10_lost 53 = .ok (.ireturn, 1) := by decide +kernel
theorem dX10_brokenOf_0 : decode cX10_brokenOf 0 = .ok (.iconst 0, 1) := by decide +kernel
theorem dX10_brokenOf_1 : decode cX10_brokenOf 1 = .ok (.istore_n 3, 1) := by decide +kernel
theorem dX10_brokenOf_2 : decode cX10_brokenOf 2 = .ok (.iconst 0, 1) := by decide +kernel
theorem dX10_brokenOf_3 : decode cX10_brokenOf 3 = .ok (.istore 4, 2) := by decide +kernel
theorem dX10_brokenOf_5 : decode cX10_brokenOf 5 = .ok (.aload_n 1, 1) := by decide +kernel
theorem dX10_brokenOf_6 : decode cX10_brokenOf 6 = .ok (.iload_n 2, 1) := by decide +kernel
theorem dX10_brokenOf_7 : decode cX10_brokenOf 7 = .ok (.invokestatic 276, 3) := by decide +kernel
theorem dX10_brokenOf_10 : decode cX10_brokenOf 10 = .ok (.istore 5, 2) := by decide +kernel
theorem dX10_brokenOf_12 : decode cX10_brokenOf 12 = .ok (.aload_n 1, 1) := by decide +kernel
theorem dX10_brokenOf_13 : decode cX10_brokenOf 13 = .ok (.iload_n 2, 1) := by decide +kernel
theorem dX10_brokenOf_14 : decode cX10_brokenOf 14 = .ok (.invokestatic 315, 3) := by decide +kernel
theorem dX10_brokenOf_17 : decode cX10_brokenOf 17 = .ok (.istore 6, 2) := by decide +kernel
theorem dX10_brokenOf_19 : decode cX10_brokenOf 19 = .ok (.iconst 0, 1) := by decide +kernel
theorem dX10_brokenOf_20 : decode cX10_brokenOf 20 = .ok (.istore 7, 2) := by decide +kernel
theorem dX10_brokenOf_22 : decode cX10_brokenOf 22 = .ok (.iload 7, 2) := by decide +kernel
theorem dX10_brokenOf_24 : decode cX10_brokenOf 24 = .ok (.bipush 12, 2) := by decide +kernel
theorem dX10_brokenOf_26 : decode cX10_brokenOf 26 = .ok (.if_icmp .ge 190, 3) := by decide +kernel
theorem dX10_brokenOf_29 : decode cX10_brokenOf 29 = .ok (.iconst 0, 1) := by decide +kernel
theorem dX10_brokenOf_30 : decode cX10_brokenOf 30 = .ok (.istore 8, 2) := by decide +kernel
theorem dX10_brokenOf_32 : decode cX10_brokenOf 32 = .ok (.iload 5, 2) := by decide +kernel
theorem dX10_brokenOf_34 : decode cX10_brokenOf 34 = .ok (.iload 7, 2) := by decide +kernel
theorem dX10_brokenOf_36 : decode cX10_brokenOf 36 = .ok (.invokestatic 193, 3) := by decide +kernel
theorem dX10_brokenOf_39 : decode cX10_brokenOf 39 = .ok (.ifCond .eq 91, 3) := by decide +kernel
theorem dX10_brokenOf_42 : decode cX10_brokenOf 42 = .ok (.aload_n 1, 1) := by decide +kernel
theorem dX10_brokenOf_43 : decode cX10_brokenOf 43 = .ok (.iload_n 2, 1) := by decide +kernel
theorem dX10_brokenOf_44 : decode cX10_brokenOf 44 = .ok (.iload 7, 2) := by decide +kernel
theorem dX10_brokenOf_46 : decode cX10_brokenOf 46 = .ok (.iconst 1, 1) := by decide +kernel
theorem dX10_brokenOf_47 : decode cX10_brokenOf 47 = .ok (.invokestatic 233, 3) := by decide +kernel
theorem dX10_brokenOf_50 : decode cX10_brokenOf 50 = .ok (.iconst 2, 1) := by decide +kernel
theorem dX10_brokenOf_51 : decode cX10_brokenOf 51 = .ok (.if_icmp .ne 79, 3) := by decide +kernel
theorem dX10_brokenOf_54 : decode cX10_brokenOf 54 = .ok (.aload_n 1, 1) := by decide +kernel
theorem dX10_brokenOf_55 : decode cX10_brokenOf 55 = .ok (.iload_n 2, 1) := by decide +kernel
theorem dX10_brokenOf_56 : decode cX10_brokenOf 56 = .ok (.iload 7, 2) := by decide +kernel
theorem dX10_brokenOf_58 : decode cX10_brokenOf 58 = .ok (.iload 8, 2) := by decide +kernel
theorem dX10_brokenOf_60 : decode cX10_brokenOf 60 = .ok (.invokestatic 270, 3) := by decide +kernel
theorem dX10_brokenOf_63 : decode cX10_brokenOf 63 = .ok (.iconst (-1), 1) := by decide +kernel
theorem dX10_brokenOf_64 : decode cX10_brokenOf 64 = .ok (.if_icmp .eq 66, 3) := by decide +kernel
theorem dX10_brokenOf_67 : decode cX10_brokenOf 67 = .ok (.iload_n 2, 1) := by decide +kernel
theorem dX10_brokenOf_68 : decode cX10_brokenOf 68 = .ok (.aload_n 1, 1) := by decide +kernel
theorem dX10_brokenOf_69 : decode cX10_brokenOf 69 = .ok (.iload_n 2, 1) := by decide +kernel
theorem dX10_brokenOf_70 : decode cX10_brokenOf 70 = .ok (.iload 7, 2) := by decide +kernel
theorem dX10_brokenOf_72 : decode cX10_brokenOf 72 = .ok (.iload 8, 2) := by decide +kernel
theorem dX10_brokenOf_74 : decode cX10_brokenOf 74 = .ok (.invokestatic 270, 3) := by decide +kernel
theorem dX10_brokenOf_77 : decode cX10_brokenOf 77 = .ok (.iadd, 1) := by decide +kernel
theorem dX10_brokenOf_78 : decode cX10_brokenOf 78 = .ok (.istore 9, 2) := by decide +kernel
theorem dX10_brokenOf_80 : decode cX10_brokenOf 80 = .ok (.iload_n 3, 1) := by decide +kernel
theorem dX10_brokenOf_81 : decode cX10_brokenOf 81 = .ok (.aload_n 1, 1) := by decide +kernel
theorem dX10_brokenOf_82 : decode cX10_brokenOf 82 = .ok (.iload 9, 2) := by decide +kernel
theorem dX10_brokenOf_84 : decode cX10_brokenOf 84 = .ok (.iaload, 1) := by decide +kernel
theorem dX10_brokenOf_85 : decode cX10_brokenOf 85 = .ok (.ifCond .eq 36, 3) := by decide +kernel
theorem dX10_brokenOf_88 : decode cX10_brokenOf 88 = .ok (.iload 6, 2) := by decide +kernel
theorem dX10_brokenOf_90 : decode cX10_brokenOf 90 = .ok (.aload_n 1, 1) := by decide +kernel
theorem dX10_brokenOf_91 : decode cX10_brokenOf 91 = .ok (.iload 9, 2) := by decide +kernel
theorem dX10_brokenOf_93 : decode cX10_brokenOf 93 = .ok (.iconst 1, 1) := by decide +kernel
theorem dX10_brokenOf_94 : decode cX10_brokenOf 94 = .ok (.iadd, 1) := by decide +kernel
theorem dX10_brokenOf_95 : decode cX10_brokenOf 95 = .ok (.iaload, 1) := by decide +kernel
theorem dX10_brokenOf_96 : decode cX10_brokenOf 96 = .ok (.invokestatic 193, 3) := by decide +kernel
theorem dX10_brokenOf_99 : decode cX10_brokenOf 99 = .ok (.ifCond .eq 18, 3) := by decide +kernel
theorem dX10_brokenOf_102 : decode cX10_brokenOf 102 = .ok (.aload_n 1, 1) := by decide +kernel
theorem dX10_brokenOf_103 : decode cX10_brokenOf 103 = .ok (.iload_n 2, 1) := by decide +kernel
theorem dX10_brokenOf_104 : decode cX10_brokenOf 104 = .ok (.aload_n 1, 1) := by decide +kernel
theorem dX10_brokenOf_105 : decode cX10_brokenOf 105 = .ok (.iload 9, 2) := by decide +kernel
theorem dX10_brokenOf_107 : decode cX10_brokenOf 107 = .ok (.iconst 1, 1) := by decide +kernel
theorem dX10_brokenOf_108 : decode cX10_brokenOf 108 = .ok (.iadd, 1) := by decide +kernel
theorem dX10_brokenOf_109 : decode cX10_brokenOf 109 = .ok (.iaload, 1) := by decide +kernel
theorem dX10_brokenOf_110 : decode cX10_brokenOf 110 = .ok (.iconst 1, 1) := by decide +kernel
theorem dX10_brokenOf_111 : decode cX10_brokenOf 111 = .ok (.invokestatic 233, 3) := by decide +kernel
theorem dX10_brokenOf_114 : decode cX10_brokenOf 114 = .ok (.ifCond .ne 7, 3) := by decide +kernel
theorem dX10_brokenOf_117 : decode cX10_brokenOf 117 = .ok (.iconst 1, 1) := by decide +kernel
theorem dX10_brokenOf_118 : decode cX10_brokenOf 118 = .ok (.goto 4, 3) := by decide +kernel
theorem dX10_brokenOf_121 : decode cX10_brokenOf 121 = .ok (.iconst 0, 1) := by decide +kernel
theorem dX10_brokenOf_122 : decode cX10_brokenOf 122 = .ok (.iadd, 1) := by decide +kernel
theorem dX10_brokenOf_123 : decode cX10_brokenOf 123 = .ok (.istore_n 3, 1) := by decide +kernel
theorem dX10_brokenOf_124 : decode cX10_brokenOf 124 = .ok (.iinc 8 1, 3) := by decide +kernel
theorem dX10_brokenOf_127 : decode cX10_brokenOf 127 = .ok (.goto (-95), 3) := by decide +kernel
theorem dX10_brokenOf_130 : decode cX10_brokenOf 130 = .ok (.iconst 2, 1) := by decide +kernel
theorem dX10_brokenOf_131 : decode cX10_brokenOf 131 = .ok (.istore 8, 2) := by decide +kernel
theorem dX10_brokenOf_133 : decode cX10_brokenOf 133 = .ok (.iload 8, 2) := by decide +kernel
theorem dX10_brokenOf_135 : decode cX10_brokenOf 135 = .ok (.iconst 3, 1) := by decide +kernel
theorem dX10_brokenOf_136 : decode cX10_brokenOf 136 = .ok (.if_icmp .gt 74, 3) := by decide +kernel
theorem dX10_brokenOf_139 : decode cX10_brokenOf 139 = .ok (.aload_n 1, 1) := by decide +kernel
theorem dX10_brokenOf_140 : decode cX10_brokenOf 140 = .ok (.iload_n 2, 1) := by decide +kernel
theorem dX10_brokenOf_141 : decode cX10_brokenOf 141 = .ok (.iload 7, 2) := by decide +kernel
theorem dX10_brokenOf_143 : decode cX10_brokenOf 143 = .ok (.iload 8, 2) := by decide +kernel
theorem dX10_brokenOf_145 : decode cX10_brokenOf 145 = .ok (.invokestatic 233, 3) := by decide +kernel
theorem dX10_brokenOf_148 : decode cX10_brokenOf 148 = .ok (.istore 9, 2) := by decide +kernel
theorem dX10_brokenOf_150 : decode cX10_brokenOf 150 = .ok (.iload 6, 2) := by decide +kernel
theorem dX10_brokenOf_152 : decode cX10_brokenOf 152 = .ok (.iload 7, 2) := by decide +kernel
theorem dX10_brokenOf_154 : decode cX10_brokenOf 154 = .ok (.invokestatic 193, 3) := by decide +kernel
theorem dX10_brokenOf_157 : decode cX10_brokenOf 157 = .ok (.ifCond .eq 47, 3) := by decide +kernel
theorem dX10_brokenOf_160 : decode cX10_brokenOf 160 = .ok (.iload 9, 2) := by decide +kernel
theorem dX10_brokenOf_162 : decode cX10_brokenOf 162 = .ok (.ifCond .ne 6, 3) := by decide +kernel
theorem dX10_brokenOf_165 : decode cX10_brokenOf 165 = .ok (.goto 39, 3) := by decide +kernel
theorem dX10_brokenOf_168 : decode cX10_brokenOf 168 = .ok (.iload_n 3, 1) := by decide +kernel
theorem dX10_brokenOf_169 : decode cX10_brokenOf 169 = .ok (.aload_n 1, 1) := by decide +kernel
theorem dX10_brokenOf_170 : decode cX10_brokenOf 170 = .ok (.iload_n 2, 1) := by decide +kernel
theorem dX10_brokenOf_171 : decode cX10_brokenOf 171 = .ok (.iload 9, 2) := by decide +kernel
theorem dX10_brokenOf_173 : decode cX10_brokenOf 173 = .ok (.iadd, 1) := by decide +kernel
theorem dX10_brokenOf_174 : decode cX10_brokenOf 174 = .ok (.iaload, 1) := by decide +kernel
theorem dX10_brokenOf_175 : decode cX10_brokenOf 175 = .ok (.ifCond .eq 13, 3) := by decide +kernel
theorem dX10_brokenOf_178 : decode cX10_brokenOf 178 = .ok (.iload 4, 2) := by decide +kernel
theorem dX10_brokenOf_180 : decode cX10_brokenOf 180 = .ok (.iload 9, 2) := by decide +kernel
theorem dX10_brokenOf_182 : decode cX10_brokenOf 182 = .ok (.invokestatic 193, 3) := by decide +kernel
theorem dX10_brokenOf_185 : decode cX10_brokenOf 185 = .ok (.ifCond .eq 7, 3) := by decide +kernel
theorem dX10_brokenOf_188 : decode cX10_brokenOf 188 = .ok (.iconst 1, 1) := by decide +kernel
theorem dX10_brokenOf_189 : decode cX10_brokenOf 189 = .ok (.goto 4, 3) := by decide +kernel
theorem dX10_brokenOf_192 : decode cX10_brokenOf 192 = .ok (.iconst 0, 1) := by decide +kernel
theorem dX10_brokenOf_193 : decode cX10_brokenOf 193 = .ok (.iadd, 1) := by decide +kernel
theorem dX10_brokenOf_194 : decode cX10_brokenOf 194 = .ok (.istore_n 3, 1) := by decide +kernel
theorem dX10_brokenOf_195 : decode cX10_brokenOf 195 = .ok (.iload 4, 2) := by decide +kernel
theorem dX10_brokenOf_197 : decode cX10_brokenOf 197 = .ok (.iconst 1, 1) := by decide +kernel
theorem dX10_brokenOf_198 : decode cX10_brokenOf 198 = .ok (.iload 9, 2) := by decide +kernel
theorem dX10_brokenOf_200 : decode cX10_brokenOf 200 = .ok (.ishl, 1) := by decide +kernel
theorem dX10_brokenOf_201 : decode cX10_brokenOf 201 = .ok (.ior, 1) := by decide +kernel
theorem dX10_brokenOf_202 : decode cX10_brokenOf 202 = .ok (.istore 4, 2) := by decide +kernel
theorem dX10_brokenOf_204 : decode cX10_brokenOf 204 = .ok (.iinc 8 1, 3) := by decide +kernel
theorem dX10_brokenOf_207 : decode cX10_brokenOf 207 = .ok (.goto (-74), 3) := by decide +kernel
theorem dX10_brokenOf_210 : decode cX10_brokenOf 210 = .ok (.iinc 7 1, 3) := by decide +kernel
theorem dX10_brokenOf_213 : decode cX10_brokenOf 213 = .ok (.goto (-191), 3) := by decide +kernel
theorem dX10_brokenOf_216 : decode cX10_brokenOf 216 = .ok (.iload_n 3, 1) := by decide +kernel
theorem dX10_brokenOf_217 : decode cX10_brokenOf 217 = .ok (.ireturn, 1) := by decide +kernel
theorem dX10_broken_0 : decode cX10_broken 0 = .ok (.aload_n 0, 1) := by decide +kernel
theorem dX10_broken_1 : decode cX10_broken 1 = .ok (.iconst 0, 1) := by decide +kernel
theorem dX10_broken_2 : decode cX10_broken 2 = .ok (.putfield 72, 3) := by decide +kernel
theorem dX10_broken_5 : decode cX10_broken 5 = .ok (.aload_n 0, 1) := by decide +kernel
theorem dX10_broken_6 : decode cX10_broken 6 = .ok (.iload_n 1, 1) := by decide +kernel
theorem dX10_broken_7 : decode cX10_broken 7 = .ok (.invokestatic 368, 3) := by decide +kernel
theorem dX10_broken_10 : decode cX10_broken 10 = .ok (.ifCond .ne 7, 3) := by decide +kernel
theorem dX10_broken_13 : decode cX10_broken 13 = .ok (.iconst 1, 1) := by decide +kernel
theorem dX10_broken_14 : decode cX10_broken 14 = .ok (.goto 4, 3) := by decide +kernel
theorem dX10_broken_17 : decode cX10_broken 17 = .ok (.iconst 0, 1) := by decide +kernel
theorem dX10_broken_18 : decode cX10_broken 18 = .ok (.iconst 1, 1) := by decide +kernel
theorem dX10_broken_19 : decode cX10_broken 19 = .ok (.iconst 1, 1) := by decide +kernel
theorem dX10_broken_20 : decode cX10_broken 20 = .ok (.invokevirtual 155, 3) := by decide +kernel
theorem dX10_broken_23 : decode cX10_broken 23 = .ok (.ifCond .eq 5, 3) := by decide +kernel
theorem dX10_broken_26 : decode cX10_broken 26 = .ok (.iconst 0, 1) := by decide +kernel
theorem dX10_broken_27 : decode cX10_broken 27 = .ok (.ireturn, 1) := by decide +kernel
theorem dX10_broken_28 : decode cX10_broken 28 = .ok (.aload_n 0, 1) := by decide +kernel
theorem dX10_broken_29 : decode cX10_broken 29 = .ok (.aload_n 0, 1) := by decide +kernel
theorem dX10_broken_30 : decode cX10_broken 30 = .ok (.getfield 31, 3) := by decide +kernel
theorem dX10_broken_33 : decode cX10_broken 33 = .ok (.iload_n 1, 1) := by decide +kernel
theorem dX10_broken_34 : decode cX10_broken 34 = .ok (.invokestatic 374, 3) := by decide +kernel
theorem dX10_broken_37 : decode cX10_broken 37 = .ok (.invokevirtual 383, 3) := by decide +kernel
theorem dX10_broken_40 : decode cX10_broken 40 = .ok (.ireturn, 1) := by decide +kernel
theorem dX10_underOf_0 : decode cX10_underOf 0 = .ok (.iconst 0, 1) := by decide +kernel
theorem dX10_underOf_1 : decode cX10_underOf 1 = .ok (.istore_n 3, 1) := by decide +kernel
theorem dX10_underOf_2 : decode cX10_underOf 2 = .ok (.iconst 0, 1) := by decide +kernel
theorem dX10_underOf_3 : decode cX10_underOf 3 = .ok (.istore 4, 2) := by decide +kernel
theorem dX10_underOf_5 : decode cX10_underOf 5 = .ok (.aload_n 0, 1) := by decide +kernel
theorem dX10_underOf_6 : decode cX10_underOf 6 = .ok (.getfield 31, 3) := by decide +kernel
theorem dX10_underOf_9 : decode cX10_underOf 9 = .ok (.iload_n 1, 1) := by decide +kernel
theorem dX10_underOf_10 : decode cX10_underOf 10 = .ok (.iload_n 2, 1) := by decide +kernel
theorem dX10_underOf_11 : decode cX10_underOf 11 = .ok (.iconst 2, 1) := by decide +kernel
theorem dX10_underOf_12 : decode cX10_underOf 12 = .ok (.invokestatic 273, 3) := by decide +kernel
theorem dX10_underOf_15 : decode cX10_underOf 15 = .ok (.ifCond .eq 72, 3) := by decide +kernel
theorem dX10_underOf_18 : decode cX10_underOf 18 = .ok (.aload_n 0, 1) := by decide +kernel
theorem dX10_underOf_19 : decode cX10_underOf 19 = .ok (.getfield 31, 3) := by decide +kernel
theorem dX10_underOf_22 : decode cX10_underOf 22 = .ok (.iload_n 1, 1) := by decide +kernel
theorem dX10_underOf_23 : decode cX10_underOf 23 = .ok (.iload_n 2, 1) := by decide +kernel
theorem dX10_underOf_24 : decode cX10_underOf 24 = .ok (.iload 4, 2) := by decide +kernel
theorem dX10_underOf_26 : decode cX10_underOf 26 = .ok (.invokestatic 270, 3) := by decide +kernel
theorem dX10_underOf_29 : decode cX10_underOf 29 = .ok (.iconst (-1), 1) := by decide +kernel
theorem dX10_underOf_30 : decode cX10_underOf 30 = .ok (.if_icmp .eq 57, 3) := by decide +kernel
theorem dX10_underOf_33 : decode cX10_underOf 33 = .ok (.iload_n 1, 1) := by decide +kernel
theorem dX10_underOf_34 : decode cX10_underOf 34 = .ok (.aload_n 0, 1) := by decide +kernel
theorem dX10_underOf_35 : decode cX10_underOf 35 = .ok (.getfield 31, 3) := by decide +kernel
theorem dX10_underOf_38 : decode cX10_underOf 38 = .ok (.iload_n 1, 1) := by decide +kernel
theorem dX10_underOf_39 : decode cX10_underOf 39 = .ok (.iload_n 2, 1) := by decide +kernel
theorem dX10_underOf_40 : decode cX10_underOf 40 = .ok (.iload 4, 2) := by decide +kernel
theorem dX10_underOf_42 : decode cX10_underOf 42 = .ok (.invokestatic 270, 3) := by decide +kernel
theorem dX10_underOf_45 : decode cX10_underOf 45 = .ok (.iadd, 1) := by decide +kernel
theorem dX10_underOf_46 : decode cX10_underOf 46 = .ok (.istore 5, 2) := by decide +kernel
theorem dX10_underOf_48 : decode cX10_underOf 48 = .ok (.iload_n 3, 1) := by decide +kernel
theorem dX10_underOf_49 : decode cX10_underOf 49 = .ok (.aload_n 0, 1) := by decide +kernel
theorem dX10_underOf_50 : decode cX10_underOf 50 = .ok (.getfield 31, 3) := by decide +kernel
theorem dX10_underOf_53 : decode cX10_underOf 53 = .ok (.iload 5, 2) := by decide +kernel
theorem dX10_underOf_55 : decode cX10_underOf 55 = .ok (.iaload, 1) := by decide +kernel
theorem dX10_underOf_56 : decode cX10_underOf 56 = .ok (.ifCond .ne 7, 3) := by decide +kernel
theorem dX10_underOf_59 : decode cX10_underOf 59 = .ok (.iconst 0, 1) := by decide +kernel
theorem dX10_underOf_60 : decode cX10_underOf 60 = .ok (.goto 19, 3) := by decide +kernel
theorem dX10_underOf_63 : decode cX10_underOf 63 = .ok (.iconst 1, 1) := by decide +kernel
theorem dX10_underOf_64 : decode cX10_underOf 64 = .ok (.aload_n 0, 1) := by decide +kernel
theorem dX10_underOf_65 : decode cX10_underOf 65 = .ok (.iload_n 1, 1) := by decide +kernel
theorem dX10_underOf_66 : decode cX10_underOf 66 = .ok (.aload_n 0, 1) := by decide +kernel
theorem dX10_underOf_67 : decode cX10_underOf 67 = .ok (.getfield 31, 3) := by decide +kernel
theorem dX10_underOf_70 : decode cX10_underOf 70 = .ok (.iload 5, 2) := by decide +kernel
theorem dX10_underOf_72 : decode cX10_underOf 72 = .ok (.iconst 1, 1) := by decide +kernel
theorem dX10_underOf_73 : decode cX10_underOf 73 = .ok (.iadd, 1) := by decide +kernel
theorem dX10_underOf_74 : decode cX10_underOf 74 = .ok (.iaload, 1) := by decide +kernel
theorem dX10_underOf_75 : decode cX10_underOf 75 = .ok (.invokevirtual 386, 3) := by decide +kernel
theorem dX10_underOf_78 : decode cX10_underOf 78 = .ok (.iadd, 1) := by decide +kernel
theorem dX10_underOf_79 : decode cX10_underOf 79 = .ok (.iadd, 1) := by decide +kernel
theorem dX10_underOf_80 : decode cX10_underOf 80 = .ok (.istore_n 3, 1) := by decide +kernel
theorem dX10_underOf_81 : decode cX10_underOf 81 = .ok (.iinc 4 1, 3) := by decide +kernel
theorem dX10_underOf_84 : decode cX10_underOf 84 = .ok (.goto (-79), 3) := by decide +kernel
theorem dX10_underOf_87 : decode cX10_underOf 87 = .ok (.iload_n 3, 1) := by decide +kernel
theorem dX10_underOf_88 : decode cX10_underOf 88 = .ok (.ireturn, 1) := by decide +kernel
theorem dX10_under_0 : decode cX10_under 0 = .ok (.aload_n 0, 1) := by decide +kernel
theorem dX10_under_1 : decode cX10_under 1 = .ok (.iconst 0, 1) := by decide +kernel
theorem dX10_under_2 : decode cX10_under 2 = .ok (.putfield 72, 3) := by decide +kernel
theorem dX10_under_5 : decode cX10_under 5 = .ok (.aload_n 0, 1) := by decide +kernel
theorem dX10_under_6 : decode cX10_under 6 = .ok (.iload_n 1, 1) := by decide +kernel
theorem dX10_under_7 : decode cX10_under 7 = .ok (.invokestatic 377, 3) := by decide +kernel
theorem dX10_under_10 : decode cX10_under 10 = .ok (.ifCond .ne 7, 3) := by decide +kernel
theorem dX10_under_13 : decode cX10_under 13 = .ok (.iconst 1, 1) := by decide +kernel
theorem dX10_under_14 : decode cX10_under 14 = .ok (.goto 4, 3) := by decide +kernel
theorem dX10_under_17 : decode cX10_under 17 = .ok (.iconst 0, 1) := by decide +kernel
theorem dX10_under_18 : decode cX10_under 18 = .ok (.iconst 1, 1) := by decide +kernel
theorem dX10_under_19 : decode cX10_under 19 = .ok (.iconst 0, 1) := by decide +kernel
theorem dX10_under_20 : decode cX10_under 20 = .ok (.invokevirtual 155, 3) := by decide +kernel
theorem dX10_under_23 : decode cX10_under 23 = .ok (.ifCond .ne 24, 3) := by decide +kernel
theorem dX10_under_26 : decode cX10_under 26 = .ok (.aload_n 0, 1) := by decide +kernel
theorem dX10_under_27 : decode cX10_under 27 = .ok (.iload_n 2, 1) := by decide +kernel
theorem dX10_under_28 : decode cX10_under 28 = .ok (.invokestatic 368, 3) := by decide +kernel
theorem dX10_under_31 : decode cX10_under 31 = .ok (.ifCond .ne 7, 3) := by decide +kernel
theorem dX10_under_34 : decode cX10_under 34 = .ok (.iconst 1, 1) := by decide +kernel
theorem dX10_under_35 : decode cX10_under 35 = .ok (.goto 4, 3) := by decide +kernel
theorem dX10_under_38 : decode cX10_under 38 = .ok (.iconst 0, 1) := by decide +kernel
theorem dX10_under_39 : decode cX10_under 39 = .ok (.iconst 2, 1) := by decide +kernel
theorem dX10_under_40 : decode cX10_under 40 = .ok (.iconst 1, 1) := by decide +kernel
theorem dX10_under_41 : decode cX10_under 41 = .ok (.invokevirtual 155, 3) := by decide +kernel
theorem dX10_under_44 : decode cX10_under 44 = .ok (.ifCond .eq 5, 3) := by decide +kernel
theorem dX10_under_47 : decode cX10_under 47 = .ok (.iconst 0, 1) := by decide +kernel
theorem dX10_under_48 : decode cX10_under 48 = .ok (.ireturn, 1) := by decide +kernel
theorem dX10_under_49 : decode cX10_under 49 = .ok (.aload_n 0, 1) := by decide +kernel
theorem dX10_under_50 : decode cX10_under 50 = .ok (.iload_n 2, 1) := by decide +kernel
theorem dX10_under_51 : decode cX10_under 51 = .ok (.invokestatic 374, 3) := by decide +kernel
theorem dX10_under_54 : decode cX10_under 54 = .ok (.iload_n 1, 1) := by decide +kernel
theorem dX10_under_55 : decode cX10_under 55 = .ok (.invokevirtual 386, 3) := by decide +kernel
theorem dX10_under_58 : decode cX10_under 58 = .ok (.ireturn, 1) := by decide +kernel
theorem dX10_deepOf_0 : decode cX10_deepOf 0 = .ok (.aload_n 0, 1) := by decide +kernel
theorem dX10_deepOf_1 : decode cX10_deepOf 1 = .ok (.getfield 31, 3) := by decide +kernel
theorem dX10_deepOf_4 : decode cX10_deepOf 4 = .ok (.iload_n 1, 1) := by decide +kernel
theorem dX10_deepOf_5 : decode cX10_deepOf 5 = .ok (.iload_n 2, 1) := by decide +kernel
theorem dX10_deepOf_6 : decode cX10_deepOf 6 = .ok (.iconst 2, 1) := by decide +kernel
theorem dX10_deepOf_7 : decode cX10_deepOf 7 = .ok (.invokestatic 273, 3) := by decide +kernel
theorem dX10_deepOf_10 : decode cX10_deepOf 10 = .ok (.ifCond .ne 5, 3) := by decide +kernel
theorem dX10_deepOf_13 : decode cX10_deepOf 13 = .ok (.iconst 0, 1) := by decide +kernel
theorem dX10_deepOf_14 : decode cX10_deepOf 14 = .ok (.ireturn, 1) := by decide +kernel
theorem dX10_deepOf_15 : decode cX10_deepOf 15 = .ok (.iconst 0, 1) := by decide +kernel
theorem dX10_deepOf_16 : decode cX10_deepOf 16 = .ok (.istore_n 3, 1) := by decide +kernel
theorem dX10_deepOf_17 : decode cX10_deepOf 17 = .ok (.iconst 0, 1) := by decide +kernel
theorem dX10_deepOf_18 : decode cX10_deepOf 18 = .ok (.istore 4, 2) := by decide +kernel
theorem dX10_deepOf_20 : decode cX10_deepOf 20 = .ok (.aload_n 0, 1) := by decide +kernel
theorem dX10_deepOf_21 : decode cX10_deepOf 21 = .ok (.getfield 31, 3) := by decide +kernel
theorem dX10_deepOf_24 : decode cX10_deepOf 24 = .ok (.iload_n 1, 1) := by decide +kernel
theorem dX10_deepOf_25 : decode cX10_deepOf 25 = .ok (.iload_n 2, 1) := by decide +kernel
theorem dX10_deepOf_26 : decode cX10_deepOf 26 = .ok (.iload 4, 2) := by decide +kernel
theorem dX10_deepOf_28 : decode cX10_deepOf 28 = .ok (.invokestatic 270, 3) := by decide +kernel
theorem dX10_deepOf_31 : decode cX10_deepOf 31 = .ok (.iconst (-1), 1) := by decide +kernel
theorem dX10_deepOf_32 : decode cX10_deepOf 32 = .ok (.if_icmp .eq 57, 3) := by decide +kernel
theorem dX10_deepOf_35 : decode cX10_deepOf 35 = .ok (.iload_n 1, 1) := by decide +kernel
theorem dX10_deepOf_36 : decode cX10_deepOf 36 = .ok (.aload_n 0, 1) := by decide +kernel
theorem dX10_deepOf_37 : decode cX10_deepOf 37 = .ok (.getfield 31, 3) := by decide +kernel
theorem dX10_deepOf_40 : decode cX10_deepOf 40 = .ok (.iload_n 1, 1) := by decide +kernel
theorem dX10_deepOf_41 : decode cX10_deepOf 41 = .ok (.iload_n 2, 1) := by decide +kernel
theorem dX10_deepOf_42 : decode cX10_deepOf 42 = .ok (.iload 4, 2) := by decide +kernel
theorem dX10_deepOf_44 : decode cX10_deepOf 44 = .ok (.invokestatic 270, 3) := by decide +kernel
theorem dX10_deepOf_47 : decode cX10_deepOf 47 = .ok (.iadd, 1) := by decide +kernel
theorem dX10_deepOf_48 : decode cX10_deepOf 48 = .ok (.istore 5, 2) := by decide +kernel
theorem dX10_deepOf_50 : decode cX10_deepOf 50 = .ok (.aload_n 0, 1) := by decide +kernel
theorem dX10_deepOf_51 : decode cX10_deepOf 51 = .ok (.getfield 31, 3) := by decide +kernel
theorem dX10_deepOf_54 : decode cX10_deepOf 54 = .ok (.iload 5, 2) := by decide +kernel
theorem dX10_deepOf_56 : decode cX10_deepOf 56 = .ok (.iaload, 1) := by decide +kernel
theorem dX10_deepOf_57 : decode cX10_deepOf 57 = .ok (.ifCond .ne 7, 3) := by decide +kernel
theorem dX10_deepOf_60 : decode cX10_deepOf 60 = .ok (.iload_n 3, 1) := by decide +kernel
theorem dX10_deepOf_61 : decode cX10_deepOf 61 = .ok (.goto 21, 3) := by decide +kernel
theorem dX10_deepOf_64 : decode cX10_deepOf 64 = .ok (.iload_n 3, 1) := by decide +kernel
theorem dX10_deepOf_65 : decode cX10_deepOf 65 = .ok (.aload_n 0, 1) := by decide +kernel
theorem dX10_deepOf_66 : decode cX10_deepOf 66 = .ok (.iload_n 1, 1) := by decide +kernel
theorem dX10_deepOf_67 : decode cX10_deepOf 67 = .ok (.aload_n 0, 1) := by decide +kernel
theorem dX10_deepOf_68 : decode cX10_deepOf 68 = .ok (.getfield 31, 3) := by decide +kernel
theorem dX10_deepOf_71 : decode cX10_deepOf 71 = .ok (.iload 5, 2) := by decide +kernel
theorem dX10_deepOf_73 : decode cX10_deepOf 73 = .ok (.iconst 1, 1) := by decide +kernel
theorem dX10_deepOf_74 : decode cX10_deepOf 74 = .ok (.iadd, 1) := by decide +kernel
theorem dX10_deepOf_75 : decode cX10_deepOf 75 = .ok (.iaload, 1) := by decide +kernel
theorem dX10_deepOf_76 : decode cX10_deepOf 76 = .ok (.invokevirtual 389, 3) := by decide +kernel
theorem dX10_deepOf_79 : decode cX10_deepOf 79 = .ok (.invokestatic 392, 3) := by decide +kernel
theorem dX10_deepOf_82 : decode cX10_deepOf 82 = .ok (.istore_n 3, 1) := by decide +kernel
theorem dX10_deepOf_83 : decode cX10_deepOf 83 = .ok (.iinc 4 1, 3) := by decide +kernel
theorem dX10_deepOf_86 : decode cX10_deepOf 86 = .ok (.goto (-66), 3) := by decide +kernel
theorem dX10_deepOf_89 : decode cX10_deepOf 89 = .ok (.iload_n 3, 1) := by decide +kernel
theorem dX10_deepOf_90 : decode cX10_deepOf 90 = .ok (.iconst 1, 1) := by decide +kernel
theorem dX10_deepOf_91 : decode cX10_deepOf 91 = .ok (.iadd, 1) := by decide +kernel
theorem dX10_deepOf_92 : decode cX10_deepOf 92 = .ok (.ireturn, 1) := by decide +kernel
theorem dX10_deep_0 : decode cX10_deep 0 = .ok (.aload_n 0, 1) := by decide +kernel
theorem dX10_deep_1 : decode cX10_deep 1 = .ok (.iconst 0, 1) := by decide +kernel
theorem dX10_deep_2 : decode cX10_deep 2 = .ok (.putfield 72, 3) := by decide +kernel
theorem dX10_deep_5 : decode cX10_deep 5 = .ok (.aload_n 0, 1) := by decide +kernel
theorem dX10_deep_6 : decode cX10_deep 6 = .ok (.iload_n 1, 1) := by decide +kernel
theorem dX10_deep_7 : decode cX10_deep 7 = .ok (.invokestatic 377, 3) := by decide +kernel
theorem dX10_deep_10 : decode cX10_deep 10 = .ok (.ifCond .ne 7, 3) := by decide +kernel
theorem dX10_deep_13 : decode cX10_deep 13 = .ok (.iconst 1, 1) := by decide +kernel
theorem dX10_deep_14 : decode cX10_deep 14 = .ok (.goto 4, 3) := by decide +kernel
theorem dX10_deep_17 : decode cX10_deep 17 = .ok (.iconst 0, 1) := by decide +kernel
theorem dX10_deep_18 : decode cX10_deep 18 = .ok (.iconst 1, 1) := by decide +kernel
theorem dX10_deep_19 : decode cX10_deep 19 = .ok (.iconst 0, 1) := by decide +kernel
theorem dX10_deep_20 : decode cX10_deep 20 = .ok (.invokevirtual 155, 3) := by decide +kernel
theorem dX10_deep_23 : decode cX10_deep 23 = .ok (.ifCond .ne 24, 3) := by decide +kernel
theorem dX10_deep_26 : decode cX10_deep 26 = .ok (.aload_n 0, 1) := by decide +kernel
theorem dX10_deep_27 : decode cX10_deep 27 = .ok (.iload_n 2, 1) := by decide +kernel
theorem dX10_deep_28 : decode cX10_deep 28 = .ok (.invokestatic 368, 3) := by decide +kernel
theorem dX10_deep_31 : decode cX10_deep 31 = .ok (.ifCond .ne 7, 3) := by decide +kernel
theorem dX10_deep_34 : decode cX10_deep 34 = .ok (.iconst 1, 1) := by decide +kernel
theorem dX10_deep_35 : decode cX10_deep 35 = .ok (.goto 4, 3) := by decide +kernel
theorem dX10_deep_38 : decode cX10_deep 38 = .ok (.iconst 0, 1) := by decide +kernel
theorem dX10_deep_39 : decode cX10_deep 39 = .ok (.iconst 2, 1) := by decide +kernel
theorem dX10_deep_40 : decode cX10_deep 40 = .ok (.iconst 1, 1) := by decide +kernel
theorem dX10_deep_41 : decode cX10_deep 41 = .ok (.invokevirtual 155, 3) := by decide +kernel
theorem dX10_deep_44 : decode cX10_deep 44 = .ok (.ifCond .eq 5, 3) := by decide +kernel
theorem dX10_deep_47 : decode cX10_deep 47 = .ok (.iconst 0, 1) := by decide +kernel
theorem dX10_deep_48 : decode cX10_deep 48 = .ok (.ireturn, 1) := by decide +kernel
theorem dX10_deep_49 : decode cX10_deep 49 = .ok (.aload_n 0, 1) := by decide +kernel
theorem dX10_deep_50 : decode cX10_deep 50 = .ok (.iload_n 2, 1) := by decide +kernel
theorem dX10_deep_51 : decode cX10_deep 51 = .ok (.invokestatic 374, 3) := by decide +kernel
theorem dX10_deep_54 : decode cX10_deep 54 = .ok (.iload_n 1, 1) := by decide +kernel
theorem dX10_deep_55 : decode cX10_deep 55 = .ok (.invokevirtual 389, 3) := by decide +kernel
theorem dX10_deep_58 : decode cX10_deep 58 = .ok (.ireturn, 1) := by decide +kernel
theorem dX10_change_0 : decode cX10_change 0 = .ok (.aload_n 0, 1) := by decide +kernel
theorem dX10_change_1 : decode cX10_change 1 = .ok (.iconst 0, 1) := by decide +kernel
theorem dX10_change_2 : decode cX10_change 2 = .ok (.putfield 72, 3) := by decide +kernel
theorem dX10_change_5 : decode cX10_change 5 = .ok (.aload_n 0, 1) := by decide +kernel
theorem dX10_change_6 : decode cX10_change 6 = .ok (.iload_n 2, 1) := by decide +kernel
theorem dX10_change_7 : decode cX10_change 7 = .ok (.iconst 0, 1) := by decide +kernel
theorem dX10_change_8 : decode cX10_change 8 = .ok (.iconst 5, 1) := by decide +kernel
theorem dX10_change_9 : decode cX10_change 9 = .ok (.invokestatic 106, 3) := by decide +kernel
theorem dX10_change_12 : decode cX10_change 12 = .ok (.ifCond .ne 7, 3) := by decide +kernel
theorem dX10_change_15 : decode cX10_change 15 = .ok (.iconst 1, 1) := by decide +kernel
theorem dX10_change_16 : decode cX10_change 16 = .ok (.goto 4, 3) := by decide +kernel
theorem dX10_change_19 : decode cX10_change 19 = .ok (.iconst 0, 1) := by decide +kernel
theorem dX10_change_20 : decode cX10_change 20 = .ok (.iconst 1, 1) := by decide +kernel
theorem dX10_change_21 : decode cX10_change 21 = .ok (.iconst 1, 1) := by decide +kernel
theorem dX10_change_22 : decode cX10_change 22 = .ok (.invokevirtual 155, 3) := by decide +kernel
theorem dX10_change_25 : decode cX10_change 25 = .ok (.ifCond .ne 54, 3) := by decide +kernel
theorem dX10_change_28 : decode cX10_change 28 = .ok (.aload_n 0, 1) := by decide +kernel
theorem dX10_change_29 : decode cX10_change 29 = .ok (.iload_n 1, 1) := by decide +kernel
theorem dX10_change_30 : decode cX10_change 30 = .ok (.iconst 0, 1) := by decide +kernel
theorem dX10_change_31 : decode cX10_change 31 = .ok (.sipush 255, 3) := by decide +kernel
theorem dX10_change_34 : decode cX10_change 34 = .ok (.invokestatic 106, 3) := by decide +kernel
theorem dX10_change_37 : decode cX10_change 37 = .ok (.ifCond .ne 7, 3) := by decide +kernel
theorem dX10_change_40 : decode cX10_change 40 = .ok (.iconst 1, 1) := by decide +kernel
theorem dX10_change_41 : decode cX10_change 41 = .ok (.goto 4, 3) := by decide +kernel
theorem dX10_change_44 : decode cX10_change 44 = .ok (.iconst 0, 1) := by decide +kernel
theorem dX10_change_45 : decode cX10_change 45 = .ok (.iconst 3, 1) := by decide +kernel
theorem dX10_change_46 : decode cX10_change 46 = .ok (.iconst 3, 1) := by decide +kernel
theorem dX10_change_47 : decode cX10_change 47 = .ok (.invokevirtual 155, 3) := by decide +kernel
theorem dX10_change_50 : decode cX10_change 50 = .ok (.ifCond .ne 29, 3) := by decide +kernel
theorem dX10_change_53 : decode cX10_change 53 = .ok (.aload_n 0, 1) := by decide +kernel
theorem dX10_change_54 : decode cX10_change 54 = .ok (.iload_n 1, 1) := by decide +kernel
theorem dX10_change_55 : decode cX10_change 55 = .ok (.aload_n 0, 1) := by decide +kernel
theorem dX10_change_56 : decode cX10_change 56 = .ok (.getfield 31, 3) := by decide +kernel
theorem dX10_change_59 : decode cX10_change 59 = .ok (.sipush 3392, 3) := by decide +kernel
theorem dX10_change_62 : decode cX10_change 62 = .ok (.iaload, 1) := by decide +kernel
theorem dX10_change_63 : decode cX10_change 63 = .ok (.if_icmp .lt 7, 3) := by decide +kernel
theorem dX10_change_66 : decode cX10_change 66 = .ok (.iconst 1, 1) := by decide +kernel
theorem dX10_change_67 : decode cX10_change 67 = .ok (.goto 4, 3) := by decide +kernel
theorem dX10_change_70 : decode cX10_change 70 = .ok (.iconst 0, 1) := by decide +kernel
theorem dX10_change_71 : decode cX10_change 71 = .ok (.iconst 2, 1) := by decide +kernel
theorem dX10_change_72 : decode cX10_change 72 = .ok (.iconst 2, 1) := by decide +kernel
theorem dX10_change_73 : decode cX10_change 73 = .ok (.invokevirtual 155, 3) := by decide +kernel
theorem dX10_change_76 : decode cX10_change 76 = .ok (.ifCond .eq 5, 3) := by decide +kernel
theorem dX10_change_79 : decode cX10_change 79 = .ok (.iconst 0, 1) := by decide +kernel
theorem dX10_change_80 : decode cX10_change 80 = .ok (.ireturn, 1) := by decide +kernel
theorem dX10_change_81 : decode cX10_change 81 = .ok (.iload_n 1, 1) := by decide +kernel
theorem dX10_change_82 : decode cX10_change 82 = .ok (.invokestatic 201, 3) := by decide +kernel
theorem dX10_change_85 : decode cX10_change 85 = .ok (.istore_n 3, 1) := by decide +kernel
theorem dX10_change_86 : decode cX10_change 86 = .ok (.iconst 0, 1) := by decide +kernel
theorem dX10_change_87 : decode cX10_change 87 = .ok (.istore 4, 2) := by decide +kernel
theorem dX10_change_89 : decode cX10_change 89 = .ok (.iload_n 2, 1) := by decide +kernel
theorem dX10_change_90 : decode cX10_change 90 = .ok (.iconst 2, 1) := by decide +kernel
theorem dX10_change_91 : decode cX10_change 91 = .ok (.if_icmp .ge 14, 3) := by decide +kernel
theorem dX10_change_94 : decode cX10_change 94 = .ok (.aload_n 0, 1) := by decide +kernel
theorem dX10_change_95 : decode cX10_change 95 = .ok (.getfield 31, 3) := by decide +kernel
theorem dX10_change_98 : decode cX10_change 98 = .ok (.iload_n 3, 1) := by decide +kernel
theorem dX10_change_99 : decode cX10_change 99 = .ok (.iconst 1, 1) := by decide +kernel
theorem dX10_change_100 : decode cX10_change 100 = .ok (.iadd, 1) := by decide +kernel
theorem dX10_change_101 : decode cX10_change 101 = .ok (.iload_n 2, 1) := by decide +kernel
theorem dX10_change_102 : decode cX10_change 102 = .ok (.iadd, 1) := by decide +kernel
theorem dX10_change_103 : decode cX10_change 103 = .ok (.iaload, 1) := by decide +kernel
theorem dX10_change_104 : decode cX10_change 104 = .ok (.ireturn, 1) := by decide +kernel
theorem dX10_change_105 : decode cX10_change 105 = .ok (.iload_n 2, 1) := by decide +kernel
theorem dX10_change_106 : decode cX10_change 106 = .ok (.iconst 2, 1) := by decide +kernel
theorem dX10_change_107 : decode cX10_change 107 = .ok (.if_icmp .ne 13, 3) := by decide +kernel
theorem dX10_change_110 : decode cX10_change 110 = .ok (.aload_n 0, 1) := by decide +kernel
theorem dX10_change_111 : decode cX10_change 111 = .ok (.getfield 31, 3) := by decide +kernel
theorem dX10_change_114 : decode cX10_change 114 = .ok (.iload_n 3, 1) := by decide +kernel
theorem dX10_change_115 : decode cX10_change 115 = .ok (.iconst 0, 1) := by decide +kernel
theorem dX10_change_116 : decode cX10_change 116 = .ok (.invokestatic 227, 3) := by decide +kernel
theorem dX10_change_119 : decode cX10_change 119 = .ok (.ireturn, 1) := by decide +kernel
theorem dX10_change_120 : decode cX10_change 120 = .ok (.iload_n 2, 1) := by decide +kernel
theorem dX10_change_121 : decode cX10_change 121 = .ok (.iconst 3, 1) := by decide +kernel
theorem dX10_change_122 : decode cX10_change 122 = .ok (.if_icmp .ne 12, 3) := by decide +kernel
theorem dX10_change_125 : decode cX10_change 125 = .ok (.aload_n 0, 1) := by decide +kernel
theorem dX10_change_126 : decode cX10_change 126 = .ok (.getfield 31, 3) := by decide +kernel
theorem dX10_change_129 : decode cX10_change 129 = .ok (.iload_n 3, 1) := by decide +kernel
theorem dX10_change_130 : decode cX10_change 130 = .ok (.iconst 3, 1) := by decide +kernel
theorem dX10_change_131 : decode cX10_change 131 = .ok (.iadd, 1) := by decide +kernel
theorem dX10_change_132 : decode cX10_change 132 = .ok (.iaload, 1) := by decide +kernel
theorem dX10_change_133 : decode cX10_change 133 = .ok (.ireturn, 1) := by decide +kernel
theorem dX10_change_134 : decode cX10_change 134 = .ok (.iconst 4, 1) := by decide +kernel
theorem dX10_change_135 : decode cX10_change 135 = .ok (.istore 5, 2) := by decide +kernel
theorem dX10_change_137 : decode cX10_change 137 = .ok (.iload 5, 2) := by decide +kernel
theorem dX10_change_139 : decode cX10_change 139 = .ok (.bipush 8, 2) := by decide +kernel
theorem dX10_change_141 : decode cX10_change 141 = .ok (.if_icmp .ge 72, 3) := by decide +kernel
theorem dX10_change_144 : decode cX10_change 144 = .ok (.iload 4, 2) := by decide +kernel
theorem dX10_change_146 : decode cX10_change 146 = .ok (.aload_n 0, 1) := by decide +kernel
theorem dX10_change_147 : decode cX10_change 147 = .ok (.getfield 31, 3) := by decide +kernel
theorem dX10_change_150 : decode cX10_change 150 = .ok (.iload_n 3, 1) := by decide +kernel
theorem dX10_change_151 : decode cX10_change 151 = .ok (.iload 5, 2) := by decide +kernel
theorem dX10_change_153 : decode cX10_change 153 = .ok (.iadd, 1) := by decide +kernel
theorem dX10_change_154 : decode cX10_change 154 = .ok (.iaload, 1) := by decide +kernel
theorem dX10_change_155 : decode cX10_change 155 = .ok (.ifCond .ge 24, 3) := by decide +kernel
theorem dX10_change_158 : decode cX10_change 158 = .ok (.aload_n 0, 1) := by decide +kernel
theorem dX10_change_159 : decode cX10_change 159 = .ok (.getfield 31, 3) := by decide +kernel
theorem dX10_change_162 : decode cX10_change 162 = .ok (.iload_n 1, 1) := by decide +kernel
theorem dX10_change_163 : decode cX10_change 163 = .ok (.aload_n 0, 1) := by decide +kernel
theorem dX10_change_164 : decode cX10_change 164 = .ok (.getfield 31, 3) := by decide +kernel
theorem dX10_change_167 : decode cX10_change 167 = .ok (.iload_n 3, 1) := by decide +kernel
theorem dX10_change_168 : decode cX10_change 168 = .ok (.iload 5, 2) := by decide +kernel
theorem dX10_change_170 : decode cX10_change 170 = .ok (.iadd, 1) := by decide +kernel
theorem dX10_change_171 : decode cX10_change 171 = .ok (.iaload, 1) := by decide +kernel
theorem dX10_change_172 : decode cX10_change 172 = .ok (.ineg, 1) := by decide +kernel
theorem dX10_change_173 : decode cX10_change 173 = .ok (.invokestatic 212, 3) := by decide +kernel
theorem dX10_change_176 : decode cX10_change 176 = .ok (.goto 28, 3) := by decide +kernel
theorem dX10_change_179 : decode cX10_change 179 = .ok (.aload_n 0, 1) := by decide +kernel
theorem dX10_change_180 : decode cX10_change 180 = .ok (.getfield 31, 3) := by decide +kernel
theorem dX10_change_183 : decode cX10_change 183 = .ok (.aload_n 0, 1) := by decide +kernel
theorem dX10_change_184 : decode cX10_change 184 = .ok (.getfield 31, 3) := by decide +kernel
theorem dX10_change_187 : decode cX10_change 187 = .ok (.iload_n 3, 1) := by decide +kernel
theorem dX10_change_188 : decode cX10_change 188 = .ok (.iload 5, 2) := by decide +kernel
theorem dX10_change_190 : decode cX10_change 190 = .ok (.iadd, 1) := by decide +kernel
theorem dX10_change_191 : decode cX10_change 191 = .ok (.iaload, 1) := by decide +kernel
theorem dX10_change_192 : decode cX10_change 192 = .ok (.invokestatic 216, 3) := by decide +kernel
theorem dX10_change_195 : decode cX10_change 195 = .ok (.iconst (-1), 1) := by decide +kernel
theorem dX10_change_196 : decode cX10_change 196 = .ok (.if_icmp .ne 7, 3) := by decide +kernel
theorem dX10_change_199 : decode cX10_change 199 = .ok (.iconst 0, 1) := by decide +kernel
theorem dX10_change_200 : decode cX10_change 200 = .ok (.goto 4, 3) := by decide +kernel
theorem dX10_change_203 : decode cX10_change 203 = .ok (.iconst 1, 1) := by decide +kernel
theorem dX10_change_204 : decode cX10_change 204 = .ok (.iadd, 1) := by decide +kernel
theorem dX10_change_205 : decode cX10_change 205 = .ok (.istore 4, 2) := by decide +kernel
theorem dX10_change_207 : decode cX10_change 207 = .ok (.iinc 5 1, 3) := by decide +kernel
theorem dX10_change_210 : decode cX10_change 210 = .ok (.goto (-73), 3) := by decide +kernel
theorem dX10_change_213 : decode cX10_change 213 = .ok (.iload_n 2, 1) := by decide +kernel
theorem dX10_change_214 : decode cX10_change 214 = .ok (.iconst 4, 1) := by decide +kernel
theorem dX10_change_215 : decode cX10_change 215 = .ok (.if_icmp .ne 6, 3) := by decide +kernel
theorem dX10_change_218 : decode cX10_change 218 = .ok (.iload 4, 2) := by decide +kernel
theorem dX10_change_220 : decode cX10_change 220 = .ok (.ireturn, 1) := by decide +kernel
theorem dX10_change_221 : decode cX10_change 221 = .ok (.aload_n 0, 1) := by decide +kernel
theorem dX10_change_222 : decode cX10_change 222 = .ok (.aload_n 0, 1) := by decide +kernel
theorem dX10_change_223 : decode cX10_change 223 = .ok (.getfield 31, 3) := by decide +kernel
theorem dX10_change_226 : decode cX10_change 226 = .ok (.aload_n 0, 1) := by decide +kernel
theorem dX10_change_227 : decode cX10_change 227 = .ok (.getfield 31, 3) := by decide +kernel
theorem dX10_change_230 : decode cX10_change 230 = .ok (.iload_n 3, 1) := by decide +kernel
theorem dX10_change_231 : decode cX10_change 231 = .ok (.iconst 1, 1) := by decide +kernel
theorem dX10_change_232 : decode cX10_change 232 = .ok (.iadd, 1) := by decide +kernel
theorem dX10_change_233 : decode cX10_change 233 = .ok (.iaload, 1) := by decide +kernel
theorem dX10_change_234 : decode cX10_change 234 = .ok (.invokevirtual 258, 3) := by decide +kernel
theorem dX10_change_237 : decode cX10_change 237 = .ok (.pop, 1) := by decide +kernel
theorem dX10_change_238 : decode cX10_change 238 = .ok (.aload_n 0, 1) := by decide +kernel
theorem dX10_change_239 : decode cX10_change 239 = .ok (.getfield 47, 3) := by decide +kernel
theorem dX10_change_242 : decode cX10_change 242 = .ok (.iload_n 1, 1) := by decide +kernel
theorem dX10_change_243 : decode cX10_change 243 = .ok (.baload, 1) := by decide +kernel
theorem dX10_change_244 : decode cX10_change 244 = .ok (.ifCond .eq 7, 3) := by decide +kernel
theorem dX10_change_247 : decode cX10_change 247 = .ok (.iconst 1, 1) := by decide +kernel
theorem dX10_change_248 : decode cX10_change 248 = .ok (.goto 4, 3) := by decide +kernel
theorem dX10_change_251 : decode cX10_change 251 = .ok (.iconst 0, 1) := by decide +kernel
theorem dX10_change_252 : decode cX10_change 252 = .ok (.ireturn, 1) := by decide +kernel
theorem dX10_held_0 : decode cX10_held 0 = .ok (.aload_n 0, 1) := by decide +kernel
theorem dX10_held_1 : decode cX10_held 1 = .ok (.iconst 0, 1) := by decide +kernel
theorem dX10_held_2 : decode cX10_held 2 = .ok (.putfield 72, 3) := by decide +kernel
theorem dX10_held_5 : decode cX10_held 5 = .ok (.aload_n 0, 1) := by decide +kernel
theorem dX10_held_6 : decode cX10_held 6 = .ok (.aload_n 0, 1) := by decide +kernel
theorem dX10_held_7 : decode cX10_held 7 = .ok (.iload_n 1, 1) := by decide +kernel
theorem dX10_held_8 : decode cX10_held 8 = .ok (.invokevirtual 371, 3) := by decide +kernel
theorem dX10_held_11 : decode cX10_held 11 = .ok (.ifCond .ne 7, 3) := by decide +kernel
theorem dX10_held_14 : decode cX10_held 14 = .ok (.iconst 1, 1) := by decide +kernel
theorem dX10_held_15 : decode cX10_held 15 = .ok (.goto 4, 3) := by decide +kernel
theorem dX10_held_18 : decode cX10_held 18 = .ok (.iconst 0, 1) := by decide +kernel
theorem dX10_held_19 : decode cX10_held 19 = .ok (.iconst 1, 1) := by decide +kernel
theorem dX10_held_20 : decode cX10_held 20 = .ok (.iconst 3, 1) := by decide +kernel
theorem dX10_held_21 : decode cX10_held 21 = .ok (.invokevirtual 155, 3) := by decide +kernel
theorem dX10_held_24 : decode cX10_held 24 = .ok (.ifCond .eq 5, 3) := by decide +kernel
theorem dX10_held_27 : decode cX10_held 27 = .ok (.iconst 0, 1) := by decide +kernel
theorem dX10_held_28 : decode cX10_held 28 = .ok (.ireturn, 1) := by decide +kernel
theorem dX10_held_29 : decode cX10_held 29 = .ok (.aload_n 0, 1) := by decide +kernel
theorem dX10_held_30 : decode cX10_held 30 = .ok (.aload_n 0, 1) := by decide +kernel
theorem dX10_held_31 : decode cX10_held 31 = .ok (.getfield 31, 3) := by decide +kernel
theorem dX10_held_34 : decode cX10_held 34 = .ok (.iload_n 1, 1) := by decide +kernel
theorem dX10_held_35 : decode cX10_held 35 = .ok (.invokevirtual 258, 3) := by decide +kernel
theorem dX10_held_38 : decode cX10_held 38 = .ok (.ireturn, 1) := by decide +kernel
theorem dX10_copy_0 : decode cX10_copy 0 = .ok (.aload_n 0, 1) := by decide +kernel
theorem dX10_copy_1 : decode cX10_copy 1 = .ok (.iconst 0, 1) := by decide +kernel
theorem dX10_copy_2 : decode cX10_copy 2 = .ok (.putfield 72, 3) := by decide +kernel
theorem dX10_copy_5 : decode cX10_copy 5 = .ok (.aload_n 0, 1) := by decide +kernel
theorem dX10_copy_6 : decode cX10_copy 6 = .ok (.aload_n 0, 1) := by decide +kernel
theorem dX10_copy_7 : decode cX10_copy 7 = .ok (.iload_n 1, 1) := by decide +kernel
theorem dX10_copy_8 : decode cX10_copy 8 = .ok (.invokevirtual 371, 3) := by decide +kernel
theorem dX10_copy_11 : decode cX10_copy 11 = .ok (.ifCond .eq 13, 3) := by decide +kernel
theorem dX10_copy_14 : decode cX10_copy 14 = .ok (.iload_n 2, 1) := by decide +kernel
theorem dX10_copy_15 : decode cX10_copy 15 = .ok (.iconst 0, 1) := by decide +kernel
theorem dX10_copy_16 : decode cX10_copy 16 = .ok (.bipush 15, 2) := by decide +kernel
theorem dX10_copy_18 : decode cX10_copy 18 = .ok (.invokestatic 106, 3) := by decide +kernel
theorem dX10_copy_21 : decode cX10_copy 21 = .ok (.ifCond .ne 7, 3) := by decide +kernel
theorem dX10_copy_24 : decode cX10_copy 24 = .ok (.iconst 1, 1) := by decide +kernel
theorem dX10_copy_25 : decode cX10_copy 25 = .ok (.goto 4, 3) := by decide +kernel
theorem dX10_copy_28 : decode cX10_copy 28 = .ok (.iconst 0, 1) := by decide +kernel
theorem dX10_copy_29 : decode cX10_copy 29 = .ok (.iconst 1, 1) := by decide +kernel
theorem dX10_copy_30 : decode cX10_copy 30 = .ok (.iconst 3, 1) := by decide +kernel
theorem dX10_copy_31 : decode cX10_copy 31 = .ok (.invokevirtual 155, 3) := by decide +kernel
theorem dX10_copy_34 : decode cX10_copy 34 = .ok (.ifCond .eq 5, 3) := by decide +kernel
theorem dX10_copy_37 : decode cX10_copy 37 = .ok (.iconst 0, 1) := by decide +kernel
theorem dX10_copy_38 : decode cX10_copy 38 = .ok (.ireturn, 1) := by decide +kernel
theorem dX10_copy_39 : decode cX10_copy 39 = .ok (.aload_n 0, 1) := by decide +kernel
theorem dX10_copy_40 : decode cX10_copy 40 = .ok (.aload_n 0, 1) := by decide +kernel
theorem dX10_copy_41 : decode cX10_copy 41 = .ok (.getfield 31, 3) := by decide +kernel
theorem dX10_copy_44 : decode cX10_copy 44 = .ok (.iload_n 1, 1) := by decide +kernel
theorem dX10_copy_45 : decode cX10_copy 45 = .ok (.invokevirtual 258, 3) := by decide +kernel
theorem dX10_copy_48 : decode cX10_copy 48 = .ok (.pop, 1) := by decide +kernel
theorem dX10_copy_49 : decode cX10_copy 49 = .ok (.aload_n 0, 1) := by decide +kernel
theorem dX10_copy_50 : decode cX10_copy 50 = .ok (.getfield 51, 3) := by decide +kernel
theorem dX10_copy_53 : decode cX10_copy 53 = .ok (.iload_n 2, 1) := by decide +kernel
theorem dX10_copy_54 : decode cX10_copy 54 = .ok (.iaload, 1) := by decide +kernel
theorem dX10_copy_55 : decode cX10_copy 55 = .ok (.ireturn, 1) := by decide +kernel
theorem dX10_waitsFor_0 : decode cX10_waitsFor 0 = .ok (.iconst 0, 1) := by decide +kernel
theorem dX10_waitsFor_1 : decode cX10_waitsFor 1 = .ok (.istore_n 2, 1) := by decide +kernel
theorem dX10_waitsFor_2 : decode cX10_waitsFor 2 = .ok (.iconst 0, 1) := by decide +kernel
theorem dX10_waitsFor_3 : decode cX10_waitsFor 3 = .ok (.istore_n 3, 1) := by decide +kernel
theorem dX10_waitsFor_4 : decode cX10_waitsFor 4 = .ok (.iload_n 3, 1) := by decide +kernel
theorem dX10_waitsFor_5 : decode cX10_waitsFor 5 = .ok (.aload_n 0, 1) := by decide +kernel
theorem dX10_waitsFor_6 : decode cX10_waitsFor 6 = .ok (.getfield 31, 3) := by decide +kernel
theorem dX10_waitsFor_9 : decode cX10_waitsFor 9 = .ok (.sipush 3392, 3) := by decide +kernel
theorem dX10_waitsFor_12 : decode cX10_waitsFor 12 = .ok (.iaload, 1) := by decide +kernel
theorem dX10_waitsFor_13 : decode cX10_waitsFor 13 = .ok (.if_icmp .ge 145, 3) := by decide +kernel
theorem dX10_waitsFor_16 : decode cX10_waitsFor 16 = .ok (.iload_n 3, 1) := by decide +kernel
theorem dX10_waitsFor_17 : decode cX10_waitsFor 17 = .ok (.invokestatic 201, 3) := by decide +kernel
theorem dX10_waitsFor_20 : decode cX10_waitsFor 20 = .ok (.istore 4, 2) := by decide +kernel
theorem dX10_waitsFor_22 : decode cX10_waitsFor 22 = .ok (.iconst 4, 1) := by decide +kernel
theorem dX10_waitsFor_23 : decode cX10_waitsFor 23 = .ok (.istore 5, 2) := by decide +kernel
theorem dX10_waitsFor_25 : decode cX10_waitsFor 25 = .ok (.iload 5, 2) := by decide +kernel
theorem dX10_waitsFor_27 : decode cX10_waitsFor 27 = .ok (.bipush 8, 2) := by decide +kernel
theorem dX10_waitsFor_29 : decode cX10_waitsFor 29 = .ok (.if_icmp .ge 123, 3) := by decide +kernel
theorem dX10_waitsFor_32 : decode cX10_waitsFor 32 = .ok (.aload_n 0, 1) := by decide +kernel
theorem dX10_waitsFor_33 : decode cX10_waitsFor 33 = .ok (.getfield 31, 3) := by decide +kernel
theorem dX10_waitsFor_36 : decode cX10_waitsFor 36 = .ok (.iload 4, 2) := by decide +kernel
theorem dX10_waitsFor_38 : decode cX10_waitsFor 38 = .ok (.iconst 1, 1) := by decide +kernel
theorem dX10_waitsFor_39 : decode cX10_waitsFor 39 = .ok (.iadd, 1) := by decide +kernel
theorem dX10_waitsFor_40 : decode cX10_waitsFor 40 = .ok (.iaload, 1) := by decide +kernel
theorem dX10_waitsFor_41 : decode cX10_waitsFor 41 = .ok (.iload_n 1, 1) := by decide +kernel
theorem dX10_waitsFor_42 : decode cX10_waitsFor 42 = .ok (.if_icmp .ne 110, 3) := by decide +kernel
theorem dX10_waitsFor_45 : decode cX10_waitsFor 45 = .ok (.aload_n 0, 1) := by decide +kernel
theorem dX10_waitsFor_46 : decode cX10_waitsFor 46 = .ok (.getfield 31, 3) := by decide +kernel
theorem dX10_waitsFor_49 : decode cX10_waitsFor 49 = .ok (.aload_n 0, 1) := by decide +kernel
theorem dX10_waitsFor_50 : decode cX10_waitsFor 50 = .ok (.getfield 31, 3) := by decide +kernel
theorem dX10_waitsFor_53 : decode cX10_waitsFor 53 = .ok (.iload 4, 2) := by decide +kernel
theorem dX10_waitsFor_55 : decode cX10_waitsFor 55 = .ok (.iload 5, 2) := by decide +kernel
theorem dX10_waitsFor_57 : decode cX10_waitsFor 57 = .ok (.iadd, 1) := by decide +kernel
theorem dX10_waitsFor_58 : decode cX10_waitsFor 58 = .ok (.iaload, 1) := by decide +kernel
theorem dX10_waitsFor_59 : decode cX10_waitsFor 59 = .ok (.invokestatic 216, 3) := by decide +kernel
theorem dX10_waitsFor_62 : decode cX10_waitsFor 62 = .ok (.istore 6, 2) := by decide +kernel
theorem dX10_waitsFor_64 : decode cX10_waitsFor 64 = .ok (.iload_n 2, 1) := by decide +kernel
theorem dX10_waitsFor_65 : decode cX10_waitsFor 65 = .ok (.iload 6, 2) := by decide +kernel
theorem dX10_waitsFor_67 : decode cX10_waitsFor 67 = .ok (.iconst (-1), 1) := by decide +kernel
theorem dX10_waitsFor_68 : decode cX10_waitsFor 68 = .ok (.if_icmp .ne 7, 3) := by decide +kernel
theorem dX10_waitsFor_71 : decode cX10_waitsFor 71 = .ok (.iconst 0, 1) := by decide +kernel
theorem dX10_waitsFor_72 : decode cX10_waitsFor 72 = .ok (.goto 17, 3) := by decide +kernel
theorem dX10_waitsFor_75 : decode cX10_waitsFor 75 = .ok (.iconst 1, 1) := by decide +kernel
theorem dX10_waitsFor_76 : decode cX10_waitsFor 76 = .ok (.aload_n 0, 1) := by decide +kernel
theorem dX10_waitsFor_77 : decode cX10_waitsFor 77 = .ok (.getfield 31, 3) := by decide +kernel
theorem dX10_waitsFor_80 : decode cX10_waitsFor 80 = .ok (.iload 6, 2) := by decide +kernel
theorem dX10_waitsFor_82 : decode cX10_waitsFor 82 = .ok (.invokestatic 201, 3) := by decide +kernel
theorem dX10_waitsFor_85 : decode cX10_waitsFor 85 = .ok (.iconst 1, 1) := by decide +kernel
theorem dX10_waitsFor_86 : decode cX10_waitsFor 86 = .ok (.iadd, 1) := by decide +kernel
theorem dX10_waitsFor_87 : decode cX10_waitsFor 87 = .ok (.iaload, 1) := by decide +kernel
theorem dX10_waitsFor_88 : decode cX10_waitsFor 88 = .ok (.ishl, 1) := by decide +kernel
theorem dX10_waitsFor_89 : decode cX10_waitsFor 89 = .ok (.ior, 1) := by decide +kernel
theorem dX10_waitsFor_90 : decode cX10_waitsFor 90 = .ok (.istore_n 2, 1) := by decide +kernel
theorem dX10_waitsFor_91 : decode cX10_waitsFor 91 = .ok (.iload_n 2, 1) := by decide +kernel
theorem dX10_waitsFor_92 : decode cX10_waitsFor 92 = .ok (.aload_n 0, 1) := by decide +kernel
theorem dX10_waitsFor_93 : decode cX10_waitsFor 93 = .ok (.getfield 31, 3) := by decide +kernel
theorem dX10_waitsFor_96 : decode cX10_waitsFor 96 = .ok (.iload 4, 2) := by decide +kernel
theorem dX10_waitsFor_98 : decode cX10_waitsFor 98 = .ok (.iload 5, 2) := by decide +kernel
theorem dX10_waitsFor_100 : decode cX10_waitsFor 100 = .ok (.iadd, 1) := by decide +kernel
theorem dX10_waitsFor_101 : decode cX10_waitsFor 101 = .ok (.iaload, 1) := by decide +kernel
theorem dX10_waitsFor_102 : decode cX10_waitsFor 102 = .ok (.ifCond .ge 41, 3) := by decide +kernel
theorem dX10_waitsFor_105 : decode cX10_waitsFor 105 = .ok (.aload_n 0, 1) := by decide +kernel
theorem dX10_waitsFor_106 : decode cX10_waitsFor 106 = .ok (.getfield 31, 3) := by decide +kernel
theorem dX10_waitsFor_109 : decode cX10_waitsFor 109 = .ok (.iload_n 3, 1) := by decide +kernel
theorem dX10_waitsFor_110 : decode cX10_waitsFor 110 = .ok (.aload_n 0, 1) := by decide +kernel
theorem dX10_waitsFor_111 : decode cX10_waitsFor 111 = .ok (.getfield 31, 3) := by decide +kernel
theorem dX10_waitsFor_114 : decode cX10_waitsFor 114 = .ok (.iload 4, 2) := by decide +kernel
theorem dX10_waitsFor_116 : decode cX10_waitsFor 116 = .ok (.iload 5, 2) := by decide +kernel
theorem dX10_waitsFor_118 : decode cX10_waitsFor 118 = .ok (.iadd, 1) := by decide +kernel
theorem dX10_waitsFor_119 : decode cX10_waitsFor 119 = .ok (.iaload, 1) := by decide +kernel
theorem dX10_waitsFor_120 : decode cX10_waitsFor 120 = .ok (.ineg, 1) := by decide +kernel
theorem dX10_waitsFor_121 : decode cX10_waitsFor 121 = .ok (.invokestatic 212, 3) := by decide +kernel
theorem dX10_waitsFor_124 : decode cX10_waitsFor 124 = .ok (.ifCond .le 19, 3) := by decide +kernel
theorem dX10_waitsFor_127 : decode cX10_waitsFor 127 = .ok (.iconst 1, 1) := by decide +kernel
theorem dX10_waitsFor_128 : decode cX10_waitsFor 128 = .ok (.aload_n 0, 1) := by decide +kernel
theorem dX10_waitsFor_129 : decode cX10_waitsFor 129 = .ok (.getfield 31, 3) := by decide +kernel
theorem dX10_waitsFor_132 : decode cX10_waitsFor 132 = .ok (.iload 4, 2) := by decide +kernel
theorem dX10_waitsFor_134 : decode cX10_waitsFor 134 = .ok (.iload 5, 2) := by decide +kernel
theorem dX10_waitsFor_136 : decode cX10_waitsFor 136 = .ok (.iadd, 1) := by decide +kernel
theorem dX10_waitsFor_137 : decode cX10_waitsFor 137 = .ok (.iaload, 1) := by decide +kernel
theorem dX10_waitsFor_138 : decode cX10_waitsFor 138 = .ok (.ineg, 1) := by decide +kernel
theorem dX10_waitsFor_139 : decode cX10_waitsFor 139 = .ok (.ishl, 1) := by decide +kernel
theorem dX10_waitsFor_140 : decode cX10_waitsFor 140 = .ok (.goto 4, 3) := by decide +kernel
theorem dX10_waitsFor_143 : decode cX10_waitsFor 143 = .ok (.iconst 0, 1) := by decide +kernel
theorem dX10_waitsFor_144 : decode cX10_waitsFor 144 = .ok (.ior, 1) := by decide +kernel
theorem dX10_waitsFor_145 : decode cX10_waitsFor 145 = .ok (.istore_n 2, 1) := by decide +kernel
theorem dX10_waitsFor_146 : decode cX10_waitsFor 146 = .ok (.iinc 5 1, 3) := by decide +kernel
theorem dX10_waitsFor_149 : decode cX10_waitsFor 149 = .ok (.goto (-124), 3) := by decide +kernel
theorem dX10_waitsFor_152 : decode cX10_waitsFor 152 = .ok (.iinc 3 1, 3) := by decide +kernel
theorem dX10_waitsFor_155 : decode cX10_waitsFor 155 = .ok (.goto (-151), 3) := by decide +kernel
theorem dX10_waitsFor_158 : decode cX10_waitsFor 158 = .ok (.iload_n 2, 1) := by decide +kernel
theorem dX10_waitsFor_159 : decode cX10_waitsFor 159 = .ok (.iconst 1, 1) := by decide +kernel
theorem dX10_waitsFor_160 : decode cX10_waitsFor 160 = .ok (.iload_n 1, 1) := by decide +kernel
theorem dX10_waitsFor_161 : decode cX10_waitsFor 161 = .ok (.ishl, 1) := by decide +kernel
theorem dX10_waitsFor_162 : decode cX10_waitsFor 162 = .ok (.iconst (-1), 1) := by decide +kernel
theorem dX10_waitsFor_163 : decode cX10_waitsFor 163 = .ok (.ixor, 1) := by decide +kernel
theorem dX10_waitsFor_164 : decode cX10_waitsFor 164 = .ok (.iand, 1) := by decide +kernel
theorem dX10_waitsFor_165 : decode cX10_waitsFor 165 = .ok (.ireturn, 1) := by decide +kernel
theorem dX10_waits_0 : decode cX10_waits 0 = .ok (.aload_n 0, 1) := by decide +kernel
theorem dX10_waits_1 : decode cX10_waits 1 = .ok (.iconst 0, 1) := by decide +kernel
theorem dX10_waits_2 : decode cX10_waits 2 = .ok (.putfield 72, 3) := by decide +kernel
theorem dX10_waits_5 : decode cX10_waits 5 = .ok (.aload_n 0, 1) := by decide +kernel
theorem dX10_waits_6 : decode cX10_waits 6 = .ok (.aload_n 0, 1) := by decide +kernel
theorem dX10_waits_7 : decode cX10_waits 7 = .ok (.iload_n 1, 1) := by decide +kernel
theorem dX10_waits_8 : decode cX10_waits 8 = .ok (.invokevirtual 371, 3) := by decide +kernel
theorem dX10_waits_11 : decode cX10_waits 11 = .ok (.ifCond .ne 7, 3) := by decide +kernel
theorem dX10_waits_14 : decode cX10_waits 14 = .ok (.iconst 1, 1) := by decide +kernel
theorem dX10_waits_15 : decode cX10_waits 15 = .ok (.goto 4, 3) := by decide +kernel
theorem dX10_waits_18 : decode cX10_waits 18 = .ok (.iconst 0, 1) := by decide +kernel
theorem dX10_waits_19 : decode cX10_waits 19 = .ok (.iconst 1, 1) := by decide +kernel
theorem dX10_waits_20 : decode cX10_waits 20 = .ok (.iconst 3, 1) := by decide +kernel
theorem dX10_waits_21 : decode cX10_waits 21 = .ok (.invokevirtual 155, 3) := by decide +kernel
theorem dX10_waits_24 : decode cX10_waits 24 = .ok (.ifCond .eq 5, 3) := by decide +kernel
theorem dX10_waits_27 : decode cX10_waits 27 = .ok (.iconst 0, 1) := by decide +kernel
theorem dX10_waits_28 : decode cX10_waits 28 = .ok (.ireturn, 1) := by decide +kernel
theorem dX10_waits_29 : decode cX10_waits 29 = .ok (.aload_n 0, 1) := by decide +kernel
theorem dX10_waits_30 : decode cX10_waits 30 = .ok (.iload_n 1, 1) := by decide +kernel
theorem dX10_waits_31 : decode cX10_waits 31 = .ok (.invokevirtual 395, 3) := by decide +kernel
theorem dX10_waits_34 : decode cX10_waits 34 = .ok (.ireturn, 1) := by decide +kernel
theorem dX10_rings_0 : decode cX10_rings 0 = .ok (.aload_n 0, 1) := by decide +kernel
theorem dX10_rings_1 : decode cX10_rings 1 = .ok (.iconst 0, 1) := by decide +kernel
theorem dX10_rings_2 : decode cX10_rings 2 = .ok (.putfield 72, 3) := by decide +kernel
theorem dX10_rings_5 : decode cX10_rings 5 = .ok (.iconst 0, 1) := by decide +kernel
theorem dX10_rings_6 : decode cX10_rings 6 = .ok (.istore_n 1, 1) := by decide +kernel
theorem dX10_rings_7 : decode cX10_rings 7 = .ok (.iconst 0, 1) := by decide +kernel
theorem dX10_rings_8 : decode cX10_rings 8 = .ok (.istore_n 2, 1) := by decide +kernel
theorem dX10_rings_9 : decode cX10_rings 9 = .ok (.iload_n 2, 1) := by decide +kernel
theorem dX10_rings_10 : decode cX10_rings 10 = .ok (.aload_n 0, 1) := by decide +kernel
theorem dX10_rings_11 : decode cX10_rings 11 = .ok (.getfield 168, 3) := by decide +kernel
theorem dX10_rings_14 : decode cX10_rings 14 = .ok (.if_icmp .ge 54, 3) := by decide +kernel
theorem dX10_rings_17 : decode cX10_rings 17 = .ok (.iconst 0, 1) := by decide +kernel
theorem dX10_rings_18 : decode cX10_rings 18 = .ok (.istore_n 3, 1) := by decide +kernel
theorem dX10_rings_19 : decode cX10_rings 19 = .ok (.iload_n 3, 1) := by decide +kernel
theorem dX10_rings_20 : decode cX10_rings 20 = .ok (.iload_n 2, 1) := by decide +kernel
theorem dX10_rings_21 : decode cX10_rings 21 = .ok (.if_icmp .ge 41, 3) := by decide +kernel
theorem dX10_rings_24 : decode cX10_rings 24 = .ok (.iload_n 1, 1) := by decide +kernel
theorem dX10_rings_25 : decode cX10_rings 25 = .ok (.aload_n 0, 1) := by decide +kernel
theorem dX10_rings_26 : decode cX10_rings 26 = .ok (.iload_n 2, 1) := by decide +kernel
theorem dX10_rings_27 : decode cX10_rings 27 = .ok (.invokevirtual 395, 3) := by decide +kernel
theorem dX10_rings_30 : decode cX10_rings 30 = .ok (.iload_n 3, 1) := by decide +kernel
theorem dX10_rings_31 : decode cX10_rings 31 = .ok (.invokestatic 193, 3) := by decide +kernel
theorem dX10_rings_34 : decode cX10_rings 34 = .ok (.ifCond .eq 19, 3) := by decide +kernel
theorem dX10_rings_37 : decode cX10_rings 37 = .ok (.aload_n 0, 1) := by decide +kernel
theorem dX10_rings_38 : decode cX10_rings 38 = .ok (.iload_n 3, 1) := by decide +kernel
theorem dX10_rings_39 : decode cX10_rings 39 = .ok (.invokevirtual 395, 3) := by decide +kernel
theorem dX10_rings_42 : decode cX10_rings 42 = .ok (.iload_n 2, 1) := by decide +kernel
theorem dX10_rings_43 : decode cX10_rings 43 = .ok (.invokestatic 193, 3) := by decide +kernel
theorem dX10_rings_46 : decode cX10_rings 46 = .ok (.ifCond .eq 7, 3) := by decide +kernel
theorem dX10_rings_49 : decode cX10_rings 49 = .ok (.iconst 1, 1) := by decide +kernel
theorem dX10_rings_50 : decode cX10_rings 50 = .ok (.goto 4, 3) := by decide +kernel
theorem dX10_rings_53 : decode cX10_rings 53 = .ok (.iconst 0, 1) := by decide +kernel
theorem dX10_rings_54 : decode cX10_rings 54 = .ok (.iadd, 1) := by decide +kernel
theorem dX10_rings_55 : decode cX10_rings 55 = .ok (.istore_n 1, 1) := by decide +kernel
theorem dX10_rings_56 : decode cX10_rings 56 = .ok (.iinc 3 1, 3) := by decide +kernel
theorem dX10_rings_59 : decode cX10_rings 59 = .ok (.goto (-40), 3) := by decide +kernel
theorem dX10_rings_62 : decode cX10_rings 62 = .ok (.iinc 2 1, 3) := by decide +kernel
theorem dX10_rings_65 : decode cX10_rings 65 = .ok (.goto (-56), 3) := by decide +kernel
theorem dX10_rings_68 : decode cX10_rings 68 = .ok (.iload_n 1, 1) := by decide +kernel
theorem dX10_rings_69 : decode cX10_rings 69 = .ok (.ireturn, 1) := by decide +kernel
theorem dX10_spills_0 : decode cX10_spills 0 = .ok (.aload_n 0, 1) := by decide +kernel
theorem dX10_spills_1 : decode cX10_spills 1 = .ok (.aload_n 1, 1) := by decide +kernel
theorem dX10_spills_2 : decode cX10_spills 2 = .ok (.sipush 256, 3) := by decide +kernel
theorem dX10_spills_5 : decode cX10_spills 5 = .ok (.invokevirtual 380, 3) := by decide +kernel
theorem dX10_spills_8 : decode cX10_spills 8 = .ok (.invokestatic 398, 3) := by decide +kernel
theorem dX10_spills_11 : decode cX10_spills 11 = .ok (.istore_n 3, 1) := by decide +kernel
theorem dX10_spills_12 : decode cX10_spills 12 = .ok (.aload_n 0, 1) := by decide +kernel
theorem dX10_spills_13 : decode cX10_spills 13 = .ok (.iload_n 3, 1) := by decide +kernel
theorem dX10_spills_14 : decode cX10_spills 14 = .ok (.aload_n 0, 1) := by decide +kernel
theorem dX10_spills_15 : decode cX10_spills 15 = .ok (.getfield 401, 3) := by decide +kernel
theorem dX10_spills_18 : decode cX10_spills 18 = .ok (.if_icmp .le 7, 3) := by decide +kernel
theorem dX10_spills_21 : decode cX10_spills 21 = .ok (.iload_n 2, 1) := by decide +kernel
theorem dX10_spills_22 : decode cX10_spills 22 = .ok (.goto 7, 3) := by decide +kernel
theorem dX10_spills_25 : decode cX10_spills 25 = .ok (.aload_n 0, 1) := by decide +kernel
theorem dX10_spills_26 : decode cX10_spills 26 = .ok (.getfield 404, 3) := by decide +kernel
theorem dX10_spills_29 : decode cX10_spills 29 = .ok (.putfield 404, 3) := by decide +kernel
theorem dX10_spills_32 : decode cX10_spills 32 = .ok (.aload_n 0, 1) := by decide +kernel
theorem dX10_spills_33 : decode cX10_spills 33 = .ok (.aload_n 0, 1) := by decide +kernel
theorem dX10_spills_34 : decode cX10_spills 34 = .ok (.getfield 401, 3) := by decide +kernel
theorem dX10_spills_37 : decode cX10_spills 37 = .ok (.iload_n 3, 1) := by decide +kernel
theorem dX10_spills_38 : decode cX10_spills 38 = .ok (.invokestatic 392, 3) := by decide +kernel
theorem dX10_spills_41 : decode cX10_spills 41 = .ok (.putfield 401, 3) := by decide +kernel
theorem dX10_spills_44 : decode cX10_spills 44 = .ok (.return_, 1) := by decide +kernel
theorem eX10_sweepAt {G : GG} {d : Nat} {h : Hp} {o : OU} {h' : Hp} (r0 : Nat) (r1 : Nat) (T : V G mX10_sweepAt d 2 [.ref r0, .ref r1, .int 1] [] h o h') : VM G mX10_sweepAt d [.ref r0, .ref r1] h o h' := by
  refine V.toM rfl rfl (le_l rfl) (cat_all rfl) ?_
  show V G mX10_sweepAt d 0 [.ref r0, .ref r1, uV] [] h o h'
  refine v_iconst (pc' := 1) (v := 1) dX10_sweepAt_0 rfl kI_1 ?_
  refine v_istore_n (pc' := 2) (loc' := [.ref r0, .ref r1, .int 1]) dX10_sweepAt_1 rfl (lt_l rfl) rfl ?_
  exact T
theorem bX10_sweepAt_2 {G : GG} {d : Nat} {h : Hp} {o : OU} {h' : Hp} (r0 : Nat) (r1 : Nat) (x2 : Int32) (hd : 1 ≤ d) (T : ((12 ≤ x2 → V G mX10_sweepAt d 41 [.ref r0, .ref r1, .int 4] [] h o h') ∧ (¬ 12 ≤ x2 → ∃ z3 h2, VM G mX10_fieldOf (d - 1) [.ref r1, .int 0, .int x2, .int 0] h (.inl (some (.int z3))) h2 ∧ ∃ z6 h5, VM G mX10_named (d - 1) [.ref r1, .int 0, .int x2] h2 (.inl (some (.int z6))) h5 ∧ ∃ z9 h8, VM G mX10_later (d - 1) [.ref r1, .int 1, .int x2] h5 (.inl (some (.int z9))) h8 ∧ ((z3 ≤ (z6 + z9) → V G mX10_sweepAt d 2 [.ref r0, .ref r1, .int (x2 + 1)] [] h8 o h') ∧ (¬ z3 ≤ (z6 + z9) → (o = .inl (some (.int x2)) ∧ h' = h8)))))) : V G mX10_sweepAt d 2 [.ref r0, .ref r1, .int x2] [] h o h' := by
  have hdd : d - 1 + 1 ≤ d := by omega
  refine v_iload_n (pc' := 3) dX10_sweepAt_2 rfl rfl ?_
  refine v_bipush (pc' := 5) (v := 12) dX10_sweepAt_3 rfl kB_12 ?_
  refine v_icmp_ge (tgt := 39) (pc' := 8) dX10_sweepAt_5 (by decide) rfl ⟨fun c1 => ?_, fun c1 => ?_⟩
  · have T := T.1 c1
    refine v_iconst (pc' := 40) (v := 4) dX10_sweepAt_39 rfl kI_4 ?_
    refine v_istore_n (pc' := 41) (loc' := [.ref r0, .ref r1, .int 4]) dX10_sweepAt_40 rfl (lt_l rfl) rfl ?_
    exact T
  · have T := T.2 c1
    refine v_aload_n (pc' := 9) dX10_sweepAt_8 rfl rfl ?_
    refine v_iconst (pc' := 10) (v := 0) dX10_sweepAt_9 rfl kI_0 ?_
    refine v_iload_n (pc' := 11) dX10_sweepAt_10 rfl rfl ?_
    refine v_iconst (pc' := 12) (v := 0) dX10_sweepAt_11 rfl kI_0 ?_
    obtain ⟨z3, h2, k4, T⟩ := T
    refine v_callS (pc' := 15) (M1 := mX10_fieldOf) (as := [.ref r1, .int 0, .int x2, .int 0]) (rest := []) dX10_sweepAt_12 rfl ko_X10_233 kc_X10_fieldOf kt_X10_fieldOf (by decide) hdd rfl rfl (le_l rfl) k4 ?_
    refine v_aload_n (pc' := 16) dX10_sweepAt_15 rfl rfl ?_
    refine v_iconst (pc' := 17) (v := 0) dX10_sweepAt_16 rfl kI_0 ?_
    refine v_iload_n (pc' := 18) dX10_sweepAt_17 rfl rfl ?_
    obtain ⟨z6, h5, k7, T⟩ := T
    refine v_callS (pc' := 21) (M1 := mX10_named) (as := [.ref r1, .int 0, .int x2]) (rest := [.int z3]) dX10_sweepAt_18 rfl ko_X10_309 kc_X10_named kt_X10_named (by decide) hdd rfl rfl (le_l rfl) k7 ?_
    refine v_aload_n (pc' := 22) dX10_sweepAt_21 rfl rfl ?_
    refine v_iconst (pc' := 23) (v := 1) dX10_sweepAt_22 rfl kI_1 ?_
    refine v_iload_n (pc' := 24) dX10_sweepAt_23 rfl rfl ?_
    obtain ⟨z9, h8, k10, T⟩ := T
    refine v_callS (pc' := 27) (M1 := mX10_later) (as := [.ref r1, .int 1, .int x2]) (rest := [.int z6, .int z3]) dX10_sweepAt_24 rfl ko_X10_312 kc_X10_later kt_X10_later (by decide) hdd rfl rfl (le_l rfl) k10 ?_
    refine v_iadd (pc' := 28) dX10_sweepAt_27 rfl ?_
    refine v_icmp_le (tgt := 33) (pc' := 31) dX10_sweepAt_28 (by decide) rfl ⟨fun c11 => ?_, fun c11 => ?_⟩
    · have T := T.1 c11
      refine v_iinc (pc' := 36) (loc' := [.ref r0, .ref r1, .int (x2 + 1)]) dX10_sweepAt_33 rfl rfl (kX_1 _) rfl ?_
      refine v_goto (pc' := 2) dX10_sweepAt_36 (by decide) ?_
      exact T
    · have T := T.2 c11
      refine v_iload_n (pc' := 32) dX10_sweepAt_31 rfl rfl ?_
      exact v_iret dX10_sweepAt_32 rfl T
theorem bX10_sweepAt_41 {G : GG} {d : Nat} {h : Hp} {o : OU} {h' : Hp} (r0 : Nat) (r1 : Nat) (x2 : Int32) (hd : 1 ≤ d) (T : kH h r0 = 18 ∧ (((h.2 r0 11) ≤ x2 → (o = .inl (some (.int (-1))) ∧ h' = h)) ∧ (¬ (h.2 r0 11) ≤ x2 → kH h r1 = 1 ∧ vp_in (0 + x2) (lH h r1) ∧ (((h.2 r1 (0 + x2).toNatClampNeg) = 0 → V G mX10_sweepAt d 41 [.ref r0, .ref r1, .int (x2 + 1)] [] h o h') ∧ (¬ (h.2 r1 (0 + x2).toNatClampNeg) = 0 → ∃ z7 h6, VM G mX10_linked (d - 1) [.ref r1, .int 0] h (.inl (some (.int z7))) h6 ∧ ∃ z10 h9, VM G mX10_pointer (d - 1) [.ref r1, .int 0, .int z7, .int x2] h6 (.inl (some (.int z10))) h9 ∧ ((¬ z10 = (-1) → V G mX10_sweepAt d 41 [.ref r0, .ref r1, .int (x2 + 1)] [] h9 o h') ∧ (z10 = (-1) → ∃ z14 h13, VM G mX10_later (d - 1) [.ref r1, .int 0, .int x2] h9 (.inl (some (.int z14))) h13 ∧ ((¬ z14 = 0 → V G mX10_sweepAt d 41 [.ref r0, .ref r1, .int (x2 + 1)] [] h13 o h') ∧ (z14 = 0 → (o = .inl (some (.int (100 + x2))) ∧ h' = h13)))))))))) : V G mX10_sweepAt d 41 [.ref r0, .ref r1, .int x2] [] h o h' := by
  have hdd : d - 1 + 1 ≤ d := by omega
  refine v_iload_n (pc' := 42) dX10_sweepAt_41 rfl rfl ?_
  refine v_aload_n (pc' := 43) dX10_sweepAt_42 rfl rfl ?_
  obtain ⟨q1, T⟩ := T
  refine v_getI (pc' := 46) 8 11 dX10_sweepAt_43 rfl (by decide) (by decide) rfl kf_X10_168 q1 ?_
  refine v_icmp_ge (tgt := 92) (pc' := 49) dX10_sweepAt_46 (by decide) rfl ⟨fun c2 => ?_, fun c2 => ?_⟩
  · have T := T.1 c2
    refine v_iconst (pc' := 93) (v := (-1)) dX10_sweepAt_92 rfl kI_m1 ?_
    exact v_iret dX10_sweepAt_93 rfl T
  · have T := T.2 c2
    refine v_aload_n (pc' := 50) dX10_sweepAt_49 rfl rfl ?_
    refine v_iconst (pc' := 51) (v := 0) dX10_sweepAt_50 rfl kI_0 ?_
    refine v_iload_n (pc' := 52) dX10_sweepAt_51 rfl rfl ?_
    refine v_iadd (pc' := 53) dX10_sweepAt_52 rfl ?_
    obtain ⟨q3, T⟩ := T
    obtain ⟨q4, T⟩ := T
    refine v_iald (pc' := 54) dX10_sweepAt_53 rfl rfl q3 q4 ?_
    refine v_if_eq (tgt := 86) (pc' := 57) dX10_sweepAt_54 (by decide) rfl ⟨fun c5 => ?_, fun c5 => ?_⟩
    · have T := T.1 c5
      refine v_iinc (pc' := 89) (loc' := [.ref r0, .ref r1, .int (x2 + 1)]) dX10_sweepAt_86 rfl rfl (kX_1 _) rfl ?_
      refine v_goto (pc' := 41) dX10_sweepAt_89 (by decide) ?_
      exact T
    · have T := T.2 c5
      refine v_aload_n (pc' := 58) dX10_sweepAt_57 rfl rfl ?_
      refine v_iconst (pc' := 59) (v := 0) dX10_sweepAt_58 rfl kI_0 ?_
      refine v_aload_n (pc' := 60) dX10_sweepAt_59 rfl rfl ?_
      refine v_iconst (pc' := 61) (v := 0) dX10_sweepAt_60 rfl kI_0 ?_
      obtain ⟨z7, h6, k8, T⟩ := T
      refine v_callS (pc' := 64) (M1 := mX10_linked) (as := [.ref r1, .int 0]) (rest := [.int 0, .ref r1]) dX10_sweepAt_61 rfl ko_X10_315 kc_X10_linked kt_X10_linked (by decide) hdd rfl rfl (le_l rfl) k8 ?_
      refine v_iload_n (pc' := 65) dX10_sweepAt_64 rfl rfl ?_
      obtain ⟨z10, h9, k11, T⟩ := T
      refine v_callS (pc' := 68) (M1 := mX10_pointer) (as := [.ref r1, .int 0, .int z7, .int x2]) (rest := []) dX10_sweepAt_65 rfl ko_X10_306 kc_X10_pointer kt_X10_pointer (by decide) hdd rfl rfl (le_l rfl) k11 ?_
      refine v_iconst (pc' := 69) (v := (-1)) dX10_sweepAt_68 rfl kI_m1 ?_
      refine v_icmp_ne (tgt := 86) (pc' := 72) dX10_sweepAt_69 (by decide) rfl ⟨fun c12 => ?_, fun c12 => ?_⟩
      · have T := T.1 c12
        refine v_iinc (pc' := 89) (loc' := [.ref r0, .ref r1, .int (x2 + 1)]) dX10_sweepAt_86 rfl rfl (kX_1 _) rfl ?_
        refine v_goto (pc' := 41) dX10_sweepAt_89 (by decide) ?_
        exact T
      · have T := T.2 c12
        refine v_aload_n (pc' := 73) dX10_sweepAt_72 rfl rfl ?_
        refine v_iconst (pc' := 74) (v := 0) dX10_sweepAt_73 rfl kI_0 ?_
        refine v_iload_n (pc' := 75) dX10_sweepAt_74 rfl rfl ?_
        obtain ⟨z14, h13, k15, T⟩ := T
        refine v_callS (pc' := 78) (M1 := mX10_later) (as := [.ref r1, .int 0, .int x2]) (rest := []) dX10_sweepAt_75 rfl ko_X10_312 kc_X10_later kt_X10_later (by decide) hdd rfl rfl (le_l rfl) k15 ?_
        refine v_if_ne (tgt := 86) (pc' := 81) dX10_sweepAt_78 (by decide) rfl ⟨fun c16 => ?_, fun c16 => ?_⟩
        · have T := T.1 c16
          refine v_iinc (pc' := 89) (loc' := [.ref r0, .ref r1, .int (x2 + 1)]) dX10_sweepAt_86 rfl rfl (kX_1 _) rfl ?_
          refine v_goto (pc' := 41) dX10_sweepAt_89 (by decide) ?_
          exact T
        · have T := T.2 c16
          refine v_bipush (pc' := 83) (v := 100) dX10_sweepAt_81 rfl kB_100 ?_
          refine v_iload_n (pc' := 84) dX10_sweepAt_83 rfl rfl ?_
          refine v_iadd (pc' := 85) dX10_sweepAt_84 rfl ?_
          exact v_iret dX10_sweepAt_85 rfl T
theorem eX10_sweepsOne {G : GG} {d : Nat} {h : Hp} {o : OU} {h' : Hp} (r0 : Nat) (r1 : Nat) (hd : 1 ≤ d) (T : kH h r0 = 18 ∧ ∃ z2 h1, VM G mX10_sweepAt (d - 1) [.ref r0, .ref r1] h (.inl (some (.int z2))) h1 ∧ ((¬ z2 = (-1) → ((z2 < 100 → ∃ z8 h7, VM G mX10_named (d - 1) [.ref r1, .int 0, .int z2] h1 (.inl (some (.int z8))) h7 ∧ ∃ z11 h10, VM G mX10_later (d - 1) [.ref r1, .int 1, .int z2] h7 (.inl (some (.int z11))) h10 ∧ ∃ z14 h13, VM G mX10_field (d - 1) [.ref r1, .int z2, .int 0, .int (z8 + z11), .int 0, .int 0] h10 (.inl (some (.int z14))) h13 ∧ ((¬ (z8 + z11) = 0 → (o = .inl (some (.int 1)) ∧ h' = h13)) ∧ ((z8 + z11) = 0 → ∃ h17, VM G mX10_empties (d - 1) [.ref r1, .int z2] h13 (.inl none) h17 ∧ (o = .inl (some (.int 1)) ∧ h' = h17)))) ∧ (¬ z2 < 100 → ∃ z20 h19, VM G mX10_bare (d - 1) [.ref r1, .int 0, .int (z2 - 100), .int 0] h1 (.inl (some (.int z20))) h19 ∧ (o = .inl (some (.int 1)) ∧ h' = h19)))) ∧ (z2 = (-1) → (o = .inl (some (.int 0)) ∧ h' = h1)))) : VM G mX10_sweepsOne d [.ref r0, .ref r1] h o h' := by
  refine V.toM rfl rfl (le_l rfl) (cat_all rfl) ?_
  show V G mX10_sweepsOne d 0 [.ref r0, .ref r1, uV, uV] [] h o h'
  have hdd : d - 1 + 1 ≤ d := by omega
  refine v_aload_n (pc' := 1) dX10_sweepsOne_0 rfl rfl ?_
  refine v_aload_n (pc' := 2) dX10_sweepsOne_1 rfl rfl ?_
  obtain ⟨q4, T⟩ := T
  obtain ⟨z2, h1, k3, T⟩ := T
  refine v_callV (pc' := 5) (M1 := mX10_sweepAt) (as := [.ref r1]) (r := r0) (rest := []) 8 dX10_sweepsOne_2 rfl ko_X10_318 kc_X10_sweepAt ki_X10_sweepAt ks_X10_sweepAt (by decide) (by decide) hdd rfl rfl (le_l rfl) q4 k3 ?_
  refine v_istore_n (pc' := 6) (loc' := [.ref r0, .ref r1, .int z2, uV]) dX10_sweepsOne_5 rfl (lt_l rfl) rfl ?_
  refine v_iload_n (pc' := 7) dX10_sweepsOne_6 rfl rfl ?_
  refine v_iconst (pc' := 8) (v := (-1)) dX10_sweepsOne_7 rfl kI_m1 ?_
  refine v_icmp_ne (tgt := 13) (pc' := 11) dX10_sweepsOne_8 (by decide) rfl ⟨fun c5 => ?_, fun c5 => ?_⟩
  · have T := T.1 c5
    refine v_iload_n (pc' := 14) dX10_sweepsOne_13 rfl rfl ?_
    refine v_bipush (pc' := 16) (v := 100) dX10_sweepsOne_14 rfl kB_100 ?_
    refine v_icmp_lt (tgt := 32) (pc' := 19) dX10_sweepsOne_16 (by decide) rfl ⟨fun c6 => ?_, fun c6 => ?_⟩
    · have T := T.1 c6
      refine v_aload_n (pc' := 33) dX10_sweepsOne_32 rfl rfl ?_
      refine v_iconst (pc' := 34) (v := 0) dX10_sweepsOne_33 rfl kI_0 ?_
      refine v_iload_n (pc' := 35) dX10_sweepsOne_34 rfl rfl ?_
      obtain ⟨z8, h7, k9, T⟩ := T
      refine v_callS (pc' := 38) (M1 := mX10_named) (as := [.ref r1, .int 0, .int z2]) (rest := []) dX10_sweepsOne_35 rfl ko_X10_309 kc_X10_named kt_X10_named (by decide) hdd rfl rfl (le_l rfl) k9 ?_
      refine v_aload_n (pc' := 39) dX10_sweepsOne_38 rfl rfl ?_
      refine v_iconst (pc' := 40) (v := 1) dX10_sweepsOne_39 rfl kI_1 ?_
      refine v_iload_n (pc' := 41) dX10_sweepsOne_40 rfl rfl ?_
      obtain ⟨z11, h10, k12, T⟩ := T
      refine v_callS (pc' := 44) (M1 := mX10_later) (as := [.ref r1, .int 1, .int z2]) (rest := [.int z8]) dX10_sweepsOne_41 rfl ko_X10_312 kc_X10_later kt_X10_later (by decide) hdd rfl rfl (le_l rfl) k12 ?_
      refine v_iadd (pc' := 45) dX10_sweepsOne_44 rfl ?_
      refine v_istore_n (pc' := 46) (loc' := [.ref r0, .ref r1, .int z2, .int (z8 + z11)]) dX10_sweepsOne_45 rfl (lt_l rfl) rfl ?_
      refine v_aload_n (pc' := 47) dX10_sweepsOne_46 rfl rfl ?_
      refine v_iload_n (pc' := 48) dX10_sweepsOne_47 rfl rfl ?_
      refine v_iconst (pc' := 49) (v := 0) dX10_sweepsOne_48 rfl kI_0 ?_
      refine v_iload_n (pc' := 50) dX10_sweepsOne_49 rfl rfl ?_
      refine v_iconst (pc' := 51) (v := 0) dX10_sweepsOne_50 rfl kI_0 ?_
      refine v_iconst (pc' := 52) (v := 0) dX10_sweepsOne_51 rfl kI_0 ?_
      obtain ⟨z14, h13, k15, T⟩ := T
      refine v_callS (pc' := 55) (M1 := mX10_field) (as := [.ref r1, .int z2, .int 0, .int (z8 + z11), .int 0, .int 0]) (rest := []) dX10_sweepsOne_52 rfl ko_X10_237 kc_X10_field kt_X10_field (by decide) hdd rfl rfl (le_l rfl) k15 ?_
      refine v_pop (pc' := 56) dX10_sweepsOne_55 rfl rfl ?_
      refine v_iload_n (pc' := 57) dX10_sweepsOne_56 rfl rfl ?_
      refine v_if_ne (tgt := 65) (pc' := 60) dX10_sweepsOne_57 (by decide) rfl ⟨fun c16 => ?_, fun c16 => ?_⟩
      · have T := T.1 c16
        refine v_iconst (pc' := 66) (v := 1) dX10_sweepsOne_65 rfl kI_1 ?_
        exact v_zret dX10_sweepsOne_66 rfl (Or.inr rfl) T
      · have T := T.2 c16
        refine v_aload_n (pc' := 61) dX10_sweepsOne_60 rfl rfl ?_
        refine v_iload_n (pc' := 62) dX10_sweepsOne_61 rfl rfl ?_
        obtain ⟨h17, k18, T⟩ := T
        refine v_callS (pc' := 65) (M1 := mX10_empties) (as := [.ref r1, .int z2]) (rest := []) dX10_sweepsOne_62 rfl ko_X10_241 kc_X10_empties kt_X10_empties (by decide) hdd rfl rfl (le_l rfl) k18 ?_
        refine v_iconst (pc' := 66) (v := 1) dX10_sweepsOne_65 rfl kI_1 ?_
        exact v_zret dX10_sweepsOne_66 rfl (Or.inr rfl) T
    · have T := T.2 c6
      refine v_aload_n (pc' := 20) dX10_sweepsOne_19 rfl rfl ?_
      refine v_iconst (pc' := 21) (v := 0) dX10_sweepsOne_20 rfl kI_0 ?_
      refine v_iload_n (pc' := 22) dX10_sweepsOne_21 rfl rfl ?_
      refine v_bipush (pc' := 24) (v := 100) dX10_sweepsOne_22 rfl kB_100 ?_
      refine v_isub (pc' := 25) dX10_sweepsOne_24 rfl ?_
      refine v_iconst (pc' := 26) (v := 0) dX10_sweepsOne_25 rfl kI_0 ?_
      obtain ⟨z20, h19, k21, T⟩ := T
      refine v_callS (pc' := 29) (M1 := mX10_bare) (as := [.ref r1, .int 0, .int (z2 - 100), .int 0]) (rest := []) dX10_sweepsOne_26 rfl ko_X10_252 kc_X10_bare kt_X10_bare (by decide) hdd rfl rfl (le_l rfl) k21 ?_
      refine v_pop (pc' := 30) dX10_sweepsOne_29 rfl rfl ?_
      refine v_iconst (pc' := 31) (v := 1) dX10_sweepsOne_30 rfl kI_1 ?_
      exact v_zret dX10_sweepsOne_31 rfl (Or.inr rfl) T
  · have T := T.2 c5
    refine v_iconst (pc' := 12) (v := 0) dX10_sweepsOne_11 rfl kI_0 ?_
    exact v_zret dX10_sweepsOne_12 rfl (Or.inl rfl) T
theorem eX10_crashes {G : GG} {d : Nat} {h : Hp} {o : OU} {h' : Hp} (r0 : Nat) (T : V G mX10_crashes d 2 [.ref r0, .int 0] [] h o h') : VM G mX10_crashes d [.ref r0] h o h' := by
  refine V.toM rfl rfl (le_l rfl) (cat_all rfl) ?_
  show V G mX10_crashes d 0 [.ref r0, uV] [] h o h'
  refine v_iconst (pc' := 1) (v := 0) dX10_crashes_0 rfl kI_0 ?_
  refine v_istore_n (pc' := 2) (loc' := [.ref r0, .int 0]) dX10_crashes_1 rfl (lt_l rfl) rfl ?_
  exact T
theorem bX10_crashes_2 {G : GG} {d : Nat} {h : Hp} {o : OU} {h' : Hp} (r0 : Nat) (x1 : Int32) (T : ((256 ≤ x1 → kH h r0 = 1 ∧ vp_in 3392 (lH h r0) ∧ vp_in 3393 (lH h r0) ∧ vp_in 3397 (lH h r0) ∧ (o = .inl (some (.int 1)) ∧ h' = (h.1, (upI (upI (upI h.2 r0 3392 0) r0 3393 0) r0 3397 (((upI (upI h.2 r0 3392 0) r0 3393 0) r0 3397) + 1))))) ∧ (¬ 256 ≤ x1 → kH h r0 = 1 ∧ vp_in (256 + x1) (lH h r0) ∧ vp_in (0 + x1) (lH h r0) ∧ V G mX10_crashes d 2 [.ref r0, .int (x1 + 1)] [] (h.1, (upI h.2 r0 (0 + x1).toNatClampNeg (h.2 r0 (256 + x1).toNatClampNeg))) o h'))) : V G mX10_crashes d 2 [.ref r0, .int x1] [] h o h' := by
  refine v_iload_n (pc' := 3) dX10_crashes_2 rfl rfl ?_
  refine v_sipush (pc' := 6) (v := 256) dX10_crashes_3 rfl kS_256 ?_
  refine v_icmp_ge (tgt := 27) (pc' := 9) dX10_crashes_6 (by decide) rfl ⟨fun c1 => ?_, fun c1 => ?_⟩
  · have T := T.1 c1
    refine v_aload_n (pc' := 28) dX10_crashes_27 rfl rfl ?_
    refine v_sipush (pc' := 31) (v := 3392) dX10_crashes_28 rfl kS_3392 ?_
    refine v_iconst (pc' := 32) (v := 0) dX10_crashes_31 rfl kI_0 ?_
    obtain ⟨q2, T⟩ := T
    obtain ⟨q3, T⟩ := T
    refine v_iast (pc' := 33) dX10_crashes_32 rfl kN_3392 q2 q3 ?_
    refine v_aload_n (pc' := 34) dX10_crashes_33 rfl rfl ?_
    refine v_sipush (pc' := 37) (v := 3393) dX10_crashes_34 rfl kS_3393 ?_
    refine v_iconst (pc' := 38) (v := 0) dX10_crashes_37 rfl kI_0 ?_
    obtain ⟨q4, T⟩ := T
    refine v_iast (pc' := 39) dX10_crashes_38 rfl kN_3393 q2 q4 ?_
    refine v_aload_n (pc' := 40) dX10_crashes_39 rfl rfl ?_
    refine v_sipush (pc' := 43) (v := 3397) dX10_crashes_40 rfl kS_3397 ?_
    refine v_dup2 (pc' := 44) dX10_crashes_43 rfl rfl rfl ?_
    obtain ⟨q5, T⟩ := T
    refine v_iald (pc' := 45) dX10_crashes_44 rfl kN_3397 q2 q5 ?_
    refine v_iconst (pc' := 46) (v := 1) dX10_crashes_45 rfl kI_1 ?_
    refine v_iadd (pc' := 47) dX10_crashes_46 rfl ?_
    refine v_iast (pc' := 48) dX10_crashes_47 rfl kN_3397 q2 q5 ?_
    refine v_iconst (pc' := 49) (v := 1) dX10_crashes_48 rfl kI_1 ?_
    exact v_zret dX10_crashes_49 rfl (Or.inr rfl) T
  · have T := T.2 c1
    refine v_aload_n (pc' := 10) dX10_crashes_9 rfl rfl ?_
    refine v_iconst (pc' := 11) (v := 0) dX10_crashes_10 rfl kI_0 ?_
    refine v_iload_n (pc' := 12) dX10_crashes_11 rfl rfl ?_
    refine v_iadd (pc' := 13) dX10_crashes_12 rfl ?_
    refine v_aload_n (pc' := 14) dX10_crashes_13 rfl rfl ?_
    refine v_sipush (pc' := 17) (v := 256) dX10_crashes_14 rfl kS_256 ?_
    refine v_iload_n (pc' := 18) dX10_crashes_17 rfl rfl ?_
    refine v_iadd (pc' := 19) dX10_crashes_18 rfl ?_
    obtain ⟨q6, T⟩ := T
    obtain ⟨q7, T⟩ := T
    refine v_iald (pc' := 20) dX10_crashes_19 rfl rfl q6 q7 ?_
    obtain ⟨q8, T⟩ := T
    refine v_iast (pc' := 21) dX10_crashes_20 rfl rfl q6 q8 ?_
    refine v_iinc (pc' := 24) (loc' := [.ref r0, .int (x1 + 1)]) dX10_crashes_21 rfl rfl (kX_1 _) rfl ?_
    refine v_goto (pc' := 2) dX10_crashes_24 (by decide) ?_
    exact T
theorem eX10_does {G : GG} {d : Nat} {h : Hp} {o : OU} {h' : Hp} (r0 : Nat) (r1 : Nat) (r2 : Nat) (hd : 1 ≤ d) (T : kH h r2 = 1 ∧ vp_in 0 (lH h r2) ∧ vp_in 1 (lH h r2) ∧ vp_in 2 (lH h r2) ∧ (((h.2 r2 0) < 7 → ∃ z7 h6, VM G mX10_isFull (d - 1) [.ref r1] h (.inl (some (.int z7))) h6 ∧ ((z7 = 0 → V G mX10_does d 35 [.ref r0, .ref r1, .ref r2, .int (h.2 r2 0), .int (h.2 r2 1), .int (h.2 r2 2)] [] h6 o h') ∧ (¬ z7 = 0 → (o = .inl (some (.int 0)) ∧ h' = h6)))) ∧ (¬ (h.2 r2 0) < 7 → ((¬ (h.2 r2 0) = 10 → V G mX10_does d 35 [.ref r0, .ref r1, .ref r2, .int (h.2 r2 0), .int (h.2 r2 1), .int (h.2 r2 2)] [] h o h') ∧ ((h.2 r2 0) = 10 → ∃ z12 h11, VM G mX10_isFull (d - 1) [.ref r1] h (.inl (some (.int z12))) h11 ∧ ((z12 = 0 → V G mX10_does d 35 [.ref r0, .ref r1, .ref r2, .int (h.2 r2 0), .int (h.2 r2 1), .int (h.2 r2 2)] [] h11 o h') ∧ (¬ z12 = 0 → (o = .inl (some (.int 0)) ∧ h' = h11)))))))) : VM G mX10_does d [.ref r0, .ref r1, .ref r2] h o h' := by
  refine V.toM rfl rfl (le_l rfl) (cat_all rfl) ?_
  show V G mX10_does d 0 [.ref r0, .ref r1, .ref r2, uV, uV, uV] [] h o h'
  have hdd : d - 1 + 1 ≤ d := by omega
  refine v_aload_n (pc' := 1) dX10_does_0 rfl rfl ?_
  refine v_iconst (pc' := 2) (v := 0) dX10_does_1 rfl kI_0 ?_
  obtain ⟨q1, T⟩ := T
  obtain ⟨q2, T⟩ := T
  refine v_iald (pc' := 3) dX10_does_2 rfl kN_0 q1 q2 ?_
  refine v_istore_n (pc' := 4) (loc' := [.ref r0, .ref r1, .ref r2, .int (h.2 r2 0), uV, uV]) dX10_does_3 rfl (lt_l rfl) rfl ?_
  refine v_aload_n (pc' := 5) dX10_does_4 rfl rfl ?_
  refine v_iconst (pc' := 6) (v := 1) dX10_does_5 rfl kI_1 ?_
  obtain ⟨q3, T⟩ := T
  refine v_iald (pc' := 7) dX10_does_6 rfl kN_1 q1 q3 ?_
  refine v_istore (pc' := 9) (loc' := [.ref r0, .ref r1, .ref r2, .int (h.2 r2 0), .int (h.2 r2 1), uV]) dX10_does_7 rfl (lt_l rfl) rfl ?_
  refine v_aload_n (pc' := 10) dX10_does_9 rfl rfl ?_
  refine v_iconst (pc' := 11) (v := 2) dX10_does_10 rfl kI_2 ?_
  obtain ⟨q4, T⟩ := T
  refine v_iald (pc' := 12) dX10_does_11 rfl kN_2 q1 q4 ?_
  refine v_istore (pc' := 14) (loc' := [.ref r0, .ref r1, .ref r2, .int (h.2 r2 0), .int (h.2 r2 1), .int (h.2 r2 2)]) dX10_does_12 rfl (lt_l rfl) rfl ?_
  refine v_iload_n (pc' := 15) dX10_does_14 rfl rfl ?_
  refine v_bipush (pc' := 17) (v := 7) dX10_does_15 rfl kB_7 ?_
  refine v_icmp_lt (tgt := 26) (pc' := 20) dX10_does_17 (by decide) rfl ⟨fun c5 => ?_, fun c5 => ?_⟩
  · have T := T.1 c5
    refine v_aload_n (pc' := 27) dX10_does_26 rfl rfl ?_
    obtain ⟨z7, h6, k8, T⟩ := T
    refine v_callS (pc' := 30) (M1 := mX10_isFull) (as := [.ref r1]) (rest := []) dX10_does_27 rfl ko_X10_321 kc_X10_isFull kt_X10_isFull (by decide) hdd rfl rfl (le_l rfl) k8 ?_
    refine v_if_eq (tgt := 35) (pc' := 33) dX10_does_30 (by decide) rfl ⟨fun c9 => ?_, fun c9 => ?_⟩
    · have T := T.1 c9
      exact T
    · have T := T.2 c9
      refine v_iconst (pc' := 34) (v := 0) dX10_does_33 rfl kI_0 ?_
      exact v_zret dX10_does_34 rfl (Or.inl rfl) T
  · have T := T.2 c5
    refine v_iload_n (pc' := 21) dX10_does_20 rfl rfl ?_
    refine v_bipush (pc' := 23) (v := 10) dX10_does_21 rfl kB_10 ?_
    refine v_icmp_ne (tgt := 35) (pc' := 26) dX10_does_23 (by decide) rfl ⟨fun c10 => ?_, fun c10 => ?_⟩
    · have T := T.1 c10
      exact T
    · have T := T.2 c10
      refine v_aload_n (pc' := 27) dX10_does_26 rfl rfl ?_
      obtain ⟨z12, h11, k13, T⟩ := T
      refine v_callS (pc' := 30) (M1 := mX10_isFull) (as := [.ref r1]) (rest := []) dX10_does_27 rfl ko_X10_321 kc_X10_isFull kt_X10_isFull (by decide) hdd rfl rfl (le_l rfl) k13 ?_
      refine v_if_eq (tgt := 35) (pc' := 33) dX10_does_30 (by decide) rfl ⟨fun c14 => ?_, fun c14 => ?_⟩
      · have T := T.1 c14
        exact T
      · have T := T.2 c14
        refine v_iconst (pc' := 34) (v := 0) dX10_does_33 rfl kI_0 ?_
        exact v_zret dX10_does_34 rfl (Or.inl rfl) T
theorem bX10_does_35 {G : GG} {d : Nat} {h : Hp} {o : OU} {h' : Hp} (r0 : Nat) (r1 : Nat) (r2 : Nat) (x3 : Int32) (x4 : Int32) (x5 : Int32) (hd : 1 ≤ d) (T : ((x3 = 0 → kH h r0 = 18 ∧ ∃ z3 h2, VM G mX10_begins (d - 1) [.ref r0, .ref r1, .int x4, .int x5, .int 1] h (.inl (some (.int z3))) h2 ∧ (z3 = 0 ∨ z3 = 1) ∧ (o = .inl (some (.int z3)) ∧ h' = h2)) ∧ (x3 = 1 → kH h r0 = 18 ∧ ∃ z9 h8, VM G mX10_begins (d - 1) [.ref r0, .ref r1, .int x4, .int x5, .int 2] h (.inl (some (.int z9))) h8 ∧ (z9 = 0 ∨ z9 = 1) ∧ (o = .inl (some (.int z9)) ∧ h' = h8)) ∧ (x3 = 2 → kH h r2 = 1 ∧ vp_in 3 (lH h r2) ∧ kH h r0 = 18 ∧ ∃ z17 h16, VM G mX10_links (d - 1) [.ref r0, .ref r1, .int x4, .int x5, .int (h.2 r2 3)] h (.inl (some (.int z17))) h16 ∧ (z17 = 0 ∨ z17 = 1) ∧ (o = .inl (some (.int z17)) ∧ h' = h16)) ∧ (x3 = 3 → kH h r0 = 18 ∧ ∃ z23 h22, VM G mX10_grows (d - 1) [.ref r0, .ref r1, .int x4, .int x5] h (.inl (some (.int z23))) h22 ∧ (z23 = 0 ∨ z23 = 1) ∧ (o = .inl (some (.int z23)) ∧ h' = h22)) ∧ (x3 = 4 → kH h r2 = 1 ∧ vp_in 3 (lH h r2) ∧ ∃ z31 h30, VM G mX10_setsByte (d - 1) [.ref r1, .int x4, .int x5, .int (h.2 r2 3)] h (.inl (some (.int z31))) h30 ∧ (z31 = 0 ∨ z31 = 1) ∧ (o = .inl (some (.int z31)) ∧ h' = h30)) ∧ (x3 = 5 → ∃ z36 h35, VM G mX10_cuts (d - 1) [.ref r1, .int x4] h (.inl (some (.int z36))) h35 ∧ (z36 = 0 ∨ z36 = 1) ∧ (o = .inl (some (.int z36)) ∧ h' = h35)) ∧ (x3 = 6 → ∃ z41 h40, VM G mX10_drops (d - 1) [.ref r1, .int x4, .int x5] h (.inl (some (.int z41))) h40 ∧ (z41 = 0 ∨ z41 = 1) ∧ (o = .inl (some (.int z41)) ∧ h' = h40)) ∧ (x3 = 7 → kH h r0 = 18 ∧ ∃ z46 h45, VM G mX10_writes (d - 1) [.ref r0, .ref r1, .int x4] h (.inl (some (.int z46))) h45 ∧ (z46 = 0 ∨ z46 = 1) ∧ (o = .inl (some (.int z46)) ∧ h' = h45)) ∧ (x3 = 8 → kH h r0 = 18 ∧ ∃ z52 h51, VM G mX10_syncs (d - 1) [.ref r0, .ref r1] h (.inl (some (.int z52))) h51 ∧ (z52 = 0 ∨ z52 = 1) ∧ (o = .inl (some (.int z52)) ∧ h' = h51)) ∧ (x3 = 9 → ∃ z58 h57, VM G mX10_crashes (d - 1) [.ref r1] h (.inl (some (.int z58))) h57 ∧ (z58 = 0 ∨ z58 = 1) ∧ (o = .inl (some (.int z58)) ∧ h' = h57)) ∧ (¬ x3 = 0 → ¬ x3 = 1 → ¬ x3 = 2 → ¬ x3 = 3 → ¬ x3 = 4 → ¬ x3 = 5 → ¬ x3 = 6 → ¬ x3 = 7 → ¬ x3 = 8 → ¬ x3 = 9 → kH h r0 = 18 ∧ ∃ z62 h61, VM G mX10_sweepsOne (d - 1) [.ref r0, .ref r1] h (.inl (some (.int z62))) h61 ∧ (z62 = 0 ∨ z62 = 1) ∧ (o = .inl (some (.int z62)) ∧ h' = h61)))) : V G mX10_does d 35 [.ref r0, .ref r1, .ref r2, .int x3, .int x4, .int x5] [] h o h' := by
  have hdd : d - 1 + 1 ≤ d := by omega
  refine v_iload_n (pc' := 36) dX10_does_35 rfl rfl ?_
  by_cases c1 : x3 = 0
  · have T := T.1 c1
    refine v_switchIn (off := 56) (pc' := 92) dX10_does_36 (by rw [c1]; decide) (by rw [c1]; decide) (by rw [c1]; rfl) (by decide) ?_
    refine v_aload_n (pc' := 93) dX10_does_92 rfl rfl ?_
    refine v_aload_n (pc' := 94) dX10_does_93 rfl rfl ?_
    refine v_iload (pc' := 96) dX10_does_94 rfl rfl ?_
    refine v_iload (pc' := 98) dX10_does_96 rfl rfl ?_
    refine v_iconst (pc' := 99) (v := 1) dX10_does_98 rfl kI_1 ?_
    obtain ⟨q5, T⟩ := T
    obtain ⟨z3, h2, k4, T⟩ := T
    refine v_callV (pc' := 102) (M1 := mX10_begins) (as := [.ref r1, .int x4, .int x5, .int 1]) (r := r0) (rest := []) 8 dX10_does_99 rfl ko_X10_325 kc_X10_begins ki_X10_begins ks_X10_begins (by decide) (by decide) hdd rfl rfl (le_l rfl) q5 k4 ?_
    obtain ⟨q6, T⟩ := T
    exact v_zret dX10_does_102 rfl q6 T
  by_cases c7 : x3 = 1
  · have T := T.2.1 c7
    refine v_switchIn (off := 67) (pc' := 103) dX10_does_36 (by rw [c7]; decide) (by rw [c7]; decide) (by rw [c7]; rfl) (by decide) ?_
    refine v_aload_n (pc' := 104) dX10_does_103 rfl rfl ?_
    refine v_aload_n (pc' := 105) dX10_does_104 rfl rfl ?_
    refine v_iload (pc' := 107) dX10_does_105 rfl rfl ?_
    refine v_iload (pc' := 109) dX10_does_107 rfl rfl ?_
    refine v_iconst (pc' := 110) (v := 2) dX10_does_109 rfl kI_2 ?_
    obtain ⟨q11, T⟩ := T
    obtain ⟨z9, h8, k10, T⟩ := T
    refine v_callV (pc' := 113) (M1 := mX10_begins) (as := [.ref r1, .int x4, .int x5, .int 2]) (r := r0) (rest := []) 8 dX10_does_110 rfl ko_X10_325 kc_X10_begins ki_X10_begins ks_X10_begins (by decide) (by decide) hdd rfl rfl (le_l rfl) q11 k10 ?_
    obtain ⟨q12, T⟩ := T
    exact v_zret dX10_does_113 rfl q12 T
  by_cases c13 : x3 = 2
  · have T := T.2.2.1 c13
    refine v_switchIn (off := 78) (pc' := 114) dX10_does_36 (by rw [c13]; decide) (by rw [c13]; decide) (by rw [c13]; rfl) (by decide) ?_
    refine v_aload_n (pc' := 115) dX10_does_114 rfl rfl ?_
    refine v_aload_n (pc' := 116) dX10_does_115 rfl rfl ?_
    refine v_iload (pc' := 118) dX10_does_116 rfl rfl ?_
    refine v_iload (pc' := 120) dX10_does_118 rfl rfl ?_
    refine v_aload_n (pc' := 121) dX10_does_120 rfl rfl ?_
    refine v_iconst (pc' := 122) (v := 3) dX10_does_121 rfl kI_3 ?_
    obtain ⟨q14, T⟩ := T
    obtain ⟨q15, T⟩ := T
    refine v_iald (pc' := 123) dX10_does_122 rfl kN_3 q14 q15 ?_
    obtain ⟨q19, T⟩ := T
    obtain ⟨z17, h16, k18, T⟩ := T
    refine v_callV (pc' := 126) (M1 := mX10_links) (as := [.ref r1, .int x4, .int x5, .int (h.2 r2 3)]) (r := r0) (rest := []) 8 dX10_does_123 rfl ko_X10_328 kc_X10_links ki_X10_links ks_X10_links (by decide) (by decide) hdd rfl rfl (le_l rfl) q19 k18 ?_
    obtain ⟨q20, T⟩ := T
    exact v_zret dX10_does_126 rfl q20 T
  by_cases c21 : x3 = 3
  · have T := T.2.2.2.1 c21
    refine v_switchIn (off := 91) (pc' := 127) dX10_does_36 (by rw [c21]; decide) (by rw [c21]; decide) (by rw [c21]; rfl) (by decide) ?_
    refine v_aload_n (pc' := 128) dX10_does_127 rfl rfl ?_
    refine v_aload_n (pc' := 129) dX10_does_128 rfl rfl ?_
    refine v_iload (pc' := 131) dX10_does_129 rfl rfl ?_
    refine v_iload (pc' := 133) dX10_does_131 rfl rfl ?_
    obtain ⟨q25, T⟩ := T
    obtain ⟨z23, h22, k24, T⟩ := T
    refine v_callV (pc' := 136) (M1 := mX10_grows) (as := [.ref r1, .int x4, .int x5]) (r := r0) (rest := []) 8 dX10_does_133 rfl ko_X10_331 kc_X10_grows ki_X10_grows ks_X10_grows (by decide) (by decide) hdd rfl rfl (le_l rfl) q25 k24 ?_
    obtain ⟨q26, T⟩ := T
    exact v_zret dX10_does_136 rfl q26 T
  by_cases c27 : x3 = 4
  · have T := T.2.2.2.2.1 c27
    refine v_switchIn (off := 101) (pc' := 137) dX10_does_36 (by rw [c27]; decide) (by rw [c27]; decide) (by rw [c27]; rfl) (by decide) ?_
    refine v_aload_n (pc' := 138) dX10_does_137 rfl rfl ?_
    refine v_iload (pc' := 140) dX10_does_138 rfl rfl ?_
    refine v_iload (pc' := 142) dX10_does_140 rfl rfl ?_
    refine v_aload_n (pc' := 143) dX10_does_142 rfl rfl ?_
    refine v_iconst (pc' := 144) (v := 3) dX10_does_143 rfl kI_3 ?_
    obtain ⟨q28, T⟩ := T
    obtain ⟨q29, T⟩ := T
    refine v_iald (pc' := 145) dX10_does_144 rfl kN_3 q28 q29 ?_
    obtain ⟨z31, h30, k32, T⟩ := T
    refine v_callS (pc' := 148) (M1 := mX10_setsByte) (as := [.ref r1, .int x4, .int x5, .int (h.2 r2 3)]) (rest := []) dX10_does_145 rfl ko_X10_334 kc_X10_setsByte kt_X10_setsByte (by decide) hdd rfl rfl (le_l rfl) k32 ?_
    obtain ⟨q33, T⟩ := T
    exact v_zret dX10_does_148 rfl q33 T
  by_cases c34 : x3 = 5
  · have T := T.2.2.2.2.2.1 c34
    refine v_switchIn (off := 113) (pc' := 149) dX10_does_36 (by rw [c34]; decide) (by rw [c34]; decide) (by rw [c34]; rfl) (by decide) ?_
    refine v_aload_n (pc' := 150) dX10_does_149 rfl rfl ?_
    refine v_iload (pc' := 152) dX10_does_150 rfl rfl ?_
    obtain ⟨z36, h35, k37, T⟩ := T
    refine v_callS (pc' := 155) (M1 := mX10_cuts) (as := [.ref r1, .int x4]) (rest := []) dX10_does_152 rfl ko_X10_337 kc_X10_cuts kt_X10_cuts (by decide) hdd rfl rfl (le_l rfl) k37 ?_
    obtain ⟨q38, T⟩ := T
    exact v_zret dX10_does_155 rfl q38 T
  by_cases c39 : x3 = 6
  · have T := T.2.2.2.2.2.2.1 c39
    refine v_switchIn (off := 120) (pc' := 156) dX10_does_36 (by rw [c39]; decide) (by rw [c39]; decide) (by rw [c39]; rfl) (by decide) ?_
    refine v_aload_n (pc' := 157) dX10_does_156 rfl rfl ?_
    refine v_iload (pc' := 159) dX10_does_157 rfl rfl ?_
    refine v_iload (pc' := 161) dX10_does_159 rfl rfl ?_
    obtain ⟨z41, h40, k42, T⟩ := T
    refine v_callS (pc' := 164) (M1 := mX10_drops) (as := [.ref r1, .int x4, .int x5]) (rest := []) dX10_does_161 rfl ko_X10_340 kc_X10_drops kt_X10_drops (by decide) hdd rfl rfl (le_l rfl) k42 ?_
    obtain ⟨q43, T⟩ := T
    exact v_zret dX10_does_164 rfl q43 T
  by_cases c44 : x3 = 7
  · have T := T.2.2.2.2.2.2.2.1 c44
    refine v_switchIn (off := 129) (pc' := 165) dX10_does_36 (by rw [c44]; decide) (by rw [c44]; decide) (by rw [c44]; rfl) (by decide) ?_
    refine v_aload_n (pc' := 166) dX10_does_165 rfl rfl ?_
    refine v_aload_n (pc' := 167) dX10_does_166 rfl rfl ?_
    refine v_iload (pc' := 169) dX10_does_167 rfl rfl ?_
    obtain ⟨q48, T⟩ := T
    obtain ⟨z46, h45, k47, T⟩ := T
    refine v_callV (pc' := 172) (M1 := mX10_writes) (as := [.ref r1, .int x4]) (r := r0) (rest := []) 8 dX10_does_169 rfl ko_X10_267 kc_X10_writes ki_X10_writes ks_X10_writes (by decide) (by decide) hdd rfl rfl (le_l rfl) q48 k47 ?_
    obtain ⟨q49, T⟩ := T
    exact v_zret dX10_does_172 rfl q49 T
  by_cases c50 : x3 = 8
  · have T := T.2.2.2.2.2.2.2.2.1 c50
    refine v_switchIn (off := 137) (pc' := 173) dX10_does_36 (by rw [c50]; decide) (by rw [c50]; decide) (by rw [c50]; rfl) (by decide) ?_
    refine v_aload_n (pc' := 174) dX10_does_173 rfl rfl ?_
    refine v_aload_n (pc' := 175) dX10_does_174 rfl rfl ?_
    obtain ⟨q54, T⟩ := T
    obtain ⟨z52, h51, k53, T⟩ := T
    refine v_callV (pc' := 178) (M1 := mX10_syncs) (as := [.ref r1]) (r := r0) (rest := []) 8 dX10_does_175 rfl ko_X10_343 kc_X10_syncs ki_X10_syncs ks_X10_syncs (by decide) (by decide) hdd rfl rfl (le_l rfl) q54 k53 ?_
    obtain ⟨q55, T⟩ := T
    exact v_zret dX10_does_178 rfl q55 T
  by_cases c56 : x3 = 9
  · have T := T.2.2.2.2.2.2.2.2.2.1 c56
    refine v_switchIn (off := 143) (pc' := 179) dX10_does_36 (by rw [c56]; decide) (by rw [c56]; decide) (by rw [c56]; rfl) (by decide) ?_
    refine v_aload_n (pc' := 180) dX10_does_179 rfl rfl ?_
    obtain ⟨z58, h57, k59, T⟩ := T
    refine v_callS (pc' := 183) (M1 := mX10_crashes) (as := [.ref r1]) (rest := []) dX10_does_180 rfl ko_X10_346 kc_X10_crashes kt_X10_crashes (by decide) hdd rfl rfl (le_l rfl) k59 ?_
    obtain ⟨q60, T⟩ := T
    exact v_zret dX10_does_183 rfl q60 T
  have T := T.2.2.2.2.2.2.2.2.2.2 c1 c7 c13 c21 c27 c34 c39 c44 c50 c56
  refine v_switchOut (pc' := 184) dX10_does_36 (sw_out (n := 9) (by decide) (fun k hk => by rcases (show k = 0 ∨ k = 1 ∨ k = 2 ∨ k = 3 ∨ k = 4 ∨ k = 5 ∨ k = 6 ∨ k = 7 ∨ k = 8 ∨ k = 9 by omega) with rfl | rfl | rfl | rfl | rfl | rfl | rfl | rfl | rfl | rfl <;> assumption)) (by decide) ?_
  refine v_aload_n (pc' := 185) dX10_does_184 rfl rfl ?_
  refine v_aload_n (pc' := 186) dX10_does_185 rfl rfl ?_
  obtain ⟨q64, T⟩ := T
  obtain ⟨z62, h61, k63, T⟩ := T
  refine v_callV (pc' := 189) (M1 := mX10_sweepsOne) (as := [.ref r1]) (r := r0) (rest := []) 8 dX10_does_186 rfl ko_X10_349 kc_X10_sweepsOne ki_X10_sweepsOne ks_X10_sweepsOne (by decide) (by decide) hdd rfl rfl (le_l rfl) q64 k63 ?_
  obtain ⟨q65, T⟩ := T
  exact v_zret dX10_does_189 rfl q65 T
theorem eX10_goes {G : GG} {d : Nat} {h : Hp} {o : OU} {h' : Hp} (r0 : Nat) (x1 : Int32) (x2 : Int32) (T : V G mX10_goes d 2 [.ref r0, uV, .int x2, .int x1, uV] [] h o h') : VM G mX10_goes d [.ref r0, .int x1, .int x2] h o h' := by
  refine V.toM rfl rfl (le_l rfl) (cat_all rfl) ?_
  show V G mX10_goes d 0 [.ref r0, .int x1, .int x2, uV, uV] [] h o h'
  refine v_iload_n (pc' := 1) dX10_goes_0 rfl rfl ?_
  refine v_istore_n (pc' := 2) (loc' := [.ref r0, .int x1, .int x2, .int x1, uV]) dX10_goes_1 rfl (lt_l rfl) rfl ?_
  exact V.drop (llp_r (llp_u (llp_r (llp_r (llp_r llp_nil))))) T
theorem bX10_goes_2 {G : GG} {d : Nat} {h : Hp} {o : OU} {h' : Hp} (r0 : Nat) (x2 : Int32) (x3 : Int32) (hd : 1 ≤ d) (T : ((x2 ≤ x3 → (o = .inl none ∧ h' = h)) ∧ (¬ x2 ≤ x3 → kH h r0 = 18 ∧ ((200 ≤ (h.2 r0 31) → (o = .inl none ∧ h' = h)) ∧ (¬ 200 ≤ (h.2 r0 31) → kH h (rH h r0 21) = 7 ∧ vp_in x3 (lH h (rH h r0 21)) ∧ kH h (rH h (rH h r0 21) x3.toNatClampNeg) = 1 ∧ vp_in 0 (lH h (rH h (rH h r0 21) x3.toNatClampNeg)) ∧ ((¬ ((upI h.2 r0 31 ((h.2 r0 31) + 1)) (rH h (rH h r0 21) x3.toNatClampNeg) 0) = 11 → ∃ z10 h9, VM G mX10_does (d - 1) [.ref r0, .ref (rH h r0 22), .ref (rH h (rH h r0 21) x3.toNatClampNeg)] (h.1, (upI h.2 r0 31 ((h.2 r0 31) + 1))) (.inl (some (.int z10))) h9 ∧ kH h9 r0 = 18 ∧ ((z10 = 0 → V G mX10_goes d 121 [.ref r0, uV, .int x2, .int x3, .int z10] [.int 0, .int (h9.2 r0 32), .ref r0] h9 o h') ∧ (¬ z10 = 0 → V G mX10_goes d 121 [.ref r0, uV, .int x2, .int x3, .int z10] [.int 1, .int (h9.2 r0 32), .ref r0] h9 o h'))) ∧ (((upI h.2 r0 31 ((h.2 r0 31) + 1)) (rH h (rH h r0 21) x3.toNatClampNeg) 0) = 11 → V G mX10_goes d 43 [.ref r0, uV, .int x2, .int x3, .int 0] [] (h.1, (upI h.2 r0 31 ((h.2 r0 31) + 1))) o h'))))))) : V G mX10_goes d 2 [.ref r0, uV, .int x2, .int x3, uV] [] h o h' := by
  have hdd : d - 1 + 1 ≤ d := by omega
  refine v_iload_n (pc' := 3) dX10_goes_2 rfl rfl ?_
  refine v_iload_n (pc' := 4) dX10_goes_3 rfl rfl ?_
  refine v_icmp_ge (tgt := 156) (pc' := 7) dX10_goes_4 (by decide) rfl ⟨fun c1 => ?_, fun c1 => ?_⟩
  · have T := T.1 c1
    exact v_vret dX10_goes_156 rfl T
  · have T := T.2 c1
    refine v_aload_n (pc' := 8) dX10_goes_7 rfl rfl ?_
    obtain ⟨q2, T⟩ := T
    refine v_getI (pc' := 11) 8 31 dX10_goes_8 rfl (by decide) (by decide) rfl kf_X10_352 q2 ?_
    refine v_sipush (pc' := 14) (v := 200) dX10_goes_11 rfl kS_200 ?_
    refine v_icmp_ge (tgt := 156) (pc' := 17) dX10_goes_14 (by decide) rfl ⟨fun c3 => ?_, fun c3 => ?_⟩
    · have T := T.1 c3
      exact v_vret dX10_goes_156 rfl T
    · have T := T.2 c3
      refine v_aload_n (pc' := 18) dX10_goes_17 rfl rfl ?_
      refine v_dup (pc' := 19) dX10_goes_18 rfl rfl ?_
      refine v_getI (pc' := 22) 8 31 dX10_goes_19 rfl (by decide) (by decide) rfl kf_X10_352 q2 ?_
      refine v_iconst (pc' := 23) (v := 1) dX10_goes_22 rfl kI_1 ?_
      refine v_iadd (pc' := 24) dX10_goes_23 rfl ?_
      refine v_putI (pc' := 27) 8 31 dX10_goes_24 rfl (by decide) (by decide) rfl rfl kf_X10_352 q2 ?_
      refine v_aload_n (pc' := 28) dX10_goes_27 rfl rfl ?_
      refine v_getR (pc' := 31) 8 21 dX10_goes_28 rfl (by decide) (by decide) rfl kf_X10_28 q2 ?_
      refine v_iload_n (pc' := 32) dX10_goes_31 rfl rfl ?_
      obtain ⟨q4, T⟩ := T
      obtain ⟨q5, T⟩ := T
      refine v_aald (pc' := 33) 7 dX10_goes_32 rfl rfl (by decide) q4 q5 ?_
      refine v_iconst (pc' := 34) (v := 0) dX10_goes_33 rfl kI_0 ?_
      obtain ⟨q6, T⟩ := T
      obtain ⟨q7, T⟩ := T
      refine v_iald (pc' := 35) dX10_goes_34 rfl kN_0 q6 q7 ?_
      refine v_bipush (pc' := 37) (v := 11) dX10_goes_35 rfl kB_11 ?_
      refine v_icmp_ne (tgt := 90) (pc' := 40) dX10_goes_37 (by decide) rfl ⟨fun c8 => ?_, fun c8 => ?_⟩
      · have T := T.1 c8
        refine v_aload_n (pc' := 91) dX10_goes_90 rfl rfl ?_
        refine v_aload_n (pc' := 92) dX10_goes_91 rfl rfl ?_
        refine v_getR (pc' := 95) 8 22 dX10_goes_92 rfl (by decide) (by decide) rfl kf_X10_31 q2 ?_
        refine v_aload_n (pc' := 96) dX10_goes_95 rfl rfl ?_
        refine v_getR (pc' := 99) 8 21 dX10_goes_96 rfl (by decide) (by decide) rfl kf_X10_28 q2 ?_
        refine v_iload_n (pc' := 100) dX10_goes_99 rfl rfl ?_
        refine v_aald (pc' := 101) 7 dX10_goes_100 rfl rfl (by decide) q4 q5 ?_
        obtain ⟨z10, h9, k11, T⟩ := T
        refine v_callV (pc' := 104) (M1 := mX10_does) (as := [.ref (rH h r0 22), .ref (rH h (rH h r0 21) x3.toNatClampNeg)]) (r := r0) (rest := []) 8 dX10_goes_101 rfl ko_X10_177 kc_X10_does ki_X10_does ks_X10_does (by decide) (by decide) hdd rfl rfl (le_l rfl) q2 k11 ?_
        refine v_istore (pc' := 106) (loc' := [.ref r0, uV, .int x2, .int x3, .int z10]) dX10_goes_104 rfl (lt_l rfl) rfl ?_
        refine v_aload_n (pc' := 107) dX10_goes_106 rfl rfl ?_
        refine v_dup (pc' := 108) dX10_goes_107 rfl rfl ?_
        obtain ⟨q12, T⟩ := T
        refine v_getI (pc' := 111) 8 32 dX10_goes_108 rfl (by decide) (by decide) rfl kf_X10_358 q12 ?_
        refine v_iload (pc' := 113) dX10_goes_111 rfl rfl ?_
        refine v_if_eq (tgt := 120) (pc' := 116) dX10_goes_113 (by decide) rfl ⟨fun c13 => ?_, fun c13 => ?_⟩
        · have T := T.1 c13
          refine v_iconst (pc' := 121) (v := 0) dX10_goes_120 rfl kI_0 ?_
          exact T
        · have T := T.2 c13
          refine v_iconst (pc' := 117) (v := 1) dX10_goes_116 rfl kI_1 ?_
          refine v_goto (pc' := 121) dX10_goes_117 (by decide) ?_
          exact T
      · have T := T.2 c8
        refine v_iconst (pc' := 41) (v := 0) dX10_goes_40 rfl kI_0 ?_
        refine v_istore (pc' := 43) (loc' := [.ref r0, uV, .int x2, .int x3, .int 0]) dX10_goes_41 rfl (lt_l rfl) rfl ?_
        exact T
theorem bX10_goes_43 {G : GG} {d : Nat} {h : Hp} {o : OU} {h' : Hp} (r0 : Nat) (x2 : Int32) (x3 : Int32) (x4 : Int32) (hd : 1 ≤ d) (T : kH h r0 = 18 ∧ kH h (rH h r0 21) = 7 ∧ vp_in x3 (lH h (rH h r0 21)) ∧ kH h (rH h (rH h r0 21) x3.toNatClampNeg) = 1 ∧ vp_in 1 (lH h (rH h (rH h r0 21) x3.toNatClampNeg)) ∧ (((h.2 (rH h (rH h r0 21) x3.toNatClampNeg) 1) ≤ x4 → vp_in 4 (lH h (rH h (rH h r0 21) x3.toNatClampNeg)) ∧ V G mX10_goes d 2 [.ref r0, uV, .int x2, .int (h.2 (rH h (rH h r0 21) x3.toNatClampNeg) 4), uV] [] h o h') ∧ (¬ (h.2 (rH h (rH h r0 21) x3.toNatClampNeg) 1) ≤ x4 → ((200 ≤ (h.2 r0 31) → vp_in 4 (lH h (rH h (rH h r0 21) x3.toNatClampNeg)) ∧ V G mX10_goes d 2 [.ref r0, uV, .int x2, .int (h.2 (rH h (rH h r0 21) x3.toNatClampNeg) 4), uV] [] h o h') ∧ (¬ 200 ≤ (h.2 r0 31) → vp_in 4 (lH h (rH h (rH h r0 21) x3.toNatClampNeg)) ∧ ∃ h11, VM G mX10_goes (d - 1) [.ref r0, .int (x3 + 1), .int (h.2 (rH h (rH h r0 21) x3.toNatClampNeg) 4)] h (.inl none) h11 ∧ V G mX10_goes d 43 [.ref r0, uV, .int x2, .int x3, .int (x4 + 1)] [] h11 o h'))))) : V G mX10_goes d 43 [.ref r0, uV, .int x2, .int x3, .int x4] [] h o h' := by
  have hdd : d - 1 + 1 ≤ d := by omega
  refine v_iload (pc' := 45) dX10_goes_43 rfl rfl ?_
  refine v_aload_n (pc' := 46) dX10_goes_45 rfl rfl ?_
  obtain ⟨q1, T⟩ := T
  refine v_getR (pc' := 49) 8 21 dX10_goes_46 rfl (by decide) (by decide) rfl kf_X10_28 q1 ?_
  refine v_iload_n (pc' := 50) dX10_goes_49 rfl rfl ?_
  obtain ⟨q2, T⟩ := T
  obtain ⟨q3, T⟩ := T
  refine v_aald (pc' := 51) 7 dX10_goes_50 rfl rfl (by decide) q2 q3 ?_
  refine v_iconst (pc' := 52) (v := 1) dX10_goes_51 rfl kI_1 ?_
  obtain ⟨q4, T⟩ := T
  obtain ⟨q5, T⟩ := T
  refine v_iald (pc' := 53) dX10_goes_52 rfl kN_1 q4 q5 ?_
  refine v_icmp_ge (tgt := 87) (pc' := 56) dX10_goes_53 (by decide) rfl ⟨fun c6 => ?_, fun c6 => ?_⟩
  · have T := T.1 c6
    refine v_goto (pc' := 144) dX10_goes_87 (by decide) ?_
    refine v_aload_n (pc' := 145) dX10_goes_144 rfl rfl ?_
    refine v_getR (pc' := 148) 8 21 dX10_goes_145 rfl (by decide) (by decide) rfl kf_X10_28 q1 ?_
    refine v_iload_n (pc' := 149) dX10_goes_148 rfl rfl ?_
    refine v_aald (pc' := 150) 7 dX10_goes_149 rfl rfl (by decide) q2 q3 ?_
    refine v_iconst (pc' := 151) (v := 4) dX10_goes_150 rfl kI_4 ?_
    obtain ⟨q7, T⟩ := T
    refine v_iald (pc' := 152) dX10_goes_151 rfl kN_4 q4 q7 ?_
    refine v_istore_n (pc' := 153) (loc' := [.ref r0, uV, .int x2, .int (h.2 (rH h (rH h r0 21) x3.toNatClampNeg) 4), .int x4]) dX10_goes_152 rfl (lt_l rfl) rfl ?_
    refine v_goto (pc' := 2) dX10_goes_153 (by decide) ?_
    exact V.drop (llp_r (llp_r (llp_r (llp_r (llp_u llp_nil))))) T
  · have T := T.2 c6
    refine v_aload_n (pc' := 57) dX10_goes_56 rfl rfl ?_
    refine v_getI (pc' := 60) 8 31 dX10_goes_57 rfl (by decide) (by decide) rfl kf_X10_352 q1 ?_
    refine v_sipush (pc' := 63) (v := 200) dX10_goes_60 rfl kS_200 ?_
    refine v_icmp_ge (tgt := 87) (pc' := 66) dX10_goes_63 (by decide) rfl ⟨fun c8 => ?_, fun c8 => ?_⟩
    · have T := T.1 c8
      refine v_goto (pc' := 144) dX10_goes_87 (by decide) ?_
      refine v_aload_n (pc' := 145) dX10_goes_144 rfl rfl ?_
      refine v_getR (pc' := 148) 8 21 dX10_goes_145 rfl (by decide) (by decide) rfl kf_X10_28 q1 ?_
      refine v_iload_n (pc' := 149) dX10_goes_148 rfl rfl ?_
      refine v_aald (pc' := 150) 7 dX10_goes_149 rfl rfl (by decide) q2 q3 ?_
      refine v_iconst (pc' := 151) (v := 4) dX10_goes_150 rfl kI_4 ?_
      obtain ⟨q9, T⟩ := T
      refine v_iald (pc' := 152) dX10_goes_151 rfl kN_4 q4 q9 ?_
      refine v_istore_n (pc' := 153) (loc' := [.ref r0, uV, .int x2, .int (h.2 (rH h (rH h r0 21) x3.toNatClampNeg) 4), .int x4]) dX10_goes_152 rfl (lt_l rfl) rfl ?_
      refine v_goto (pc' := 2) dX10_goes_153 (by decide) ?_
      exact V.drop (llp_r (llp_r (llp_r (llp_r (llp_u llp_nil))))) T
    · have T := T.2 c8
      refine v_aload_n (pc' := 67) dX10_goes_66 rfl rfl ?_
      refine v_iload_n (pc' := 68) dX10_goes_67 rfl rfl ?_
      refine v_iconst (pc' := 69) (v := 1) dX10_goes_68 rfl kI_1 ?_
      refine v_iadd (pc' := 70) dX10_goes_69 rfl ?_
      refine v_aload_n (pc' := 71) dX10_goes_70 rfl rfl ?_
      refine v_getR (pc' := 74) 8 21 dX10_goes_71 rfl (by decide) (by decide) rfl kf_X10_28 q1 ?_
      refine v_iload_n (pc' := 75) dX10_goes_74 rfl rfl ?_
      refine v_aald (pc' := 76) 7 dX10_goes_75 rfl rfl (by decide) q2 q3 ?_
      refine v_iconst (pc' := 77) (v := 4) dX10_goes_76 rfl kI_4 ?_
      obtain ⟨q10, T⟩ := T
      refine v_iald (pc' := 78) dX10_goes_77 rfl kN_4 q4 q10 ?_
      obtain ⟨h11, k12, T⟩ := T
      refine v_callV (pc' := 81) (M1 := mX10_goes) (as := [.int (x3 + 1), .int (h.2 (rH h (rH h r0 21) x3.toNatClampNeg) 4)]) (r := r0) (rest := []) 8 dX10_goes_78 rfl ko_X10_355 kc_X10_goes ki_X10_goes ks_X10_goes (by decide) (by decide) hdd rfl rfl (le_l rfl) q1 k12 ?_
      refine v_iinc (pc' := 84) (loc' := [.ref r0, uV, .int x2, .int x3, .int (x4 + 1)]) dX10_goes_81 rfl rfl (kX_1 _) rfl ?_
      refine v_goto (pc' := 43) dX10_goes_84 (by decide) ?_
      exact T
theorem bX10_goes_121 {G : GG} {d : Nat} {h : Hp} {o : OU} {h' : Hp} (r0 : Nat) (x2 : Int32) (x3 : Int32) (x4 : Int32) (s0 : Int32) (s1 : Int32) (t2 : Nat) (T : kH h t2 = 18 ∧ kH h r0 = 18 ∧ ((x4 = 0 → kH h (rH h r0 21) = 7 ∧ vp_in x3 (lH h (rH h r0 21)) ∧ kH h (rH h (rH h r0 21) x3.toNatClampNeg) = 1 ∧ vp_in 4 (lH h (rH h (rH h r0 21) x3.toNatClampNeg)) ∧ V G mX10_goes d 2 [.ref r0, uV, .int x2, .int ((upI (upI h.2 t2 32 (s1 + s0)) r0 15 (((upI h.2 t2 32 (s1 + s0)) r0 15) + 1)) (rH h (rH h r0 21) x3.toNatClampNeg) 4), uV] [] (h.1, (upI (upI h.2 t2 32 (s1 + s0)) r0 15 (((upI h.2 t2 32 (s1 + s0)) r0 15) + 1))) o h') ∧ (¬ x4 = 0 → kH h (rH h r0 21) = 7 ∧ vp_in x3 (lH h (rH h r0 21)) ∧ kH h (rH h (rH h r0 21) x3.toNatClampNeg) = 1 ∧ vp_in 4 (lH h (rH h (rH h r0 21) x3.toNatClampNeg)) ∧ V G mX10_goes d 2 [.ref r0, uV, .int x2, .int ((upI (upI h.2 t2 32 (s1 + s0)) r0 15 (((upI h.2 t2 32 (s1 + s0)) r0 15) + 0)) (rH h (rH h r0 21) x3.toNatClampNeg) 4), uV] [] (h.1, (upI (upI h.2 t2 32 (s1 + s0)) r0 15 (((upI h.2 t2 32 (s1 + s0)) r0 15) + 0))) o h'))) : V G mX10_goes d 121 [.ref r0, uV, .int x2, .int x3, .int x4] [.int s0, .int s1, .ref t2] h o h' := by
  refine v_iadd (pc' := 122) dX10_goes_121 rfl ?_
  obtain ⟨q1, T⟩ := T
  refine v_putI (pc' := 125) 8 32 dX10_goes_122 rfl (by decide) (by decide) rfl rfl kf_X10_358 q1 ?_
  refine v_aload_n (pc' := 126) dX10_goes_125 rfl rfl ?_
  refine v_dup (pc' := 127) dX10_goes_126 rfl rfl ?_
  obtain ⟨q2, T⟩ := T
  refine v_getI (pc' := 130) 8 15 dX10_goes_127 rfl (by decide) (by decide) rfl kf_X10_187 q2 ?_
  refine v_iload (pc' := 132) dX10_goes_130 rfl rfl ?_
  refine v_if_eq (tgt := 139) (pc' := 135) dX10_goes_132 (by decide) rfl ⟨fun c3 => ?_, fun c3 => ?_⟩
  · have T := T.1 c3
    refine v_iconst (pc' := 140) (v := 1) dX10_goes_139 rfl kI_1 ?_
    refine v_iadd (pc' := 141) dX10_goes_140 rfl ?_
    refine v_putI (pc' := 144) 8 15 dX10_goes_141 rfl (by decide) (by decide) rfl rfl kf_X10_187 q2 ?_
    refine v_aload_n (pc' := 145) dX10_goes_144 rfl rfl ?_
    refine v_getR (pc' := 148) 8 21 dX10_goes_145 rfl (by decide) (by decide) rfl kf_X10_28 q2 ?_
    refine v_iload_n (pc' := 149) dX10_goes_148 rfl rfl ?_
    obtain ⟨q4, T⟩ := T
    obtain ⟨q5, T⟩ := T
    refine v_aald (pc' := 150) 7 dX10_goes_149 rfl rfl (by decide) q4 q5 ?_
    refine v_iconst (pc' := 151) (v := 4) dX10_goes_150 rfl kI_4 ?_
    obtain ⟨q6, T⟩ := T
    obtain ⟨q7, T⟩ := T
    refine v_iald (pc' := 152) dX10_goes_151 rfl kN_4 q6 q7 ?_
    refine v_istore_n (pc' := 153) (loc' := [.ref r0, uV, .int x2, .int ((upI (upI h.2 t2 32 (s1 + s0)) r0 15 (((upI h.2 t2 32 (s1 + s0)) r0 15) + 1)) (rH h (rH h r0 21) x3.toNatClampNeg) 4), .int x4]) dX10_goes_152 rfl (lt_l rfl) rfl ?_
    refine v_goto (pc' := 2) dX10_goes_153 (by decide) ?_
    exact V.drop (llp_r (llp_r (llp_r (llp_r (llp_u llp_nil))))) T
  · have T := T.2 c3
    refine v_iconst (pc' := 136) (v := 0) dX10_goes_135 rfl kI_0 ?_
    refine v_goto (pc' := 140) dX10_goes_136 (by decide) ?_
    refine v_iadd (pc' := 141) dX10_goes_140 rfl ?_
    refine v_putI (pc' := 144) 8 15 dX10_goes_141 rfl (by decide) (by decide) rfl rfl kf_X10_187 q2 ?_
    refine v_aload_n (pc' := 145) dX10_goes_144 rfl rfl ?_
    refine v_getR (pc' := 148) 8 21 dX10_goes_145 rfl (by decide) (by decide) rfl kf_X10_28 q2 ?_
    refine v_iload_n (pc' := 149) dX10_goes_148 rfl rfl ?_
    obtain ⟨q8, T⟩ := T
    obtain ⟨q9, T⟩ := T
    refine v_aald (pc' := 150) 7 dX10_goes_149 rfl rfl (by decide) q8 q9 ?_
    refine v_iconst (pc' := 151) (v := 4) dX10_goes_150 rfl kI_4 ?_
    obtain ⟨q10, T⟩ := T
    obtain ⟨q11, T⟩ := T
    refine v_iald (pc' := 152) dX10_goes_151 rfl kN_4 q10 q11 ?_
    refine v_istore_n (pc' := 153) (loc' := [.ref r0, uV, .int x2, .int ((upI (upI h.2 t2 32 (s1 + s0)) r0 15 (((upI h.2 t2 32 (s1 + s0)) r0 15) + 0)) (rH h (rH h r0 21) x3.toNatClampNeg) 4), .int x4]) dX10_goes_152 rfl (lt_l rfl) rfl ?_
    refine v_goto (pc' := 2) dX10_goes_153 (by decide) ?_
    exact V.drop (llp_r (llp_r (llp_r (llp_r (llp_u llp_nil))))) T
theorem eX10_work {G : GG} {d : Nat} {h : Hp} {o : OU} {h' : Hp} (r0 : Nat) (x1 : Int32) (hd : 1 ≤ d) (T : kH h r0 = 18 ∧ ∃ z3 h2, VM G mX10_in (d - 1) [.int x1, .int 0, .int ((upI h.2 r0 0 0) r0 1)] (h.1, (upI h.2 r0 0 0)) (.inl (some (.int z3))) h2 ∧ ((z3 = 0 → kH h2 r0 = 18 ∧ ∃ z7 h6, VM G mX10_bad (d - 1) [.ref r0, .int 1, .int 1, .int 1] h2 (.inl (some (.int z7))) h6 ∧ ((z7 = 0 → kH h6 r0 = 18 ∧ ((¬ (h6.2 r0 14) = 16 → ∃ h13, VM G mX10_starts (d - 1) [.ref r0, .int x1] h6 (.inl none) h13 ∧ kH h13 r0 = 18 ∧ V G mX10_work d 72 [.ref r0, uV] [] (h13.1, (upI h13.2 r0 18 0)) o h') ∧ ((h6.2 r0 14) = 16 → (o = .inl (some (.int (-20))) ∧ h' = (h6.1, (upI (upI h6.2 r0 1 0) r0 3 (-1))))))) ∧ (¬ z7 = 0 → (o = .inl (some (.int 0)) ∧ h' = h6)))) ∧ (¬ z3 = 0 → ((x1 ≤ 150 → kH h2 r0 = 18 ∧ ∃ z18 h17, VM G mX10_bad (d - 1) [.ref r0, .int 0, .int 1, .int 1] h2 (.inl (some (.int z18))) h17 ∧ ((z18 = 0 → kH h17 r0 = 18 ∧ ((¬ (h17.2 r0 14) = 16 → ∃ h24, VM G mX10_starts (d - 1) [.ref r0, .int x1] h17 (.inl none) h24 ∧ kH h24 r0 = 18 ∧ V G mX10_work d 72 [.ref r0, uV] [] (h24.1, (upI h24.2 r0 18 0)) o h') ∧ ((h17.2 r0 14) = 16 → (o = .inl (some (.int (-20))) ∧ h' = (h17.1, (upI (upI h17.2 r0 1 0) r0 3 (-1))))))) ∧ (¬ z18 = 0 → (o = .inl (some (.int 0)) ∧ h' = h17)))) ∧ (¬ x1 ≤ 150 → kH h2 r0 = 18 ∧ ∃ z28 h27, VM G mX10_bad (d - 1) [.ref r0, .int 1, .int 1, .int 1] h2 (.inl (some (.int z28))) h27 ∧ ((z28 = 0 → kH h27 r0 = 18 ∧ ((¬ (h27.2 r0 14) = 16 → ∃ h34, VM G mX10_starts (d - 1) [.ref r0, .int x1] h27 (.inl none) h34 ∧ kH h34 r0 = 18 ∧ V G mX10_work d 72 [.ref r0, uV] [] (h34.1, (upI h34.2 r0 18 0)) o h') ∧ ((h27.2 r0 14) = 16 → (o = .inl (some (.int (-20))) ∧ h' = (h27.1, (upI (upI h27.2 r0 1 0) r0 3 (-1))))))) ∧ (¬ z28 = 0 → (o = .inl (some (.int 0)) ∧ h' = h27)))))))) : VM G mX10_work d [.ref r0, .int x1] h o h' := by
  refine V.toM rfl rfl (le_l rfl) (cat_all rfl) ?_
  show V G mX10_work d 0 [.ref r0, .int x1] [] h o h'
  have hdd : d - 1 + 1 ≤ d := by omega
  refine v_aload_n (pc' := 1) dX10_work_0 rfl rfl ?_
  refine v_iconst (pc' := 2) (v := 0) dX10_work_1 rfl kI_0 ?_
  obtain ⟨q1, T⟩ := T
  refine v_putI (pc' := 5) 8 0 dX10_work_2 rfl (by decide) (by decide) rfl rfl kf_X10_72 q1 ?_
  refine v_aload_n (pc' := 6) dX10_work_5 rfl rfl ?_
  refine v_iload_n (pc' := 7) dX10_work_6 rfl rfl ?_
  refine v_iconst (pc' := 8) (v := 0) dX10_work_7 rfl kI_0 ?_
  refine v_aload_n (pc' := 9) dX10_work_8 rfl rfl ?_
  refine v_getI (pc' := 12) 8 1 dX10_work_9 rfl (by decide) (by decide) rfl kf_X10_75 q1 ?_
  obtain ⟨z3, h2, k4, T⟩ := T
  refine v_callS (pc' := 15) (M1 := mX10_in) (as := [.int x1, .int 0, .int ((upI h.2 r0 0 0) r0 1)]) (rest := [.ref r0]) dX10_work_12 rfl ko_X10_106 kc_X10_in kt_X10_in (by decide) hdd rfl rfl (le_l rfl) k4 ?_
  refine v_if_eq (tgt := 25) (pc' := 18) dX10_work_15 (by decide) rfl ⟨fun c5 => ?_, fun c5 => ?_⟩
  · have T := T.1 c5
    refine v_iconst (pc' := 26) (v := 1) dX10_work_25 rfl kI_1 ?_
    refine v_goto (pc' := 30) dX10_work_26 (by decide) ?_
    refine v_iconst (pc' := 31) (v := 1) dX10_work_30 rfl kI_1 ?_
    refine v_iconst (pc' := 32) (v := 1) dX10_work_31 rfl kI_1 ?_
    obtain ⟨q9, T⟩ := T
    obtain ⟨z7, h6, k8, T⟩ := T
    refine v_callV (pc' := 35) (M1 := mX10_bad) (as := [.int 1, .int 1, .int 1]) (r := r0) (rest := []) 8 dX10_work_32 rfl ko_X10_155 kc_X10_bad ki_X10_bad ks_X10_bad (by decide) (by decide) hdd rfl rfl (le_l rfl) q9 k8 ?_
    refine v_if_eq (tgt := 40) (pc' := 38) dX10_work_35 (by decide) rfl ⟨fun c10 => ?_, fun c10 => ?_⟩
    · have T := T.1 c10
      refine v_aload_n (pc' := 41) dX10_work_40 rfl rfl ?_
      obtain ⟨q11, T⟩ := T
      refine v_getI (pc' := 44) 8 14 dX10_work_41 rfl (by decide) (by decide) rfl kf_X10_184 q11 ?_
      refine v_bipush (pc' := 46) (v := 16) dX10_work_44 rfl kB_16 ?_
      refine v_icmp_ne (tgt := 62) (pc' := 49) dX10_work_46 (by decide) rfl ⟨fun c12 => ?_, fun c12 => ?_⟩
      · have T := T.1 c12
        refine v_aload_n (pc' := 63) dX10_work_62 rfl rfl ?_
        refine v_iload_n (pc' := 64) dX10_work_63 rfl rfl ?_
        obtain ⟨h13, k14, T⟩ := T
        refine v_callV (pc' := 67) (M1 := mX10_starts) (as := [.int x1]) (r := r0) (rest := []) 8 dX10_work_64 rfl ko_X10_159 kc_X10_starts ki_X10_starts ks_X10_starts (by decide) (by decide) hdd rfl rfl (le_l rfl) q11 k14 ?_
        refine v_aload_n (pc' := 68) dX10_work_67 rfl rfl ?_
        refine v_iconst (pc' := 69) (v := 0) dX10_work_68 rfl kI_0 ?_
        obtain ⟨q15, T⟩ := T
        refine v_putI (pc' := 72) 8 18 dX10_work_69 rfl (by decide) (by decide) rfl rfl kf_X10_66 q15 ?_
        exact V.drop (llp_r (llp_u llp_nil)) T
      · have T := T.2 c12
        refine v_aload_n (pc' := 50) dX10_work_49 rfl rfl ?_
        refine v_iconst (pc' := 51) (v := 0) dX10_work_50 rfl kI_0 ?_
        refine v_putI (pc' := 54) 8 1 dX10_work_51 rfl (by decide) (by decide) rfl rfl kf_X10_75 q11 ?_
        refine v_aload_n (pc' := 55) dX10_work_54 rfl rfl ?_
        refine v_iconst (pc' := 56) (v := (-1)) dX10_work_55 rfl kI_m1 ?_
        refine v_putI (pc' := 59) 8 3 dX10_work_56 rfl (by decide) (by decide) rfl rfl kf_X10_9 q11 ?_
        refine v_bipush (pc' := 61) (v := (-20)) dX10_work_59 rfl kB_m20 ?_
        exact v_iret dX10_work_61 rfl T
    · have T := T.2 c10
      refine v_iconst (pc' := 39) (v := 0) dX10_work_38 rfl kI_0 ?_
      exact v_iret dX10_work_39 rfl T
  · have T := T.2 c5
    refine v_iload_n (pc' := 19) dX10_work_18 rfl rfl ?_
    refine v_sipush (pc' := 22) (v := 150) dX10_work_19 rfl kS_150 ?_
    refine v_icmp_le (tgt := 29) (pc' := 25) dX10_work_22 (by decide) rfl ⟨fun c16 => ?_, fun c16 => ?_⟩
    · have T := T.1 c16
      refine v_iconst (pc' := 30) (v := 0) dX10_work_29 rfl kI_0 ?_
      refine v_iconst (pc' := 31) (v := 1) dX10_work_30 rfl kI_1 ?_
      refine v_iconst (pc' := 32) (v := 1) dX10_work_31 rfl kI_1 ?_
      obtain ⟨q20, T⟩ := T
      obtain ⟨z18, h17, k19, T⟩ := T
      refine v_callV (pc' := 35) (M1 := mX10_bad) (as := [.int 0, .int 1, .int 1]) (r := r0) (rest := []) 8 dX10_work_32 rfl ko_X10_155 kc_X10_bad ki_X10_bad ks_X10_bad (by decide) (by decide) hdd rfl rfl (le_l rfl) q20 k19 ?_
      refine v_if_eq (tgt := 40) (pc' := 38) dX10_work_35 (by decide) rfl ⟨fun c21 => ?_, fun c21 => ?_⟩
      · have T := T.1 c21
        refine v_aload_n (pc' := 41) dX10_work_40 rfl rfl ?_
        obtain ⟨q22, T⟩ := T
        refine v_getI (pc' := 44) 8 14 dX10_work_41 rfl (by decide) (by decide) rfl kf_X10_184 q22 ?_
        refine v_bipush (pc' := 46) (v := 16) dX10_work_44 rfl kB_16 ?_
        refine v_icmp_ne (tgt := 62) (pc' := 49) dX10_work_46 (by decide) rfl ⟨fun c23 => ?_, fun c23 => ?_⟩
        · have T := T.1 c23
          refine v_aload_n (pc' := 63) dX10_work_62 rfl rfl ?_
          refine v_iload_n (pc' := 64) dX10_work_63 rfl rfl ?_
          obtain ⟨h24, k25, T⟩ := T
          refine v_callV (pc' := 67) (M1 := mX10_starts) (as := [.int x1]) (r := r0) (rest := []) 8 dX10_work_64 rfl ko_X10_159 kc_X10_starts ki_X10_starts ks_X10_starts (by decide) (by decide) hdd rfl rfl (le_l rfl) q22 k25 ?_
          refine v_aload_n (pc' := 68) dX10_work_67 rfl rfl ?_
          refine v_iconst (pc' := 69) (v := 0) dX10_work_68 rfl kI_0 ?_
          obtain ⟨q26, T⟩ := T
          refine v_putI (pc' := 72) 8 18 dX10_work_69 rfl (by decide) (by decide) rfl rfl kf_X10_66 q26 ?_
          exact V.drop (llp_r (llp_u llp_nil)) T
        · have T := T.2 c23
          refine v_aload_n (pc' := 50) dX10_work_49 rfl rfl ?_
          refine v_iconst (pc' := 51) (v := 0) dX10_work_50 rfl kI_0 ?_
          refine v_putI (pc' := 54) 8 1 dX10_work_51 rfl (by decide) (by decide) rfl rfl kf_X10_75 q22 ?_
          refine v_aload_n (pc' := 55) dX10_work_54 rfl rfl ?_
          refine v_iconst (pc' := 56) (v := (-1)) dX10_work_55 rfl kI_m1 ?_
          refine v_putI (pc' := 59) 8 3 dX10_work_56 rfl (by decide) (by decide) rfl rfl kf_X10_9 q22 ?_
          refine v_bipush (pc' := 61) (v := (-20)) dX10_work_59 rfl kB_m20 ?_
          exact v_iret dX10_work_61 rfl T
      · have T := T.2 c21
        refine v_iconst (pc' := 39) (v := 0) dX10_work_38 rfl kI_0 ?_
        exact v_iret dX10_work_39 rfl T
    · have T := T.2 c16
      refine v_iconst (pc' := 26) (v := 1) dX10_work_25 rfl kI_1 ?_
      refine v_goto (pc' := 30) dX10_work_26 (by decide) ?_
      refine v_iconst (pc' := 31) (v := 1) dX10_work_30 rfl kI_1 ?_
      refine v_iconst (pc' := 32) (v := 1) dX10_work_31 rfl kI_1 ?_
      obtain ⟨q30, T⟩ := T
      obtain ⟨z28, h27, k29, T⟩ := T
      refine v_callV (pc' := 35) (M1 := mX10_bad) (as := [.int 1, .int 1, .int 1]) (r := r0) (rest := []) 8 dX10_work_32 rfl ko_X10_155 kc_X10_bad ki_X10_bad ks_X10_bad (by decide) (by decide) hdd rfl rfl (le_l rfl) q30 k29 ?_
      refine v_if_eq (tgt := 40) (pc' := 38) dX10_work_35 (by decide) rfl ⟨fun c31 => ?_, fun c31 => ?_⟩
      · have T := T.1 c31
        refine v_aload_n (pc' := 41) dX10_work_40 rfl rfl ?_
        obtain ⟨q32, T⟩ := T
        refine v_getI (pc' := 44) 8 14 dX10_work_41 rfl (by decide) (by decide) rfl kf_X10_184 q32 ?_
        refine v_bipush (pc' := 46) (v := 16) dX10_work_44 rfl kB_16 ?_
        refine v_icmp_ne (tgt := 62) (pc' := 49) dX10_work_46 (by decide) rfl ⟨fun c33 => ?_, fun c33 => ?_⟩
        · have T := T.1 c33
          refine v_aload_n (pc' := 63) dX10_work_62 rfl rfl ?_
          refine v_iload_n (pc' := 64) dX10_work_63 rfl rfl ?_
          obtain ⟨h34, k35, T⟩ := T
          refine v_callV (pc' := 67) (M1 := mX10_starts) (as := [.int x1]) (r := r0) (rest := []) 8 dX10_work_64 rfl ko_X10_159 kc_X10_starts ki_X10_starts ks_X10_starts (by decide) (by decide) hdd rfl rfl (le_l rfl) q32 k35 ?_
          refine v_aload_n (pc' := 68) dX10_work_67 rfl rfl ?_
          refine v_iconst (pc' := 69) (v := 0) dX10_work_68 rfl kI_0 ?_
          obtain ⟨q36, T⟩ := T
          refine v_putI (pc' := 72) 8 18 dX10_work_69 rfl (by decide) (by decide) rfl rfl kf_X10_66 q36 ?_
          exact V.drop (llp_r (llp_u llp_nil)) T
        · have T := T.2 c33
          refine v_aload_n (pc' := 50) dX10_work_49 rfl rfl ?_
          refine v_iconst (pc' := 51) (v := 0) dX10_work_50 rfl kI_0 ?_
          refine v_putI (pc' := 54) 8 1 dX10_work_51 rfl (by decide) (by decide) rfl rfl kf_X10_75 q32 ?_
          refine v_aload_n (pc' := 55) dX10_work_54 rfl rfl ?_
          refine v_iconst (pc' := 56) (v := (-1)) dX10_work_55 rfl kI_m1 ?_
          refine v_putI (pc' := 59) 8 3 dX10_work_56 rfl (by decide) (by decide) rfl rfl kf_X10_9 q32 ?_
          refine v_bipush (pc' := 61) (v := (-20)) dX10_work_59 rfl kB_m20 ?_
          exact v_iret dX10_work_61 rfl T
      · have T := T.2 c31
        refine v_iconst (pc' := 39) (v := 0) dX10_work_38 rfl kI_0 ?_
        exact v_iret dX10_work_39 rfl T
theorem bX10_work_72 {G : GG} {d : Nat} {h : Hp} {o : OU} {h' : Hp} (r0 : Nat) (hd : 1 ≤ d) (T : kH h r0 = 18 ∧ ((¬ (h.2 r0 5) = 0 → V G mX10_work d 101 [.ref r0, uV] [] h o h') ∧ ((h.2 r0 5) = 0 → (((h.2 r0 2) ≤ (h.2 r0 4) → V G mX10_work d 101 [.ref r0, uV] [] h o h') ∧ (¬ (h.2 r0 2) ≤ (h.2 r0 4) → ∃ h4, VM G mX10_readsStep (d - 1) [.ref r0] h (.inl none) h4 ∧ kH h4 r0 = 18 ∧ ∃ h6, VM G mX10_blanks (d - 1) [.ref r0] h4 (.inl none) h6 ∧ V G mX10_work d 72 [.ref r0, uV] [] h6 o h'))))) : V G mX10_work d 72 [.ref r0, uV] [] h o h' := by
  have hdd : d - 1 + 1 ≤ d := by omega
  refine v_aload_n (pc' := 73) dX10_work_72 rfl rfl ?_
  obtain ⟨q1, T⟩ := T
  refine v_getI (pc' := 76) 8 5 dX10_work_73 rfl (by decide) (by decide) rfl kf_X10_88 q1 ?_
  refine v_if_ne (tgt := 101) (pc' := 79) dX10_work_76 (by decide) rfl ⟨fun c2 => ?_, fun c2 => ?_⟩
  · have T := T.1 c2
    exact T
  · have T := T.2 c2
    refine v_aload_n (pc' := 80) dX10_work_79 rfl rfl ?_
    refine v_getI (pc' := 83) 8 4 dX10_work_80 rfl (by decide) (by decide) rfl kf_X10_81 q1 ?_
    refine v_aload_n (pc' := 84) dX10_work_83 rfl rfl ?_
    refine v_getI (pc' := 87) 8 2 dX10_work_84 rfl (by decide) (by decide) rfl kf_X10_78 q1 ?_
    refine v_icmp_ge (tgt := 101) (pc' := 90) dX10_work_87 (by decide) rfl ⟨fun c3 => ?_, fun c3 => ?_⟩
    · have T := T.1 c3
      exact T
    · have T := T.2 c3
      refine v_aload_n (pc' := 91) dX10_work_90 rfl rfl ?_
      obtain ⟨h4, k5, T⟩ := T
      refine v_callV (pc' := 94) (M1 := mX10_readsStep) (as := []) (r := r0) (rest := []) 8 dX10_work_91 rfl ko_X10_139 kc_X10_readsStep ki_X10_readsStep ks_X10_readsStep (by decide) (by decide) hdd rfl rfl (le_l rfl) q1 k5 ?_
      refine v_aload_n (pc' := 95) dX10_work_94 rfl rfl ?_
      obtain ⟨q8, T⟩ := T
      obtain ⟨h6, k7, T⟩ := T
      refine v_callV (pc' := 98) (M1 := mX10_blanks) (as := []) (r := r0) (rest := []) 8 dX10_work_95 rfl ko_X10_94 kc_X10_blanks ki_X10_blanks ks_X10_blanks (by decide) (by decide) hdd rfl rfl (le_l rfl) q8 k7 ?_
      refine v_goto (pc' := 72) dX10_work_98 (by decide) ?_
      exact T
theorem bX10_work_101 {G : GG} {d : Nat} {h : Hp} {o : OU} {h' : Hp} (r0 : Nat) (hd : 1 ≤ d) (T : kH h r0 = 18 ∧ (((h.2 r0 5) = 0 → kH h (rH h r0 24) = 7 ∧ vp_in ((upI h.2 r0 3 (-1)) r0 14) (lH h (rH h r0 24)) ∧ ∃ h5, VM G mX10_copies (d - 1) [.ref (rH h r0 22), .ref (rH h (rH h r0 24) ((upI h.2 r0 3 (-1)) r0 14).toNatClampNeg)] (h.1, (upI h.2 r0 3 (-1))) (.inl none) h5 ∧ kH h5 r0 = 18 ∧ ∃ h8, VM G mX10_goes (d - 1) [.ref r0, .int 0, .int ((upI (upI (upI (upI h5.2 r0 14 ((h5.2 r0 14) + 1)) r0 31 0) r0 32 0) r0 15 0) r0 18)] (h5.1, (upI (upI (upI (upI h5.2 r0 14 ((h5.2 r0 14) + 1)) r0 31 0) r0 32 0) r0 15 0)) (.inl none) h8 ∧ kH h8 r0 = 18 ∧ (o = .inl (some (.int (h8.2 r0 32))) ∧ h' = h8)) ∧ (¬ (h.2 r0 5) = 0 → ∃ z12 h11, VM G mX10_ends (d - 1) [.ref r0] h (.inl (some (.int z12))) h11 ∧ (o = .inl (some (.int z12)) ∧ h' = h11)))) : V G mX10_work d 101 [.ref r0, uV] [] h o h' := by
  have hdd : d - 1 + 1 ≤ d := by omega
  refine v_aload_n (pc' := 102) dX10_work_101 rfl rfl ?_
  obtain ⟨q1, T⟩ := T
  refine v_getI (pc' := 105) 8 5 dX10_work_102 rfl (by decide) (by decide) rfl kf_X10_88 q1 ?_
  refine v_if_eq (tgt := 113) (pc' := 108) dX10_work_105 (by decide) rfl ⟨fun c2 => ?_, fun c2 => ?_⟩
  · have T := T.1 c2
    refine v_aload_n (pc' := 114) dX10_work_113 rfl rfl ?_
    refine v_iconst (pc' := 115) (v := (-1)) dX10_work_114 rfl kI_m1 ?_
    refine v_putI (pc' := 118) 8 3 dX10_work_115 rfl (by decide) (by decide) rfl rfl kf_X10_9 q1 ?_
    refine v_aload_n (pc' := 119) dX10_work_118 rfl rfl ?_
    refine v_getR (pc' := 122) 8 22 dX10_work_119 rfl (by decide) (by decide) rfl kf_X10_31 q1 ?_
    refine v_aload_n (pc' := 123) dX10_work_122 rfl rfl ?_
    refine v_getR (pc' := 126) 8 24 dX10_work_123 rfl (by decide) (by decide) rfl kf_X10_37 q1 ?_
    refine v_aload_n (pc' := 127) dX10_work_126 rfl rfl ?_
    refine v_getI (pc' := 130) 8 14 dX10_work_127 rfl (by decide) (by decide) rfl kf_X10_184 q1 ?_
    obtain ⟨q3, T⟩ := T
    obtain ⟨q4, T⟩ := T
    refine v_aald (pc' := 131) 7 dX10_work_130 rfl rfl (by decide) q3 q4 ?_
    obtain ⟨h5, k6, T⟩ := T
    refine v_callS (pc' := 134) (M1 := mX10_copies) (as := [.ref (rH h r0 22), .ref (rH h (rH h r0 24) ((upI h.2 r0 3 (-1)) r0 14).toNatClampNeg)]) (rest := []) dX10_work_131 rfl ko_X10_361 kc_X10_copies kt_X10_copies (by decide) hdd rfl rfl (le_l rfl) k6 ?_
    refine v_aload_n (pc' := 135) dX10_work_134 rfl rfl ?_
    refine v_dup (pc' := 136) dX10_work_135 rfl rfl ?_
    obtain ⟨q7, T⟩ := T
    refine v_getI (pc' := 139) 8 14 dX10_work_136 rfl (by decide) (by decide) rfl kf_X10_184 q7 ?_
    refine v_iconst (pc' := 140) (v := 1) dX10_work_139 rfl kI_1 ?_
    refine v_iadd (pc' := 141) dX10_work_140 rfl ?_
    refine v_putI (pc' := 144) 8 14 dX10_work_141 rfl (by decide) (by decide) rfl rfl kf_X10_184 q7 ?_
    refine v_aload_n (pc' := 145) dX10_work_144 rfl rfl ?_
    refine v_iconst (pc' := 146) (v := 0) dX10_work_145 rfl kI_0 ?_
    refine v_putI (pc' := 149) 8 31 dX10_work_146 rfl (by decide) (by decide) rfl rfl kf_X10_352 q7 ?_
    refine v_aload_n (pc' := 150) dX10_work_149 rfl rfl ?_
    refine v_iconst (pc' := 151) (v := 0) dX10_work_150 rfl kI_0 ?_
    refine v_putI (pc' := 154) 8 32 dX10_work_151 rfl (by decide) (by decide) rfl rfl kf_X10_358 q7 ?_
    refine v_aload_n (pc' := 155) dX10_work_154 rfl rfl ?_
    refine v_iconst (pc' := 156) (v := 0) dX10_work_155 rfl kI_0 ?_
    refine v_putI (pc' := 159) 8 15 dX10_work_156 rfl (by decide) (by decide) rfl rfl kf_X10_187 q7 ?_
    refine v_aload_n (pc' := 160) dX10_work_159 rfl rfl ?_
    refine v_iconst (pc' := 161) (v := 0) dX10_work_160 rfl kI_0 ?_
    refine v_aload_n (pc' := 162) dX10_work_161 rfl rfl ?_
    refine v_getI (pc' := 165) 8 18 dX10_work_162 rfl (by decide) (by decide) rfl kf_X10_66 q7 ?_
    obtain ⟨h8, k9, T⟩ := T
    refine v_callV (pc' := 168) (M1 := mX10_goes) (as := [.int 0, .int ((upI (upI (upI (upI h5.2 r0 14 ((h5.2 r0 14) + 1)) r0 31 0) r0 32 0) r0 15 0) r0 18)]) (r := r0) (rest := []) 8 dX10_work_165 rfl ko_X10_355 kc_X10_goes ki_X10_goes ks_X10_goes (by decide) (by decide) hdd rfl rfl (le_l rfl) q7 k9 ?_
    refine v_aload_n (pc' := 169) dX10_work_168 rfl rfl ?_
    obtain ⟨q10, T⟩ := T
    refine v_getI (pc' := 172) 8 32 dX10_work_169 rfl (by decide) (by decide) rfl kf_X10_358 q10 ?_
    exact v_iret dX10_work_172 rfl T
  · have T := T.2 c2
    refine v_aload_n (pc' := 109) dX10_work_108 rfl rfl ?_
    obtain ⟨z12, h11, k13, T⟩ := T
    refine v_callV (pc' := 112) (M1 := mX10_ends) (as := []) (r := r0) (rest := []) 8 dX10_work_109 rfl ko_X10_165 kc_X10_ends ki_X10_ends ks_X10_ends (by decide) (by decide) hdd rfl rfl (le_l rfl) q1 k13 ?_
    exact v_iret dX10_work_112 rfl T
theorem eX10_undo {G : GG} {d : Nat} {h : Hp} {o : OU} {h' : Hp} (r0 : Nat) (hd : 1 ≤ d) (T : kH h r0 = 18 ∧ ((¬ ((upI h.2 r0 0 0) r0 14) = 0 → kH h (rH h r0 24) = 7 ∧ vp_in ((upI (upI h.2 r0 0 0) r0 14 (((upI h.2 r0 0 0) r0 14) - 1)) r0 14) (lH h (rH h r0 24)) ∧ ∃ h5, VM G mX10_copies (d - 1) [.ref (rH h (rH h r0 24) ((upI (upI h.2 r0 0 0) r0 14 (((upI h.2 r0 0 0) r0 14) - 1)) r0 14).toNatClampNeg), .ref (rH h r0 22)] (h.1, (upI (upI h.2 r0 0 0) r0 14 (((upI h.2 r0 0 0) r0 14) - 1))) (.inl none) h5 ∧ kH h5 r0 = 18 ∧ (o = .inl (some (.int ((upI h5.2 r0 15 0) r0 14))) ∧ h' = (h5.1, (upI h5.2 r0 15 0)))) ∧ (((upI h.2 r0 0 0) r0 14) = 0 → (o = .inl (some (.int (-1))) ∧ h' = (h.1, (upI h.2 r0 0 0)))))) : VM G mX10_undo d [.ref r0] h o h' := by
  refine V.toM rfl rfl (le_l rfl) (cat_all rfl) ?_
  show V G mX10_undo d 0 [.ref r0] [] h o h'
  have hdd : d - 1 + 1 ≤ d := by omega
  refine v_aload_n (pc' := 1) dX10_undo_0 rfl rfl ?_
  refine v_iconst (pc' := 2) (v := 0) dX10_undo_1 rfl kI_0 ?_
  obtain ⟨q1, T⟩ := T
  refine v_putI (pc' := 5) 8 0 dX10_undo_2 rfl (by decide) (by decide) rfl rfl kf_X10_72 q1 ?_
  refine v_aload_n (pc' := 6) dX10_undo_5 rfl rfl ?_
  refine v_getI (pc' := 9) 8 14 dX10_undo_6 rfl (by decide) (by decide) rfl kf_X10_184 q1 ?_
  refine v_if_ne (tgt := 14) (pc' := 12) dX10_undo_9 (by decide) rfl ⟨fun c2 => ?_, fun c2 => ?_⟩
  · have T := T.1 c2
    refine v_aload_n (pc' := 15) dX10_undo_14 rfl rfl ?_
    refine v_dup (pc' := 16) dX10_undo_15 rfl rfl ?_
    refine v_getI (pc' := 19) 8 14 dX10_undo_16 rfl (by decide) (by decide) rfl kf_X10_184 q1 ?_
    refine v_iconst (pc' := 20) (v := 1) dX10_undo_19 rfl kI_1 ?_
    refine v_isub (pc' := 21) dX10_undo_20 rfl ?_
    refine v_putI (pc' := 24) 8 14 dX10_undo_21 rfl (by decide) (by decide) rfl rfl kf_X10_184 q1 ?_
    refine v_aload_n (pc' := 25) dX10_undo_24 rfl rfl ?_
    refine v_getR (pc' := 28) 8 24 dX10_undo_25 rfl (by decide) (by decide) rfl kf_X10_37 q1 ?_
    refine v_aload_n (pc' := 29) dX10_undo_28 rfl rfl ?_
    refine v_getI (pc' := 32) 8 14 dX10_undo_29 rfl (by decide) (by decide) rfl kf_X10_184 q1 ?_
    obtain ⟨q3, T⟩ := T
    obtain ⟨q4, T⟩ := T
    refine v_aald (pc' := 33) 7 dX10_undo_32 rfl rfl (by decide) q3 q4 ?_
    refine v_aload_n (pc' := 34) dX10_undo_33 rfl rfl ?_
    refine v_getR (pc' := 37) 8 22 dX10_undo_34 rfl (by decide) (by decide) rfl kf_X10_31 q1 ?_
    obtain ⟨h5, k6, T⟩ := T
    refine v_callS (pc' := 40) (M1 := mX10_copies) (as := [.ref (rH h (rH h r0 24) ((upI (upI h.2 r0 0 0) r0 14 (((upI h.2 r0 0 0) r0 14) - 1)) r0 14).toNatClampNeg), .ref (rH h r0 22)]) (rest := []) dX10_undo_37 rfl ko_X10_361 kc_X10_copies kt_X10_copies (by decide) hdd rfl rfl (le_l rfl) k6 ?_
    refine v_aload_n (pc' := 41) dX10_undo_40 rfl rfl ?_
    refine v_iconst (pc' := 42) (v := 0) dX10_undo_41 rfl kI_0 ?_
    obtain ⟨q7, T⟩ := T
    refine v_putI (pc' := 45) 8 15 dX10_undo_42 rfl (by decide) (by decide) rfl rfl kf_X10_187 q7 ?_
    refine v_aload_n (pc' := 46) dX10_undo_45 rfl rfl ?_
    refine v_getI (pc' := 49) 8 14 dX10_undo_46 rfl (by decide) (by decide) rfl kf_X10_184 q7 ?_
    exact v_iret dX10_undo_49 rfl T
  · have T := T.2 c2
    refine v_iconst (pc' := 13) (v := (-1)) dX10_undo_12 rfl kI_m1 ?_
    exact v_iret dX10_undo_13 rfl T
theorem eX10_told {G : GG} {d : Nat} {h : Hp} {o : OU} {h' : Hp} (r0 : Nat) (x1 : Int32) (hd : 1 ≤ d) (T : kH h r0 = 18 ∧ ∃ z3 h2, VM G mX10_in (d - 1) [.int x1, .int 0, .int 9] (h.1, (upI h.2 r0 0 0)) (.inl (some (.int z3))) h2 ∧ ((¬ z3 = 0 → V G mX10_told d 21 [.ref r0, .int x1] [.int 0, .ref r0] h2 o h') ∧ (z3 = 0 → V G mX10_told d 21 [.ref r0, .int x1] [.int 1, .ref r0] h2 o h'))) : VM G mX10_told d [.ref r0, .int x1] h o h' := by
  refine V.toM rfl rfl (le_l rfl) (cat_all rfl) ?_
  show V G mX10_told d 0 [.ref r0, .int x1] [] h o h'
  have hdd : d - 1 + 1 ≤ d := by omega
  refine v_aload_n (pc' := 1) dX10_told_0 rfl rfl ?_
  refine v_iconst (pc' := 2) (v := 0) dX10_told_1 rfl kI_0 ?_
  obtain ⟨q1, T⟩ := T
  refine v_putI (pc' := 5) 8 0 dX10_told_2 rfl (by decide) (by decide) rfl rfl kf_X10_72 q1 ?_
  refine v_aload_n (pc' := 6) dX10_told_5 rfl rfl ?_
  refine v_iload_n (pc' := 7) dX10_told_6 rfl rfl ?_
  refine v_iconst (pc' := 8) (v := 0) dX10_told_7 rfl kI_0 ?_
  refine v_bipush (pc' := 10) (v := 9) dX10_told_8 rfl kB_9 ?_
  obtain ⟨z3, h2, k4, T⟩ := T
  refine v_callS (pc' := 13) (M1 := mX10_in) (as := [.int x1, .int 0, .int 9]) (rest := [.ref r0]) dX10_told_10 rfl ko_X10_106 kc_X10_in kt_X10_in (by decide) hdd rfl rfl (le_l rfl) k4 ?_
  refine v_if_ne (tgt := 20) (pc' := 16) dX10_told_13 (by decide) rfl ⟨fun c5 => ?_, fun c5 => ?_⟩
  · have T := T.1 c5
    refine v_iconst (pc' := 21) (v := 0) dX10_told_20 rfl kI_0 ?_
    exact T
  · have T := T.2 c5
    refine v_iconst (pc' := 17) (v := 1) dX10_told_16 rfl kI_1 ?_
    refine v_goto (pc' := 21) dX10_told_17 (by decide) ?_
    exact T
theorem bX10_told_21 {G : GG} {d : Nat} {h : Hp} {o : OU} {h' : Hp} (r0 : Nat) (x1 : Int32) (s0 : Int32) (t1 : Nat) (hd : 1 ≤ d) (T : kH h t1 = 18 ∧ ∃ z2 h1, VM G mX10_bad (d - 1) [.ref t1, .int s0, .int 1, .int 1] h (.inl (some (.int z2))) h1 ∧ ((z2 = 0 → ((x1 = 0 → kH h1 r0 = 18 ∧ (o = .inl (some (.int (h1.2 r0 11))) ∧ h' = h1)) ∧ (x1 = 1 → kH h1 r0 = 18 ∧ kH h1 (rH h1 r0 22) = 1 ∧ vp_in 3392 (lH h1 (rH h1 r0 22)) ∧ (o = .inl (some (.int (h1.2 (rH h1 r0 22) 3392))) ∧ h' = h1)) ∧ (x1 = 2 → kH h1 r0 = 18 ∧ kH h1 (rH h1 r0 22) = 1 ∧ vp_in 3393 (lH h1 (rH h1 r0 22)) ∧ (o = .inl (some (.int (h1.2 (rH h1 r0 22) 3393))) ∧ h' = h1)) ∧ (x1 = 3 → kH h1 r0 = 18 ∧ ∃ z19 h18, VM G mX10_dirty (d - 1) [.ref r0, .ref (rH h1 r0 22)] h1 (.inl (some (.int z19))) h18 ∧ (o = .inl (some (.int z19)) ∧ h' = h18)) ∧ (x1 = 4 → kH h1 r0 = 18 ∧ kH h1 (rH h1 r0 22) = 1 ∧ vp_in 3395 (lH h1 (rH h1 r0 22)) ∧ (o = .inl (some (.int (h1.2 (rH h1 r0 22) 3395))) ∧ h' = h1)) ∧ (x1 = 5 → kH h1 r0 = 18 ∧ kH h1 (rH h1 r0 22) = 1 ∧ vp_in 3396 (lH h1 (rH h1 r0 22)) ∧ (o = .inl (some (.int (h1.2 (rH h1 r0 22) 3396))) ∧ h' = h1)) ∧ (x1 = 6 → kH h1 r0 = 18 ∧ kH h1 (rH h1 r0 22) = 1 ∧ vp_in 3397 (lH h1 (rH h1 r0 22)) ∧ (o = .inl (some (.int (h1.2 (rH h1 r0 22) 3397))) ∧ h' = h1)) ∧ (x1 = 7 → kH h1 r0 = 18 ∧ (o = .inl (some (.int (h1.2 r0 13))) ∧ h' = h1)) ∧ (x1 = 8 → kH h1 r0 = 18 ∧ (o = .inl (some (.int (h1.2 r0 15))) ∧ h' = h1)) ∧ (¬ x1 = 0 → ¬ x1 = 1 → ¬ x1 = 2 → ¬ x1 = 3 → ¬ x1 = 4 → ¬ x1 = 5 → ¬ x1 = 6 → ¬ x1 = 7 → ¬ x1 = 8 → kH h1 r0 = 18 ∧ kH h1 (rH h1 r0 22) = 1 ∧ vp_in 3394 (lH h1 (rH h1 r0 22)) ∧ (o = .inl (some (.int (h1.2 (rH h1 r0 22) 3394))) ∧ h' = h1)))) ∧ (¬ z2 = 0 → (o = .inl (some (.int 0)) ∧ h' = h1)))) : V G mX10_told d 21 [.ref r0, .int x1] [.int s0, .ref t1] h o h' := by
  have hdd : d - 1 + 1 ≤ d := by omega
  refine v_iconst (pc' := 22) (v := 1) dX10_told_21 rfl kI_1 ?_
  refine v_iconst (pc' := 23) (v := 1) dX10_told_22 rfl kI_1 ?_
  obtain ⟨q4, T⟩ := T
  obtain ⟨z2, h1, k3, T⟩ := T
  refine v_callV (pc' := 26) (M1 := mX10_bad) (as := [.int s0, .int 1, .int 1]) (r := t1) (rest := []) 8 dX10_told_23 rfl ko_X10_155 kc_X10_bad ki_X10_bad ks_X10_bad (by decide) (by decide) hdd rfl rfl (le_l rfl) q4 k3 ?_
  refine v_if_eq (tgt := 31) (pc' := 29) dX10_told_26 (by decide) rfl ⟨fun c5 => ?_, fun c5 => ?_⟩
  · have T := T.1 c5
    refine v_iload_n (pc' := 32) dX10_told_31 rfl rfl ?_
    by_cases c6 : x1 = 0
    · have T := T.1 c6
      refine v_switchIn (off := 52) (pc' := 84) dX10_told_32 (by rw [c6]; decide) (by rw [c6]; decide) (by rw [c6]; rfl) (by decide) ?_
      refine v_aload_n (pc' := 85) dX10_told_84 rfl rfl ?_
      obtain ⟨q7, T⟩ := T
      refine v_getI (pc' := 88) 8 11 dX10_told_85 rfl (by decide) (by decide) rfl kf_X10_168 q7 ?_
      exact v_iret dX10_told_88 rfl T
    by_cases c8 : x1 = 1
    · have T := T.2.1 c8
      refine v_switchIn (off := 57) (pc' := 89) dX10_told_32 (by rw [c8]; decide) (by rw [c8]; decide) (by rw [c8]; rfl) (by decide) ?_
      refine v_aload_n (pc' := 90) dX10_told_89 rfl rfl ?_
      obtain ⟨q9, T⟩ := T
      refine v_getR (pc' := 93) 8 22 dX10_told_90 rfl (by decide) (by decide) rfl kf_X10_31 q9 ?_
      refine v_sipush (pc' := 96) (v := 3392) dX10_told_93 rfl kS_3392 ?_
      obtain ⟨q10, T⟩ := T
      obtain ⟨q11, T⟩ := T
      refine v_iald (pc' := 97) dX10_told_96 rfl kN_3392 q10 q11 ?_
      exact v_iret dX10_told_97 rfl T
    by_cases c12 : x1 = 2
    · have T := T.2.2.1 c12
      refine v_switchIn (off := 66) (pc' := 98) dX10_told_32 (by rw [c12]; decide) (by rw [c12]; decide) (by rw [c12]; rfl) (by decide) ?_
      refine v_aload_n (pc' := 99) dX10_told_98 rfl rfl ?_
      obtain ⟨q13, T⟩ := T
      refine v_getR (pc' := 102) 8 22 dX10_told_99 rfl (by decide) (by decide) rfl kf_X10_31 q13 ?_
      refine v_sipush (pc' := 105) (v := 3393) dX10_told_102 rfl kS_3393 ?_
      obtain ⟨q14, T⟩ := T
      obtain ⟨q15, T⟩ := T
      refine v_iald (pc' := 106) dX10_told_105 rfl kN_3393 q14 q15 ?_
      exact v_iret dX10_told_106 rfl T
    by_cases c16 : x1 = 3
    · have T := T.2.2.2.1 c16
      refine v_switchIn (off := 75) (pc' := 107) dX10_told_32 (by rw [c16]; decide) (by rw [c16]; decide) (by rw [c16]; rfl) (by decide) ?_
      refine v_aload_n (pc' := 108) dX10_told_107 rfl rfl ?_
      refine v_aload_n (pc' := 109) dX10_told_108 rfl rfl ?_
      obtain ⟨q17, T⟩ := T
      refine v_getR (pc' := 112) 8 22 dX10_told_109 rfl (by decide) (by decide) rfl kf_X10_31 q17 ?_
      obtain ⟨z19, h18, k20, T⟩ := T
      refine v_callV (pc' := 115) (M1 := mX10_dirty) (as := [.ref (rH h1 r0 22)]) (r := r0) (rest := []) 8 dX10_told_112 rfl ko_X10_365 kc_X10_dirty ki_X10_dirty ks_X10_dirty (by decide) (by decide) hdd rfl rfl (le_l rfl) q17 k20 ?_
      exact v_iret dX10_told_115 rfl T
    by_cases c21 : x1 = 4
    · have T := T.2.2.2.2.1 c21
      refine v_switchIn (off := 84) (pc' := 116) dX10_told_32 (by rw [c21]; decide) (by rw [c21]; decide) (by rw [c21]; rfl) (by decide) ?_
      refine v_aload_n (pc' := 117) dX10_told_116 rfl rfl ?_
      obtain ⟨q22, T⟩ := T
      refine v_getR (pc' := 120) 8 22 dX10_told_117 rfl (by decide) (by decide) rfl kf_X10_31 q22 ?_
      refine v_sipush (pc' := 123) (v := 3395) dX10_told_120 rfl kS_3395 ?_
      obtain ⟨q23, T⟩ := T
      obtain ⟨q24, T⟩ := T
      refine v_iald (pc' := 124) dX10_told_123 rfl kN_3395 q23 q24 ?_
      exact v_iret dX10_told_124 rfl T
    by_cases c25 : x1 = 5
    · have T := T.2.2.2.2.2.1 c25
      refine v_switchIn (off := 93) (pc' := 125) dX10_told_32 (by rw [c25]; decide) (by rw [c25]; decide) (by rw [c25]; rfl) (by decide) ?_
      refine v_aload_n (pc' := 126) dX10_told_125 rfl rfl ?_
      obtain ⟨q26, T⟩ := T
      refine v_getR (pc' := 129) 8 22 dX10_told_126 rfl (by decide) (by decide) rfl kf_X10_31 q26 ?_
      refine v_sipush (pc' := 132) (v := 3396) dX10_told_129 rfl kS_3396 ?_
      obtain ⟨q27, T⟩ := T
      obtain ⟨q28, T⟩ := T
      refine v_iald (pc' := 133) dX10_told_132 rfl kN_3396 q27 q28 ?_
      exact v_iret dX10_told_133 rfl T
    by_cases c29 : x1 = 6
    · have T := T.2.2.2.2.2.2.1 c29
      refine v_switchIn (off := 102) (pc' := 134) dX10_told_32 (by rw [c29]; decide) (by rw [c29]; decide) (by rw [c29]; rfl) (by decide) ?_
      refine v_aload_n (pc' := 135) dX10_told_134 rfl rfl ?_
      obtain ⟨q30, T⟩ := T
      refine v_getR (pc' := 138) 8 22 dX10_told_135 rfl (by decide) (by decide) rfl kf_X10_31 q30 ?_
      refine v_sipush (pc' := 141) (v := 3397) dX10_told_138 rfl kS_3397 ?_
      obtain ⟨q31, T⟩ := T
      obtain ⟨q32, T⟩ := T
      refine v_iald (pc' := 142) dX10_told_141 rfl kN_3397 q31 q32 ?_
      exact v_iret dX10_told_142 rfl T
    by_cases c33 : x1 = 7
    · have T := T.2.2.2.2.2.2.2.1 c33
      refine v_switchIn (off := 111) (pc' := 143) dX10_told_32 (by rw [c33]; decide) (by rw [c33]; decide) (by rw [c33]; rfl) (by decide) ?_
      refine v_aload_n (pc' := 144) dX10_told_143 rfl rfl ?_
      obtain ⟨q34, T⟩ := T
      refine v_getI (pc' := 147) 8 13 dX10_told_144 rfl (by decide) (by decide) rfl kf_X10_181 q34 ?_
      exact v_iret dX10_told_147 rfl T
    by_cases c35 : x1 = 8
    · have T := T.2.2.2.2.2.2.2.2.1 c35
      refine v_switchIn (off := 116) (pc' := 148) dX10_told_32 (by rw [c35]; decide) (by rw [c35]; decide) (by rw [c35]; rfl) (by decide) ?_
      refine v_aload_n (pc' := 149) dX10_told_148 rfl rfl ?_
      obtain ⟨q36, T⟩ := T
      refine v_getI (pc' := 152) 8 15 dX10_told_149 rfl (by decide) (by decide) rfl kf_X10_187 q36 ?_
      exact v_iret dX10_told_152 rfl T
    have T := T.2.2.2.2.2.2.2.2.2 c6 c8 c12 c16 c21 c25 c29 c33 c35
    refine v_switchOut (pc' := 153) dX10_told_32 (sw_out (n := 8) (by decide) (fun k hk => by rcases (show k = 0 ∨ k = 1 ∨ k = 2 ∨ k = 3 ∨ k = 4 ∨ k = 5 ∨ k = 6 ∨ k = 7 ∨ k = 8 by omega) with rfl | rfl | rfl | rfl | rfl | rfl | rfl | rfl | rfl <;> assumption)) (by decide) ?_
    refine v_aload_n (pc' := 154) dX10_told_153 rfl rfl ?_
    obtain ⟨q37, T⟩ := T
    refine v_getR (pc' := 157) 8 22 dX10_told_154 rfl (by decide) (by decide) rfl kf_X10_31 q37 ?_
    refine v_sipush (pc' := 160) (v := 3394) dX10_told_157 rfl kS_3394 ?_
    obtain ⟨q38, T⟩ := T
    obtain ⟨q39, T⟩ := T
    refine v_iald (pc' := 161) dX10_told_160 rfl kN_3394 q38 q39 ?_
    exact v_iret dX10_told_161 rfl T
  · have T := T.2 c5
    refine v_iconst (pc' := 30) (v := 0) dX10_told_29 rfl kI_0 ?_
    exact v_iret dX10_told_30 rfl T
theorem eX10_isWhere {G : GG} {d : Nat} {h : Hp} {o : OU} {h' : Hp} (x0 : Int32) (hd : 1 ≤ d) (T : ∃ z2 h1, VM G mX10_in (d - 1) [.int x0, .int 0, .int 1] h (.inl (some (.int z2))) h1 ∧ (z2 = 0 ∨ z2 = 1) ∧ (o = .inl (some (.int z2)) ∧ h' = h1)) : VM G mX10_isWhere d [.int x0] h o h' := by
  refine V.toM rfl rfl (le_l rfl) (cat_all rfl) ?_
  show V G mX10_isWhere d 0 [.int x0] [] h o h'
  have hdd : d - 1 + 1 ≤ d := by omega
  refine v_iload_n (pc' := 1) dX10_isWhere_0 rfl rfl ?_
  refine v_iconst (pc' := 2) (v := 0) dX10_isWhere_1 rfl kI_0 ?_
  refine v_iconst (pc' := 3) (v := 1) dX10_isWhere_2 rfl kI_1 ?_
  obtain ⟨z2, h1, k3, T⟩ := T
  refine v_callS (pc' := 6) (M1 := mX10_in) (as := [.int x0, .int 0, .int 1]) (rest := []) dX10_isWhere_3 rfl ko_X10_106 kc_X10_in kt_X10_in (by decide) hdd rfl rfl (le_l rfl) k3 ?_
  obtain ⟨q4, T⟩ := T
  exact v_zret dX10_isWhere_6 rfl q4 T
theorem eX10_whereOf {G : GG} {d : Nat} {h : Hp} {o : OU} {h' : Hp} (x0 : Int32) (T : ((¬ x0 = 0 → (o = .inl (some (.int 256)) ∧ h' = h)) ∧ (x0 = 0 → (o = .inl (some (.int 0)) ∧ h' = h)))) : VM G mX10_whereOf d [.int x0] h o h' := by
  refine V.toM rfl rfl (le_l rfl) (cat_all rfl) ?_
  show V G mX10_whereOf d 0 [.int x0] [] h o h'
  refine v_iload_n (pc' := 1) dX10_whereOf_0 rfl rfl ?_
  refine v_if_ne (tgt := 8) (pc' := 4) dX10_whereOf_1 (by decide) rfl ⟨fun c1 => ?_, fun c1 => ?_⟩
  · have T := T.1 c1
    refine v_sipush (pc' := 11) (v := 256) dX10_whereOf_8 rfl kS_256 ?_
    exact v_iret dX10_whereOf_11 rfl T
  · have T := T.2 c1
    refine v_iconst (pc' := 5) (v := 0) dX10_whereOf_4 rfl kI_0 ?_
    refine v_goto (pc' := 11) dX10_whereOf_5 (by decide) ?_
    exact v_iret dX10_whereOf_11 rfl T
theorem eX10_isBlock {G : GG} {d : Nat} {h : Hp} {o : OU} {h' : Hp} (r0 : Nat) (x1 : Int32) (hd : 1 ≤ d) (T : kH h r0 = 18 ∧ ∃ z3 h2, VM G mX10_in (d - 1) [.int x1, .int 0, .int ((h.2 r0 11) - 1)] h (.inl (some (.int z3))) h2 ∧ (z3 = 0 ∨ z3 = 1) ∧ (o = .inl (some (.int z3)) ∧ h' = h2)) : VM G mX10_isBlock d [.ref r0, .int x1] h o h' := by
  refine V.toM rfl rfl (le_l rfl) (cat_all rfl) ?_
  show V G mX10_isBlock d 0 [.ref r0, .int x1] [] h o h'
  have hdd : d - 1 + 1 ≤ d := by omega
  refine v_iload_n (pc' := 1) dX10_isBlock_0 rfl rfl ?_
  refine v_iconst (pc' := 2) (v := 0) dX10_isBlock_1 rfl kI_0 ?_
  refine v_aload_n (pc' := 3) dX10_isBlock_2 rfl rfl ?_
  obtain ⟨q1, T⟩ := T
  refine v_getI (pc' := 6) 8 11 dX10_isBlock_3 rfl (by decide) (by decide) rfl kf_X10_168 q1 ?_
  refine v_iconst (pc' := 7) (v := 1) dX10_isBlock_6 rfl kI_1 ?_
  refine v_isub (pc' := 8) dX10_isBlock_7 rfl ?_
  obtain ⟨z3, h2, k4, T⟩ := T
  refine v_callS (pc' := 11) (M1 := mX10_in) (as := [.int x1, .int 0, .int ((h.2 r0 11) - 1)]) (rest := []) dX10_isBlock_8 rfl ko_X10_106 kc_X10_in kt_X10_in (by decide) hdd rfl rfl (le_l rfl) k4 ?_
  obtain ⟨q5, T⟩ := T
  exact v_zret dX10_isBlock_11 rfl q5 T
theorem eX10_isNode {G : GG} {d : Nat} {h : Hp} {o : OU} {h' : Hp} (x0 : Int32) (hd : 1 ≤ d) (T : ∃ z2 h1, VM G mX10_in (d - 1) [.int x0, .int 0, .int 11] h (.inl (some (.int z2))) h1 ∧ (z2 = 0 ∨ z2 = 1) ∧ (o = .inl (some (.int z2)) ∧ h' = h1)) : VM G mX10_isNode d [.int x0] h o h' := by
  refine V.toM rfl rfl (le_l rfl) (cat_all rfl) ?_
  show V G mX10_isNode d 0 [.int x0] [] h o h'
  have hdd : d - 1 + 1 ≤ d := by omega
  refine v_iload_n (pc' := 1) dX10_isNode_0 rfl rfl ?_
  refine v_iconst (pc' := 2) (v := 0) dX10_isNode_1 rfl kI_0 ?_
  refine v_bipush (pc' := 4) (v := 11) dX10_isNode_2 rfl kB_11 ?_
  obtain ⟨z2, h1, k3, T⟩ := T
  refine v_callS (pc' := 7) (M1 := mX10_in) (as := [.int x0, .int 0, .int 11]) (rest := []) dX10_isNode_4 rfl ko_X10_106 kc_X10_in kt_X10_in (by decide) hdd rfl rfl (le_l rfl) k3 ?_
  obtain ⟨q4, T⟩ := T
  exact v_zret dX10_isNode_7 rfl q4 T
theorem eX10_peek {G : GG} {d : Nat} {h : Hp} {o : OU} {h' : Hp} (r0 : Nat) (x1 : Int32) (x2 : Int32) (x3 : Int32) (hd : 1 ≤ d) (T : kH h r0 = 18 ∧ ∃ z3 h2, VM G mX10_isWhere (d - 1) [.int x3] (h.1, (upI h.2 r0 0 0)) (.inl (some (.int z3))) h2 ∧ ((¬ z3 = 0 → V G mX10_peek d 18 [.ref r0, .int x1, .int x2, .int x3] [.int 0, .ref r0] h2 o h') ∧ (z3 = 0 → V G mX10_peek d 18 [.ref r0, .int x1, .int x2, .int x3] [.int 1, .ref r0] h2 o h'))) : VM G mX10_peek d [.ref r0, .int x1, .int x2, .int x3] h o h' := by
  refine V.toM rfl rfl (le_l rfl) (cat_all rfl) ?_
  show V G mX10_peek d 0 [.ref r0, .int x1, .int x2, .int x3] [] h o h'
  have hdd : d - 1 + 1 ≤ d := by omega
  refine v_aload_n (pc' := 1) dX10_peek_0 rfl rfl ?_
  refine v_iconst (pc' := 2) (v := 0) dX10_peek_1 rfl kI_0 ?_
  obtain ⟨q1, T⟩ := T
  refine v_putI (pc' := 5) 8 0 dX10_peek_2 rfl (by decide) (by decide) rfl rfl kf_X10_72 q1 ?_
  refine v_aload_n (pc' := 6) dX10_peek_5 rfl rfl ?_
  refine v_iload_n (pc' := 7) dX10_peek_6 rfl rfl ?_
  obtain ⟨z3, h2, k4, T⟩ := T
  refine v_callS (pc' := 10) (M1 := mX10_isWhere) (as := [.int x3]) (rest := [.ref r0]) dX10_peek_7 rfl ko_X10_368 kc_X10_isWhere kt_X10_isWhere (by decide) hdd rfl rfl (le_l rfl) k4 ?_
  refine v_if_ne (tgt := 17) (pc' := 13) dX10_peek_10 (by decide) rfl ⟨fun c5 => ?_, fun c5 => ?_⟩
  · have T := T.1 c5
    refine v_iconst (pc' := 18) (v := 0) dX10_peek_17 rfl kI_0 ?_
    exact T
  · have T := T.2 c5
    refine v_iconst (pc' := 14) (v := 1) dX10_peek_13 rfl kI_1 ?_
    refine v_goto (pc' := 18) dX10_peek_14 (by decide) ?_
    exact T
theorem bX10_peek_18 {G : GG} {d : Nat} {h : Hp} {o : OU} {h' : Hp} (r0 : Nat) (x1 : Int32) (x2 : Int32) (x3 : Int32) (s0 : Int32) (t1 : Nat) (hd : 1 ≤ d) (T : kH h t1 = 18 ∧ ∃ z2 h1, VM G mX10_bad (d - 1) [.ref t1, .int s0, .int 1, .int 1] h (.inl (some (.int z2))) h1 ∧ ((¬ z2 = 0 → (o = .inl (some (.int 0)) ∧ h' = h1)) ∧ (z2 = 0 → kH h1 r0 = 18 ∧ ∃ z7 h6, VM G mX10_isBlock (d - 1) [.ref r0, .int x1] h1 (.inl (some (.int z7))) h6 ∧ ((z7 = 0 → kH h6 r0 = 18 ∧ ∃ z12 h11, VM G mX10_bad (d - 1) [.ref r0, .int 1, .int 2, .int 3] h6 (.inl (some (.int z12))) h11 ∧ ((z12 = 0 → kH h11 r0 = 18 ∧ ∃ z18 h17, VM G mX10_whereOf (d - 1) [.int x3] h11 (.inl (some (.int z18))) h17 ∧ kH h17 (rH h11 r0 22) = 1 ∧ vp_in ((z18 + (16 * x1)) + x2) (lH h17 (rH h11 r0 22)) ∧ (o = .inl (some (.int (h17.2 (rH h11 r0 22) ((z18 + (16 * x1)) + x2).toNatClampNeg))) ∧ h' = h17)) ∧ (¬ z12 = 0 → (o = .inl (some (.int 0)) ∧ h' = h11)))) ∧ (¬ z7 = 0 → ∃ z23 h22, VM G mX10_in (d - 1) [.int x2, .int 0, .int 15] h6 (.inl (some (.int z23))) h22 ∧ ((¬ z23 = 0 → kH h22 r0 = 18 ∧ ∃ z27 h26, VM G mX10_bad (d - 1) [.ref r0, .int 0, .int 2, .int 3] h22 (.inl (some (.int z27))) h26 ∧ ((z27 = 0 → kH h26 r0 = 18 ∧ ∃ z33 h32, VM G mX10_whereOf (d - 1) [.int x3] h26 (.inl (some (.int z33))) h32 ∧ kH h32 (rH h26 r0 22) = 1 ∧ vp_in ((z33 + (16 * x1)) + x2) (lH h32 (rH h26 r0 22)) ∧ (o = .inl (some (.int (h32.2 (rH h26 r0 22) ((z33 + (16 * x1)) + x2).toNatClampNeg))) ∧ h' = h32)) ∧ (¬ z27 = 0 → (o = .inl (some (.int 0)) ∧ h' = h26)))) ∧ (z23 = 0 → kH h22 r0 = 18 ∧ ∃ z38 h37, VM G mX10_bad (d - 1) [.ref r0, .int 1, .int 2, .int 3] h22 (.inl (some (.int z38))) h37 ∧ ((z38 = 0 → kH h37 r0 = 18 ∧ ∃ z44 h43, VM G mX10_whereOf (d - 1) [.int x3] h37 (.inl (some (.int z44))) h43 ∧ kH h43 (rH h37 r0 22) = 1 ∧ vp_in ((z44 + (16 * x1)) + x2) (lH h43 (rH h37 r0 22)) ∧ (o = .inl (some (.int (h43.2 (rH h37 r0 22) ((z44 + (16 * x1)) + x2).toNatClampNeg))) ∧ h' = h43)) ∧ (¬ z38 = 0 → (o = .inl (some (.int 0)) ∧ h' = h37)))))))))) : V G mX10_peek d 18 [.ref r0, .int x1, .int x2, .int x3] [.int s0, .ref t1] h o h' := by
  have hdd : d - 1 + 1 ≤ d := by omega
  refine v_iconst (pc' := 19) (v := 1) dX10_peek_18 rfl kI_1 ?_
  refine v_iconst (pc' := 20) (v := 1) dX10_peek_19 rfl kI_1 ?_
  obtain ⟨q4, T⟩ := T
  obtain ⟨z2, h1, k3, T⟩ := T
  refine v_callV (pc' := 23) (M1 := mX10_bad) (as := [.int s0, .int 1, .int 1]) (r := t1) (rest := []) 8 dX10_peek_20 rfl ko_X10_155 kc_X10_bad ki_X10_bad ks_X10_bad (by decide) (by decide) hdd rfl rfl (le_l rfl) q4 k3 ?_
  refine v_if_ne (tgt := 58) (pc' := 26) dX10_peek_23 (by decide) rfl ⟨fun c5 => ?_, fun c5 => ?_⟩
  · have T := T.1 c5
    refine v_iconst (pc' := 59) (v := 0) dX10_peek_58 rfl kI_0 ?_
    exact v_iret dX10_peek_59 rfl T
  · have T := T.2 c5
    refine v_aload_n (pc' := 27) dX10_peek_26 rfl rfl ?_
    refine v_aload_n (pc' := 28) dX10_peek_27 rfl rfl ?_
    refine v_iload_n (pc' := 29) dX10_peek_28 rfl rfl ?_
    obtain ⟨q9, T⟩ := T
    obtain ⟨z7, h6, k8, T⟩ := T
    refine v_callV (pc' := 32) (M1 := mX10_isBlock) (as := [.int x1]) (r := r0) (rest := [.ref r0]) 8 dX10_peek_29 rfl ko_X10_371 kc_X10_isBlock ki_X10_isBlock ks_X10_isBlock (by decide) (by decide) hdd rfl rfl (le_l rfl) q9 k8 ?_
    refine v_if_eq (tgt := 45) (pc' := 35) dX10_peek_32 (by decide) rfl ⟨fun c10 => ?_, fun c10 => ?_⟩
    · have T := T.1 c10
      refine v_iconst (pc' := 46) (v := 1) dX10_peek_45 rfl kI_1 ?_
      refine v_goto (pc' := 50) dX10_peek_46 (by decide) ?_
      refine v_iconst (pc' := 51) (v := 2) dX10_peek_50 rfl kI_2 ?_
      refine v_iconst (pc' := 52) (v := 3) dX10_peek_51 rfl kI_3 ?_
      obtain ⟨q14, T⟩ := T
      obtain ⟨z12, h11, k13, T⟩ := T
      refine v_callV (pc' := 55) (M1 := mX10_bad) (as := [.int 1, .int 2, .int 3]) (r := r0) (rest := []) 8 dX10_peek_52 rfl ko_X10_155 kc_X10_bad ki_X10_bad ks_X10_bad (by decide) (by decide) hdd rfl rfl (le_l rfl) q14 k13 ?_
      refine v_if_eq (tgt := 60) (pc' := 58) dX10_peek_55 (by decide) rfl ⟨fun c15 => ?_, fun c15 => ?_⟩
      · have T := T.1 c15
        refine v_aload_n (pc' := 61) dX10_peek_60 rfl rfl ?_
        obtain ⟨q16, T⟩ := T
        refine v_getR (pc' := 64) 8 22 dX10_peek_61 rfl (by decide) (by decide) rfl kf_X10_31 q16 ?_
        refine v_iload_n (pc' := 65) dX10_peek_64 rfl rfl ?_
        obtain ⟨z18, h17, k19, T⟩ := T
        refine v_callS (pc' := 68) (M1 := mX10_whereOf) (as := [.int x3]) (rest := [.ref (rH h11 r0 22)]) dX10_peek_65 rfl ko_X10_374 kc_X10_whereOf kt_X10_whereOf (by decide) hdd rfl rfl (le_l rfl) k19 ?_
        refine v_bipush (pc' := 70) (v := 16) dX10_peek_68 rfl kB_16 ?_
        refine v_iload_n (pc' := 71) dX10_peek_70 rfl rfl ?_
        refine v_imul (pc' := 72) dX10_peek_71 rfl ?_
        refine v_iadd (pc' := 73) dX10_peek_72 rfl ?_
        refine v_iload_n (pc' := 74) dX10_peek_73 rfl rfl ?_
        refine v_iadd (pc' := 75) dX10_peek_74 rfl ?_
        obtain ⟨q20, T⟩ := T
        obtain ⟨q21, T⟩ := T
        refine v_iald (pc' := 76) dX10_peek_75 rfl rfl q20 q21 ?_
        exact v_iret dX10_peek_76 rfl T
      · have T := T.2 c15
        refine v_iconst (pc' := 59) (v := 0) dX10_peek_58 rfl kI_0 ?_
        exact v_iret dX10_peek_59 rfl T
    · have T := T.2 c10
      refine v_iload_n (pc' := 36) dX10_peek_35 rfl rfl ?_
      refine v_iconst (pc' := 37) (v := 0) dX10_peek_36 rfl kI_0 ?_
      refine v_bipush (pc' := 39) (v := 15) dX10_peek_37 rfl kB_15 ?_
      obtain ⟨z23, h22, k24, T⟩ := T
      refine v_callS (pc' := 42) (M1 := mX10_in) (as := [.int x2, .int 0, .int 15]) (rest := [.ref r0]) dX10_peek_39 rfl ko_X10_106 kc_X10_in kt_X10_in (by decide) hdd rfl rfl (le_l rfl) k24 ?_
      refine v_if_ne (tgt := 49) (pc' := 45) dX10_peek_42 (by decide) rfl ⟨fun c25 => ?_, fun c25 => ?_⟩
      · have T := T.1 c25
        refine v_iconst (pc' := 50) (v := 0) dX10_peek_49 rfl kI_0 ?_
        refine v_iconst (pc' := 51) (v := 2) dX10_peek_50 rfl kI_2 ?_
        refine v_iconst (pc' := 52) (v := 3) dX10_peek_51 rfl kI_3 ?_
        obtain ⟨q29, T⟩ := T
        obtain ⟨z27, h26, k28, T⟩ := T
        refine v_callV (pc' := 55) (M1 := mX10_bad) (as := [.int 0, .int 2, .int 3]) (r := r0) (rest := []) 8 dX10_peek_52 rfl ko_X10_155 kc_X10_bad ki_X10_bad ks_X10_bad (by decide) (by decide) hdd rfl rfl (le_l rfl) q29 k28 ?_
        refine v_if_eq (tgt := 60) (pc' := 58) dX10_peek_55 (by decide) rfl ⟨fun c30 => ?_, fun c30 => ?_⟩
        · have T := T.1 c30
          refine v_aload_n (pc' := 61) dX10_peek_60 rfl rfl ?_
          obtain ⟨q31, T⟩ := T
          refine v_getR (pc' := 64) 8 22 dX10_peek_61 rfl (by decide) (by decide) rfl kf_X10_31 q31 ?_
          refine v_iload_n (pc' := 65) dX10_peek_64 rfl rfl ?_
          obtain ⟨z33, h32, k34, T⟩ := T
          refine v_callS (pc' := 68) (M1 := mX10_whereOf) (as := [.int x3]) (rest := [.ref (rH h26 r0 22)]) dX10_peek_65 rfl ko_X10_374 kc_X10_whereOf kt_X10_whereOf (by decide) hdd rfl rfl (le_l rfl) k34 ?_
          refine v_bipush (pc' := 70) (v := 16) dX10_peek_68 rfl kB_16 ?_
          refine v_iload_n (pc' := 71) dX10_peek_70 rfl rfl ?_
          refine v_imul (pc' := 72) dX10_peek_71 rfl ?_
          refine v_iadd (pc' := 73) dX10_peek_72 rfl ?_
          refine v_iload_n (pc' := 74) dX10_peek_73 rfl rfl ?_
          refine v_iadd (pc' := 75) dX10_peek_74 rfl ?_
          obtain ⟨q35, T⟩ := T
          obtain ⟨q36, T⟩ := T
          refine v_iald (pc' := 76) dX10_peek_75 rfl rfl q35 q36 ?_
          exact v_iret dX10_peek_76 rfl T
        · have T := T.2 c30
          refine v_iconst (pc' := 59) (v := 0) dX10_peek_58 rfl kI_0 ?_
          exact v_iret dX10_peek_59 rfl T
      · have T := T.2 c25
        refine v_iconst (pc' := 46) (v := 1) dX10_peek_45 rfl kI_1 ?_
        refine v_goto (pc' := 50) dX10_peek_46 (by decide) ?_
        refine v_iconst (pc' := 51) (v := 2) dX10_peek_50 rfl kI_2 ?_
        refine v_iconst (pc' := 52) (v := 3) dX10_peek_51 rfl kI_3 ?_
        obtain ⟨q40, T⟩ := T
        obtain ⟨z38, h37, k39, T⟩ := T
        refine v_callV (pc' := 55) (M1 := mX10_bad) (as := [.int 1, .int 2, .int 3]) (r := r0) (rest := []) 8 dX10_peek_52 rfl ko_X10_155 kc_X10_bad ki_X10_bad ks_X10_bad (by decide) (by decide) hdd rfl rfl (le_l rfl) q40 k39 ?_
        refine v_if_eq (tgt := 60) (pc' := 58) dX10_peek_55 (by decide) rfl ⟨fun c41 => ?_, fun c41 => ?_⟩
        · have T := T.1 c41
          refine v_aload_n (pc' := 61) dX10_peek_60 rfl rfl ?_
          obtain ⟨q42, T⟩ := T
          refine v_getR (pc' := 64) 8 22 dX10_peek_61 rfl (by decide) (by decide) rfl kf_X10_31 q42 ?_
          refine v_iload_n (pc' := 65) dX10_peek_64 rfl rfl ?_
          obtain ⟨z44, h43, k45, T⟩ := T
          refine v_callS (pc' := 68) (M1 := mX10_whereOf) (as := [.int x3]) (rest := [.ref (rH h37 r0 22)]) dX10_peek_65 rfl ko_X10_374 kc_X10_whereOf kt_X10_whereOf (by decide) hdd rfl rfl (le_l rfl) k45 ?_
          refine v_bipush (pc' := 70) (v := 16) dX10_peek_68 rfl kB_16 ?_
          refine v_iload_n (pc' := 71) dX10_peek_70 rfl rfl ?_
          refine v_imul (pc' := 72) dX10_peek_71 rfl ?_
          refine v_iadd (pc' := 73) dX10_peek_72 rfl ?_
          refine v_iload_n (pc' := 74) dX10_peek_73 rfl rfl ?_
          refine v_iadd (pc' := 75) dX10_peek_74 rfl ?_
          obtain ⟨q46, T⟩ := T
          obtain ⟨q47, T⟩ := T
          refine v_iald (pc' := 76) dX10_peek_75 rfl rfl q46 q47 ?_
          exact v_iret dX10_peek_76 rfl T
        · have T := T.2 c41
          refine v_iconst (pc' := 59) (v := 0) dX10_peek_58 rfl kI_0 ?_
          exact v_iret dX10_peek_59 rfl T
theorem eX10_node {G : GG} {d : Nat} {h : Hp} {o : OU} {h' : Hp} (r0 : Nat) (x1 : Int32) (x2 : Int32) (x3 : Int32) (hd : 1 ≤ d) (T : kH h r0 = 18 ∧ ∃ z3 h2, VM G mX10_isNode (d - 1) [.int x1] (h.1, (upI h.2 r0 0 0)) (.inl (some (.int z3))) h2 ∧ ((¬ z3 = 0 → V G mX10_node d 18 [.ref r0, .int x1, .int x2, .int x3] [.int 0, .ref r0] h2 o h') ∧ (z3 = 0 → V G mX10_node d 18 [.ref r0, .int x1, .int x2, .int x3] [.int 1, .ref r0] h2 o h'))) : VM G mX10_node d [.ref r0, .int x1, .int x2, .int x3] h o h' := by
  refine V.toM rfl rfl (le_l rfl) (cat_all rfl) ?_
  show V G mX10_node d 0 [.ref r0, .int x1, .int x2, .int x3] [] h o h'
  have hdd : d - 1 + 1 ≤ d := by omega
  refine v_aload_n (pc' := 1) dX10_node_0 rfl rfl ?_
  refine v_iconst (pc' := 2) (v := 0) dX10_node_1 rfl kI_0 ?_
  obtain ⟨q1, T⟩ := T
  refine v_putI (pc' := 5) 8 0 dX10_node_2 rfl (by decide) (by decide) rfl rfl kf_X10_72 q1 ?_
  refine v_aload_n (pc' := 6) dX10_node_5 rfl rfl ?_
  refine v_iload_n (pc' := 7) dX10_node_6 rfl rfl ?_
  obtain ⟨z3, h2, k4, T⟩ := T
  refine v_callS (pc' := 10) (M1 := mX10_isNode) (as := [.int x1]) (rest := [.ref r0]) dX10_node_7 rfl ko_X10_377 kc_X10_isNode kt_X10_isNode (by decide) hdd rfl rfl (le_l rfl) k4 ?_
  refine v_if_ne (tgt := 17) (pc' := 13) dX10_node_10 (by decide) rfl ⟨fun c5 => ?_, fun c5 => ?_⟩
  · have T := T.1 c5
    refine v_iconst (pc' := 18) (v := 0) dX10_node_17 rfl kI_0 ?_
    exact T
  · have T := T.2 c5
    refine v_iconst (pc' := 14) (v := 1) dX10_node_13 rfl kI_1 ?_
    refine v_goto (pc' := 18) dX10_node_14 (by decide) ?_
    exact T
theorem bX10_node_18 {G : GG} {d : Nat} {h : Hp} {o : OU} {h' : Hp} (r0 : Nat) (x1 : Int32) (x2 : Int32) (x3 : Int32) (s0 : Int32) (t1 : Nat) (hd : 1 ≤ d) (T : kH h t1 = 18 ∧ ∃ z2 h1, VM G mX10_bad (d - 1) [.ref t1, .int s0, .int 1, .int 0] h (.inl (some (.int z2))) h1 ∧ ((¬ z2 = 0 → (o = .inl (some (.int 0)) ∧ h' = h1)) ∧ (z2 = 0 → ∃ z7 h6, VM G mX10_in (d - 1) [.int x2, .int 0, .int 4] h1 (.inl (some (.int z7))) h6 ∧ ((z7 = 0 → V G mX10_node d 48 [.ref r0, .int x1, .int x2, .int x3] [.int 1, .ref r0] h6 o h') ∧ (¬ z7 = 0 → ∃ z11 h10, VM G mX10_isWhere (d - 1) [.int x3] h6 (.inl (some (.int z11))) h10 ∧ ((¬ z11 = 0 → V G mX10_node d 48 [.ref r0, .int x1, .int x2, .int x3] [.int 0, .ref r0] h10 o h') ∧ (z11 = 0 → V G mX10_node d 48 [.ref r0, .int x1, .int x2, .int x3] [.int 1, .ref r0] h10 o h'))))))) : V G mX10_node d 18 [.ref r0, .int x1, .int x2, .int x3] [.int s0, .ref t1] h o h' := by
  have hdd : d - 1 + 1 ≤ d := by omega
  refine v_iconst (pc' := 19) (v := 1) dX10_node_18 rfl kI_1 ?_
  refine v_iconst (pc' := 20) (v := 0) dX10_node_19 rfl kI_0 ?_
  obtain ⟨q4, T⟩ := T
  obtain ⟨z2, h1, k3, T⟩ := T
  refine v_callV (pc' := 23) (M1 := mX10_bad) (as := [.int s0, .int 1, .int 0]) (r := t1) (rest := []) 8 dX10_node_20 rfl ko_X10_155 kc_X10_bad ki_X10_bad ks_X10_bad (by decide) (by decide) hdd rfl rfl (le_l rfl) q4 k3 ?_
  refine v_if_ne (tgt := 56) (pc' := 26) dX10_node_23 (by decide) rfl ⟨fun c5 => ?_, fun c5 => ?_⟩
  · have T := T.1 c5
    refine v_iconst (pc' := 57) (v := 0) dX10_node_56 rfl kI_0 ?_
    exact v_iret dX10_node_57 rfl T
  · have T := T.2 c5
    refine v_aload_n (pc' := 27) dX10_node_26 rfl rfl ?_
    refine v_iload_n (pc' := 28) dX10_node_27 rfl rfl ?_
    refine v_iconst (pc' := 29) (v := 0) dX10_node_28 rfl kI_0 ?_
    refine v_iconst (pc' := 30) (v := 4) dX10_node_29 rfl kI_4 ?_
    obtain ⟨z7, h6, k8, T⟩ := T
    refine v_callS (pc' := 33) (M1 := mX10_in) (as := [.int x2, .int 0, .int 4]) (rest := [.ref r0]) dX10_node_30 rfl ko_X10_106 kc_X10_in kt_X10_in (by decide) hdd rfl rfl (le_l rfl) k8 ?_
    refine v_if_eq (tgt := 43) (pc' := 36) dX10_node_33 (by decide) rfl ⟨fun c9 => ?_, fun c9 => ?_⟩
    · have T := T.1 c9
      refine v_iconst (pc' := 44) (v := 1) dX10_node_43 rfl kI_1 ?_
      refine v_goto (pc' := 48) dX10_node_44 (by decide) ?_
      exact T
    · have T := T.2 c9
      refine v_iload_n (pc' := 37) dX10_node_36 rfl rfl ?_
      obtain ⟨z11, h10, k12, T⟩ := T
      refine v_callS (pc' := 40) (M1 := mX10_isWhere) (as := [.int x3]) (rest := [.ref r0]) dX10_node_37 rfl ko_X10_368 kc_X10_isWhere kt_X10_isWhere (by decide) hdd rfl rfl (le_l rfl) k12 ?_
      refine v_if_ne (tgt := 47) (pc' := 43) dX10_node_40 (by decide) rfl ⟨fun c13 => ?_, fun c13 => ?_⟩
      · have T := T.1 c13
        refine v_iconst (pc' := 48) (v := 0) dX10_node_47 rfl kI_0 ?_
        exact T
      · have T := T.2 c13
        refine v_iconst (pc' := 44) (v := 1) dX10_node_43 rfl kI_1 ?_
        refine v_goto (pc' := 48) dX10_node_44 (by decide) ?_
        exact T
theorem bX10_node_48 {G : GG} {d : Nat} {h : Hp} {o : OU} {h' : Hp} (r0 : Nat) (x1 : Int32) (x2 : Int32) (x3 : Int32) (s0 : Int32) (t1 : Nat) (hd : 1 ≤ d) (T : kH h t1 = 18 ∧ ∃ z2 h1, VM G mX10_bad (d - 1) [.ref t1, .int s0, .int 2, .int 1] h (.inl (some (.int z2))) h1 ∧ ((z2 = 0 → ((4 ≤ x2 → kH h1 r0 = 18 ∧ ∃ z9 h8, VM G mX10_whereOf (d - 1) [.int x3] h1 (.inl (some (.int z9))) h8 ∧ ∃ z12 h11, VM G mX10_reached (d - 1) [.ref (rH h1 r0 22), .int z9] h8 (.inl (some (.int z12))) h11 ∧ ∃ z15 h14, VM G mX10_has (d - 1) [.int z12, .int x1] h11 (.inl (some (.int z15))) h14 ∧ ((z15 = 0 → (o = .inl (some (.int 0)) ∧ h' = h14)) ∧ (¬ z15 = 0 → (o = .inl (some (.int 1)) ∧ h' = h14)))) ∧ (¬ 4 ≤ x2 → kH h1 r0 = 18 ∧ ∃ z20 h19, VM G mX10_whereOf (d - 1) [.int x3] h1 (.inl (some (.int z20))) h19 ∧ ∃ z23 h22, VM G mX10_fieldOf (d - 1) [.ref (rH h1 r0 22), .int z20, .int x1, .int x2] h19 (.inl (some (.int z23))) h22 ∧ (o = .inl (some (.int z23)) ∧ h' = h22)))) ∧ (¬ z2 = 0 → (o = .inl (some (.int 0)) ∧ h' = h1)))) : V G mX10_node d 48 [.ref r0, .int x1, .int x2, .int x3] [.int s0, .ref t1] h o h' := by
  have hdd : d - 1 + 1 ≤ d := by omega
  refine v_iconst (pc' := 49) (v := 2) dX10_node_48 rfl kI_2 ?_
  refine v_iconst (pc' := 50) (v := 1) dX10_node_49 rfl kI_1 ?_
  obtain ⟨q4, T⟩ := T
  obtain ⟨z2, h1, k3, T⟩ := T
  refine v_callV (pc' := 53) (M1 := mX10_bad) (as := [.int s0, .int 2, .int 1]) (r := t1) (rest := []) 8 dX10_node_50 rfl ko_X10_155 kc_X10_bad ki_X10_bad ks_X10_bad (by decide) (by decide) hdd rfl rfl (le_l rfl) q4 k3 ?_
  refine v_if_eq (tgt := 58) (pc' := 56) dX10_node_53 (by decide) rfl ⟨fun c5 => ?_, fun c5 => ?_⟩
  · have T := T.1 c5
    refine v_iload_n (pc' := 59) dX10_node_58 rfl rfl ?_
    refine v_iconst (pc' := 60) (v := 4) dX10_node_59 rfl kI_4 ?_
    refine v_icmp_ge (tgt := 79) (pc' := 63) dX10_node_60 (by decide) rfl ⟨fun c6 => ?_, fun c6 => ?_⟩
    · have T := T.1 c6
      refine v_aload_n (pc' := 80) dX10_node_79 rfl rfl ?_
      obtain ⟨q7, T⟩ := T
      refine v_getR (pc' := 83) 8 22 dX10_node_80 rfl (by decide) (by decide) rfl kf_X10_31 q7 ?_
      refine v_iload_n (pc' := 84) dX10_node_83 rfl rfl ?_
      obtain ⟨z9, h8, k10, T⟩ := T
      refine v_callS (pc' := 87) (M1 := mX10_whereOf) (as := [.int x3]) (rest := [.ref (rH h1 r0 22)]) dX10_node_84 rfl ko_X10_374 kc_X10_whereOf kt_X10_whereOf (by decide) hdd rfl rfl (le_l rfl) k10 ?_
      obtain ⟨z12, h11, k13, T⟩ := T
      refine v_callS (pc' := 90) (M1 := mX10_reached) (as := [.ref (rH h1 r0 22), .int z9]) (rest := []) dX10_node_87 rfl ko_X10_276 kc_X10_reached kt_X10_reached (by decide) hdd rfl rfl (le_l rfl) k13 ?_
      refine v_iload_n (pc' := 91) dX10_node_90 rfl rfl ?_
      obtain ⟨z15, h14, k16, T⟩ := T
      refine v_callS (pc' := 94) (M1 := mX10_has) (as := [.int z12, .int x1]) (rest := []) dX10_node_91 rfl ko_X10_193 kc_X10_has kt_X10_has (by decide) hdd rfl rfl (le_l rfl) k16 ?_
      refine v_if_eq (tgt := 101) (pc' := 97) dX10_node_94 (by decide) rfl ⟨fun c17 => ?_, fun c17 => ?_⟩
      · have T := T.1 c17
        refine v_iconst (pc' := 102) (v := 0) dX10_node_101 rfl kI_0 ?_
        exact v_iret dX10_node_102 rfl T
      · have T := T.2 c17
        refine v_iconst (pc' := 98) (v := 1) dX10_node_97 rfl kI_1 ?_
        refine v_goto (pc' := 102) dX10_node_98 (by decide) ?_
        exact v_iret dX10_node_102 rfl T
    · have T := T.2 c6
      refine v_aload_n (pc' := 64) dX10_node_63 rfl rfl ?_
      obtain ⟨q18, T⟩ := T
      refine v_getR (pc' := 67) 8 22 dX10_node_64 rfl (by decide) (by decide) rfl kf_X10_31 q18 ?_
      refine v_iload_n (pc' := 68) dX10_node_67 rfl rfl ?_
      obtain ⟨z20, h19, k21, T⟩ := T
      refine v_callS (pc' := 71) (M1 := mX10_whereOf) (as := [.int x3]) (rest := [.ref (rH h1 r0 22)]) dX10_node_68 rfl ko_X10_374 kc_X10_whereOf kt_X10_whereOf (by decide) hdd rfl rfl (le_l rfl) k21 ?_
      refine v_iload_n (pc' := 72) dX10_node_71 rfl rfl ?_
      refine v_iload_n (pc' := 73) dX10_node_72 rfl rfl ?_
      obtain ⟨z23, h22, k24, T⟩ := T
      refine v_callS (pc' := 76) (M1 := mX10_fieldOf) (as := [.ref (rH h1 r0 22), .int z20, .int x1, .int x2]) (rest := []) dX10_node_73 rfl ko_X10_233 kc_X10_fieldOf kt_X10_fieldOf (by decide) hdd rfl rfl (le_l rfl) k24 ?_
      refine v_goto (pc' := 102) dX10_node_76 (by decide) ?_
      exact v_iret dX10_node_102 rfl T
  · have T := T.2 c5
    refine v_iconst (pc' := 57) (v := 0) dX10_node_56 rfl kI_0 ?_
    exact v_iret dX10_node_57 rfl T
theorem eX10_find {G : GG} {d : Nat} {h : Hp} {o : OU} {h' : Hp} (r0 : Nat) (x1 : Int32) (x2 : Int32) (x3 : Int32) (hd : 1 ≤ d) (T : kH h r0 = 18 ∧ ∃ z3 h2, VM G mX10_isNode (d - 1) [.int x1] (h.1, (upI h.2 r0 0 0)) (.inl (some (.int z3))) h2 ∧ ((¬ z3 = 0 → V G mX10_find d 18 [.ref r0, .int x1, .int x2, .int x3, uV] [.int 0, .ref r0] h2 o h') ∧ (z3 = 0 → V G mX10_find d 18 [.ref r0, .int x1, .int x2, .int x3, uV] [.int 1, .ref r0] h2 o h'))) : VM G mX10_find d [.ref r0, .int x1, .int x2, .int x3] h o h' := by
  refine V.toM rfl rfl (le_l rfl) (cat_all rfl) ?_
  show V G mX10_find d 0 [.ref r0, .int x1, .int x2, .int x3, uV] [] h o h'
  have hdd : d - 1 + 1 ≤ d := by omega
  refine v_aload_n (pc' := 1) dX10_find_0 rfl rfl ?_
  refine v_iconst (pc' := 2) (v := 0) dX10_find_1 rfl kI_0 ?_
  obtain ⟨q1, T⟩ := T
  refine v_putI (pc' := 5) 8 0 dX10_find_2 rfl (by decide) (by decide) rfl rfl kf_X10_72 q1 ?_
  refine v_aload_n (pc' := 6) dX10_find_5 rfl rfl ?_
  refine v_iload_n (pc' := 7) dX10_find_6 rfl rfl ?_
  obtain ⟨z3, h2, k4, T⟩ := T
  refine v_callS (pc' := 10) (M1 := mX10_isNode) (as := [.int x1]) (rest := [.ref r0]) dX10_find_7 rfl ko_X10_377 kc_X10_isNode kt_X10_isNode (by decide) hdd rfl rfl (le_l rfl) k4 ?_
  refine v_if_ne (tgt := 17) (pc' := 13) dX10_find_10 (by decide) rfl ⟨fun c5 => ?_, fun c5 => ?_⟩
  · have T := T.1 c5
    refine v_iconst (pc' := 18) (v := 0) dX10_find_17 rfl kI_0 ?_
    exact T
  · have T := T.2 c5
    refine v_iconst (pc' := 14) (v := 1) dX10_find_13 rfl kI_1 ?_
    refine v_goto (pc' := 18) dX10_find_14 (by decide) ?_
    exact T
theorem bX10_find_18 {G : GG} {d : Nat} {h : Hp} {o : OU} {h' : Hp} (r0 : Nat) (x1 : Int32) (x2 : Int32) (x3 : Int32) (s0 : Int32) (t1 : Nat) (hd : 1 ≤ d) (T : kH h t1 = 18 ∧ ∃ z2 h1, VM G mX10_bad (d - 1) [.ref t1, .int s0, .int 1, .int 0] h (.inl (some (.int z2))) h1 ∧ ((¬ z2 = 0 → (o = .inl (some (.int 0)) ∧ h' = h1)) ∧ (z2 = 0 → ∃ z7 h6, VM G mX10_in (d - 1) [.int x2, .int 1, .int 99] h1 (.inl (some (.int z7))) h6 ∧ ((z7 = 0 → V G mX10_find d 49 [.ref r0, .int x1, .int x2, .int x3, uV] [.int 1, .ref r0] h6 o h') ∧ (¬ z7 = 0 → ∃ z11 h10, VM G mX10_isWhere (d - 1) [.int x3] h6 (.inl (some (.int z11))) h10 ∧ ((¬ z11 = 0 → V G mX10_find d 49 [.ref r0, .int x1, .int x2, .int x3, uV] [.int 0, .ref r0] h10 o h') ∧ (z11 = 0 → V G mX10_find d 49 [.ref r0, .int x1, .int x2, .int x3, uV] [.int 1, .ref r0] h10 o h'))))))) : V G mX10_find d 18 [.ref r0, .int x1, .int x2, .int x3, uV] [.int s0, .ref t1] h o h' := by
  have hdd : d - 1 + 1 ≤ d := by omega
  refine v_iconst (pc' := 19) (v := 1) dX10_find_18 rfl kI_1 ?_
  refine v_iconst (pc' := 20) (v := 0) dX10_find_19 rfl kI_0 ?_
  obtain ⟨q4, T⟩ := T
  obtain ⟨z2, h1, k3, T⟩ := T
  refine v_callV (pc' := 23) (M1 := mX10_bad) (as := [.int s0, .int 1, .int 0]) (r := t1) (rest := []) 8 dX10_find_20 rfl ko_X10_155 kc_X10_bad ki_X10_bad ks_X10_bad (by decide) (by decide) hdd rfl rfl (le_l rfl) q4 k3 ?_
  refine v_if_ne (tgt := 57) (pc' := 26) dX10_find_23 (by decide) rfl ⟨fun c5 => ?_, fun c5 => ?_⟩
  · have T := T.1 c5
    refine v_iconst (pc' := 58) (v := 0) dX10_find_57 rfl kI_0 ?_
    exact v_iret dX10_find_58 rfl T
  · have T := T.2 c5
    refine v_aload_n (pc' := 27) dX10_find_26 rfl rfl ?_
    refine v_iload_n (pc' := 28) dX10_find_27 rfl rfl ?_
    refine v_iconst (pc' := 29) (v := 1) dX10_find_28 rfl kI_1 ?_
    refine v_bipush (pc' := 31) (v := 99) dX10_find_29 rfl kB_99 ?_
    obtain ⟨z7, h6, k8, T⟩ := T
    refine v_callS (pc' := 34) (M1 := mX10_in) (as := [.int x2, .int 1, .int 99]) (rest := [.ref r0]) dX10_find_31 rfl ko_X10_106 kc_X10_in kt_X10_in (by decide) hdd rfl rfl (le_l rfl) k8 ?_
    refine v_if_eq (tgt := 44) (pc' := 37) dX10_find_34 (by decide) rfl ⟨fun c9 => ?_, fun c9 => ?_⟩
    · have T := T.1 c9
      refine v_iconst (pc' := 45) (v := 1) dX10_find_44 rfl kI_1 ?_
      refine v_goto (pc' := 49) dX10_find_45 (by decide) ?_
      exact T
    · have T := T.2 c9
      refine v_iload_n (pc' := 38) dX10_find_37 rfl rfl ?_
      obtain ⟨z11, h10, k12, T⟩ := T
      refine v_callS (pc' := 41) (M1 := mX10_isWhere) (as := [.int x3]) (rest := [.ref r0]) dX10_find_38 rfl ko_X10_368 kc_X10_isWhere kt_X10_isWhere (by decide) hdd rfl rfl (le_l rfl) k12 ?_
      refine v_if_ne (tgt := 48) (pc' := 44) dX10_find_41 (by decide) rfl ⟨fun c13 => ?_, fun c13 => ?_⟩
      · have T := T.1 c13
        refine v_iconst (pc' := 49) (v := 0) dX10_find_48 rfl kI_0 ?_
        exact T
      · have T := T.2 c13
        refine v_iconst (pc' := 45) (v := 1) dX10_find_44 rfl kI_1 ?_
        refine v_goto (pc' := 49) dX10_find_45 (by decide) ?_
        exact T
theorem bX10_find_49 {G : GG} {d : Nat} {h : Hp} {o : OU} {h' : Hp} (r0 : Nat) (x1 : Int32) (x2 : Int32) (x3 : Int32) (s0 : Int32) (t1 : Nat) (hd : 1 ≤ d) (T : kH h t1 = 18 ∧ ∃ z2 h1, VM G mX10_bad (d - 1) [.ref t1, .int s0, .int 2, .int 1] h (.inl (some (.int z2))) h1 ∧ ((z2 = 0 → ∃ z7 h6, VM G mX10_whereOf (d - 1) [.int x3] h1 (.inl (some (.int z7))) h6 ∧ kH h6 r0 = 18 ∧ ∃ z11 h10, VM G mX10_isKind (d - 1) [.ref (rH h6 r0 22), .int z7, .int x1, .int 2] h6 (.inl (some (.int z11))) h10 ∧ ((z11 = 0 → (o = .inl (some (.int (-1))) ∧ h' = h10)) ∧ (¬ z11 = 0 → kH h10 r0 = 18 ∧ ∃ z16 h15, VM G mX10_entry (d - 1) [.ref (rH h10 r0 22), .int z7, .int x1, .int x2] h10 (.inl (some (.int z16))) h15 ∧ ((¬ z16 = (-1) → kH h15 r0 = 18 ∧ ∃ z21 h20, VM G mX10_entry (d - 1) [.ref (rH h15 r0 22), .int z7, .int x1, .int x2] h15 (.inl (some (.int z21))) h20 ∧ kH h20 (rH h15 r0 22) = 1 ∧ vp_in ((z7 + z21) + 1) (lH h20 (rH h15 r0 22)) ∧ (o = .inl (some (.int (h20.2 (rH h15 r0 22) ((z7 + z21) + 1).toNatClampNeg))) ∧ h' = h20)) ∧ (z16 = (-1) → (o = .inl (some (.int (-1))) ∧ h' = h15)))))) ∧ (¬ z2 = 0 → (o = .inl (some (.int 0)) ∧ h' = h1)))) : V G mX10_find d 49 [.ref r0, .int x1, .int x2, .int x3, uV] [.int s0, .ref t1] h o h' := by
  have hdd : d - 1 + 1 ≤ d := by omega
  refine v_iconst (pc' := 50) (v := 2) dX10_find_49 rfl kI_2 ?_
  refine v_iconst (pc' := 51) (v := 1) dX10_find_50 rfl kI_1 ?_
  obtain ⟨q4, T⟩ := T
  obtain ⟨z2, h1, k3, T⟩ := T
  refine v_callV (pc' := 54) (M1 := mX10_bad) (as := [.int s0, .int 2, .int 1]) (r := t1) (rest := []) 8 dX10_find_51 rfl ko_X10_155 kc_X10_bad ki_X10_bad ks_X10_bad (by decide) (by decide) hdd rfl rfl (le_l rfl) q4 k3 ?_
  refine v_if_eq (tgt := 59) (pc' := 57) dX10_find_54 (by decide) rfl ⟨fun c5 => ?_, fun c5 => ?_⟩
  · have T := T.1 c5
    refine v_iload_n (pc' := 60) dX10_find_59 rfl rfl ?_
    obtain ⟨z7, h6, k8, T⟩ := T
    refine v_callS (pc' := 63) (M1 := mX10_whereOf) (as := [.int x3]) (rest := []) dX10_find_60 rfl ko_X10_374 kc_X10_whereOf kt_X10_whereOf (by decide) hdd rfl rfl (le_l rfl) k8 ?_
    refine v_istore (pc' := 65) (loc' := [.ref r0, .int x1, .int x2, .int x3, .int z7]) dX10_find_63 rfl (lt_l rfl) rfl ?_
    refine v_aload_n (pc' := 66) dX10_find_65 rfl rfl ?_
    obtain ⟨q9, T⟩ := T
    refine v_getR (pc' := 69) 8 22 dX10_find_66 rfl (by decide) (by decide) rfl kf_X10_31 q9 ?_
    refine v_iload (pc' := 71) dX10_find_69 rfl rfl ?_
    refine v_iload_n (pc' := 72) dX10_find_71 rfl rfl ?_
    refine v_iconst (pc' := 73) (v := 2) dX10_find_72 rfl kI_2 ?_
    obtain ⟨z11, h10, k12, T⟩ := T
    refine v_callS (pc' := 76) (M1 := mX10_isKind) (as := [.ref (rH h6 r0 22), .int z7, .int x1, .int 2]) (rest := []) dX10_find_73 rfl ko_X10_273 kc_X10_isKind kt_X10_isKind (by decide) hdd rfl rfl (le_l rfl) k12 ?_
    refine v_if_eq (tgt := 94) (pc' := 79) dX10_find_76 (by decide) rfl ⟨fun c13 => ?_, fun c13 => ?_⟩
    · have T := T.1 c13
      refine v_iconst (pc' := 95) (v := (-1)) dX10_find_94 rfl kI_m1 ?_
      exact v_iret dX10_find_95 rfl T
    · have T := T.2 c13
      refine v_aload_n (pc' := 80) dX10_find_79 rfl rfl ?_
      obtain ⟨q14, T⟩ := T
      refine v_getR (pc' := 83) 8 22 dX10_find_80 rfl (by decide) (by decide) rfl kf_X10_31 q14 ?_
      refine v_iload (pc' := 85) dX10_find_83 rfl rfl ?_
      refine v_iload_n (pc' := 86) dX10_find_85 rfl rfl ?_
      refine v_iload_n (pc' := 87) dX10_find_86 rfl rfl ?_
      obtain ⟨z16, h15, k17, T⟩ := T
      refine v_callS (pc' := 90) (M1 := mX10_entry) (as := [.ref (rH h10 r0 22), .int z7, .int x1, .int x2]) (rest := []) dX10_find_87 rfl ko_X10_279 kc_X10_entry kt_X10_entry (by decide) hdd rfl rfl (le_l rfl) k17 ?_
      refine v_iconst (pc' := 91) (v := (-1)) dX10_find_90 rfl kI_m1 ?_
      refine v_icmp_ne (tgt := 96) (pc' := 94) dX10_find_91 (by decide) rfl ⟨fun c18 => ?_, fun c18 => ?_⟩
      · have T := T.1 c18
        refine v_aload_n (pc' := 97) dX10_find_96 rfl rfl ?_
        obtain ⟨q19, T⟩ := T
        refine v_getR (pc' := 100) 8 22 dX10_find_97 rfl (by decide) (by decide) rfl kf_X10_31 q19 ?_
        refine v_iload (pc' := 102) dX10_find_100 rfl rfl ?_
        refine v_aload_n (pc' := 103) dX10_find_102 rfl rfl ?_
        refine v_getR (pc' := 106) 8 22 dX10_find_103 rfl (by decide) (by decide) rfl kf_X10_31 q19 ?_
        refine v_iload (pc' := 108) dX10_find_106 rfl rfl ?_
        refine v_iload_n (pc' := 109) dX10_find_108 rfl rfl ?_
        refine v_iload_n (pc' := 110) dX10_find_109 rfl rfl ?_
        obtain ⟨z21, h20, k22, T⟩ := T
        refine v_callS (pc' := 113) (M1 := mX10_entry) (as := [.ref (rH h15 r0 22), .int z7, .int x1, .int x2]) (rest := [.int z7, .ref (rH h15 r0 22)]) dX10_find_110 rfl ko_X10_279 kc_X10_entry kt_X10_entry (by decide) hdd rfl rfl (le_l rfl) k22 ?_
        refine v_iadd (pc' := 114) dX10_find_113 rfl ?_
        refine v_iconst (pc' := 115) (v := 1) dX10_find_114 rfl kI_1 ?_
        refine v_iadd (pc' := 116) dX10_find_115 rfl ?_
        obtain ⟨q23, T⟩ := T
        obtain ⟨q24, T⟩ := T
        refine v_iald (pc' := 117) dX10_find_116 rfl rfl q23 q24 ?_
        exact v_iret dX10_find_117 rfl T
      · have T := T.2 c18
        refine v_iconst (pc' := 95) (v := (-1)) dX10_find_94 rfl kI_m1 ?_
        exact v_iret dX10_find_95 rfl T
  · have T := T.2 c5
    refine v_iconst (pc' := 58) (v := 0) dX10_find_57 rfl kI_0 ?_
    exact v_iret dX10_find_58 rfl T
theorem eX10_used {G : GG} {d : Nat} {h : Hp} {o : OU} {h' : Hp} (r0 : Nat) (x1 : Int32) (hd : 1 ≤ d) (T : kH h r0 = 18 ∧ ∃ z3 h2, VM G mX10_isWhere (d - 1) [.int x1] (h.1, (upI h.2 r0 0 0)) (.inl (some (.int z3))) h2 ∧ ((¬ z3 = 0 → kH h2 r0 = 18 ∧ ∃ z7 h6, VM G mX10_bad (d - 1) [.ref r0, .int 0, .int 1, .int 1] h2 (.inl (some (.int z7))) h6 ∧ ((z7 = 0 → V G mX10_used d 32 [.ref r0, .int x1, .int 0, .int 0] [] h6 o h') ∧ (¬ z7 = 0 → (o = .inl (some (.int 0)) ∧ h' = h6)))) ∧ (z3 = 0 → kH h2 r0 = 18 ∧ ∃ z12 h11, VM G mX10_bad (d - 1) [.ref r0, .int 1, .int 1, .int 1] h2 (.inl (some (.int z12))) h11 ∧ ((z12 = 0 → V G mX10_used d 32 [.ref r0, .int x1, .int 0, .int 0] [] h11 o h') ∧ (¬ z12 = 0 → (o = .inl (some (.int 0)) ∧ h' = h11)))))) : VM G mX10_used d [.ref r0, .int x1] h o h' := by
  refine V.toM rfl rfl (le_l rfl) (cat_all rfl) ?_
  show V G mX10_used d 0 [.ref r0, .int x1, uV, uV] [] h o h'
  have hdd : d - 1 + 1 ≤ d := by omega
  refine v_aload_n (pc' := 1) dX10_used_0 rfl rfl ?_
  refine v_iconst (pc' := 2) (v := 0) dX10_used_1 rfl kI_0 ?_
  obtain ⟨q1, T⟩ := T
  refine v_putI (pc' := 5) 8 0 dX10_used_2 rfl (by decide) (by decide) rfl rfl kf_X10_72 q1 ?_
  refine v_aload_n (pc' := 6) dX10_used_5 rfl rfl ?_
  refine v_iload_n (pc' := 7) dX10_used_6 rfl rfl ?_
  obtain ⟨z3, h2, k4, T⟩ := T
  refine v_callS (pc' := 10) (M1 := mX10_isWhere) (as := [.int x1]) (rest := [.ref r0]) dX10_used_7 rfl ko_X10_368 kc_X10_isWhere kt_X10_isWhere (by decide) hdd rfl rfl (le_l rfl) k4 ?_
  refine v_if_ne (tgt := 17) (pc' := 13) dX10_used_10 (by decide) rfl ⟨fun c5 => ?_, fun c5 => ?_⟩
  · have T := T.1 c5
    refine v_iconst (pc' := 18) (v := 0) dX10_used_17 rfl kI_0 ?_
    refine v_iconst (pc' := 19) (v := 1) dX10_used_18 rfl kI_1 ?_
    refine v_iconst (pc' := 20) (v := 1) dX10_used_19 rfl kI_1 ?_
    obtain ⟨q9, T⟩ := T
    obtain ⟨z7, h6, k8, T⟩ := T
    refine v_callV (pc' := 23) (M1 := mX10_bad) (as := [.int 0, .int 1, .int 1]) (r := r0) (rest := []) 8 dX10_used_20 rfl ko_X10_155 kc_X10_bad ki_X10_bad ks_X10_bad (by decide) (by decide) hdd rfl rfl (le_l rfl) q9 k8 ?_
    refine v_if_eq (tgt := 28) (pc' := 26) dX10_used_23 (by decide) rfl ⟨fun c10 => ?_, fun c10 => ?_⟩
    · have T := T.1 c10
      refine v_iconst (pc' := 29) (v := 0) dX10_used_28 rfl kI_0 ?_
      refine v_istore_n (pc' := 30) (loc' := [.ref r0, .int x1, .int 0, uV]) dX10_used_29 rfl (lt_l rfl) rfl ?_
      refine v_iconst (pc' := 31) (v := 0) dX10_used_30 rfl kI_0 ?_
      refine v_istore_n (pc' := 32) (loc' := [.ref r0, .int x1, .int 0, .int 0]) dX10_used_31 rfl (lt_l rfl) rfl ?_
      exact T
    · have T := T.2 c10
      refine v_iconst (pc' := 27) (v := 0) dX10_used_26 rfl kI_0 ?_
      exact v_iret dX10_used_27 rfl T
  · have T := T.2 c5
    refine v_iconst (pc' := 14) (v := 1) dX10_used_13 rfl kI_1 ?_
    refine v_goto (pc' := 18) dX10_used_14 (by decide) ?_
    refine v_iconst (pc' := 19) (v := 1) dX10_used_18 rfl kI_1 ?_
    refine v_iconst (pc' := 20) (v := 1) dX10_used_19 rfl kI_1 ?_
    obtain ⟨q14, T⟩ := T
    obtain ⟨z12, h11, k13, T⟩ := T
    refine v_callV (pc' := 23) (M1 := mX10_bad) (as := [.int 1, .int 1, .int 1]) (r := r0) (rest := []) 8 dX10_used_20 rfl ko_X10_155 kc_X10_bad ki_X10_bad ks_X10_bad (by decide) (by decide) hdd rfl rfl (le_l rfl) q14 k13 ?_
    refine v_if_eq (tgt := 28) (pc' := 26) dX10_used_23 (by decide) rfl ⟨fun c15 => ?_, fun c15 => ?_⟩
    · have T := T.1 c15
      refine v_iconst (pc' := 29) (v := 0) dX10_used_28 rfl kI_0 ?_
      refine v_istore_n (pc' := 30) (loc' := [.ref r0, .int x1, .int 0, uV]) dX10_used_29 rfl (lt_l rfl) rfl ?_
      refine v_iconst (pc' := 31) (v := 0) dX10_used_30 rfl kI_0 ?_
      refine v_istore_n (pc' := 32) (loc' := [.ref r0, .int x1, .int 0, .int 0]) dX10_used_31 rfl (lt_l rfl) rfl ?_
      exact T
    · have T := T.2 c15
      refine v_iconst (pc' := 27) (v := 0) dX10_used_26 rfl kI_0 ?_
      exact v_iret dX10_used_27 rfl T
theorem bX10_used_32 {G : GG} {d : Nat} {h : Hp} {o : OU} {h' : Hp} (r0 : Nat) (x1 : Int32) (x2 : Int32) (x3 : Int32) (hd : 1 ≤ d) (T : kH h r0 = 18 ∧ (((h.2 r0 11) ≤ x3 → (o = .inl (some (.int x2)) ∧ h' = h)) ∧ (¬ (h.2 r0 11) ≤ x3 → ∃ z4 h3, VM G mX10_whereOf (d - 1) [.int x1] h (.inl (some (.int z4))) h3 ∧ kH h3 (rH h r0 22) = 1 ∧ vp_in (z4 + x3) (lH h3 (rH h r0 22)) ∧ (((h3.2 (rH h r0 22) (z4 + x3).toNatClampNeg) = 0 → V G mX10_used d 32 [.ref r0, .int x1, .int (x2 ||| 0), .int (x3 + 1)] [] h3 o h') ∧ (¬ (h3.2 (rH h r0 22) (z4 + x3).toNatClampNeg) = 0 → V G mX10_used d 32 [.ref r0, .int x1, .int (x2 ||| (1 <<< (x3 &&& 31))), .int (x3 + 1)] [] h3 o h'))))) : V G mX10_used d 32 [.ref r0, .int x1, .int x2, .int x3] [] h o h' := by
  have hdd : d - 1 + 1 ≤ d := by omega
  refine v_iload_n (pc' := 33) dX10_used_32 rfl rfl ?_
  refine v_aload_n (pc' := 34) dX10_used_33 rfl rfl ?_
  obtain ⟨q1, T⟩ := T
  refine v_getI (pc' := 37) 8 11 dX10_used_34 rfl (by decide) (by decide) rfl kf_X10_168 q1 ?_
  refine v_icmp_ge (tgt := 70) (pc' := 40) dX10_used_37 (by decide) rfl ⟨fun c2 => ?_, fun c2 => ?_⟩
  · have T := T.1 c2
    refine v_iload_n (pc' := 71) dX10_used_70 rfl rfl ?_
    exact v_iret dX10_used_71 rfl T
  · have T := T.2 c2
    refine v_iload_n (pc' := 41) dX10_used_40 rfl rfl ?_
    refine v_aload_n (pc' := 42) dX10_used_41 rfl rfl ?_
    refine v_getR (pc' := 45) 8 22 dX10_used_42 rfl (by decide) (by decide) rfl kf_X10_31 q1 ?_
    refine v_iload_n (pc' := 46) dX10_used_45 rfl rfl ?_
    obtain ⟨z4, h3, k5, T⟩ := T
    refine v_callS (pc' := 49) (M1 := mX10_whereOf) (as := [.int x1]) (rest := [.ref (rH h r0 22), .int x2]) dX10_used_46 rfl ko_X10_374 kc_X10_whereOf kt_X10_whereOf (by decide) hdd rfl rfl (le_l rfl) k5 ?_
    refine v_iload_n (pc' := 50) dX10_used_49 rfl rfl ?_
    refine v_iadd (pc' := 51) dX10_used_50 rfl ?_
    obtain ⟨q6, T⟩ := T
    obtain ⟨q7, T⟩ := T
    refine v_iald (pc' := 52) dX10_used_51 rfl rfl q6 q7 ?_
    refine v_if_eq (tgt := 61) (pc' := 55) dX10_used_52 (by decide) rfl ⟨fun c8 => ?_, fun c8 => ?_⟩
    · have T := T.1 c8
      refine v_iconst (pc' := 62) (v := 0) dX10_used_61 rfl kI_0 ?_
      refine v_ior (pc' := 63) dX10_used_62 rfl ?_
      refine v_istore_n (pc' := 64) (loc' := [.ref r0, .int x1, .int (x2 ||| 0), .int x3]) dX10_used_63 rfl (lt_l rfl) rfl ?_
      refine v_iinc (pc' := 67) (loc' := [.ref r0, .int x1, .int (x2 ||| 0), .int (x3 + 1)]) dX10_used_64 rfl rfl (kX_1 _) rfl ?_
      refine v_goto (pc' := 32) dX10_used_67 (by decide) ?_
      exact T
    · have T := T.2 c8
      refine v_iconst (pc' := 56) (v := 1) dX10_used_55 rfl kI_1 ?_
      refine v_iload_n (pc' := 57) dX10_used_56 rfl rfl ?_
      refine v_ishl (pc' := 58) dX10_used_57 rfl ?_
      refine v_goto (pc' := 62) dX10_used_58 (by decide) ?_
      refine v_ior (pc' := 63) dX10_used_62 rfl ?_
      refine v_istore_n (pc' := 64) (loc' := [.ref r0, .int x1, .int (x2 ||| (1 <<< (x3 &&& 31))), .int x3]) dX10_used_63 rfl (lt_l rfl) rfl ?_
      refine v_iinc (pc' := 67) (loc' := [.ref r0, .int x1, .int (x2 ||| (1 <<< (x3 &&& 31))), .int (x3 + 1)]) dX10_used_64 rfl rfl (kX_1 _) rfl ?_
      refine v_goto (pc' := 32) dX10_used_67 (by decide) ?_
      exact T
theorem eX10_leaks {G : GG} {d : Nat} {h : Hp} {o : OU} {h' : Hp} (r0 : Nat) (x1 : Int32) (hd : 1 ≤ d) (T : kH h r0 = 18 ∧ ∃ z3 h2, VM G mX10_isWhere (d - 1) [.int x1] (h.1, (upI h.2 r0 0 0)) (.inl (some (.int z3))) h2 ∧ ((¬ z3 = 0 → kH h2 r0 = 18 ∧ ∃ z7 h6, VM G mX10_bad (d - 1) [.ref r0, .int 0, .int 1, .int 1] h2 (.inl (some (.int z7))) h6 ∧ ((z7 = 0 → kH h6 r0 = 18 ∧ ∃ z13 h12, VM G mX10_whereOf (d - 1) [.int x1] h6 (.inl (some (.int z13))) h12 ∧ kH h12 r0 = 18 ∧ ∃ z16 h15, VM G mX10_leaking (d - 1) [.ref r0, .ref (rH h6 r0 22), .int z13] h12 (.inl (some (.int z16))) h15 ∧ (o = .inl (some (.int z16)) ∧ h' = h15)) ∧ (¬ z7 = 0 → (o = .inl (some (.int 0)) ∧ h' = h6)))) ∧ (z3 = 0 → kH h2 r0 = 18 ∧ ∃ z20 h19, VM G mX10_bad (d - 1) [.ref r0, .int 1, .int 1, .int 1] h2 (.inl (some (.int z20))) h19 ∧ ((z20 = 0 → kH h19 r0 = 18 ∧ ∃ z26 h25, VM G mX10_whereOf (d - 1) [.int x1] h19 (.inl (some (.int z26))) h25 ∧ kH h25 r0 = 18 ∧ ∃ z29 h28, VM G mX10_leaking (d - 1) [.ref r0, .ref (rH h19 r0 22), .int z26] h25 (.inl (some (.int z29))) h28 ∧ (o = .inl (some (.int z29)) ∧ h' = h28)) ∧ (¬ z20 = 0 → (o = .inl (some (.int 0)) ∧ h' = h19)))))) : VM G mX10_leaks d [.ref r0, .int x1] h o h' := by
  refine V.toM rfl rfl (le_l rfl) (cat_all rfl) ?_
  show V G mX10_leaks d 0 [.ref r0, .int x1] [] h o h'
  have hdd : d - 1 + 1 ≤ d := by omega
  refine v_aload_n (pc' := 1) dX10_leaks_0 rfl rfl ?_
  refine v_iconst (pc' := 2) (v := 0) dX10_leaks_1 rfl kI_0 ?_
  obtain ⟨q1, T⟩ := T
  refine v_putI (pc' := 5) 8 0 dX10_leaks_2 rfl (by decide) (by decide) rfl rfl kf_X10_72 q1 ?_
  refine v_aload_n (pc' := 6) dX10_leaks_5 rfl rfl ?_
  refine v_iload_n (pc' := 7) dX10_leaks_6 rfl rfl ?_
  obtain ⟨z3, h2, k4, T⟩ := T
  refine v_callS (pc' := 10) (M1 := mX10_isWhere) (as := [.int x1]) (rest := [.ref r0]) dX10_leaks_7 rfl ko_X10_368 kc_X10_isWhere kt_X10_isWhere (by decide) hdd rfl rfl (le_l rfl) k4 ?_
  refine v_if_ne (tgt := 17) (pc' := 13) dX10_leaks_10 (by decide) rfl ⟨fun c5 => ?_, fun c5 => ?_⟩
  · have T := T.1 c5
    refine v_iconst (pc' := 18) (v := 0) dX10_leaks_17 rfl kI_0 ?_
    refine v_iconst (pc' := 19) (v := 1) dX10_leaks_18 rfl kI_1 ?_
    refine v_iconst (pc' := 20) (v := 1) dX10_leaks_19 rfl kI_1 ?_
    obtain ⟨q9, T⟩ := T
    obtain ⟨z7, h6, k8, T⟩ := T
    refine v_callV (pc' := 23) (M1 := mX10_bad) (as := [.int 0, .int 1, .int 1]) (r := r0) (rest := []) 8 dX10_leaks_20 rfl ko_X10_155 kc_X10_bad ki_X10_bad ks_X10_bad (by decide) (by decide) hdd rfl rfl (le_l rfl) q9 k8 ?_
    refine v_if_eq (tgt := 28) (pc' := 26) dX10_leaks_23 (by decide) rfl ⟨fun c10 => ?_, fun c10 => ?_⟩
    · have T := T.1 c10
      refine v_aload_n (pc' := 29) dX10_leaks_28 rfl rfl ?_
      refine v_aload_n (pc' := 30) dX10_leaks_29 rfl rfl ?_
      obtain ⟨q11, T⟩ := T
      refine v_getR (pc' := 33) 8 22 dX10_leaks_30 rfl (by decide) (by decide) rfl kf_X10_31 q11 ?_
      refine v_iload_n (pc' := 34) dX10_leaks_33 rfl rfl ?_
      obtain ⟨z13, h12, k14, T⟩ := T
      refine v_callS (pc' := 37) (M1 := mX10_whereOf) (as := [.int x1]) (rest := [.ref (rH h6 r0 22), .ref r0]) dX10_leaks_34 rfl ko_X10_374 kc_X10_whereOf kt_X10_whereOf (by decide) hdd rfl rfl (le_l rfl) k14 ?_
      obtain ⟨q18, T⟩ := T
      obtain ⟨z16, h15, k17, T⟩ := T
      refine v_callV (pc' := 40) (M1 := mX10_leaking) (as := [.ref (rH h6 r0 22), .int z13]) (r := r0) (rest := []) 8 dX10_leaks_37 rfl ko_X10_380 kc_X10_leaking ki_X10_leaking ks_X10_leaking (by decide) (by decide) hdd rfl rfl (le_l rfl) q18 k17 ?_
      exact v_iret dX10_leaks_40 rfl T
    · have T := T.2 c10
      refine v_iconst (pc' := 27) (v := 0) dX10_leaks_26 rfl kI_0 ?_
      exact v_iret dX10_leaks_27 rfl T
  · have T := T.2 c5
    refine v_iconst (pc' := 14) (v := 1) dX10_leaks_13 rfl kI_1 ?_
    refine v_goto (pc' := 18) dX10_leaks_14 (by decide) ?_
    refine v_iconst (pc' := 19) (v := 1) dX10_leaks_18 rfl kI_1 ?_
    refine v_iconst (pc' := 20) (v := 1) dX10_leaks_19 rfl kI_1 ?_
    obtain ⟨q22, T⟩ := T
    obtain ⟨z20, h19, k21, T⟩ := T
    refine v_callV (pc' := 23) (M1 := mX10_bad) (as := [.int 1, .int 1, .int 1]) (r := r0) (rest := []) 8 dX10_leaks_20 rfl ko_X10_155 kc_X10_bad ki_X10_bad ks_X10_bad (by decide) (by decide) hdd rfl rfl (le_l rfl) q22 k21 ?_
    refine v_if_eq (tgt := 28) (pc' := 26) dX10_leaks_23 (by decide) rfl ⟨fun c23 => ?_, fun c23 => ?_⟩
    · have T := T.1 c23
      refine v_aload_n (pc' := 29) dX10_leaks_28 rfl rfl ?_
      refine v_aload_n (pc' := 30) dX10_leaks_29 rfl rfl ?_
      obtain ⟨q24, T⟩ := T
      refine v_getR (pc' := 33) 8 22 dX10_leaks_30 rfl (by decide) (by decide) rfl kf_X10_31 q24 ?_
      refine v_iload_n (pc' := 34) dX10_leaks_33 rfl rfl ?_
      obtain ⟨z26, h25, k27, T⟩ := T
      refine v_callS (pc' := 37) (M1 := mX10_whereOf) (as := [.int x1]) (rest := [.ref (rH h19 r0 22), .ref r0]) dX10_leaks_34 rfl ko_X10_374 kc_X10_whereOf kt_X10_whereOf (by decide) hdd rfl rfl (le_l rfl) k27 ?_
      obtain ⟨q31, T⟩ := T
      obtain ⟨z29, h28, k30, T⟩ := T
      refine v_callV (pc' := 40) (M1 := mX10_leaking) (as := [.ref (rH h19 r0 22), .int z26]) (r := r0) (rest := []) 8 dX10_leaks_37 rfl ko_X10_380 kc_X10_leaking ki_X10_leaking ks_X10_leaking (by decide) (by decide) hdd rfl rfl (le_l rfl) q31 k30 ?_
      exact v_iret dX10_leaks_40 rfl T
    · have T := T.2 c23
      refine v_iconst (pc' := 27) (v := 0) dX10_leaks_26 rfl kI_0 ?_
      exact v_iret dX10_leaks_27 rfl T
theorem eX10_lost {G : GG} {d : Nat} {h : Hp} {o : OU} {h' : Hp} (r0 : Nat) (x1 : Int32) (hd : 1 ≤ d) (T : kH h r0 = 18 ∧ ∃ z3 h2, VM G mX10_isWhere (d - 1) [.int x1] (h.1, (upI h.2 r0 0 0)) (.inl (some (.int z3))) h2 ∧ ((¬ z3 = 0 → kH h2 r0 = 18 ∧ ∃ z7 h6, VM G mX10_bad (d - 1) [.ref r0, .int 0, .int 1, .int 1] h2 (.inl (some (.int z7))) h6 ∧ ((z7 = 0 → kH h6 r0 = 18 ∧ ∃ z13 h12, VM G mX10_whereOf (d - 1) [.int x1] h6 (.inl (some (.int z13))) h12 ∧ ∃ z16 h15, VM G mX10_linked (d - 1) [.ref (rH h6 r0 22), .int z13] h12 (.inl (some (.int z16))) h15 ∧ kH h15 r0 = 18 ∧ ∃ z20 h19, VM G mX10_whereOf (d - 1) [.int x1] h15 (.inl (some (.int z20))) h19 ∧ ∃ z23 h22, VM G mX10_reached (d - 1) [.ref (rH h15 r0 22), .int z20] h19 (.inl (some (.int z23))) h22 ∧ (o = .inl (some (.int (z16 &&& (z23 ^^^ (-1))))) ∧ h' = h22)) ∧ (¬ z7 = 0 → (o = .inl (some (.int 0)) ∧ h' = h6)))) ∧ (z3 = 0 → kH h2 r0 = 18 ∧ ∃ z26 h25, VM G mX10_bad (d - 1) [.ref r0, .int 1, .int 1, .int 1] h2 (.inl (some (.int z26))) h25 ∧ ((z26 = 0 → kH h25 r0 = 18 ∧ ∃ z32 h31, VM G mX10_whereOf (d - 1) [.int x1] h25 (.inl (some (.int z32))) h31 ∧ ∃ z35 h34, VM G mX10_linked (d - 1) [.ref (rH h25 r0 22), .int z32] h31 (.inl (some (.int z35))) h34 ∧ kH h34 r0 = 18 ∧ ∃ z39 h38, VM G mX10_whereOf (d - 1) [.int x1] h34 (.inl (some (.int z39))) h38 ∧ ∃ z42 h41, VM G mX10_reached (d - 1) [.ref (rH h34 r0 22), .int z39] h38 (.inl (some (.int z42))) h41 ∧ (o = .inl (some (.int (z35 &&& (z42 ^^^ (-1))))) ∧ h' = h41)) ∧ (¬ z26 = 0 → (o = .inl (some (.int 0)) ∧ h' = h25)))))) : VM G mX10_lost d [.ref r0, .int x1] h o h' := by
  refine V.toM rfl rfl (le_l rfl) (cat_all rfl) ?_
  show V G mX10_lost d 0 [.ref r0, .int x1] [] h o h'
  have hdd : d - 1 + 1 ≤ d := by omega
  refine v_aload_n (pc' := 1) dX10_lost_0 rfl rfl ?_
  refine v_iconst (pc' := 2) (v := 0) dX10_lost_1 rfl kI_0 ?_
  obtain ⟨q1, T⟩ := T
  refine v_putI (pc' := 5) 8 0 dX10_lost_2 rfl (by decide) (by decide) rfl rfl kf_X10_72 q1 ?_
  refine v_aload_n (pc' := 6) dX10_lost_5 rfl rfl ?_
  refine v_iload_n (pc' := 7) dX10_lost_6 rfl rfl ?_
  obtain ⟨z3, h2, k4, T⟩ := T
  refine v_callS (pc' := 10) (M1 := mX10_isWhere) (as := [.int x1]) (rest := [.ref r0]) dX10_lost_7 rfl ko_X10_368 kc_X10_isWhere kt_X10_isWhere (by decide) hdd rfl rfl (le_l rfl) k4 ?_
  refine v_if_ne (tgt := 17) (pc' := 13) dX10_lost_10 (by decide) rfl ⟨fun c5 => ?_, fun c5 => ?_⟩
  · have T := T.1 c5
    refine v_iconst (pc' := 18) (v := 0) dX10_lost_17 rfl kI_0 ?_
    refine v_iconst (pc' := 19) (v := 1) dX10_lost_18 rfl kI_1 ?_
    refine v_iconst (pc' := 20) (v := 1) dX10_lost_19 rfl kI_1 ?_
    obtain ⟨q9, T⟩ := T
    obtain ⟨z7, h6, k8, T⟩ := T
    refine v_callV (pc' := 23) (M1 := mX10_bad) (as := [.int 0, .int 1, .int 1]) (r := r0) (rest := []) 8 dX10_lost_20 rfl ko_X10_155 kc_X10_bad ki_X10_bad ks_X10_bad (by decide) (by decide) hdd rfl rfl (le_l rfl) q9 k8 ?_
    refine v_if_eq (tgt := 28) (pc' := 26) dX10_lost_23 (by decide) rfl ⟨fun c10 => ?_, fun c10 => ?_⟩
    · have T := T.1 c10
      refine v_aload_n (pc' := 29) dX10_lost_28 rfl rfl ?_
      obtain ⟨q11, T⟩ := T
      refine v_getR (pc' := 32) 8 22 dX10_lost_29 rfl (by decide) (by decide) rfl kf_X10_31 q11 ?_
      refine v_iload_n (pc' := 33) dX10_lost_32 rfl rfl ?_
      obtain ⟨z13, h12, k14, T⟩ := T
      refine v_callS (pc' := 36) (M1 := mX10_whereOf) (as := [.int x1]) (rest := [.ref (rH h6 r0 22)]) dX10_lost_33 rfl ko_X10_374 kc_X10_whereOf kt_X10_whereOf (by decide) hdd rfl rfl (le_l rfl) k14 ?_
      obtain ⟨z16, h15, k17, T⟩ := T
      refine v_callS (pc' := 39) (M1 := mX10_linked) (as := [.ref (rH h6 r0 22), .int z13]) (rest := []) dX10_lost_36 rfl ko_X10_315 kc_X10_linked kt_X10_linked (by decide) hdd rfl rfl (le_l rfl) k17 ?_
      refine v_aload_n (pc' := 40) dX10_lost_39 rfl rfl ?_
      obtain ⟨q18, T⟩ := T
      refine v_getR (pc' := 43) 8 22 dX10_lost_40 rfl (by decide) (by decide) rfl kf_X10_31 q18 ?_
      refine v_iload_n (pc' := 44) dX10_lost_43 rfl rfl ?_
      obtain ⟨z20, h19, k21, T⟩ := T
      refine v_callS (pc' := 47) (M1 := mX10_whereOf) (as := [.int x1]) (rest := [.ref (rH h15 r0 22), .int z16]) dX10_lost_44 rfl ko_X10_374 kc_X10_whereOf kt_X10_whereOf (by decide) hdd rfl rfl (le_l rfl) k21 ?_
      obtain ⟨z23, h22, k24, T⟩ := T
      refine v_callS (pc' := 50) (M1 := mX10_reached) (as := [.ref (rH h15 r0 22), .int z20]) (rest := [.int z16]) dX10_lost_47 rfl ko_X10_276 kc_X10_reached kt_X10_reached (by decide) hdd rfl rfl (le_l rfl) k24 ?_
      refine v_iconst (pc' := 51) (v := (-1)) dX10_lost_50 rfl kI_m1 ?_
      refine v_ixor (pc' := 52) dX10_lost_51 rfl ?_
      refine v_iand (pc' := 53) dX10_lost_52 rfl ?_
      exact v_iret dX10_lost_53 rfl T
    · have T := T.2 c10
      refine v_iconst (pc' := 27) (v := 0) dX10_lost_26 rfl kI_0 ?_
      exact v_iret dX10_lost_27 rfl T
  · have T := T.2 c5
    refine v_iconst (pc' := 14) (v := 1) dX10_lost_13 rfl kI_1 ?_
    refine v_goto (pc' := 18) dX10_lost_14 (by decide) ?_
    refine v_iconst (pc' := 19) (v := 1) dX10_lost_18 rfl kI_1 ?_
    refine v_iconst (pc' := 20) (v := 1) dX10_lost_19 rfl kI_1 ?_
    obtain ⟨q28, T⟩ := T
    obtain ⟨z26, h25, k27, T⟩ := T
    refine v_callV (pc' := 23) (M1 := mX10_bad) (as := [.int 1, .int 1, .int 1]) (r := r0) (rest := []) 8 dX10_lost_20 rfl ko_X10_155 kc_X10_bad ki_X10_bad ks_X10_bad (by decide) (by decide) hdd rfl rfl (le_l rfl) q28 k27 ?_
    refine v_if_eq (tgt := 28) (pc' := 26) dX10_lost_23 (by decide) rfl ⟨fun c29 => ?_, fun c29 => ?_⟩
    · have T := T.1 c29
      refine v_aload_n (pc' := 29) dX10_lost_28 rfl rfl ?_
      obtain ⟨q30, T⟩ := T
      refine v_getR (pc' := 32) 8 22 dX10_lost_29 rfl (by decide) (by decide) rfl kf_X10_31 q30 ?_
      refine v_iload_n (pc' := 33) dX10_lost_32 rfl rfl ?_
      obtain ⟨z32, h31, k33, T⟩ := T
      refine v_callS (pc' := 36) (M1 := mX10_whereOf) (as := [.int x1]) (rest := [.ref (rH h25 r0 22)]) dX10_lost_33 rfl ko_X10_374 kc_X10_whereOf kt_X10_whereOf (by decide) hdd rfl rfl (le_l rfl) k33 ?_
      obtain ⟨z35, h34, k36, T⟩ := T
      refine v_callS (pc' := 39) (M1 := mX10_linked) (as := [.ref (rH h25 r0 22), .int z32]) (rest := []) dX10_lost_36 rfl ko_X10_315 kc_X10_linked kt_X10_linked (by decide) hdd rfl rfl (le_l rfl) k36 ?_
      refine v_aload_n (pc' := 40) dX10_lost_39 rfl rfl ?_
      obtain ⟨q37, T⟩ := T
      refine v_getR (pc' := 43) 8 22 dX10_lost_40 rfl (by decide) (by decide) rfl kf_X10_31 q37 ?_
      refine v_iload_n (pc' := 44) dX10_lost_43 rfl rfl ?_
      obtain ⟨z39, h38, k40, T⟩ := T
      refine v_callS (pc' := 47) (M1 := mX10_whereOf) (as := [.int x1]) (rest := [.ref (rH h34 r0 22), .int z35]) dX10_lost_44 rfl ko_X10_374 kc_X10_whereOf kt_X10_whereOf (by decide) hdd rfl rfl (le_l rfl) k40 ?_
      obtain ⟨z42, h41, k43, T⟩ := T
      refine v_callS (pc' := 50) (M1 := mX10_reached) (as := [.ref (rH h34 r0 22), .int z39]) (rest := [.int z35]) dX10_lost_47 rfl ko_X10_276 kc_X10_reached kt_X10_reached (by decide) hdd rfl rfl (le_l rfl) k43 ?_
      refine v_iconst (pc' := 51) (v := (-1)) dX10_lost_50 rfl kI_m1 ?_
      refine v_ixor (pc' := 52) dX10_lost_51 rfl ?_
      refine v_iand (pc' := 53) dX10_lost_52 rfl ?_
      exact v_iret dX10_lost_53 rfl T
    · have T := T.2 c29
      refine v_iconst (pc' := 27) (v := 0) dX10_lost_26 rfl kI_0 ?_
      exact v_iret dX10_lost_27 rfl T
theorem eX10_brokenOf {G : GG} {d : Nat} {h : Hp} {o : OU} {h' : Hp} (r0 : Nat) (r1 : Nat) (x2 : Int32) (hd : 1 ≤ d) (T : ∃ z2 h1, VM G mX10_reached (d - 1) [.ref r1, .int x2] h (.inl (some (.int z2))) h1 ∧ ∃ z5 h4, VM G mX10_linked (d - 1) [.ref r1, .int x2] h1 (.inl (some (.int z5))) h4 ∧ V G mX10_brokenOf d 22 [uV, .ref r1, .int x2, .int 0, .int 0, .int z2, .int z5, .int 0, uV, uV] [] h4 o h') : VM G mX10_brokenOf d [.ref r0, .ref r1, .int x2] h o h' := by
  refine V.toM rfl rfl (le_l rfl) (cat_all rfl) ?_
  show V G mX10_brokenOf d 0 [.ref r0, .ref r1, .int x2, uV, uV, uV, uV, uV, uV, uV] [] h o h'
  have hdd : d - 1 + 1 ≤ d := by omega
  refine v_iconst (pc' := 1) (v := 0) dX10_brokenOf_0 rfl kI_0 ?_
  refine v_istore_n (pc' := 2) (loc' := [.ref r0, .ref r1, .int x2, .int 0, uV, uV, uV, uV, uV, uV]) dX10_brokenOf_1 rfl (lt_l rfl) rfl ?_
  refine v_iconst (pc' := 3) (v := 0) dX10_brokenOf_2 rfl kI_0 ?_
  refine v_istore (pc' := 5) (loc' := [.ref r0, .ref r1, .int x2, .int 0, .int 0, uV, uV, uV, uV, uV]) dX10_brokenOf_3 rfl (lt_l rfl) rfl ?_
  refine v_aload_n (pc' := 6) dX10_brokenOf_5 rfl rfl ?_
  refine v_iload_n (pc' := 7) dX10_brokenOf_6 rfl rfl ?_
  obtain ⟨z2, h1, k3, T⟩ := T
  refine v_callS (pc' := 10) (M1 := mX10_reached) (as := [.ref r1, .int x2]) (rest := []) dX10_brokenOf_7 rfl ko_X10_276 kc_X10_reached kt_X10_reached (by decide) hdd rfl rfl (le_l rfl) k3 ?_
  refine v_istore (pc' := 12) (loc' := [.ref r0, .ref r1, .int x2, .int 0, .int 0, .int z2, uV, uV, uV, uV]) dX10_brokenOf_10 rfl (lt_l rfl) rfl ?_
  refine v_aload_n (pc' := 13) dX10_brokenOf_12 rfl rfl ?_
  refine v_iload_n (pc' := 14) dX10_brokenOf_13 rfl rfl ?_
  obtain ⟨z5, h4, k6, T⟩ := T
  refine v_callS (pc' := 17) (M1 := mX10_linked) (as := [.ref r1, .int x2]) (rest := []) dX10_brokenOf_14 rfl ko_X10_315 kc_X10_linked kt_X10_linked (by decide) hdd rfl rfl (le_l rfl) k6 ?_
  refine v_istore (pc' := 19) (loc' := [.ref r0, .ref r1, .int x2, .int 0, .int 0, .int z2, .int z5, uV, uV, uV]) dX10_brokenOf_17 rfl (lt_l rfl) rfl ?_
  refine v_iconst (pc' := 20) (v := 0) dX10_brokenOf_19 rfl kI_0 ?_
  refine v_istore (pc' := 22) (loc' := [.ref r0, .ref r1, .int x2, .int 0, .int 0, .int z2, .int z5, .int 0, uV, uV]) dX10_brokenOf_20 rfl (lt_l rfl) rfl ?_
  exact V.drop (llp_u (llp_r (llp_r (llp_r (llp_r (llp_r (llp_r (llp_r (llp_r (llp_r llp_nil)))))))))) T
theorem bX10_brokenOf_22 {G : GG} {d : Nat} {h : Hp} {o : OU} {h' : Hp} (r1 : Nat) (x2 : Int32) (x3 : Int32) (x4 : Int32) (x5 : Int32) (x6 : Int32) (x7 : Int32) (T : ((12 ≤ x7 → (o = .inl (some (.int x3)) ∧ h' = h)) ∧ (¬ 12 ≤ x7 → V G mX10_brokenOf d 32 [uV, .ref r1, .int x2, .int x3, .int x4, .int x5, .int x6, .int x7, .int 0, uV] [] h o h'))) : V G mX10_brokenOf d 22 [uV, .ref r1, .int x2, .int x3, .int x4, .int x5, .int x6, .int x7, uV, uV] [] h o h' := by
  refine v_iload (pc' := 24) dX10_brokenOf_22 rfl rfl ?_
  refine v_bipush (pc' := 26) (v := 12) dX10_brokenOf_24 rfl kB_12 ?_
  refine v_icmp_ge (tgt := 216) (pc' := 29) dX10_brokenOf_26 (by decide) rfl ⟨fun c1 => ?_, fun c1 => ?_⟩
  · have T := T.1 c1
    refine v_iload_n (pc' := 217) dX10_brokenOf_216 rfl rfl ?_
    exact v_iret dX10_brokenOf_217 rfl T
  · have T := T.2 c1
    refine v_iconst (pc' := 30) (v := 0) dX10_brokenOf_29 rfl kI_0 ?_
    refine v_istore (pc' := 32) (loc' := [uV, .ref r1, .int x2, .int x3, .int x4, .int x5, .int x6, .int x7, .int 0, uV]) dX10_brokenOf_30 rfl (lt_l rfl) rfl ?_
    exact T
theorem bX10_brokenOf_32 {G : GG} {d : Nat} {h : Hp} {o : OU} {h' : Hp} (r1 : Nat) (x2 : Int32) (x3 : Int32) (x4 : Int32) (x5 : Int32) (x6 : Int32) (x7 : Int32) (x8 : Int32) (hd : 1 ≤ d) (T : ∃ z2 h1, VM G mX10_has (d - 1) [.int x5, .int x7] h (.inl (some (.int z2))) h1 ∧ ((z2 = 0 → V G mX10_brokenOf d 133 [uV, .ref r1, .int x2, .int x3, .int x4, .int x5, .int x6, .int x7, .int 2, uV] [] h1 o h') ∧ (¬ z2 = 0 → ∃ z6 h5, VM G mX10_fieldOf (d - 1) [.ref r1, .int x2, .int x7, .int 1] h1 (.inl (some (.int z6))) h5 ∧ ((¬ z6 = 2 → V G mX10_brokenOf d 133 [uV, .ref r1, .int x2, .int x3, .int x4, .int x5, .int x6, .int x7, .int 2, uV] [] h5 o h') ∧ (z6 = 2 → ∃ z10 h9, VM G mX10_entryOf (d - 1) [.ref r1, .int x2, .int x7, .int x8] h5 (.inl (some (.int z10))) h9 ∧ ((z10 = (-1) → V G mX10_brokenOf d 133 [uV, .ref r1, .int x2, .int x3, .int x4, .int x5, .int x6, .int x7, .int 2, uV] [] h9 o h') ∧ (¬ z10 = (-1) → ∃ z14 h13, VM G mX10_entryOf (d - 1) [.ref r1, .int x2, .int x7, .int x8] h9 (.inl (some (.int z14))) h13 ∧ kH h13 r1 = 1 ∧ vp_in (x2 + z14) (lH h13 r1) ∧ (((h13.2 r1 (x2 + z14).toNatClampNeg) = 0 → V G mX10_brokenOf d 32 [uV, .ref r1, .int x2, .int (x3 + 0), .int x4, .int x5, .int x6, .int x7, .int (x8 + 1), uV] [] h13 o h') ∧ (¬ (h13.2 r1 (x2 + z14).toNatClampNeg) = 0 → vp_in ((x2 + z14) + 1) (lH h13 r1) ∧ ∃ z21 h20, VM G mX10_has (d - 1) [.int x6, .int (h13.2 r1 ((x2 + z14) + 1).toNatClampNeg)] h13 (.inl (some (.int z21))) h20 ∧ ((z21 = 0 → V G mX10_brokenOf d 32 [uV, .ref r1, .int x2, .int (x3 + 1), .int x4, .int x5, .int x6, .int x7, .int (x8 + 1), uV] [] h20 o h') ∧ (¬ z21 = 0 → kH h20 r1 = 1 ∧ vp_in ((x2 + z14) + 1) (lH h20 r1) ∧ ∃ z27 h26, VM G mX10_fieldOf (d - 1) [.ref r1, .int x2, .int (h20.2 r1 ((x2 + z14) + 1).toNatClampNeg), .int 1] h20 (.inl (some (.int z27))) h26 ∧ ((¬ z27 = 0 → V G mX10_brokenOf d 32 [uV, .ref r1, .int x2, .int (x3 + 0), .int x4, .int x5, .int x6, .int x7, .int (x8 + 1), uV] [] h26 o h') ∧ (z27 = 0 → V G mX10_brokenOf d 32 [uV, .ref r1, .int x2, .int (x3 + 1), .int x4, .int x5, .int x6, .int x7, .int (x8 + 1), uV] [] h26 o h'))))))))))))) : V G mX10_brokenOf d 32 [uV, .ref r1, .int x2, .int x3, .int x4, .int x5, .int x6, .int x7, .int x8, uV] [] h o h' := by
  have hdd : d - 1 + 1 ≤ d := by omega
  refine v_iload (pc' := 34) dX10_brokenOf_32 rfl rfl ?_
  refine v_iload (pc' := 36) dX10_brokenOf_34 rfl rfl ?_
  obtain ⟨z2, h1, k3, T⟩ := T
  refine v_callS (pc' := 39) (M1 := mX10_has) (as := [.int x5, .int x7]) (rest := []) dX10_brokenOf_36 rfl ko_X10_193 kc_X10_has kt_X10_has (by decide) hdd rfl rfl (le_l rfl) k3 ?_
  refine v_if_eq (tgt := 130) (pc' := 42) dX10_brokenOf_39 (by decide) rfl ⟨fun c4 => ?_, fun c4 => ?_⟩
  · have T := T.1 c4
    refine v_iconst (pc' := 131) (v := 2) dX10_brokenOf_130 rfl kI_2 ?_
    refine v_istore (pc' := 133) (loc' := [uV, .ref r1, .int x2, .int x3, .int x4, .int x5, .int x6, .int x7, .int 2, uV]) dX10_brokenOf_131 rfl (lt_l rfl) rfl ?_
    exact T
  · have T := T.2 c4
    refine v_aload_n (pc' := 43) dX10_brokenOf_42 rfl rfl ?_
    refine v_iload_n (pc' := 44) dX10_brokenOf_43 rfl rfl ?_
    refine v_iload (pc' := 46) dX10_brokenOf_44 rfl rfl ?_
    refine v_iconst (pc' := 47) (v := 1) dX10_brokenOf_46 rfl kI_1 ?_
    obtain ⟨z6, h5, k7, T⟩ := T
    refine v_callS (pc' := 50) (M1 := mX10_fieldOf) (as := [.ref r1, .int x2, .int x7, .int 1]) (rest := []) dX10_brokenOf_47 rfl ko_X10_233 kc_X10_fieldOf kt_X10_fieldOf (by decide) hdd rfl rfl (le_l rfl) k7 ?_
    refine v_iconst (pc' := 51) (v := 2) dX10_brokenOf_50 rfl kI_2 ?_
    refine v_icmp_ne (tgt := 130) (pc' := 54) dX10_brokenOf_51 (by decide) rfl ⟨fun c8 => ?_, fun c8 => ?_⟩
    · have T := T.1 c8
      refine v_iconst (pc' := 131) (v := 2) dX10_brokenOf_130 rfl kI_2 ?_
      refine v_istore (pc' := 133) (loc' := [uV, .ref r1, .int x2, .int x3, .int x4, .int x5, .int x6, .int x7, .int 2, uV]) dX10_brokenOf_131 rfl (lt_l rfl) rfl ?_
      exact T
    · have T := T.2 c8
      refine v_aload_n (pc' := 55) dX10_brokenOf_54 rfl rfl ?_
      refine v_iload_n (pc' := 56) dX10_brokenOf_55 rfl rfl ?_
      refine v_iload (pc' := 58) dX10_brokenOf_56 rfl rfl ?_
      refine v_iload (pc' := 60) dX10_brokenOf_58 rfl rfl ?_
      obtain ⟨z10, h9, k11, T⟩ := T
      refine v_callS (pc' := 63) (M1 := mX10_entryOf) (as := [.ref r1, .int x2, .int x7, .int x8]) (rest := []) dX10_brokenOf_60 rfl ko_X10_270 kc_X10_entryOf kt_X10_entryOf (by decide) hdd rfl rfl (le_l rfl) k11 ?_
      refine v_iconst (pc' := 64) (v := (-1)) dX10_brokenOf_63 rfl kI_m1 ?_
      refine v_icmp_eq (tgt := 130) (pc' := 67) dX10_brokenOf_64 (by decide) rfl ⟨fun c12 => ?_, fun c12 => ?_⟩
      · have T := T.1 c12
        refine v_iconst (pc' := 131) (v := 2) dX10_brokenOf_130 rfl kI_2 ?_
        refine v_istore (pc' := 133) (loc' := [uV, .ref r1, .int x2, .int x3, .int x4, .int x5, .int x6, .int x7, .int 2, uV]) dX10_brokenOf_131 rfl (lt_l rfl) rfl ?_
        exact T
      · have T := T.2 c12
        refine v_iload_n (pc' := 68) dX10_brokenOf_67 rfl rfl ?_
        refine v_aload_n (pc' := 69) dX10_brokenOf_68 rfl rfl ?_
        refine v_iload_n (pc' := 70) dX10_brokenOf_69 rfl rfl ?_
        refine v_iload (pc' := 72) dX10_brokenOf_70 rfl rfl ?_
        refine v_iload (pc' := 74) dX10_brokenOf_72 rfl rfl ?_
        obtain ⟨z14, h13, k15, T⟩ := T
        refine v_callS (pc' := 77) (M1 := mX10_entryOf) (as := [.ref r1, .int x2, .int x7, .int x8]) (rest := [.int x2]) dX10_brokenOf_74 rfl ko_X10_270 kc_X10_entryOf kt_X10_entryOf (by decide) hdd rfl rfl (le_l rfl) k15 ?_
        refine v_iadd (pc' := 78) dX10_brokenOf_77 rfl ?_
        refine v_istore (pc' := 80) (loc' := [uV, .ref r1, .int x2, .int x3, .int x4, .int x5, .int x6, .int x7, .int x8, .int (x2 + z14)]) dX10_brokenOf_78 rfl (lt_l rfl) rfl ?_
        refine v_iload_n (pc' := 81) dX10_brokenOf_80 rfl rfl ?_
        refine v_aload_n (pc' := 82) dX10_brokenOf_81 rfl rfl ?_
        refine v_iload (pc' := 84) dX10_brokenOf_82 rfl rfl ?_
        obtain ⟨q16, T⟩ := T
        obtain ⟨q17, T⟩ := T
        refine v_iald (pc' := 85) dX10_brokenOf_84 rfl rfl q16 q17 ?_
        refine v_if_eq (tgt := 121) (pc' := 88) dX10_brokenOf_85 (by decide) rfl ⟨fun c18 => ?_, fun c18 => ?_⟩
        · have T := T.1 c18
          refine v_iconst (pc' := 122) (v := 0) dX10_brokenOf_121 rfl kI_0 ?_
          refine v_iadd (pc' := 123) dX10_brokenOf_122 rfl ?_
          refine v_istore_n (pc' := 124) (loc' := [uV, .ref r1, .int x2, .int (x3 + 0), .int x4, .int x5, .int x6, .int x7, .int x8, .int (x2 + z14)]) dX10_brokenOf_123 rfl (lt_l rfl) rfl ?_
          refine v_iinc (pc' := 127) (loc' := [uV, .ref r1, .int x2, .int (x3 + 0), .int x4, .int x5, .int x6, .int x7, .int (x8 + 1), .int (x2 + z14)]) dX10_brokenOf_124 rfl rfl (kX_1 _) rfl ?_
          refine v_goto (pc' := 32) dX10_brokenOf_127 (by decide) ?_
          exact V.drop (llp_r (llp_r (llp_r (llp_r (llp_r (llp_r (llp_r (llp_r (llp_r (llp_u llp_nil)))))))))) T
        · have T := T.2 c18
          refine v_iload (pc' := 90) dX10_brokenOf_88 rfl rfl ?_
          refine v_aload_n (pc' := 91) dX10_brokenOf_90 rfl rfl ?_
          refine v_iload (pc' := 93) dX10_brokenOf_91 rfl rfl ?_
          refine v_iconst (pc' := 94) (v := 1) dX10_brokenOf_93 rfl kI_1 ?_
          refine v_iadd (pc' := 95) dX10_brokenOf_94 rfl ?_
          obtain ⟨q19, T⟩ := T
          refine v_iald (pc' := 96) dX10_brokenOf_95 rfl rfl q16 q19 ?_
          obtain ⟨z21, h20, k22, T⟩ := T
          refine v_callS (pc' := 99) (M1 := mX10_has) (as := [.int x6, .int (h13.2 r1 ((x2 + z14) + 1).toNatClampNeg)]) (rest := [.int x3]) dX10_brokenOf_96 rfl ko_X10_193 kc_X10_has kt_X10_has (by decide) hdd rfl rfl (le_l rfl) k22 ?_
          refine v_if_eq (tgt := 117) (pc' := 102) dX10_brokenOf_99 (by decide) rfl ⟨fun c23 => ?_, fun c23 => ?_⟩
          · have T := T.1 c23
            refine v_iconst (pc' := 118) (v := 1) dX10_brokenOf_117 rfl kI_1 ?_
            refine v_goto (pc' := 122) dX10_brokenOf_118 (by decide) ?_
            refine v_iadd (pc' := 123) dX10_brokenOf_122 rfl ?_
            refine v_istore_n (pc' := 124) (loc' := [uV, .ref r1, .int x2, .int (x3 + 1), .int x4, .int x5, .int x6, .int x7, .int x8, .int (x2 + z14)]) dX10_brokenOf_123 rfl (lt_l rfl) rfl ?_
            refine v_iinc (pc' := 127) (loc' := [uV, .ref r1, .int x2, .int (x3 + 1), .int x4, .int x5, .int x6, .int x7, .int (x8 + 1), .int (x2 + z14)]) dX10_brokenOf_124 rfl rfl (kX_1 _) rfl ?_
            refine v_goto (pc' := 32) dX10_brokenOf_127 (by decide) ?_
            exact V.drop (llp_r (llp_r (llp_r (llp_r (llp_r (llp_r (llp_r (llp_r (llp_r (llp_u llp_nil)))))))))) T
          · have T := T.2 c23
            refine v_aload_n (pc' := 103) dX10_brokenOf_102 rfl rfl ?_
            refine v_iload_n (pc' := 104) dX10_brokenOf_103 rfl rfl ?_
            refine v_aload_n (pc' := 105) dX10_brokenOf_104 rfl rfl ?_
            refine v_iload (pc' := 107) dX10_brokenOf_105 rfl rfl ?_
            refine v_iconst (pc' := 108) (v := 1) dX10_brokenOf_107 rfl kI_1 ?_
            refine v_iadd (pc' := 109) dX10_brokenOf_108 rfl ?_
            obtain ⟨q24, T⟩ := T
            obtain ⟨q25, T⟩ := T
            refine v_iald (pc' := 110) dX10_brokenOf_109 rfl rfl q24 q25 ?_
            refine v_iconst (pc' := 111) (v := 1) dX10_brokenOf_110 rfl kI_1 ?_
            obtain ⟨z27, h26, k28, T⟩ := T
            refine v_callS (pc' := 114) (M1 := mX10_fieldOf) (as := [.ref r1, .int x2, .int (h20.2 r1 ((x2 + z14) + 1).toNatClampNeg), .int 1]) (rest := [.int x3]) dX10_brokenOf_111 rfl ko_X10_233 kc_X10_fieldOf kt_X10_fieldOf (by decide) hdd rfl rfl (le_l rfl) k28 ?_
            refine v_if_ne (tgt := 121) (pc' := 117) dX10_brokenOf_114 (by decide) rfl ⟨fun c29 => ?_, fun c29 => ?_⟩
            · have T := T.1 c29
              refine v_iconst (pc' := 122) (v := 0) dX10_brokenOf_121 rfl kI_0 ?_
              refine v_iadd (pc' := 123) dX10_brokenOf_122 rfl ?_
              refine v_istore_n (pc' := 124) (loc' := [uV, .ref r1, .int x2, .int (x3 + 0), .int x4, .int x5, .int x6, .int x7, .int x8, .int (x2 + z14)]) dX10_brokenOf_123 rfl (lt_l rfl) rfl ?_
              refine v_iinc (pc' := 127) (loc' := [uV, .ref r1, .int x2, .int (x3 + 0), .int x4, .int x5, .int x6, .int x7, .int (x8 + 1), .int (x2 + z14)]) dX10_brokenOf_124 rfl rfl (kX_1 _) rfl ?_
              refine v_goto (pc' := 32) dX10_brokenOf_127 (by decide) ?_
              exact V.drop (llp_r (llp_r (llp_r (llp_r (llp_r (llp_r (llp_r (llp_r (llp_r (llp_u llp_nil)))))))))) T
            · have T := T.2 c29
              refine v_iconst (pc' := 118) (v := 1) dX10_brokenOf_117 rfl kI_1 ?_
              refine v_goto (pc' := 122) dX10_brokenOf_118 (by decide) ?_
              refine v_iadd (pc' := 123) dX10_brokenOf_122 rfl ?_
              refine v_istore_n (pc' := 124) (loc' := [uV, .ref r1, .int x2, .int (x3 + 1), .int x4, .int x5, .int x6, .int x7, .int x8, .int (x2 + z14)]) dX10_brokenOf_123 rfl (lt_l rfl) rfl ?_
              refine v_iinc (pc' := 127) (loc' := [uV, .ref r1, .int x2, .int (x3 + 1), .int x4, .int x5, .int x6, .int x7, .int (x8 + 1), .int (x2 + z14)]) dX10_brokenOf_124 rfl rfl (kX_1 _) rfl ?_
              refine v_goto (pc' := 32) dX10_brokenOf_127 (by decide) ?_
              exact V.drop (llp_r (llp_r (llp_r (llp_r (llp_r (llp_r (llp_r (llp_r (llp_r (llp_u llp_nil)))))))))) T
theorem bX10_brokenOf_133 {G : GG} {d : Nat} {h : Hp} {o : OU} {h' : Hp} (r1 : Nat) (x2 : Int32) (x3 : Int32) (x4 : Int32) (x5 : Int32) (x6 : Int32) (x7 : Int32) (x8 : Int32) (hd : 1 ≤ d) (T : ((3 < x8 → V G mX10_brokenOf d 22 [uV, .ref r1, .int x2, .int x3, .int x4, .int x5, .int x6, .int (x7 + 1), uV, uV] [] h o h') ∧ (¬ 3 < x8 → ∃ z3 h2, VM G mX10_fieldOf (d - 1) [.ref r1, .int x2, .int x7, .int x8] h (.inl (some (.int z3))) h2 ∧ ∃ z6 h5, VM G mX10_has (d - 1) [.int x6, .int x7] h2 (.inl (some (.int z6))) h5 ∧ ((z6 = 0 → V G mX10_brokenOf d 133 [uV, .ref r1, .int x2, .int x3, .int x4, .int x5, .int x6, .int x7, .int (x8 + 1), uV] [] h5 o h') ∧ (¬ z6 = 0 → ((¬ z3 = 0 → kH h5 r1 = 1 ∧ vp_in (x2 + z3) (lH h5 r1) ∧ (((h5.2 r1 (x2 + z3).toNatClampNeg) = 0 → V G mX10_brokenOf d 133 [uV, .ref r1, .int x2, .int (x3 + 1), .int (x4 ||| (1 <<< (z3 &&& 31))), .int x5, .int x6, .int x7, .int (x8 + 1), uV] [] h5 o h') ∧ (¬ (h5.2 r1 (x2 + z3).toNatClampNeg) = 0 → ∃ z14 h13, VM G mX10_has (d - 1) [.int x4, .int z3] h5 (.inl (some (.int z14))) h13 ∧ ((z14 = 0 → V G mX10_brokenOf d 133 [uV, .ref r1, .int x2, .int (x3 + 0), .int (x4 ||| (1 <<< (z3 &&& 31))), .int x5, .int x6, .int x7, .int (x8 + 1), uV] [] h13 o h') ∧ (¬ z14 = 0 → V G mX10_brokenOf d 133 [uV, .ref r1, .int x2, .int (x3 + 1), .int (x4 ||| (1 <<< (z3 &&& 31))), .int x5, .int x6, .int x7, .int (x8 + 1), uV] [] h13 o h'))))) ∧ (z3 = 0 → V G mX10_brokenOf d 133 [uV, .ref r1, .int x2, .int x3, .int x4, .int x5, .int x6, .int x7, .int (x8 + 1), uV] [] h5 o h'))))))) : V G mX10_brokenOf d 133 [uV, .ref r1, .int x2, .int x3, .int x4, .int x5, .int x6, .int x7, .int x8, uV] [] h o h' := by
  have hdd : d - 1 + 1 ≤ d := by omega
  refine v_iload (pc' := 135) dX10_brokenOf_133 rfl rfl ?_
  refine v_iconst (pc' := 136) (v := 3) dX10_brokenOf_135 rfl kI_3 ?_
  refine v_icmp_gt (tgt := 210) (pc' := 139) dX10_brokenOf_136 (by decide) rfl ⟨fun c1 => ?_, fun c1 => ?_⟩
  · have T := T.1 c1
    refine v_iinc (pc' := 213) (loc' := [uV, .ref r1, .int x2, .int x3, .int x4, .int x5, .int x6, .int (x7 + 1), .int x8, uV]) dX10_brokenOf_210 rfl rfl (kX_1 _) rfl ?_
    refine v_goto (pc' := 22) dX10_brokenOf_213 (by decide) ?_
    exact V.drop (llp_r (llp_r (llp_r (llp_r (llp_r (llp_r (llp_r (llp_r (llp_u (llp_r llp_nil)))))))))) T
  · have T := T.2 c1
    refine v_aload_n (pc' := 140) dX10_brokenOf_139 rfl rfl ?_
    refine v_iload_n (pc' := 141) dX10_brokenOf_140 rfl rfl ?_
    refine v_iload (pc' := 143) dX10_brokenOf_141 rfl rfl ?_
    refine v_iload (pc' := 145) dX10_brokenOf_143 rfl rfl ?_
    obtain ⟨z3, h2, k4, T⟩ := T
    refine v_callS (pc' := 148) (M1 := mX10_fieldOf) (as := [.ref r1, .int x2, .int x7, .int x8]) (rest := []) dX10_brokenOf_145 rfl ko_X10_233 kc_X10_fieldOf kt_X10_fieldOf (by decide) hdd rfl rfl (le_l rfl) k4 ?_
    refine v_istore (pc' := 150) (loc' := [uV, .ref r1, .int x2, .int x3, .int x4, .int x5, .int x6, .int x7, .int x8, .int z3]) dX10_brokenOf_148 rfl (lt_l rfl) rfl ?_
    refine v_iload (pc' := 152) dX10_brokenOf_150 rfl rfl ?_
    refine v_iload (pc' := 154) dX10_brokenOf_152 rfl rfl ?_
    obtain ⟨z6, h5, k7, T⟩ := T
    refine v_callS (pc' := 157) (M1 := mX10_has) (as := [.int x6, .int x7]) (rest := []) dX10_brokenOf_154 rfl ko_X10_193 kc_X10_has kt_X10_has (by decide) hdd rfl rfl (le_l rfl) k7 ?_
    refine v_if_eq (tgt := 204) (pc' := 160) dX10_brokenOf_157 (by decide) rfl ⟨fun c8 => ?_, fun c8 => ?_⟩
    · have T := T.1 c8
      refine v_iinc (pc' := 207) (loc' := [uV, .ref r1, .int x2, .int x3, .int x4, .int x5, .int x6, .int x7, .int (x8 + 1), .int z3]) dX10_brokenOf_204 rfl rfl (kX_1 _) rfl ?_
      refine v_goto (pc' := 133) dX10_brokenOf_207 (by decide) ?_
      exact V.drop (llp_r (llp_r (llp_r (llp_r (llp_r (llp_r (llp_r (llp_r (llp_r (llp_u llp_nil)))))))))) T
    · have T := T.2 c8
      refine v_iload (pc' := 162) dX10_brokenOf_160 rfl rfl ?_
      refine v_if_ne (tgt := 168) (pc' := 165) dX10_brokenOf_162 (by decide) rfl ⟨fun c9 => ?_, fun c9 => ?_⟩
      · have T := T.1 c9
        refine v_iload_n (pc' := 169) dX10_brokenOf_168 rfl rfl ?_
        refine v_aload_n (pc' := 170) dX10_brokenOf_169 rfl rfl ?_
        refine v_iload_n (pc' := 171) dX10_brokenOf_170 rfl rfl ?_
        refine v_iload (pc' := 173) dX10_brokenOf_171 rfl rfl ?_
        refine v_iadd (pc' := 174) dX10_brokenOf_173 rfl ?_
        obtain ⟨q10, T⟩ := T
        obtain ⟨q11, T⟩ := T
        refine v_iald (pc' := 175) dX10_brokenOf_174 rfl rfl q10 q11 ?_
        refine v_if_eq (tgt := 188) (pc' := 178) dX10_brokenOf_175 (by decide) rfl ⟨fun c12 => ?_, fun c12 => ?_⟩
        · have T := T.1 c12
          refine v_iconst (pc' := 189) (v := 1) dX10_brokenOf_188 rfl kI_1 ?_
          refine v_goto (pc' := 193) dX10_brokenOf_189 (by decide) ?_
          refine v_iadd (pc' := 194) dX10_brokenOf_193 rfl ?_
          refine v_istore_n (pc' := 195) (loc' := [uV, .ref r1, .int x2, .int (x3 + 1), .int x4, .int x5, .int x6, .int x7, .int x8, .int z3]) dX10_brokenOf_194 rfl (lt_l rfl) rfl ?_
          refine v_iload (pc' := 197) dX10_brokenOf_195 rfl rfl ?_
          refine v_iconst (pc' := 198) (v := 1) dX10_brokenOf_197 rfl kI_1 ?_
          refine v_iload (pc' := 200) dX10_brokenOf_198 rfl rfl ?_
          refine v_ishl (pc' := 201) dX10_brokenOf_200 rfl ?_
          refine v_ior (pc' := 202) dX10_brokenOf_201 rfl ?_
          refine v_istore (pc' := 204) (loc' := [uV, .ref r1, .int x2, .int (x3 + 1), .int (x4 ||| (1 <<< (z3 &&& 31))), .int x5, .int x6, .int x7, .int x8, .int z3]) dX10_brokenOf_202 rfl (lt_l rfl) rfl ?_
          refine v_iinc (pc' := 207) (loc' := [uV, .ref r1, .int x2, .int (x3 + 1), .int (x4 ||| (1 <<< (z3 &&& 31))), .int x5, .int x6, .int x7, .int (x8 + 1), .int z3]) dX10_brokenOf_204 rfl rfl (kX_1 _) rfl ?_
          refine v_goto (pc' := 133) dX10_brokenOf_207 (by decide) ?_
          exact V.drop (llp_r (llp_r (llp_r (llp_r (llp_r (llp_r (llp_r (llp_r (llp_r (llp_u llp_nil)))))))))) T
        · have T := T.2 c12
          refine v_iload (pc' := 180) dX10_brokenOf_178 rfl rfl ?_
          refine v_iload (pc' := 182) dX10_brokenOf_180 rfl rfl ?_
          obtain ⟨z14, h13, k15, T⟩ := T
          refine v_callS (pc' := 185) (M1 := mX10_has) (as := [.int x4, .int z3]) (rest := [.int x3]) dX10_brokenOf_182 rfl ko_X10_193 kc_X10_has kt_X10_has (by decide) hdd rfl rfl (le_l rfl) k15 ?_
          refine v_if_eq (tgt := 192) (pc' := 188) dX10_brokenOf_185 (by decide) rfl ⟨fun c16 => ?_, fun c16 => ?_⟩
          · have T := T.1 c16
            refine v_iconst (pc' := 193) (v := 0) dX10_brokenOf_192 rfl kI_0 ?_
            refine v_iadd (pc' := 194) dX10_brokenOf_193 rfl ?_
            refine v_istore_n (pc' := 195) (loc' := [uV, .ref r1, .int x2, .int (x3 + 0), .int x4, .int x5, .int x6, .int x7, .int x8, .int z3]) dX10_brokenOf_194 rfl (lt_l rfl) rfl ?_
            refine v_iload (pc' := 197) dX10_brokenOf_195 rfl rfl ?_
            refine v_iconst (pc' := 198) (v := 1) dX10_brokenOf_197 rfl kI_1 ?_
            refine v_iload (pc' := 200) dX10_brokenOf_198 rfl rfl ?_
            refine v_ishl (pc' := 201) dX10_brokenOf_200 rfl ?_
            refine v_ior (pc' := 202) dX10_brokenOf_201 rfl ?_
            refine v_istore (pc' := 204) (loc' := [uV, .ref r1, .int x2, .int (x3 + 0), .int (x4 ||| (1 <<< (z3 &&& 31))), .int x5, .int x6, .int x7, .int x8, .int z3]) dX10_brokenOf_202 rfl (lt_l rfl) rfl ?_
            refine v_iinc (pc' := 207) (loc' := [uV, .ref r1, .int x2, .int (x3 + 0), .int (x4 ||| (1 <<< (z3 &&& 31))), .int x5, .int x6, .int x7, .int (x8 + 1), .int z3]) dX10_brokenOf_204 rfl rfl (kX_1 _) rfl ?_
            refine v_goto (pc' := 133) dX10_brokenOf_207 (by decide) ?_
            exact V.drop (llp_r (llp_r (llp_r (llp_r (llp_r (llp_r (llp_r (llp_r (llp_r (llp_u llp_nil)))))))))) T
          · have T := T.2 c16
            refine v_iconst (pc' := 189) (v := 1) dX10_brokenOf_188 rfl kI_1 ?_
            refine v_goto (pc' := 193) dX10_brokenOf_189 (by decide) ?_
            refine v_iadd (pc' := 194) dX10_brokenOf_193 rfl ?_
            refine v_istore_n (pc' := 195) (loc' := [uV, .ref r1, .int x2, .int (x3 + 1), .int x4, .int x5, .int x6, .int x7, .int x8, .int z3]) dX10_brokenOf_194 rfl (lt_l rfl) rfl ?_
            refine v_iload (pc' := 197) dX10_brokenOf_195 rfl rfl ?_
            refine v_iconst (pc' := 198) (v := 1) dX10_brokenOf_197 rfl kI_1 ?_
            refine v_iload (pc' := 200) dX10_brokenOf_198 rfl rfl ?_
            refine v_ishl (pc' := 201) dX10_brokenOf_200 rfl ?_
            refine v_ior (pc' := 202) dX10_brokenOf_201 rfl ?_
            refine v_istore (pc' := 204) (loc' := [uV, .ref r1, .int x2, .int (x3 + 1), .int (x4 ||| (1 <<< (z3 &&& 31))), .int x5, .int x6, .int x7, .int x8, .int z3]) dX10_brokenOf_202 rfl (lt_l rfl) rfl ?_
            refine v_iinc (pc' := 207) (loc' := [uV, .ref r1, .int x2, .int (x3 + 1), .int (x4 ||| (1 <<< (z3 &&& 31))), .int x5, .int x6, .int x7, .int (x8 + 1), .int z3]) dX10_brokenOf_204 rfl rfl (kX_1 _) rfl ?_
            refine v_goto (pc' := 133) dX10_brokenOf_207 (by decide) ?_
            exact V.drop (llp_r (llp_r (llp_r (llp_r (llp_r (llp_r (llp_r (llp_r (llp_r (llp_u llp_nil)))))))))) T
      · have T := T.2 c9
        refine v_goto (pc' := 204) dX10_brokenOf_165 (by decide) ?_
        refine v_iinc (pc' := 207) (loc' := [uV, .ref r1, .int x2, .int x3, .int x4, .int x5, .int x6, .int x7, .int (x8 + 1), .int z3]) dX10_brokenOf_204 rfl rfl (kX_1 _) rfl ?_
        refine v_goto (pc' := 133) dX10_brokenOf_207 (by decide) ?_
        exact V.drop (llp_r (llp_r (llp_r (llp_r (llp_r (llp_r (llp_r (llp_r (llp_r (llp_u llp_nil)))))))))) T
theorem eX10_broken {G : GG} {d : Nat} {h : Hp} {o : OU} {h' : Hp} (r0 : Nat) (x1 : Int32) (hd : 1 ≤ d) (T : kH h r0 = 18 ∧ ∃ z3 h2, VM G mX10_isWhere (d - 1) [.int x1] (h.1, (upI h.2 r0 0 0)) (.inl (some (.int z3))) h2 ∧ ((¬ z3 = 0 → kH h2 r0 = 18 ∧ ∃ z7 h6, VM G mX10_bad (d - 1) [.ref r0, .int 0, .int 1, .int 1] h2 (.inl (some (.int z7))) h6 ∧ ((z7 = 0 → kH h6 r0 = 18 ∧ ∃ z13 h12, VM G mX10_whereOf (d - 1) [.int x1] h6 (.inl (some (.int z13))) h12 ∧ kH h12 r0 = 18 ∧ ∃ z16 h15, VM G mX10_brokenOf (d - 1) [.ref r0, .ref (rH h6 r0 22), .int z13] h12 (.inl (some (.int z16))) h15 ∧ (o = .inl (some (.int z16)) ∧ h' = h15)) ∧ (¬ z7 = 0 → (o = .inl (some (.int 0)) ∧ h' = h6)))) ∧ (z3 = 0 → kH h2 r0 = 18 ∧ ∃ z20 h19, VM G mX10_bad (d - 1) [.ref r0, .int 1, .int 1, .int 1] h2 (.inl (some (.int z20))) h19 ∧ ((z20 = 0 → kH h19 r0 = 18 ∧ ∃ z26 h25, VM G mX10_whereOf (d - 1) [.int x1] h19 (.inl (some (.int z26))) h25 ∧ kH h25 r0 = 18 ∧ ∃ z29 h28, VM G mX10_brokenOf (d - 1) [.ref r0, .ref (rH h19 r0 22), .int z26] h25 (.inl (some (.int z29))) h28 ∧ (o = .inl (some (.int z29)) ∧ h' = h28)) ∧ (¬ z20 = 0 → (o = .inl (some (.int 0)) ∧ h' = h19)))))) : VM G mX10_broken d [.ref r0, .int x1] h o h' := by
  refine V.toM rfl rfl (le_l rfl) (cat_all rfl) ?_
  show V G mX10_broken d 0 [.ref r0, .int x1] [] h o h'
  have hdd : d - 1 + 1 ≤ d := by omega
  refine v_aload_n (pc' := 1) dX10_broken_0 rfl rfl ?_
  refine v_iconst (pc' := 2) (v := 0) dX10_broken_1 rfl kI_0 ?_
  obtain ⟨q1, T⟩ := T
  refine v_putI (pc' := 5) 8 0 dX10_broken_2 rfl (by decide) (by decide) rfl rfl kf_X10_72 q1 ?_
  refine v_aload_n (pc' := 6) dX10_broken_5 rfl rfl ?_
  refine v_iload_n (pc' := 7) dX10_broken_6 rfl rfl ?_
  obtain ⟨z3, h2, k4, T⟩ := T
  refine v_callS (pc' := 10) (M1 := mX10_isWhere) (as := [.int x1]) (rest := [.ref r0]) dX10_broken_7 rfl ko_X10_368 kc_X10_isWhere kt_X10_isWhere (by decide) hdd rfl rfl (le_l rfl) k4 ?_
  refine v_if_ne (tgt := 17) (pc' := 13) dX10_broken_10 (by decide) rfl ⟨fun c5 => ?_, fun c5 => ?_⟩
  · have T := T.1 c5
    refine v_iconst (pc' := 18) (v := 0) dX10_broken_17 rfl kI_0 ?_
    refine v_iconst (pc' := 19) (v := 1) dX10_broken_18 rfl kI_1 ?_
    refine v_iconst (pc' := 20) (v := 1) dX10_broken_19 rfl kI_1 ?_
    obtain ⟨q9, T⟩ := T
    obtain ⟨z7, h6, k8, T⟩ := T
    refine v_callV (pc' := 23) (M1 := mX10_bad) (as := [.int 0, .int 1, .int 1]) (r := r0) (rest := []) 8 dX10_broken_20 rfl ko_X10_155 kc_X10_bad ki_X10_bad ks_X10_bad (by decide) (by decide) hdd rfl rfl (le_l rfl) q9 k8 ?_
    refine v_if_eq (tgt := 28) (pc' := 26) dX10_broken_23 (by decide) rfl ⟨fun c10 => ?_, fun c10 => ?_⟩
    · have T := T.1 c10
      refine v_aload_n (pc' := 29) dX10_broken_28 rfl rfl ?_
      refine v_aload_n (pc' := 30) dX10_broken_29 rfl rfl ?_
      obtain ⟨q11, T⟩ := T
      refine v_getR (pc' := 33) 8 22 dX10_broken_30 rfl (by decide) (by decide) rfl kf_X10_31 q11 ?_
      refine v_iload_n (pc' := 34) dX10_broken_33 rfl rfl ?_
      obtain ⟨z13, h12, k14, T⟩ := T
      refine v_callS (pc' := 37) (M1 := mX10_whereOf) (as := [.int x1]) (rest := [.ref (rH h6 r0 22), .ref r0]) dX10_broken_34 rfl ko_X10_374 kc_X10_whereOf kt_X10_whereOf (by decide) hdd rfl rfl (le_l rfl) k14 ?_
      obtain ⟨q18, T⟩ := T
      obtain ⟨z16, h15, k17, T⟩ := T
      refine v_callV (pc' := 40) (M1 := mX10_brokenOf) (as := [.ref (rH h6 r0 22), .int z13]) (r := r0) (rest := []) 8 dX10_broken_37 rfl ko_X10_383 kc_X10_brokenOf ki_X10_brokenOf ks_X10_brokenOf (by decide) (by decide) hdd rfl rfl (le_l rfl) q18 k17 ?_
      exact v_iret dX10_broken_40 rfl T
    · have T := T.2 c10
      refine v_iconst (pc' := 27) (v := 0) dX10_broken_26 rfl kI_0 ?_
      exact v_iret dX10_broken_27 rfl T
  · have T := T.2 c5
    refine v_iconst (pc' := 14) (v := 1) dX10_broken_13 rfl kI_1 ?_
    refine v_goto (pc' := 18) dX10_broken_14 (by decide) ?_
    refine v_iconst (pc' := 19) (v := 1) dX10_broken_18 rfl kI_1 ?_
    refine v_iconst (pc' := 20) (v := 1) dX10_broken_19 rfl kI_1 ?_
    obtain ⟨q22, T⟩ := T
    obtain ⟨z20, h19, k21, T⟩ := T
    refine v_callV (pc' := 23) (M1 := mX10_bad) (as := [.int 1, .int 1, .int 1]) (r := r0) (rest := []) 8 dX10_broken_20 rfl ko_X10_155 kc_X10_bad ki_X10_bad ks_X10_bad (by decide) (by decide) hdd rfl rfl (le_l rfl) q22 k21 ?_
    refine v_if_eq (tgt := 28) (pc' := 26) dX10_broken_23 (by decide) rfl ⟨fun c23 => ?_, fun c23 => ?_⟩
    · have T := T.1 c23
      refine v_aload_n (pc' := 29) dX10_broken_28 rfl rfl ?_
      refine v_aload_n (pc' := 30) dX10_broken_29 rfl rfl ?_
      obtain ⟨q24, T⟩ := T
      refine v_getR (pc' := 33) 8 22 dX10_broken_30 rfl (by decide) (by decide) rfl kf_X10_31 q24 ?_
      refine v_iload_n (pc' := 34) dX10_broken_33 rfl rfl ?_
      obtain ⟨z26, h25, k27, T⟩ := T
      refine v_callS (pc' := 37) (M1 := mX10_whereOf) (as := [.int x1]) (rest := [.ref (rH h19 r0 22), .ref r0]) dX10_broken_34 rfl ko_X10_374 kc_X10_whereOf kt_X10_whereOf (by decide) hdd rfl rfl (le_l rfl) k27 ?_
      obtain ⟨q31, T⟩ := T
      obtain ⟨z29, h28, k30, T⟩ := T
      refine v_callV (pc' := 40) (M1 := mX10_brokenOf) (as := [.ref (rH h19 r0 22), .int z26]) (r := r0) (rest := []) 8 dX10_broken_37 rfl ko_X10_383 kc_X10_brokenOf ki_X10_brokenOf ks_X10_brokenOf (by decide) (by decide) hdd rfl rfl (le_l rfl) q31 k30 ?_
      exact v_iret dX10_broken_40 rfl T
    · have T := T.2 c23
      refine v_iconst (pc' := 27) (v := 0) dX10_broken_26 rfl kI_0 ?_
      exact v_iret dX10_broken_27 rfl T
theorem eX10_underOf {G : GG} {d : Nat} {h : Hp} {o : OU} {h' : Hp} (r0 : Nat) (x1 : Int32) (x2 : Int32) (T : V G mX10_underOf d 5 [.ref r0, .int x1, .int x2, .int 0, .int 0, uV] [] h o h') : VM G mX10_underOf d [.ref r0, .int x1, .int x2] h o h' := by
  refine V.toM rfl rfl (le_l rfl) (cat_all rfl) ?_
  show V G mX10_underOf d 0 [.ref r0, .int x1, .int x2, uV, uV, uV] [] h o h'
  refine v_iconst (pc' := 1) (v := 0) dX10_underOf_0 rfl kI_0 ?_
  refine v_istore_n (pc' := 2) (loc' := [.ref r0, .int x1, .int x2, .int 0, uV, uV]) dX10_underOf_1 rfl (lt_l rfl) rfl ?_
  refine v_iconst (pc' := 3) (v := 0) dX10_underOf_2 rfl kI_0 ?_
  refine v_istore (pc' := 5) (loc' := [.ref r0, .int x1, .int x2, .int 0, .int 0, uV]) dX10_underOf_3 rfl (lt_l rfl) rfl ?_
  exact T
theorem bX10_underOf_5 {G : GG} {d : Nat} {h : Hp} {o : OU} {h' : Hp} (r0 : Nat) (x1 : Int32) (x2 : Int32) (x3 : Int32) (x4 : Int32) (hd : 1 ≤ d) (T : kH h r0 = 18 ∧ ∃ z3 h2, VM G mX10_isKind (d - 1) [.ref (rH h r0 22), .int x1, .int x2, .int 2] h (.inl (some (.int z3))) h2 ∧ ((z3 = 0 → (o = .inl (some (.int x3)) ∧ h' = h2)) ∧ (¬ z3 = 0 → kH h2 r0 = 18 ∧ ∃ z8 h7, VM G mX10_entryOf (d - 1) [.ref (rH h2 r0 22), .int x1, .int x2, .int x4] h2 (.inl (some (.int z8))) h7 ∧ ((z8 = (-1) → (o = .inl (some (.int x3)) ∧ h' = h7)) ∧ (¬ z8 = (-1) → kH h7 r0 = 18 ∧ ∃ z13 h12, VM G mX10_entryOf (d - 1) [.ref (rH h7 r0 22), .int x1, .int x2, .int x4] h7 (.inl (some (.int z13))) h12 ∧ kH h12 r0 = 18 ∧ kH h12 (rH h12 r0 22) = 1 ∧ vp_in (x1 + z13) (lH h12 (rH h12 r0 22)) ∧ ((¬ (h12.2 (rH h12 r0 22) (x1 + z13).toNatClampNeg) = 0 → vp_in ((x1 + z13) + 1) (lH h12 (rH h12 r0 22)) ∧ ∃ z21 h20, VM G mX10_underOf (d - 1) [.ref r0, .int x1, .int (h12.2 (rH h12 r0 22) ((x1 + z13) + 1).toNatClampNeg)] h12 (.inl (some (.int z21))) h20 ∧ V G mX10_underOf d 5 [.ref r0, .int x1, .int x2, .int (x3 + (1 + z21)), .int (x4 + 1), uV] [] h20 o h') ∧ ((h12.2 (rH h12 r0 22) (x1 + z13).toNatClampNeg) = 0 → V G mX10_underOf d 5 [.ref r0, .int x1, .int x2, .int (x3 + 0), .int (x4 + 1), uV] [] h12 o h'))))))) : V G mX10_underOf d 5 [.ref r0, .int x1, .int x2, .int x3, .int x4, uV] [] h o h' := by
  have hdd : d - 1 + 1 ≤ d := by omega
  refine v_aload_n (pc' := 6) dX10_underOf_5 rfl rfl ?_
  obtain ⟨q1, T⟩ := T
  refine v_getR (pc' := 9) 8 22 dX10_underOf_6 rfl (by decide) (by decide) rfl kf_X10_31 q1 ?_
  refine v_iload_n (pc' := 10) dX10_underOf_9 rfl rfl ?_
  refine v_iload_n (pc' := 11) dX10_underOf_10 rfl rfl ?_
  refine v_iconst (pc' := 12) (v := 2) dX10_underOf_11 rfl kI_2 ?_
  obtain ⟨z3, h2, k4, T⟩ := T
  refine v_callS (pc' := 15) (M1 := mX10_isKind) (as := [.ref (rH h r0 22), .int x1, .int x2, .int 2]) (rest := []) dX10_underOf_12 rfl ko_X10_273 kc_X10_isKind kt_X10_isKind (by decide) hdd rfl rfl (le_l rfl) k4 ?_
  refine v_if_eq (tgt := 87) (pc' := 18) dX10_underOf_15 (by decide) rfl ⟨fun c5 => ?_, fun c5 => ?_⟩
  · have T := T.1 c5
    refine v_iload_n (pc' := 88) dX10_underOf_87 rfl rfl ?_
    exact v_iret dX10_underOf_88 rfl T
  · have T := T.2 c5
    refine v_aload_n (pc' := 19) dX10_underOf_18 rfl rfl ?_
    obtain ⟨q6, T⟩ := T
    refine v_getR (pc' := 22) 8 22 dX10_underOf_19 rfl (by decide) (by decide) rfl kf_X10_31 q6 ?_
    refine v_iload_n (pc' := 23) dX10_underOf_22 rfl rfl ?_
    refine v_iload_n (pc' := 24) dX10_underOf_23 rfl rfl ?_
    refine v_iload (pc' := 26) dX10_underOf_24 rfl rfl ?_
    obtain ⟨z8, h7, k9, T⟩ := T
    refine v_callS (pc' := 29) (M1 := mX10_entryOf) (as := [.ref (rH h2 r0 22), .int x1, .int x2, .int x4]) (rest := []) dX10_underOf_26 rfl ko_X10_270 kc_X10_entryOf kt_X10_entryOf (by decide) hdd rfl rfl (le_l rfl) k9 ?_
    refine v_iconst (pc' := 30) (v := (-1)) dX10_underOf_29 rfl kI_m1 ?_
    refine v_icmp_eq (tgt := 87) (pc' := 33) dX10_underOf_30 (by decide) rfl ⟨fun c10 => ?_, fun c10 => ?_⟩
    · have T := T.1 c10
      refine v_iload_n (pc' := 88) dX10_underOf_87 rfl rfl ?_
      exact v_iret dX10_underOf_88 rfl T
    · have T := T.2 c10
      refine v_iload_n (pc' := 34) dX10_underOf_33 rfl rfl ?_
      refine v_aload_n (pc' := 35) dX10_underOf_34 rfl rfl ?_
      obtain ⟨q11, T⟩ := T
      refine v_getR (pc' := 38) 8 22 dX10_underOf_35 rfl (by decide) (by decide) rfl kf_X10_31 q11 ?_
      refine v_iload_n (pc' := 39) dX10_underOf_38 rfl rfl ?_
      refine v_iload_n (pc' := 40) dX10_underOf_39 rfl rfl ?_
      refine v_iload (pc' := 42) dX10_underOf_40 rfl rfl ?_
      obtain ⟨z13, h12, k14, T⟩ := T
      refine v_callS (pc' := 45) (M1 := mX10_entryOf) (as := [.ref (rH h7 r0 22), .int x1, .int x2, .int x4]) (rest := [.int x1]) dX10_underOf_42 rfl ko_X10_270 kc_X10_entryOf kt_X10_entryOf (by decide) hdd rfl rfl (le_l rfl) k14 ?_
      refine v_iadd (pc' := 46) dX10_underOf_45 rfl ?_
      refine v_istore (pc' := 48) (loc' := [.ref r0, .int x1, .int x2, .int x3, .int x4, .int (x1 + z13)]) dX10_underOf_46 rfl (lt_l rfl) rfl ?_
      refine v_iload_n (pc' := 49) dX10_underOf_48 rfl rfl ?_
      refine v_aload_n (pc' := 50) dX10_underOf_49 rfl rfl ?_
      obtain ⟨q15, T⟩ := T
      refine v_getR (pc' := 53) 8 22 dX10_underOf_50 rfl (by decide) (by decide) rfl kf_X10_31 q15 ?_
      refine v_iload (pc' := 55) dX10_underOf_53 rfl rfl ?_
      obtain ⟨q16, T⟩ := T
      obtain ⟨q17, T⟩ := T
      refine v_iald (pc' := 56) dX10_underOf_55 rfl rfl q16 q17 ?_
      refine v_if_ne (tgt := 63) (pc' := 59) dX10_underOf_56 (by decide) rfl ⟨fun c18 => ?_, fun c18 => ?_⟩
      · have T := T.1 c18
        refine v_iconst (pc' := 64) (v := 1) dX10_underOf_63 rfl kI_1 ?_
        refine v_aload_n (pc' := 65) dX10_underOf_64 rfl rfl ?_
        refine v_iload_n (pc' := 66) dX10_underOf_65 rfl rfl ?_
        refine v_aload_n (pc' := 67) dX10_underOf_66 rfl rfl ?_
        refine v_getR (pc' := 70) 8 22 dX10_underOf_67 rfl (by decide) (by decide) rfl kf_X10_31 q15 ?_
        refine v_iload (pc' := 72) dX10_underOf_70 rfl rfl ?_
        refine v_iconst (pc' := 73) (v := 1) dX10_underOf_72 rfl kI_1 ?_
        refine v_iadd (pc' := 74) dX10_underOf_73 rfl ?_
        obtain ⟨q19, T⟩ := T
        refine v_iald (pc' := 75) dX10_underOf_74 rfl rfl q16 q19 ?_
        obtain ⟨z21, h20, k22, T⟩ := T
        refine v_callV (pc' := 78) (M1 := mX10_underOf) (as := [.int x1, .int (h12.2 (rH h12 r0 22) ((x1 + z13) + 1).toNatClampNeg)]) (r := r0) (rest := [.int 1, .int x3]) 8 dX10_underOf_75 rfl ko_X10_386 kc_X10_underOf ki_X10_underOf ks_X10_underOf (by decide) (by decide) hdd rfl rfl (le_l rfl) q15 k22 ?_
        refine v_iadd (pc' := 79) dX10_underOf_78 rfl ?_
        refine v_iadd (pc' := 80) dX10_underOf_79 rfl ?_
        refine v_istore_n (pc' := 81) (loc' := [.ref r0, .int x1, .int x2, .int (x3 + (1 + z21)), .int x4, .int (x1 + z13)]) dX10_underOf_80 rfl (lt_l rfl) rfl ?_
        refine v_iinc (pc' := 84) (loc' := [.ref r0, .int x1, .int x2, .int (x3 + (1 + z21)), .int (x4 + 1), .int (x1 + z13)]) dX10_underOf_81 rfl rfl (kX_1 _) rfl ?_
        refine v_goto (pc' := 5) dX10_underOf_84 (by decide) ?_
        exact V.drop (llp_r (llp_r (llp_r (llp_r (llp_r (llp_u llp_nil)))))) T
      · have T := T.2 c18
        refine v_iconst (pc' := 60) (v := 0) dX10_underOf_59 rfl kI_0 ?_
        refine v_goto (pc' := 79) dX10_underOf_60 (by decide) ?_
        refine v_iadd (pc' := 80) dX10_underOf_79 rfl ?_
        refine v_istore_n (pc' := 81) (loc' := [.ref r0, .int x1, .int x2, .int (x3 + 0), .int x4, .int (x1 + z13)]) dX10_underOf_80 rfl (lt_l rfl) rfl ?_
        refine v_iinc (pc' := 84) (loc' := [.ref r0, .int x1, .int x2, .int (x3 + 0), .int (x4 + 1), .int (x1 + z13)]) dX10_underOf_81 rfl rfl (kX_1 _) rfl ?_
        refine v_goto (pc' := 5) dX10_underOf_84 (by decide) ?_
        exact V.drop (llp_r (llp_r (llp_r (llp_r (llp_r (llp_u llp_nil)))))) T
theorem eX10_under {G : GG} {d : Nat} {h : Hp} {o : OU} {h' : Hp} (r0 : Nat) (x1 : Int32) (x2 : Int32) (hd : 1 ≤ d) (T : kH h r0 = 18 ∧ ∃ z3 h2, VM G mX10_isNode (d - 1) [.int x1] (h.1, (upI h.2 r0 0 0)) (.inl (some (.int z3))) h2 ∧ ((¬ z3 = 0 → kH h2 r0 = 18 ∧ ∃ z7 h6, VM G mX10_bad (d - 1) [.ref r0, .int 0, .int 1, .int 0] h2 (.inl (some (.int z7))) h6 ∧ ((¬ z7 = 0 → (o = .inl (some (.int 0)) ∧ h' = h6)) ∧ (z7 = 0 → ∃ z12 h11, VM G mX10_isWhere (d - 1) [.int x2] h6 (.inl (some (.int z12))) h11 ∧ ((¬ z12 = 0 → kH h11 r0 = 18 ∧ ∃ z16 h15, VM G mX10_bad (d - 1) [.ref r0, .int 0, .int 2, .int 1] h11 (.inl (some (.int z16))) h15 ∧ ((z16 = 0 → ∃ z21 h20, VM G mX10_whereOf (d - 1) [.int x2] h15 (.inl (some (.int z21))) h20 ∧ kH h20 r0 = 18 ∧ ∃ z24 h23, VM G mX10_underOf (d - 1) [.ref r0, .int z21, .int x1] h20 (.inl (some (.int z24))) h23 ∧ (o = .inl (some (.int z24)) ∧ h' = h23)) ∧ (¬ z16 = 0 → (o = .inl (some (.int 0)) ∧ h' = h15)))) ∧ (z12 = 0 → kH h11 r0 = 18 ∧ ∃ z28 h27, VM G mX10_bad (d - 1) [.ref r0, .int 1, .int 2, .int 1] h11 (.inl (some (.int z28))) h27 ∧ ((z28 = 0 → ∃ z33 h32, VM G mX10_whereOf (d - 1) [.int x2] h27 (.inl (some (.int z33))) h32 ∧ kH h32 r0 = 18 ∧ ∃ z36 h35, VM G mX10_underOf (d - 1) [.ref r0, .int z33, .int x1] h32 (.inl (some (.int z36))) h35 ∧ (o = .inl (some (.int z36)) ∧ h' = h35)) ∧ (¬ z28 = 0 → (o = .inl (some (.int 0)) ∧ h' = h27)))))))) ∧ (z3 = 0 → kH h2 r0 = 18 ∧ ∃ z40 h39, VM G mX10_bad (d - 1) [.ref r0, .int 1, .int 1, .int 0] h2 (.inl (some (.int z40))) h39 ∧ ((¬ z40 = 0 → (o = .inl (some (.int 0)) ∧ h' = h39)) ∧ (z40 = 0 → ∃ z45 h44, VM G mX10_isWhere (d - 1) [.int x2] h39 (.inl (some (.int z45))) h44 ∧ ((¬ z45 = 0 → kH h44 r0 = 18 ∧ ∃ z49 h48, VM G mX10_bad (d - 1) [.ref r0, .int 0, .int 2, .int 1] h44 (.inl (some (.int z49))) h48 ∧ ((z49 = 0 → ∃ z54 h53, VM G mX10_whereOf (d - 1) [.int x2] h48 (.inl (some (.int z54))) h53 ∧ kH h53 r0 = 18 ∧ ∃ z57 h56, VM G mX10_underOf (d - 1) [.ref r0, .int z54, .int x1] h53 (.inl (some (.int z57))) h56 ∧ (o = .inl (some (.int z57)) ∧ h' = h56)) ∧ (¬ z49 = 0 → (o = .inl (some (.int 0)) ∧ h' = h48)))) ∧ (z45 = 0 → kH h44 r0 = 18 ∧ ∃ z61 h60, VM G mX10_bad (d - 1) [.ref r0, .int 1, .int 2, .int 1] h44 (.inl (some (.int z61))) h60 ∧ ((z61 = 0 → ∃ z66 h65, VM G mX10_whereOf (d - 1) [.int x2] h60 (.inl (some (.int z66))) h65 ∧ kH h65 r0 = 18 ∧ ∃ z69 h68, VM G mX10_underOf (d - 1) [.ref r0, .int z66, .int x1] h65 (.inl (some (.int z69))) h68 ∧ (o = .inl (some (.int z69)) ∧ h' = h68)) ∧ (¬ z61 = 0 → (o = .inl (some (.int 0)) ∧ h' = h60)))))))))) : VM G mX10_under d [.ref r0, .int x1, .int x2] h o h' := by
  refine V.toM rfl rfl (le_l rfl) (cat_all rfl) ?_
  show V G mX10_under d 0 [.ref r0, .int x1, .int x2] [] h o h'
  have hdd : d - 1 + 1 ≤ d := by omega
  refine v_aload_n (pc' := 1) dX10_under_0 rfl rfl ?_
  refine v_iconst (pc' := 2) (v := 0) dX10_under_1 rfl kI_0 ?_
  obtain ⟨q1, T⟩ := T
  refine v_putI (pc' := 5) 8 0 dX10_under_2 rfl (by decide) (by decide) rfl rfl kf_X10_72 q1 ?_
  refine v_aload_n (pc' := 6) dX10_under_5 rfl rfl ?_
  refine v_iload_n (pc' := 7) dX10_under_6 rfl rfl ?_
  obtain ⟨z3, h2, k4, T⟩ := T
  refine v_callS (pc' := 10) (M1 := mX10_isNode) (as := [.int x1]) (rest := [.ref r0]) dX10_under_7 rfl ko_X10_377 kc_X10_isNode kt_X10_isNode (by decide) hdd rfl rfl (le_l rfl) k4 ?_
  refine v_if_ne (tgt := 17) (pc' := 13) dX10_under_10 (by decide) rfl ⟨fun c5 => ?_, fun c5 => ?_⟩
  · have T := T.1 c5
    refine v_iconst (pc' := 18) (v := 0) dX10_under_17 rfl kI_0 ?_
    refine v_iconst (pc' := 19) (v := 1) dX10_under_18 rfl kI_1 ?_
    refine v_iconst (pc' := 20) (v := 0) dX10_under_19 rfl kI_0 ?_
    obtain ⟨q9, T⟩ := T
    obtain ⟨z7, h6, k8, T⟩ := T
    refine v_callV (pc' := 23) (M1 := mX10_bad) (as := [.int 0, .int 1, .int 0]) (r := r0) (rest := []) 8 dX10_under_20 rfl ko_X10_155 kc_X10_bad ki_X10_bad ks_X10_bad (by decide) (by decide) hdd rfl rfl (le_l rfl) q9 k8 ?_
    refine v_if_ne (tgt := 47) (pc' := 26) dX10_under_23 (by decide) rfl ⟨fun c10 => ?_, fun c10 => ?_⟩
    · have T := T.1 c10
      refine v_iconst (pc' := 48) (v := 0) dX10_under_47 rfl kI_0 ?_
      exact v_iret dX10_under_48 rfl T
    · have T := T.2 c10
      refine v_aload_n (pc' := 27) dX10_under_26 rfl rfl ?_
      refine v_iload_n (pc' := 28) dX10_under_27 rfl rfl ?_
      obtain ⟨z12, h11, k13, T⟩ := T
      refine v_callS (pc' := 31) (M1 := mX10_isWhere) (as := [.int x2]) (rest := [.ref r0]) dX10_under_28 rfl ko_X10_368 kc_X10_isWhere kt_X10_isWhere (by decide) hdd rfl rfl (le_l rfl) k13 ?_
      refine v_if_ne (tgt := 38) (pc' := 34) dX10_under_31 (by decide) rfl ⟨fun c14 => ?_, fun c14 => ?_⟩
      · have T := T.1 c14
        refine v_iconst (pc' := 39) (v := 0) dX10_under_38 rfl kI_0 ?_
        refine v_iconst (pc' := 40) (v := 2) dX10_under_39 rfl kI_2 ?_
        refine v_iconst (pc' := 41) (v := 1) dX10_under_40 rfl kI_1 ?_
        obtain ⟨q18, T⟩ := T
        obtain ⟨z16, h15, k17, T⟩ := T
        refine v_callV (pc' := 44) (M1 := mX10_bad) (as := [.int 0, .int 2, .int 1]) (r := r0) (rest := []) 8 dX10_under_41 rfl ko_X10_155 kc_X10_bad ki_X10_bad ks_X10_bad (by decide) (by decide) hdd rfl rfl (le_l rfl) q18 k17 ?_
        refine v_if_eq (tgt := 49) (pc' := 47) dX10_under_44 (by decide) rfl ⟨fun c19 => ?_, fun c19 => ?_⟩
        · have T := T.1 c19
          refine v_aload_n (pc' := 50) dX10_under_49 rfl rfl ?_
          refine v_iload_n (pc' := 51) dX10_under_50 rfl rfl ?_
          obtain ⟨z21, h20, k22, T⟩ := T
          refine v_callS (pc' := 54) (M1 := mX10_whereOf) (as := [.int x2]) (rest := [.ref r0]) dX10_under_51 rfl ko_X10_374 kc_X10_whereOf kt_X10_whereOf (by decide) hdd rfl rfl (le_l rfl) k22 ?_
          refine v_iload_n (pc' := 55) dX10_under_54 rfl rfl ?_
          obtain ⟨q26, T⟩ := T
          obtain ⟨z24, h23, k25, T⟩ := T
          refine v_callV (pc' := 58) (M1 := mX10_underOf) (as := [.int z21, .int x1]) (r := r0) (rest := []) 8 dX10_under_55 rfl ko_X10_386 kc_X10_underOf ki_X10_underOf ks_X10_underOf (by decide) (by decide) hdd rfl rfl (le_l rfl) q26 k25 ?_
          exact v_iret dX10_under_58 rfl T
        · have T := T.2 c19
          refine v_iconst (pc' := 48) (v := 0) dX10_under_47 rfl kI_0 ?_
          exact v_iret dX10_under_48 rfl T
      · have T := T.2 c14
        refine v_iconst (pc' := 35) (v := 1) dX10_under_34 rfl kI_1 ?_
        refine v_goto (pc' := 39) dX10_under_35 (by decide) ?_
        refine v_iconst (pc' := 40) (v := 2) dX10_under_39 rfl kI_2 ?_
        refine v_iconst (pc' := 41) (v := 1) dX10_under_40 rfl kI_1 ?_
        obtain ⟨q30, T⟩ := T
        obtain ⟨z28, h27, k29, T⟩ := T
        refine v_callV (pc' := 44) (M1 := mX10_bad) (as := [.int 1, .int 2, .int 1]) (r := r0) (rest := []) 8 dX10_under_41 rfl ko_X10_155 kc_X10_bad ki_X10_bad ks_X10_bad (by decide) (by decide) hdd rfl rfl (le_l rfl) q30 k29 ?_
        refine v_if_eq (tgt := 49) (pc' := 47) dX10_under_44 (by decide) rfl ⟨fun c31 => ?_, fun c31 => ?_⟩
        · have T := T.1 c31
          refine v_aload_n (pc' := 50) dX10_under_49 rfl rfl ?_
          refine v_iload_n (pc' := 51) dX10_under_50 rfl rfl ?_
          obtain ⟨z33, h32, k34, T⟩ := T
          refine v_callS (pc' := 54) (M1 := mX10_whereOf) (as := [.int x2]) (rest := [.ref r0]) dX10_under_51 rfl ko_X10_374 kc_X10_whereOf kt_X10_whereOf (by decide) hdd rfl rfl (le_l rfl) k34 ?_
          refine v_iload_n (pc' := 55) dX10_under_54 rfl rfl ?_
          obtain ⟨q38, T⟩ := T
          obtain ⟨z36, h35, k37, T⟩ := T
          refine v_callV (pc' := 58) (M1 := mX10_underOf) (as := [.int z33, .int x1]) (r := r0) (rest := []) 8 dX10_under_55 rfl ko_X10_386 kc_X10_underOf ki_X10_underOf ks_X10_underOf (by decide) (by decide) hdd rfl rfl (le_l rfl) q38 k37 ?_
          exact v_iret dX10_under_58 rfl T
        · have T := T.2 c31
          refine v_iconst (pc' := 48) (v := 0) dX10_under_47 rfl kI_0 ?_
          exact v_iret dX10_under_48 rfl T
  · have T := T.2 c5
    refine v_iconst (pc' := 14) (v := 1) dX10_under_13 rfl kI_1 ?_
    refine v_goto (pc' := 18) dX10_under_14 (by decide) ?_
    refine v_iconst (pc' := 19) (v := 1) dX10_under_18 rfl kI_1 ?_
    refine v_iconst (pc' := 20) (v := 0) dX10_under_19 rfl kI_0 ?_
    obtain ⟨q42, T⟩ := T
    obtain ⟨z40, h39, k41, T⟩ := T
    refine v_callV (pc' := 23) (M1 := mX10_bad) (as := [.int 1, .int 1, .int 0]) (r := r0) (rest := []) 8 dX10_under_20 rfl ko_X10_155 kc_X10_bad ki_X10_bad ks_X10_bad (by decide) (by decide) hdd rfl rfl (le_l rfl) q42 k41 ?_
    refine v_if_ne (tgt := 47) (pc' := 26) dX10_under_23 (by decide) rfl ⟨fun c43 => ?_, fun c43 => ?_⟩
    · have T := T.1 c43
      refine v_iconst (pc' := 48) (v := 0) dX10_under_47 rfl kI_0 ?_
      exact v_iret dX10_under_48 rfl T
    · have T := T.2 c43
      refine v_aload_n (pc' := 27) dX10_under_26 rfl rfl ?_
      refine v_iload_n (pc' := 28) dX10_under_27 rfl rfl ?_
      obtain ⟨z45, h44, k46, T⟩ := T
      refine v_callS (pc' := 31) (M1 := mX10_isWhere) (as := [.int x2]) (rest := [.ref r0]) dX10_under_28 rfl ko_X10_368 kc_X10_isWhere kt_X10_isWhere (by decide) hdd rfl rfl (le_l rfl) k46 ?_
      refine v_if_ne (tgt := 38) (pc' := 34) dX10_under_31 (by decide) rfl ⟨fun c47 => ?_, fun c47 => ?_⟩
      · have T := T.1 c47
        refine v_iconst (pc' := 39) (v := 0) dX10_under_38 rfl kI_0 ?_
        refine v_iconst (pc' := 40) (v := 2) dX10_under_39 rfl kI_2 ?_
        refine v_iconst (pc' := 41) (v := 1) dX10_under_40 rfl kI_1 ?_
        obtain ⟨q51, T⟩ := T
        obtain ⟨z49, h48, k50, T⟩ := T
        refine v_callV (pc' := 44) (M1 := mX10_bad) (as := [.int 0, .int 2, .int 1]) (r := r0) (rest := []) 8 dX10_under_41 rfl ko_X10_155 kc_X10_bad ki_X10_bad ks_X10_bad (by decide) (by decide) hdd rfl rfl (le_l rfl) q51 k50 ?_
        refine v_if_eq (tgt := 49) (pc' := 47) dX10_under_44 (by decide) rfl ⟨fun c52 => ?_, fun c52 => ?_⟩
        · have T := T.1 c52
          refine v_aload_n (pc' := 50) dX10_under_49 rfl rfl ?_
          refine v_iload_n (pc' := 51) dX10_under_50 rfl rfl ?_
          obtain ⟨z54, h53, k55, T⟩ := T
          refine v_callS (pc' := 54) (M1 := mX10_whereOf) (as := [.int x2]) (rest := [.ref r0]) dX10_under_51 rfl ko_X10_374 kc_X10_whereOf kt_X10_whereOf (by decide) hdd rfl rfl (le_l rfl) k55 ?_
          refine v_iload_n (pc' := 55) dX10_under_54 rfl rfl ?_
          obtain ⟨q59, T⟩ := T
          obtain ⟨z57, h56, k58, T⟩ := T
          refine v_callV (pc' := 58) (M1 := mX10_underOf) (as := [.int z54, .int x1]) (r := r0) (rest := []) 8 dX10_under_55 rfl ko_X10_386 kc_X10_underOf ki_X10_underOf ks_X10_underOf (by decide) (by decide) hdd rfl rfl (le_l rfl) q59 k58 ?_
          exact v_iret dX10_under_58 rfl T
        · have T := T.2 c52
          refine v_iconst (pc' := 48) (v := 0) dX10_under_47 rfl kI_0 ?_
          exact v_iret dX10_under_48 rfl T
      · have T := T.2 c47
        refine v_iconst (pc' := 35) (v := 1) dX10_under_34 rfl kI_1 ?_
        refine v_goto (pc' := 39) dX10_under_35 (by decide) ?_
        refine v_iconst (pc' := 40) (v := 2) dX10_under_39 rfl kI_2 ?_
        refine v_iconst (pc' := 41) (v := 1) dX10_under_40 rfl kI_1 ?_
        obtain ⟨q63, T⟩ := T
        obtain ⟨z61, h60, k62, T⟩ := T
        refine v_callV (pc' := 44) (M1 := mX10_bad) (as := [.int 1, .int 2, .int 1]) (r := r0) (rest := []) 8 dX10_under_41 rfl ko_X10_155 kc_X10_bad ki_X10_bad ks_X10_bad (by decide) (by decide) hdd rfl rfl (le_l rfl) q63 k62 ?_
        refine v_if_eq (tgt := 49) (pc' := 47) dX10_under_44 (by decide) rfl ⟨fun c64 => ?_, fun c64 => ?_⟩
        · have T := T.1 c64
          refine v_aload_n (pc' := 50) dX10_under_49 rfl rfl ?_
          refine v_iload_n (pc' := 51) dX10_under_50 rfl rfl ?_
          obtain ⟨z66, h65, k67, T⟩ := T
          refine v_callS (pc' := 54) (M1 := mX10_whereOf) (as := [.int x2]) (rest := [.ref r0]) dX10_under_51 rfl ko_X10_374 kc_X10_whereOf kt_X10_whereOf (by decide) hdd rfl rfl (le_l rfl) k67 ?_
          refine v_iload_n (pc' := 55) dX10_under_54 rfl rfl ?_
          obtain ⟨q71, T⟩ := T
          obtain ⟨z69, h68, k70, T⟩ := T
          refine v_callV (pc' := 58) (M1 := mX10_underOf) (as := [.int z66, .int x1]) (r := r0) (rest := []) 8 dX10_under_55 rfl ko_X10_386 kc_X10_underOf ki_X10_underOf ks_X10_underOf (by decide) (by decide) hdd rfl rfl (le_l rfl) q71 k70 ?_
          exact v_iret dX10_under_58 rfl T
        · have T := T.2 c64
          refine v_iconst (pc' := 48) (v := 0) dX10_under_47 rfl kI_0 ?_
          exact v_iret dX10_under_48 rfl T
theorem eX10_deepOf {G : GG} {d : Nat} {h : Hp} {o : OU} {h' : Hp} (r0 : Nat) (x1 : Int32) (x2 : Int32) (hd : 1 ≤ d) (T : kH h r0 = 18 ∧ ∃ z3 h2, VM G mX10_isKind (d - 1) [.ref (rH h r0 22), .int x1, .int x2, .int 2] h (.inl (some (.int z3))) h2 ∧ ((¬ z3 = 0 → V G mX10_deepOf d 20 [.ref r0, .int x1, .int x2, .int 0, .int 0, uV] [] h2 o h') ∧ (z3 = 0 → (o = .inl (some (.int 0)) ∧ h' = h2)))) : VM G mX10_deepOf d [.ref r0, .int x1, .int x2] h o h' := by
  refine V.toM rfl rfl (le_l rfl) (cat_all rfl) ?_
  show V G mX10_deepOf d 0 [.ref r0, .int x1, .int x2, uV, uV, uV] [] h o h'
  have hdd : d - 1 + 1 ≤ d := by omega
  refine v_aload_n (pc' := 1) dX10_deepOf_0 rfl rfl ?_
  obtain ⟨q1, T⟩ := T
  refine v_getR (pc' := 4) 8 22 dX10_deepOf_1 rfl (by decide) (by decide) rfl kf_X10_31 q1 ?_
  refine v_iload_n (pc' := 5) dX10_deepOf_4 rfl rfl ?_
  refine v_iload_n (pc' := 6) dX10_deepOf_5 rfl rfl ?_
  refine v_iconst (pc' := 7) (v := 2) dX10_deepOf_6 rfl kI_2 ?_
  obtain ⟨z3, h2, k4, T⟩ := T
  refine v_callS (pc' := 10) (M1 := mX10_isKind) (as := [.ref (rH h r0 22), .int x1, .int x2, .int 2]) (rest := []) dX10_deepOf_7 rfl ko_X10_273 kc_X10_isKind kt_X10_isKind (by decide) hdd rfl rfl (le_l rfl) k4 ?_
  refine v_if_ne (tgt := 15) (pc' := 13) dX10_deepOf_10 (by decide) rfl ⟨fun c5 => ?_, fun c5 => ?_⟩
  · have T := T.1 c5
    refine v_iconst (pc' := 16) (v := 0) dX10_deepOf_15 rfl kI_0 ?_
    refine v_istore_n (pc' := 17) (loc' := [.ref r0, .int x1, .int x2, .int 0, uV, uV]) dX10_deepOf_16 rfl (lt_l rfl) rfl ?_
    refine v_iconst (pc' := 18) (v := 0) dX10_deepOf_17 rfl kI_0 ?_
    refine v_istore (pc' := 20) (loc' := [.ref r0, .int x1, .int x2, .int 0, .int 0, uV]) dX10_deepOf_18 rfl (lt_l rfl) rfl ?_
    exact T
  · have T := T.2 c5
    refine v_iconst (pc' := 14) (v := 0) dX10_deepOf_13 rfl kI_0 ?_
    exact v_iret dX10_deepOf_14 rfl T
theorem bX10_deepOf_20 {G : GG} {d : Nat} {h : Hp} {o : OU} {h' : Hp} (r0 : Nat) (x1 : Int32) (x2 : Int32) (x3 : Int32) (x4 : Int32) (hd : 1 ≤ d) (T : kH h r0 = 18 ∧ ∃ z3 h2, VM G mX10_entryOf (d - 1) [.ref (rH h r0 22), .int x1, .int x2, .int x4] h (.inl (some (.int z3))) h2 ∧ ((z3 = (-1) → (o = .inl (some (.int (x3 + 1))) ∧ h' = h2)) ∧ (¬ z3 = (-1) → kH h2 r0 = 18 ∧ ∃ z8 h7, VM G mX10_entryOf (d - 1) [.ref (rH h2 r0 22), .int x1, .int x2, .int x4] h2 (.inl (some (.int z8))) h7 ∧ kH h7 r0 = 18 ∧ kH h7 (rH h7 r0 22) = 1 ∧ vp_in (x1 + z8) (lH h7 (rH h7 r0 22)) ∧ ((¬ (h7.2 (rH h7 r0 22) (x1 + z8).toNatClampNeg) = 0 → vp_in ((x1 + z8) + 1) (lH h7 (rH h7 r0 22)) ∧ ∃ z16 h15, VM G mX10_deepOf (d - 1) [.ref r0, .int x1, .int (h7.2 (rH h7 r0 22) ((x1 + z8) + 1).toNatClampNeg)] h7 (.inl (some (.int z16))) h15 ∧ ∃ z19 h18, VM G mX10_more (d - 1) [.int x3, .int z16] h15 (.inl (some (.int z19))) h18 ∧ V G mX10_deepOf d 20 [.ref r0, .int x1, .int x2, .int z19, .int (x4 + 1), uV] [] h18 o h') ∧ ((h7.2 (rH h7 r0 22) (x1 + z8).toNatClampNeg) = 0 → V G mX10_deepOf d 20 [.ref r0, .int x1, .int x2, .int x3, .int (x4 + 1), uV] [] h7 o h'))))) : V G mX10_deepOf d 20 [.ref r0, .int x1, .int x2, .int x3, .int x4, uV] [] h o h' := by
  have hdd : d - 1 + 1 ≤ d := by omega
  refine v_aload_n (pc' := 21) dX10_deepOf_20 rfl rfl ?_
  obtain ⟨q1, T⟩ := T
  refine v_getR (pc' := 24) 8 22 dX10_deepOf_21 rfl (by decide) (by decide) rfl kf_X10_31 q1 ?_
  refine v_iload_n (pc' := 25) dX10_deepOf_24 rfl rfl ?_
  refine v_iload_n (pc' := 26) dX10_deepOf_25 rfl rfl ?_
  refine v_iload (pc' := 28) dX10_deepOf_26 rfl rfl ?_
  obtain ⟨z3, h2, k4, T⟩ := T
  refine v_callS (pc' := 31) (M1 := mX10_entryOf) (as := [.ref (rH h r0 22), .int x1, .int x2, .int x4]) (rest := []) dX10_deepOf_28 rfl ko_X10_270 kc_X10_entryOf kt_X10_entryOf (by decide) hdd rfl rfl (le_l rfl) k4 ?_
  refine v_iconst (pc' := 32) (v := (-1)) dX10_deepOf_31 rfl kI_m1 ?_
  refine v_icmp_eq (tgt := 89) (pc' := 35) dX10_deepOf_32 (by decide) rfl ⟨fun c5 => ?_, fun c5 => ?_⟩
  · have T := T.1 c5
    refine v_iload_n (pc' := 90) dX10_deepOf_89 rfl rfl ?_
    refine v_iconst (pc' := 91) (v := 1) dX10_deepOf_90 rfl kI_1 ?_
    refine v_iadd (pc' := 92) dX10_deepOf_91 rfl ?_
    exact v_iret dX10_deepOf_92 rfl T
  · have T := T.2 c5
    refine v_iload_n (pc' := 36) dX10_deepOf_35 rfl rfl ?_
    refine v_aload_n (pc' := 37) dX10_deepOf_36 rfl rfl ?_
    obtain ⟨q6, T⟩ := T
    refine v_getR (pc' := 40) 8 22 dX10_deepOf_37 rfl (by decide) (by decide) rfl kf_X10_31 q6 ?_
    refine v_iload_n (pc' := 41) dX10_deepOf_40 rfl rfl ?_
    refine v_iload_n (pc' := 42) dX10_deepOf_41 rfl rfl ?_
    refine v_iload (pc' := 44) dX10_deepOf_42 rfl rfl ?_
    obtain ⟨z8, h7, k9, T⟩ := T
    refine v_callS (pc' := 47) (M1 := mX10_entryOf) (as := [.ref (rH h2 r0 22), .int x1, .int x2, .int x4]) (rest := [.int x1]) dX10_deepOf_44 rfl ko_X10_270 kc_X10_entryOf kt_X10_entryOf (by decide) hdd rfl rfl (le_l rfl) k9 ?_
    refine v_iadd (pc' := 48) dX10_deepOf_47 rfl ?_
    refine v_istore (pc' := 50) (loc' := [.ref r0, .int x1, .int x2, .int x3, .int x4, .int (x1 + z8)]) dX10_deepOf_48 rfl (lt_l rfl) rfl ?_
    refine v_aload_n (pc' := 51) dX10_deepOf_50 rfl rfl ?_
    obtain ⟨q10, T⟩ := T
    refine v_getR (pc' := 54) 8 22 dX10_deepOf_51 rfl (by decide) (by decide) rfl kf_X10_31 q10 ?_
    refine v_iload (pc' := 56) dX10_deepOf_54 rfl rfl ?_
    obtain ⟨q11, T⟩ := T
    obtain ⟨q12, T⟩ := T
    refine v_iald (pc' := 57) dX10_deepOf_56 rfl rfl q11 q12 ?_
    refine v_if_ne (tgt := 64) (pc' := 60) dX10_deepOf_57 (by decide) rfl ⟨fun c13 => ?_, fun c13 => ?_⟩
    · have T := T.1 c13
      refine v_iload_n (pc' := 65) dX10_deepOf_64 rfl rfl ?_
      refine v_aload_n (pc' := 66) dX10_deepOf_65 rfl rfl ?_
      refine v_iload_n (pc' := 67) dX10_deepOf_66 rfl rfl ?_
      refine v_aload_n (pc' := 68) dX10_deepOf_67 rfl rfl ?_
      refine v_getR (pc' := 71) 8 22 dX10_deepOf_68 rfl (by decide) (by decide) rfl kf_X10_31 q10 ?_
      refine v_iload (pc' := 73) dX10_deepOf_71 rfl rfl ?_
      refine v_iconst (pc' := 74) (v := 1) dX10_deepOf_73 rfl kI_1 ?_
      refine v_iadd (pc' := 75) dX10_deepOf_74 rfl ?_
      obtain ⟨q14, T⟩ := T
      refine v_iald (pc' := 76) dX10_deepOf_75 rfl rfl q11 q14 ?_
      obtain ⟨z16, h15, k17, T⟩ := T
      refine v_callV (pc' := 79) (M1 := mX10_deepOf) (as := [.int x1, .int (h7.2 (rH h7 r0 22) ((x1 + z8) + 1).toNatClampNeg)]) (r := r0) (rest := [.int x3]) 8 dX10_deepOf_76 rfl ko_X10_389 kc_X10_deepOf ki_X10_deepOf ks_X10_deepOf (by decide) (by decide) hdd rfl rfl (le_l rfl) q10 k17 ?_
      obtain ⟨z19, h18, k20, T⟩ := T
      refine v_callS (pc' := 82) (M1 := mX10_more) (as := [.int x3, .int z16]) (rest := []) dX10_deepOf_79 rfl ko_X10_392 kc_X10_more kt_X10_more (by decide) hdd rfl rfl (le_l rfl) k20 ?_
      refine v_istore_n (pc' := 83) (loc' := [.ref r0, .int x1, .int x2, .int z19, .int x4, .int (x1 + z8)]) dX10_deepOf_82 rfl (lt_l rfl) rfl ?_
      refine v_iinc (pc' := 86) (loc' := [.ref r0, .int x1, .int x2, .int z19, .int (x4 + 1), .int (x1 + z8)]) dX10_deepOf_83 rfl rfl (kX_1 _) rfl ?_
      refine v_goto (pc' := 20) dX10_deepOf_86 (by decide) ?_
      exact V.drop (llp_r (llp_r (llp_r (llp_r (llp_r (llp_u llp_nil)))))) T
    · have T := T.2 c13
      refine v_iload_n (pc' := 61) dX10_deepOf_60 rfl rfl ?_
      refine v_goto (pc' := 82) dX10_deepOf_61 (by decide) ?_
      refine v_istore_n (pc' := 83) (loc' := [.ref r0, .int x1, .int x2, .int x3, .int x4, .int (x1 + z8)]) dX10_deepOf_82 rfl (lt_l rfl) rfl ?_
      refine v_iinc (pc' := 86) (loc' := [.ref r0, .int x1, .int x2, .int x3, .int (x4 + 1), .int (x1 + z8)]) dX10_deepOf_83 rfl rfl (kX_1 _) rfl ?_
      refine v_goto (pc' := 20) dX10_deepOf_86 (by decide) ?_
      exact V.drop (llp_r (llp_r (llp_r (llp_r (llp_r (llp_u llp_nil)))))) T
theorem eX10_deep {G : GG} {d : Nat} {h : Hp} {o : OU} {h' : Hp} (r0 : Nat) (x1 : Int32) (x2 : Int32) (hd : 1 ≤ d) (T : kH h r0 = 18 ∧ ∃ z3 h2, VM G mX10_isNode (d - 1) [.int x1] (h.1, (upI h.2 r0 0 0)) (.inl (some (.int z3))) h2 ∧ ((¬ z3 = 0 → kH h2 r0 = 18 ∧ ∃ z7 h6, VM G mX10_bad (d - 1) [.ref r0, .int 0, .int 1, .int 0] h2 (.inl (some (.int z7))) h6 ∧ ((¬ z7 = 0 → (o = .inl (some (.int 0)) ∧ h' = h6)) ∧ (z7 = 0 → ∃ z12 h11, VM G mX10_isWhere (d - 1) [.int x2] h6 (.inl (some (.int z12))) h11 ∧ ((¬ z12 = 0 → kH h11 r0 = 18 ∧ ∃ z16 h15, VM G mX10_bad (d - 1) [.ref r0, .int 0, .int 2, .int 1] h11 (.inl (some (.int z16))) h15 ∧ ((z16 = 0 → ∃ z21 h20, VM G mX10_whereOf (d - 1) [.int x2] h15 (.inl (some (.int z21))) h20 ∧ kH h20 r0 = 18 ∧ ∃ z24 h23, VM G mX10_deepOf (d - 1) [.ref r0, .int z21, .int x1] h20 (.inl (some (.int z24))) h23 ∧ (o = .inl (some (.int z24)) ∧ h' = h23)) ∧ (¬ z16 = 0 → (o = .inl (some (.int 0)) ∧ h' = h15)))) ∧ (z12 = 0 → kH h11 r0 = 18 ∧ ∃ z28 h27, VM G mX10_bad (d - 1) [.ref r0, .int 1, .int 2, .int 1] h11 (.inl (some (.int z28))) h27 ∧ ((z28 = 0 → ∃ z33 h32, VM G mX10_whereOf (d - 1) [.int x2] h27 (.inl (some (.int z33))) h32 ∧ kH h32 r0 = 18 ∧ ∃ z36 h35, VM G mX10_deepOf (d - 1) [.ref r0, .int z33, .int x1] h32 (.inl (some (.int z36))) h35 ∧ (o = .inl (some (.int z36)) ∧ h' = h35)) ∧ (¬ z28 = 0 → (o = .inl (some (.int 0)) ∧ h' = h27)))))))) ∧ (z3 = 0 → kH h2 r0 = 18 ∧ ∃ z40 h39, VM G mX10_bad (d - 1) [.ref r0, .int 1, .int 1, .int 0] h2 (.inl (some (.int z40))) h39 ∧ ((¬ z40 = 0 → (o = .inl (some (.int 0)) ∧ h' = h39)) ∧ (z40 = 0 → ∃ z45 h44, VM G mX10_isWhere (d - 1) [.int x2] h39 (.inl (some (.int z45))) h44 ∧ ((¬ z45 = 0 → kH h44 r0 = 18 ∧ ∃ z49 h48, VM G mX10_bad (d - 1) [.ref r0, .int 0, .int 2, .int 1] h44 (.inl (some (.int z49))) h48 ∧ ((z49 = 0 → ∃ z54 h53, VM G mX10_whereOf (d - 1) [.int x2] h48 (.inl (some (.int z54))) h53 ∧ kH h53 r0 = 18 ∧ ∃ z57 h56, VM G mX10_deepOf (d - 1) [.ref r0, .int z54, .int x1] h53 (.inl (some (.int z57))) h56 ∧ (o = .inl (some (.int z57)) ∧ h' = h56)) ∧ (¬ z49 = 0 → (o = .inl (some (.int 0)) ∧ h' = h48)))) ∧ (z45 = 0 → kH h44 r0 = 18 ∧ ∃ z61 h60, VM G mX10_bad (d - 1) [.ref r0, .int 1, .int 2, .int 1] h44 (.inl (some (.int z61))) h60 ∧ ((z61 = 0 → ∃ z66 h65, VM G mX10_whereOf (d - 1) [.int x2] h60 (.inl (some (.int z66))) h65 ∧ kH h65 r0 = 18 ∧ ∃ z69 h68, VM G mX10_deepOf (d - 1) [.ref r0, .int z66, .int x1] h65 (.inl (some (.int z69))) h68 ∧ (o = .inl (some (.int z69)) ∧ h' = h68)) ∧ (¬ z61 = 0 → (o = .inl (some (.int 0)) ∧ h' = h60)))))))))) : VM G mX10_deep d [.ref r0, .int x1, .int x2] h o h' := by
  refine V.toM rfl rfl (le_l rfl) (cat_all rfl) ?_
  show V G mX10_deep d 0 [.ref r0, .int x1, .int x2] [] h o h'
  have hdd : d - 1 + 1 ≤ d := by omega
  refine v_aload_n (pc' := 1) dX10_deep_0 rfl rfl ?_
  refine v_iconst (pc' := 2) (v := 0) dX10_deep_1 rfl kI_0 ?_
  obtain ⟨q1, T⟩ := T
  refine v_putI (pc' := 5) 8 0 dX10_deep_2 rfl (by decide) (by decide) rfl rfl kf_X10_72 q1 ?_
  refine v_aload_n (pc' := 6) dX10_deep_5 rfl rfl ?_
  refine v_iload_n (pc' := 7) dX10_deep_6 rfl rfl ?_
  obtain ⟨z3, h2, k4, T⟩ := T
  refine v_callS (pc' := 10) (M1 := mX10_isNode) (as := [.int x1]) (rest := [.ref r0]) dX10_deep_7 rfl ko_X10_377 kc_X10_isNode kt_X10_isNode (by decide) hdd rfl rfl (le_l rfl) k4 ?_
  refine v_if_ne (tgt := 17) (pc' := 13) dX10_deep_10 (by decide) rfl ⟨fun c5 => ?_, fun c5 => ?_⟩
  · have T := T.1 c5
    refine v_iconst (pc' := 18) (v := 0) dX10_deep_17 rfl kI_0 ?_
    refine v_iconst (pc' := 19) (v := 1) dX10_deep_18 rfl kI_1 ?_
    refine v_iconst (pc' := 20) (v := 0) dX10_deep_19 rfl kI_0 ?_
    obtain ⟨q9, T⟩ := T
    obtain ⟨z7, h6, k8, T⟩ := T
    refine v_callV (pc' := 23) (M1 := mX10_bad) (as := [.int 0, .int 1, .int 0]) (r := r0) (rest := []) 8 dX10_deep_20 rfl ko_X10_155 kc_X10_bad ki_X10_bad ks_X10_bad (by decide) (by decide) hdd rfl rfl (le_l rfl) q9 k8 ?_
    refine v_if_ne (tgt := 47) (pc' := 26) dX10_deep_23 (by decide) rfl ⟨fun c10 => ?_, fun c10 => ?_⟩
    · have T := T.1 c10
      refine v_iconst (pc' := 48) (v := 0) dX10_deep_47 rfl kI_0 ?_
      exact v_iret dX10_deep_48 rfl T
    · have T := T.2 c10
      refine v_aload_n (pc' := 27) dX10_deep_26 rfl rfl ?_
      refine v_iload_n (pc' := 28) dX10_deep_27 rfl rfl ?_
      obtain ⟨z12, h11, k13, T⟩ := T
      refine v_callS (pc' := 31) (M1 := mX10_isWhere) (as := [.int x2]) (rest := [.ref r0]) dX10_deep_28 rfl ko_X10_368 kc_X10_isWhere kt_X10_isWhere (by decide) hdd rfl rfl (le_l rfl) k13 ?_
      refine v_if_ne (tgt := 38) (pc' := 34) dX10_deep_31 (by decide) rfl ⟨fun c14 => ?_, fun c14 => ?_⟩
      · have T := T.1 c14
        refine v_iconst (pc' := 39) (v := 0) dX10_deep_38 rfl kI_0 ?_
        refine v_iconst (pc' := 40) (v := 2) dX10_deep_39 rfl kI_2 ?_
        refine v_iconst (pc' := 41) (v := 1) dX10_deep_40 rfl kI_1 ?_
        obtain ⟨q18, T⟩ := T
        obtain ⟨z16, h15, k17, T⟩ := T
        refine v_callV (pc' := 44) (M1 := mX10_bad) (as := [.int 0, .int 2, .int 1]) (r := r0) (rest := []) 8 dX10_deep_41 rfl ko_X10_155 kc_X10_bad ki_X10_bad ks_X10_bad (by decide) (by decide) hdd rfl rfl (le_l rfl) q18 k17 ?_
        refine v_if_eq (tgt := 49) (pc' := 47) dX10_deep_44 (by decide) rfl ⟨fun c19 => ?_, fun c19 => ?_⟩
        · have T := T.1 c19
          refine v_aload_n (pc' := 50) dX10_deep_49 rfl rfl ?_
          refine v_iload_n (pc' := 51) dX10_deep_50 rfl rfl ?_
          obtain ⟨z21, h20, k22, T⟩ := T
          refine v_callS (pc' := 54) (M1 := mX10_whereOf) (as := [.int x2]) (rest := [.ref r0]) dX10_deep_51 rfl ko_X10_374 kc_X10_whereOf kt_X10_whereOf (by decide) hdd rfl rfl (le_l rfl) k22 ?_
          refine v_iload_n (pc' := 55) dX10_deep_54 rfl rfl ?_
          obtain ⟨q26, T⟩ := T
          obtain ⟨z24, h23, k25, T⟩ := T
          refine v_callV (pc' := 58) (M1 := mX10_deepOf) (as := [.int z21, .int x1]) (r := r0) (rest := []) 8 dX10_deep_55 rfl ko_X10_389 kc_X10_deepOf ki_X10_deepOf ks_X10_deepOf (by decide) (by decide) hdd rfl rfl (le_l rfl) q26 k25 ?_
          exact v_iret dX10_deep_58 rfl T
        · have T := T.2 c19
          refine v_iconst (pc' := 48) (v := 0) dX10_deep_47 rfl kI_0 ?_
          exact v_iret dX10_deep_48 rfl T
      · have T := T.2 c14
        refine v_iconst (pc' := 35) (v := 1) dX10_deep_34 rfl kI_1 ?_
        refine v_goto (pc' := 39) dX10_deep_35 (by decide) ?_
        refine v_iconst (pc' := 40) (v := 2) dX10_deep_39 rfl kI_2 ?_
        refine v_iconst (pc' := 41) (v := 1) dX10_deep_40 rfl kI_1 ?_
        obtain ⟨q30, T⟩ := T
        obtain ⟨z28, h27, k29, T⟩ := T
        refine v_callV (pc' := 44) (M1 := mX10_bad) (as := [.int 1, .int 2, .int 1]) (r := r0) (rest := []) 8 dX10_deep_41 rfl ko_X10_155 kc_X10_bad ki_X10_bad ks_X10_bad (by decide) (by decide) hdd rfl rfl (le_l rfl) q30 k29 ?_
        refine v_if_eq (tgt := 49) (pc' := 47) dX10_deep_44 (by decide) rfl ⟨fun c31 => ?_, fun c31 => ?_⟩
        · have T := T.1 c31
          refine v_aload_n (pc' := 50) dX10_deep_49 rfl rfl ?_
          refine v_iload_n (pc' := 51) dX10_deep_50 rfl rfl ?_
          obtain ⟨z33, h32, k34, T⟩ := T
          refine v_callS (pc' := 54) (M1 := mX10_whereOf) (as := [.int x2]) (rest := [.ref r0]) dX10_deep_51 rfl ko_X10_374 kc_X10_whereOf kt_X10_whereOf (by decide) hdd rfl rfl (le_l rfl) k34 ?_
          refine v_iload_n (pc' := 55) dX10_deep_54 rfl rfl ?_
          obtain ⟨q38, T⟩ := T
          obtain ⟨z36, h35, k37, T⟩ := T
          refine v_callV (pc' := 58) (M1 := mX10_deepOf) (as := [.int z33, .int x1]) (r := r0) (rest := []) 8 dX10_deep_55 rfl ko_X10_389 kc_X10_deepOf ki_X10_deepOf ks_X10_deepOf (by decide) (by decide) hdd rfl rfl (le_l rfl) q38 k37 ?_
          exact v_iret dX10_deep_58 rfl T
        · have T := T.2 c31
          refine v_iconst (pc' := 48) (v := 0) dX10_deep_47 rfl kI_0 ?_
          exact v_iret dX10_deep_48 rfl T
  · have T := T.2 c5
    refine v_iconst (pc' := 14) (v := 1) dX10_deep_13 rfl kI_1 ?_
    refine v_goto (pc' := 18) dX10_deep_14 (by decide) ?_
    refine v_iconst (pc' := 19) (v := 1) dX10_deep_18 rfl kI_1 ?_
    refine v_iconst (pc' := 20) (v := 0) dX10_deep_19 rfl kI_0 ?_
    obtain ⟨q42, T⟩ := T
    obtain ⟨z40, h39, k41, T⟩ := T
    refine v_callV (pc' := 23) (M1 := mX10_bad) (as := [.int 1, .int 1, .int 0]) (r := r0) (rest := []) 8 dX10_deep_20 rfl ko_X10_155 kc_X10_bad ki_X10_bad ks_X10_bad (by decide) (by decide) hdd rfl rfl (le_l rfl) q42 k41 ?_
    refine v_if_ne (tgt := 47) (pc' := 26) dX10_deep_23 (by decide) rfl ⟨fun c43 => ?_, fun c43 => ?_⟩
    · have T := T.1 c43
      refine v_iconst (pc' := 48) (v := 0) dX10_deep_47 rfl kI_0 ?_
      exact v_iret dX10_deep_48 rfl T
    · have T := T.2 c43
      refine v_aload_n (pc' := 27) dX10_deep_26 rfl rfl ?_
      refine v_iload_n (pc' := 28) dX10_deep_27 rfl rfl ?_
      obtain ⟨z45, h44, k46, T⟩ := T
      refine v_callS (pc' := 31) (M1 := mX10_isWhere) (as := [.int x2]) (rest := [.ref r0]) dX10_deep_28 rfl ko_X10_368 kc_X10_isWhere kt_X10_isWhere (by decide) hdd rfl rfl (le_l rfl) k46 ?_
      refine v_if_ne (tgt := 38) (pc' := 34) dX10_deep_31 (by decide) rfl ⟨fun c47 => ?_, fun c47 => ?_⟩
      · have T := T.1 c47
        refine v_iconst (pc' := 39) (v := 0) dX10_deep_38 rfl kI_0 ?_
        refine v_iconst (pc' := 40) (v := 2) dX10_deep_39 rfl kI_2 ?_
        refine v_iconst (pc' := 41) (v := 1) dX10_deep_40 rfl kI_1 ?_
        obtain ⟨q51, T⟩ := T
        obtain ⟨z49, h48, k50, T⟩ := T
        refine v_callV (pc' := 44) (M1 := mX10_bad) (as := [.int 0, .int 2, .int 1]) (r := r0) (rest := []) 8 dX10_deep_41 rfl ko_X10_155 kc_X10_bad ki_X10_bad ks_X10_bad (by decide) (by decide) hdd rfl rfl (le_l rfl) q51 k50 ?_
        refine v_if_eq (tgt := 49) (pc' := 47) dX10_deep_44 (by decide) rfl ⟨fun c52 => ?_, fun c52 => ?_⟩
        · have T := T.1 c52
          refine v_aload_n (pc' := 50) dX10_deep_49 rfl rfl ?_
          refine v_iload_n (pc' := 51) dX10_deep_50 rfl rfl ?_
          obtain ⟨z54, h53, k55, T⟩ := T
          refine v_callS (pc' := 54) (M1 := mX10_whereOf) (as := [.int x2]) (rest := [.ref r0]) dX10_deep_51 rfl ko_X10_374 kc_X10_whereOf kt_X10_whereOf (by decide) hdd rfl rfl (le_l rfl) k55 ?_
          refine v_iload_n (pc' := 55) dX10_deep_54 rfl rfl ?_
          obtain ⟨q59, T⟩ := T
          obtain ⟨z57, h56, k58, T⟩ := T
          refine v_callV (pc' := 58) (M1 := mX10_deepOf) (as := [.int z54, .int x1]) (r := r0) (rest := []) 8 dX10_deep_55 rfl ko_X10_389 kc_X10_deepOf ki_X10_deepOf ks_X10_deepOf (by decide) (by decide) hdd rfl rfl (le_l rfl) q59 k58 ?_
          exact v_iret dX10_deep_58 rfl T
        · have T := T.2 c52
          refine v_iconst (pc' := 48) (v := 0) dX10_deep_47 rfl kI_0 ?_
          exact v_iret dX10_deep_48 rfl T
      · have T := T.2 c47
        refine v_iconst (pc' := 35) (v := 1) dX10_deep_34 rfl kI_1 ?_
        refine v_goto (pc' := 39) dX10_deep_35 (by decide) ?_
        refine v_iconst (pc' := 40) (v := 2) dX10_deep_39 rfl kI_2 ?_
        refine v_iconst (pc' := 41) (v := 1) dX10_deep_40 rfl kI_1 ?_
        obtain ⟨q63, T⟩ := T
        obtain ⟨z61, h60, k62, T⟩ := T
        refine v_callV (pc' := 44) (M1 := mX10_bad) (as := [.int 1, .int 2, .int 1]) (r := r0) (rest := []) 8 dX10_deep_41 rfl ko_X10_155 kc_X10_bad ki_X10_bad ks_X10_bad (by decide) (by decide) hdd rfl rfl (le_l rfl) q63 k62 ?_
        refine v_if_eq (tgt := 49) (pc' := 47) dX10_deep_44 (by decide) rfl ⟨fun c64 => ?_, fun c64 => ?_⟩
        · have T := T.1 c64
          refine v_aload_n (pc' := 50) dX10_deep_49 rfl rfl ?_
          refine v_iload_n (pc' := 51) dX10_deep_50 rfl rfl ?_
          obtain ⟨z66, h65, k67, T⟩ := T
          refine v_callS (pc' := 54) (M1 := mX10_whereOf) (as := [.int x2]) (rest := [.ref r0]) dX10_deep_51 rfl ko_X10_374 kc_X10_whereOf kt_X10_whereOf (by decide) hdd rfl rfl (le_l rfl) k67 ?_
          refine v_iload_n (pc' := 55) dX10_deep_54 rfl rfl ?_
          obtain ⟨q71, T⟩ := T
          obtain ⟨z69, h68, k70, T⟩ := T
          refine v_callV (pc' := 58) (M1 := mX10_deepOf) (as := [.int z66, .int x1]) (r := r0) (rest := []) 8 dX10_deep_55 rfl ko_X10_389 kc_X10_deepOf ki_X10_deepOf ks_X10_deepOf (by decide) (by decide) hdd rfl rfl (le_l rfl) q71 k70 ?_
          exact v_iret dX10_deep_58 rfl T
        · have T := T.2 c64
          refine v_iconst (pc' := 48) (v := 0) dX10_deep_47 rfl kI_0 ?_
          exact v_iret dX10_deep_48 rfl T
theorem eX10_change {G : GG} {d : Nat} {h : Hp} {o : OU} {h' : Hp} (r0 : Nat) (x1 : Int32) (x2 : Int32) (hd : 1 ≤ d) (T : kH h r0 = 18 ∧ ∃ z3 h2, VM G mX10_in (d - 1) [.int x2, .int 0, .int 5] (h.1, (upI h.2 r0 0 0)) (.inl (some (.int z3))) h2 ∧ ((¬ z3 = 0 → V G mX10_change d 20 [.ref r0, .int x1, .int x2, uV, uV, uV] [.int 0, .ref r0] h2 o h') ∧ (z3 = 0 → V G mX10_change d 20 [.ref r0, .int x1, .int x2, uV, uV, uV] [.int 1, .ref r0] h2 o h'))) : VM G mX10_change d [.ref r0, .int x1, .int x2] h o h' := by
  refine V.toM rfl rfl (le_l rfl) (cat_all rfl) ?_
  show V G mX10_change d 0 [.ref r0, .int x1, .int x2, uV, uV, uV] [] h o h'
  have hdd : d - 1 + 1 ≤ d := by omega
  refine v_aload_n (pc' := 1) dX10_change_0 rfl rfl ?_
  refine v_iconst (pc' := 2) (v := 0) dX10_change_1 rfl kI_0 ?_
  obtain ⟨q1, T⟩ := T
  refine v_putI (pc' := 5) 8 0 dX10_change_2 rfl (by decide) (by decide) rfl rfl kf_X10_72 q1 ?_
  refine v_aload_n (pc' := 6) dX10_change_5 rfl rfl ?_
  refine v_iload_n (pc' := 7) dX10_change_6 rfl rfl ?_
  refine v_iconst (pc' := 8) (v := 0) dX10_change_7 rfl kI_0 ?_
  refine v_iconst (pc' := 9) (v := 5) dX10_change_8 rfl kI_5 ?_
  obtain ⟨z3, h2, k4, T⟩ := T
  refine v_callS (pc' := 12) (M1 := mX10_in) (as := [.int x2, .int 0, .int 5]) (rest := [.ref r0]) dX10_change_9 rfl ko_X10_106 kc_X10_in kt_X10_in (by decide) hdd rfl rfl (le_l rfl) k4 ?_
  refine v_if_ne (tgt := 19) (pc' := 15) dX10_change_12 (by decide) rfl ⟨fun c5 => ?_, fun c5 => ?_⟩
  · have T := T.1 c5
    refine v_iconst (pc' := 20) (v := 0) dX10_change_19 rfl kI_0 ?_
    exact T
  · have T := T.2 c5
    refine v_iconst (pc' := 16) (v := 1) dX10_change_15 rfl kI_1 ?_
    refine v_goto (pc' := 20) dX10_change_16 (by decide) ?_
    exact T
theorem bX10_change_20 {G : GG} {d : Nat} {h : Hp} {o : OU} {h' : Hp} (r0 : Nat) (x1 : Int32) (x2 : Int32) (s0 : Int32) (t1 : Nat) (hd : 1 ≤ d) (T : kH h t1 = 18 ∧ ∃ z2 h1, VM G mX10_bad (d - 1) [.ref t1, .int s0, .int 1, .int 1] h (.inl (some (.int z2))) h1 ∧ ((¬ z2 = 0 → (o = .inl (some (.int 0)) ∧ h' = h1)) ∧ (z2 = 0 → ∃ z7 h6, VM G mX10_in (d - 1) [.int x1, .int 0, .int 255] h1 (.inl (some (.int z7))) h6 ∧ ((¬ z7 = 0 → V G mX10_change d 45 [.ref r0, .int x1, .int x2, uV, uV, uV] [.int 0, .ref r0] h6 o h') ∧ (z7 = 0 → V G mX10_change d 45 [.ref r0, .int x1, .int x2, uV, uV, uV] [.int 1, .ref r0] h6 o h'))))) : V G mX10_change d 20 [.ref r0, .int x1, .int x2, uV, uV, uV] [.int s0, .ref t1] h o h' := by
  have hdd : d - 1 + 1 ≤ d := by omega
  refine v_iconst (pc' := 21) (v := 1) dX10_change_20 rfl kI_1 ?_
  refine v_iconst (pc' := 22) (v := 1) dX10_change_21 rfl kI_1 ?_
  obtain ⟨q4, T⟩ := T
  obtain ⟨z2, h1, k3, T⟩ := T
  refine v_callV (pc' := 25) (M1 := mX10_bad) (as := [.int s0, .int 1, .int 1]) (r := t1) (rest := []) 8 dX10_change_22 rfl ko_X10_155 kc_X10_bad ki_X10_bad ks_X10_bad (by decide) (by decide) hdd rfl rfl (le_l rfl) q4 k3 ?_
  refine v_if_ne (tgt := 79) (pc' := 28) dX10_change_25 (by decide) rfl ⟨fun c5 => ?_, fun c5 => ?_⟩
  · have T := T.1 c5
    refine v_iconst (pc' := 80) (v := 0) dX10_change_79 rfl kI_0 ?_
    exact v_iret dX10_change_80 rfl T
  · have T := T.2 c5
    refine v_aload_n (pc' := 29) dX10_change_28 rfl rfl ?_
    refine v_iload_n (pc' := 30) dX10_change_29 rfl rfl ?_
    refine v_iconst (pc' := 31) (v := 0) dX10_change_30 rfl kI_0 ?_
    refine v_sipush (pc' := 34) (v := 255) dX10_change_31 rfl kS_255 ?_
    obtain ⟨z7, h6, k8, T⟩ := T
    refine v_callS (pc' := 37) (M1 := mX10_in) (as := [.int x1, .int 0, .int 255]) (rest := [.ref r0]) dX10_change_34 rfl ko_X10_106 kc_X10_in kt_X10_in (by decide) hdd rfl rfl (le_l rfl) k8 ?_
    refine v_if_ne (tgt := 44) (pc' := 40) dX10_change_37 (by decide) rfl ⟨fun c9 => ?_, fun c9 => ?_⟩
    · have T := T.1 c9
      refine v_iconst (pc' := 45) (v := 0) dX10_change_44 rfl kI_0 ?_
      exact T
    · have T := T.2 c9
      refine v_iconst (pc' := 41) (v := 1) dX10_change_40 rfl kI_1 ?_
      refine v_goto (pc' := 45) dX10_change_41 (by decide) ?_
      exact T
theorem bX10_change_45 {G : GG} {d : Nat} {h : Hp} {o : OU} {h' : Hp} (r0 : Nat) (x1 : Int32) (x2 : Int32) (s0 : Int32) (t1 : Nat) (hd : 1 ≤ d) (T : kH h t1 = 18 ∧ ∃ z2 h1, VM G mX10_bad (d - 1) [.ref t1, .int s0, .int 3, .int 3] h (.inl (some (.int z2))) h1 ∧ ((¬ z2 = 0 → (o = .inl (some (.int 0)) ∧ h' = h1)) ∧ (z2 = 0 → kH h1 r0 = 18 ∧ kH h1 (rH h1 r0 22) = 1 ∧ vp_in 3392 (lH h1 (rH h1 r0 22)) ∧ ((x1 < (h1.2 (rH h1 r0 22) 3392) → V G mX10_change d 71 [.ref r0, .int x1, .int x2, uV, uV, uV] [.int 0, .ref r0] h1 o h') ∧ (¬ x1 < (h1.2 (rH h1 r0 22) 3392) → V G mX10_change d 71 [.ref r0, .int x1, .int x2, uV, uV, uV] [.int 1, .ref r0] h1 o h'))))) : V G mX10_change d 45 [.ref r0, .int x1, .int x2, uV, uV, uV] [.int s0, .ref t1] h o h' := by
  have hdd : d - 1 + 1 ≤ d := by omega
  refine v_iconst (pc' := 46) (v := 3) dX10_change_45 rfl kI_3 ?_
  refine v_iconst (pc' := 47) (v := 3) dX10_change_46 rfl kI_3 ?_
  obtain ⟨q4, T⟩ := T
  obtain ⟨z2, h1, k3, T⟩ := T
  refine v_callV (pc' := 50) (M1 := mX10_bad) (as := [.int s0, .int 3, .int 3]) (r := t1) (rest := []) 8 dX10_change_47 rfl ko_X10_155 kc_X10_bad ki_X10_bad ks_X10_bad (by decide) (by decide) hdd rfl rfl (le_l rfl) q4 k3 ?_
  refine v_if_ne (tgt := 79) (pc' := 53) dX10_change_50 (by decide) rfl ⟨fun c5 => ?_, fun c5 => ?_⟩
  · have T := T.1 c5
    refine v_iconst (pc' := 80) (v := 0) dX10_change_79 rfl kI_0 ?_
    exact v_iret dX10_change_80 rfl T
  · have T := T.2 c5
    refine v_aload_n (pc' := 54) dX10_change_53 rfl rfl ?_
    refine v_iload_n (pc' := 55) dX10_change_54 rfl rfl ?_
    refine v_aload_n (pc' := 56) dX10_change_55 rfl rfl ?_
    obtain ⟨q6, T⟩ := T
    refine v_getR (pc' := 59) 8 22 dX10_change_56 rfl (by decide) (by decide) rfl kf_X10_31 q6 ?_
    refine v_sipush (pc' := 62) (v := 3392) dX10_change_59 rfl kS_3392 ?_
    obtain ⟨q7, T⟩ := T
    obtain ⟨q8, T⟩ := T
    refine v_iald (pc' := 63) dX10_change_62 rfl kN_3392 q7 q8 ?_
    refine v_icmp_lt (tgt := 70) (pc' := 66) dX10_change_63 (by decide) rfl ⟨fun c9 => ?_, fun c9 => ?_⟩
    · have T := T.1 c9
      refine v_iconst (pc' := 71) (v := 0) dX10_change_70 rfl kI_0 ?_
      exact T
    · have T := T.2 c9
      refine v_iconst (pc' := 67) (v := 1) dX10_change_66 rfl kI_1 ?_
      refine v_goto (pc' := 71) dX10_change_67 (by decide) ?_
      exact T
theorem bX10_change_71 {G : GG} {d : Nat} {h : Hp} {o : OU} {h' : Hp} (r0 : Nat) (x1 : Int32) (x2 : Int32) (s0 : Int32) (t1 : Nat) (hd : 1 ≤ d) (T : kH h t1 = 18 ∧ ∃ z2 h1, VM G mX10_bad (d - 1) [.ref t1, .int s0, .int 2, .int 2] h (.inl (some (.int z2))) h1 ∧ ((z2 = 0 → ∃ z7 h6, VM G mX10_cell (d - 1) [.int x1] h1 (.inl (some (.int z7))) h6 ∧ ((2 ≤ x2 → ((¬ x2 = 2 → ((¬ x2 = 3 → V G mX10_change d 137 [.ref r0, .int x1, .int x2, .int z7, .int 0, .int 4] [] h6 o h') ∧ (x2 = 3 → kH h6 r0 = 18 ∧ kH h6 (rH h6 r0 22) = 1 ∧ vp_in (z7 + 3) (lH h6 (rH h6 r0 22)) ∧ (o = .inl (some (.int (h6.2 (rH h6 r0 22) (z7 + 3).toNatClampNeg))) ∧ h' = h6)))) ∧ (x2 = 2 → kH h6 r0 = 18 ∧ ∃ z17 h16, VM G mX10_wasAt (d - 1) [.ref (rH h6 r0 22), .int z7, .int 0] h6 (.inl (some (.int z17))) h16 ∧ (o = .inl (some (.int z17)) ∧ h' = h16)))) ∧ (¬ 2 ≤ x2 → kH h6 r0 = 18 ∧ kH h6 (rH h6 r0 22) = 1 ∧ vp_in ((z7 + 1) + x2) (lH h6 (rH h6 r0 22)) ∧ (o = .inl (some (.int (h6.2 (rH h6 r0 22) ((z7 + 1) + x2).toNatClampNeg))) ∧ h' = h6)))) ∧ (¬ z2 = 0 → (o = .inl (some (.int 0)) ∧ h' = h1)))) : V G mX10_change d 71 [.ref r0, .int x1, .int x2, uV, uV, uV] [.int s0, .ref t1] h o h' := by
  have hdd : d - 1 + 1 ≤ d := by omega
  refine v_iconst (pc' := 72) (v := 2) dX10_change_71 rfl kI_2 ?_
  refine v_iconst (pc' := 73) (v := 2) dX10_change_72 rfl kI_2 ?_
  obtain ⟨q4, T⟩ := T
  obtain ⟨z2, h1, k3, T⟩ := T
  refine v_callV (pc' := 76) (M1 := mX10_bad) (as := [.int s0, .int 2, .int 2]) (r := t1) (rest := []) 8 dX10_change_73 rfl ko_X10_155 kc_X10_bad ki_X10_bad ks_X10_bad (by decide) (by decide) hdd rfl rfl (le_l rfl) q4 k3 ?_
  refine v_if_eq (tgt := 81) (pc' := 79) dX10_change_76 (by decide) rfl ⟨fun c5 => ?_, fun c5 => ?_⟩
  · have T := T.1 c5
    refine v_iload_n (pc' := 82) dX10_change_81 rfl rfl ?_
    obtain ⟨z7, h6, k8, T⟩ := T
    refine v_callS (pc' := 85) (M1 := mX10_cell) (as := [.int x1]) (rest := []) dX10_change_82 rfl ko_X10_201 kc_X10_cell kt_X10_cell (by decide) hdd rfl rfl (le_l rfl) k8 ?_
    refine v_istore_n (pc' := 86) (loc' := [.ref r0, .int x1, .int x2, .int z7, uV, uV]) dX10_change_85 rfl (lt_l rfl) rfl ?_
    refine v_iconst (pc' := 87) (v := 0) dX10_change_86 rfl kI_0 ?_
    refine v_istore (pc' := 89) (loc' := [.ref r0, .int x1, .int x2, .int z7, .int 0, uV]) dX10_change_87 rfl (lt_l rfl) rfl ?_
    refine v_iload_n (pc' := 90) dX10_change_89 rfl rfl ?_
    refine v_iconst (pc' := 91) (v := 2) dX10_change_90 rfl kI_2 ?_
    refine v_icmp_ge (tgt := 105) (pc' := 94) dX10_change_91 (by decide) rfl ⟨fun c9 => ?_, fun c9 => ?_⟩
    · have T := T.1 c9
      refine v_iload_n (pc' := 106) dX10_change_105 rfl rfl ?_
      refine v_iconst (pc' := 107) (v := 2) dX10_change_106 rfl kI_2 ?_
      refine v_icmp_ne (tgt := 120) (pc' := 110) dX10_change_107 (by decide) rfl ⟨fun c10 => ?_, fun c10 => ?_⟩
      · have T := T.1 c10
        refine v_iload_n (pc' := 121) dX10_change_120 rfl rfl ?_
        refine v_iconst (pc' := 122) (v := 3) dX10_change_121 rfl kI_3 ?_
        refine v_icmp_ne (tgt := 134) (pc' := 125) dX10_change_122 (by decide) rfl ⟨fun c11 => ?_, fun c11 => ?_⟩
        · have T := T.1 c11
          refine v_iconst (pc' := 135) (v := 4) dX10_change_134 rfl kI_4 ?_
          refine v_istore (pc' := 137) (loc' := [.ref r0, .int x1, .int x2, .int z7, .int 0, .int 4]) dX10_change_135 rfl (lt_l rfl) rfl ?_
          exact T
        · have T := T.2 c11
          refine v_aload_n (pc' := 126) dX10_change_125 rfl rfl ?_
          obtain ⟨q12, T⟩ := T
          refine v_getR (pc' := 129) 8 22 dX10_change_126 rfl (by decide) (by decide) rfl kf_X10_31 q12 ?_
          refine v_iload_n (pc' := 130) dX10_change_129 rfl rfl ?_
          refine v_iconst (pc' := 131) (v := 3) dX10_change_130 rfl kI_3 ?_
          refine v_iadd (pc' := 132) dX10_change_131 rfl ?_
          obtain ⟨q13, T⟩ := T
          obtain ⟨q14, T⟩ := T
          refine v_iald (pc' := 133) dX10_change_132 rfl rfl q13 q14 ?_
          exact v_iret dX10_change_133 rfl T
      · have T := T.2 c10
        refine v_aload_n (pc' := 111) dX10_change_110 rfl rfl ?_
        obtain ⟨q15, T⟩ := T
        refine v_getR (pc' := 114) 8 22 dX10_change_111 rfl (by decide) (by decide) rfl kf_X10_31 q15 ?_
        refine v_iload_n (pc' := 115) dX10_change_114 rfl rfl ?_
        refine v_iconst (pc' := 116) (v := 0) dX10_change_115 rfl kI_0 ?_
        obtain ⟨z17, h16, k18, T⟩ := T
        refine v_callS (pc' := 119) (M1 := mX10_wasAt) (as := [.ref (rH h6 r0 22), .int z7, .int 0]) (rest := []) dX10_change_116 rfl ko_X10_227 kc_X10_wasAt kt_X10_wasAt (by decide) hdd rfl rfl (le_l rfl) k18 ?_
        exact v_iret dX10_change_119 rfl T
    · have T := T.2 c9
      refine v_aload_n (pc' := 95) dX10_change_94 rfl rfl ?_
      obtain ⟨q19, T⟩ := T
      refine v_getR (pc' := 98) 8 22 dX10_change_95 rfl (by decide) (by decide) rfl kf_X10_31 q19 ?_
      refine v_iload_n (pc' := 99) dX10_change_98 rfl rfl ?_
      refine v_iconst (pc' := 100) (v := 1) dX10_change_99 rfl kI_1 ?_
      refine v_iadd (pc' := 101) dX10_change_100 rfl ?_
      refine v_iload_n (pc' := 102) dX10_change_101 rfl rfl ?_
      refine v_iadd (pc' := 103) dX10_change_102 rfl ?_
      obtain ⟨q20, T⟩ := T
      obtain ⟨q21, T⟩ := T
      refine v_iald (pc' := 104) dX10_change_103 rfl rfl q20 q21 ?_
      exact v_iret dX10_change_104 rfl T
  · have T := T.2 c5
    refine v_iconst (pc' := 80) (v := 0) dX10_change_79 rfl kI_0 ?_
    exact v_iret dX10_change_80 rfl T
theorem bX10_change_137 {G : GG} {d : Nat} {h : Hp} {o : OU} {h' : Hp} (r0 : Nat) (x1 : Int32) (x2 : Int32) (x3 : Int32) (x4 : Int32) (x5 : Int32) (hd : 1 ≤ d) (T : ((8 ≤ x5 → ((¬ x2 = 4 → kH h r0 = 18 ∧ kH h (rH h r0 22) = 1 ∧ vp_in (x3 + 1) (lH h (rH h r0 22)) ∧ ∃ z7 h6, VM G mX10_copiesBlock (d - 1) [.ref r0, .ref (rH h r0 22), .int (h.2 (rH h r0 22) (x3 + 1).toNatClampNeg)] h (.inl (some (.int z7))) h6 ∧ kH h6 r0 = 18 ∧ kH h6 (rH h6 r0 27) = 3 ∧ vp_in x1 (lH h6 (rH h6 r0 27)) ∧ (((h6.2 (rH h6 r0 27) x1.toNatClampNeg) = 0 → (o = .inl (some (.int 0)) ∧ h' = h6)) ∧ (¬ (h6.2 (rH h6 r0 27) x1.toNatClampNeg) = 0 → (o = .inl (some (.int 1)) ∧ h' = h6)))) ∧ (x2 = 4 → (o = .inl (some (.int x4)) ∧ h' = h)))) ∧ (¬ 8 ≤ x5 → kH h r0 = 18 ∧ kH h (rH h r0 22) = 1 ∧ vp_in (x3 + x5) (lH h (rH h r0 22)) ∧ ((0 ≤ (h.2 (rH h r0 22) (x3 + x5).toNatClampNeg) → ∃ z18 h17, VM G mX10_which (d - 1) [.ref (rH h r0 22), .int (h.2 (rH h r0 22) (x3 + x5).toNatClampNeg)] h (.inl (some (.int z18))) h17 ∧ ((¬ z18 = (-1) → V G mX10_change d 137 [.ref r0, .int x1, .int x2, .int x3, .int (x4 + 1), .int (x5 + 1)] [] h17 o h') ∧ (z18 = (-1) → V G mX10_change d 137 [.ref r0, .int x1, .int x2, .int x3, .int (x4 + 0), .int (x5 + 1)] [] h17 o h'))) ∧ (¬ 0 ≤ (h.2 (rH h r0 22) (x3 + x5).toNatClampNeg) → ∃ z22 h21, VM G mX10_ahead (d - 1) [.ref (rH h r0 22), .int x1, .int (-(h.2 (rH h r0 22) (x3 + x5).toNatClampNeg))] h (.inl (some (.int z22))) h21 ∧ V G mX10_change d 137 [.ref r0, .int x1, .int x2, .int x3, .int (x4 + z22), .int (x5 + 1)] [] h21 o h'))))) : V G mX10_change d 137 [.ref r0, .int x1, .int x2, .int x3, .int x4, .int x5] [] h o h' := by
  have hdd : d - 1 + 1 ≤ d := by omega
  refine v_iload (pc' := 139) dX10_change_137 rfl rfl ?_
  refine v_bipush (pc' := 141) (v := 8) dX10_change_139 rfl kB_8 ?_
  refine v_icmp_ge (tgt := 213) (pc' := 144) dX10_change_141 (by decide) rfl ⟨fun c1 => ?_, fun c1 => ?_⟩
  · have T := T.1 c1
    refine v_iload_n (pc' := 214) dX10_change_213 rfl rfl ?_
    refine v_iconst (pc' := 215) (v := 4) dX10_change_214 rfl kI_4 ?_
    refine v_icmp_ne (tgt := 221) (pc' := 218) dX10_change_215 (by decide) rfl ⟨fun c2 => ?_, fun c2 => ?_⟩
    · have T := T.1 c2
      refine v_aload_n (pc' := 222) dX10_change_221 rfl rfl ?_
      refine v_aload_n (pc' := 223) dX10_change_222 rfl rfl ?_
      obtain ⟨q3, T⟩ := T
      refine v_getR (pc' := 226) 8 22 dX10_change_223 rfl (by decide) (by decide) rfl kf_X10_31 q3 ?_
      refine v_aload_n (pc' := 227) dX10_change_226 rfl rfl ?_
      refine v_getR (pc' := 230) 8 22 dX10_change_227 rfl (by decide) (by decide) rfl kf_X10_31 q3 ?_
      refine v_iload_n (pc' := 231) dX10_change_230 rfl rfl ?_
      refine v_iconst (pc' := 232) (v := 1) dX10_change_231 rfl kI_1 ?_
      refine v_iadd (pc' := 233) dX10_change_232 rfl ?_
      obtain ⟨q4, T⟩ := T
      obtain ⟨q5, T⟩ := T
      refine v_iald (pc' := 234) dX10_change_233 rfl rfl q4 q5 ?_
      obtain ⟨z7, h6, k8, T⟩ := T
      refine v_callV (pc' := 237) (M1 := mX10_copiesBlock) (as := [.ref (rH h r0 22), .int (h.2 (rH h r0 22) (x3 + 1).toNatClampNeg)]) (r := r0) (rest := []) 8 dX10_change_234 rfl ko_X10_258 kc_X10_copiesBlock ki_X10_copiesBlock ks_X10_copiesBlock (by decide) (by decide) hdd rfl rfl (le_l rfl) q3 k8 ?_
      refine v_pop (pc' := 238) dX10_change_237 rfl rfl ?_
      refine v_aload_n (pc' := 239) dX10_change_238 rfl rfl ?_
      obtain ⟨q9, T⟩ := T
      refine v_getR (pc' := 242) 8 27 dX10_change_239 rfl (by decide) (by decide) rfl kf_X10_47 q9 ?_
      refine v_iload_n (pc' := 243) dX10_change_242 rfl rfl ?_
      obtain ⟨q10, T⟩ := T
      obtain ⟨q11, T⟩ := T
      refine v_zald (pc' := 244) dX10_change_243 rfl rfl q10 q11 ?_
      refine v_if_eq (tgt := 251) (pc' := 247) dX10_change_244 (by decide) rfl ⟨fun c12 => ?_, fun c12 => ?_⟩
      · have T := T.1 c12
        refine v_iconst (pc' := 252) (v := 0) dX10_change_251 rfl kI_0 ?_
        exact v_iret dX10_change_252 rfl T
      · have T := T.2 c12
        refine v_iconst (pc' := 248) (v := 1) dX10_change_247 rfl kI_1 ?_
        refine v_goto (pc' := 252) dX10_change_248 (by decide) ?_
        exact v_iret dX10_change_252 rfl T
    · have T := T.2 c2
      refine v_iload (pc' := 220) dX10_change_218 rfl rfl ?_
      exact v_iret dX10_change_220 rfl T
  · have T := T.2 c1
    refine v_iload (pc' := 146) dX10_change_144 rfl rfl ?_
    refine v_aload_n (pc' := 147) dX10_change_146 rfl rfl ?_
    obtain ⟨q13, T⟩ := T
    refine v_getR (pc' := 150) 8 22 dX10_change_147 rfl (by decide) (by decide) rfl kf_X10_31 q13 ?_
    refine v_iload_n (pc' := 151) dX10_change_150 rfl rfl ?_
    refine v_iload (pc' := 153) dX10_change_151 rfl rfl ?_
    refine v_iadd (pc' := 154) dX10_change_153 rfl ?_
    obtain ⟨q14, T⟩ := T
    obtain ⟨q15, T⟩ := T
    refine v_iald (pc' := 155) dX10_change_154 rfl rfl q14 q15 ?_
    refine v_if_ge (tgt := 179) (pc' := 158) dX10_change_155 (by decide) rfl ⟨fun c16 => ?_, fun c16 => ?_⟩
    · have T := T.1 c16
      refine v_aload_n (pc' := 180) dX10_change_179 rfl rfl ?_
      refine v_getR (pc' := 183) 8 22 dX10_change_180 rfl (by decide) (by decide) rfl kf_X10_31 q13 ?_
      refine v_aload_n (pc' := 184) dX10_change_183 rfl rfl ?_
      refine v_getR (pc' := 187) 8 22 dX10_change_184 rfl (by decide) (by decide) rfl kf_X10_31 q13 ?_
      refine v_iload_n (pc' := 188) dX10_change_187 rfl rfl ?_
      refine v_iload (pc' := 190) dX10_change_188 rfl rfl ?_
      refine v_iadd (pc' := 191) dX10_change_190 rfl ?_
      refine v_iald (pc' := 192) dX10_change_191 rfl rfl q14 q15 ?_
      obtain ⟨z18, h17, k19, T⟩ := T
      refine v_callS (pc' := 195) (M1 := mX10_which) (as := [.ref (rH h r0 22), .int (h.2 (rH h r0 22) (x3 + x5).toNatClampNeg)]) (rest := [.int x4]) dX10_change_192 rfl ko_X10_216 kc_X10_which kt_X10_which (by decide) hdd rfl rfl (le_l rfl) k19 ?_
      refine v_iconst (pc' := 196) (v := (-1)) dX10_change_195 rfl kI_m1 ?_
      refine v_icmp_ne (tgt := 203) (pc' := 199) dX10_change_196 (by decide) rfl ⟨fun c20 => ?_, fun c20 => ?_⟩
      · have T := T.1 c20
        refine v_iconst (pc' := 204) (v := 1) dX10_change_203 rfl kI_1 ?_
        refine v_iadd (pc' := 205) dX10_change_204 rfl ?_
        refine v_istore (pc' := 207) (loc' := [.ref r0, .int x1, .int x2, .int x3, .int (x4 + 1), .int x5]) dX10_change_205 rfl (lt_l rfl) rfl ?_
        refine v_iinc (pc' := 210) (loc' := [.ref r0, .int x1, .int x2, .int x3, .int (x4 + 1), .int (x5 + 1)]) dX10_change_207 rfl rfl (kX_1 _) rfl ?_
        refine v_goto (pc' := 137) dX10_change_210 (by decide) ?_
        exact T
      · have T := T.2 c20
        refine v_iconst (pc' := 200) (v := 0) dX10_change_199 rfl kI_0 ?_
        refine v_goto (pc' := 204) dX10_change_200 (by decide) ?_
        refine v_iadd (pc' := 205) dX10_change_204 rfl ?_
        refine v_istore (pc' := 207) (loc' := [.ref r0, .int x1, .int x2, .int x3, .int (x4 + 0), .int x5]) dX10_change_205 rfl (lt_l rfl) rfl ?_
        refine v_iinc (pc' := 210) (loc' := [.ref r0, .int x1, .int x2, .int x3, .int (x4 + 0), .int (x5 + 1)]) dX10_change_207 rfl rfl (kX_1 _) rfl ?_
        refine v_goto (pc' := 137) dX10_change_210 (by decide) ?_
        exact T
    · have T := T.2 c16
      refine v_aload_n (pc' := 159) dX10_change_158 rfl rfl ?_
      refine v_getR (pc' := 162) 8 22 dX10_change_159 rfl (by decide) (by decide) rfl kf_X10_31 q13 ?_
      refine v_iload_n (pc' := 163) dX10_change_162 rfl rfl ?_
      refine v_aload_n (pc' := 164) dX10_change_163 rfl rfl ?_
      refine v_getR (pc' := 167) 8 22 dX10_change_164 rfl (by decide) (by decide) rfl kf_X10_31 q13 ?_
      refine v_iload_n (pc' := 168) dX10_change_167 rfl rfl ?_
      refine v_iload (pc' := 170) dX10_change_168 rfl rfl ?_
      refine v_iadd (pc' := 171) dX10_change_170 rfl ?_
      refine v_iald (pc' := 172) dX10_change_171 rfl rfl q14 q15 ?_
      refine v_ineg (pc' := 173) dX10_change_172 rfl ?_
      obtain ⟨z22, h21, k23, T⟩ := T
      refine v_callS (pc' := 176) (M1 := mX10_ahead) (as := [.ref (rH h r0 22), .int x1, .int (-(h.2 (rH h r0 22) (x3 + x5).toNatClampNeg))]) (rest := [.int x4]) dX10_change_173 rfl ko_X10_212 kc_X10_ahead kt_X10_ahead (by decide) hdd rfl rfl (le_l rfl) k23 ?_
      refine v_goto (pc' := 204) dX10_change_176 (by decide) ?_
      refine v_iadd (pc' := 205) dX10_change_204 rfl ?_
      refine v_istore (pc' := 207) (loc' := [.ref r0, .int x1, .int x2, .int x3, .int (x4 + z22), .int x5]) dX10_change_205 rfl (lt_l rfl) rfl ?_
      refine v_iinc (pc' := 210) (loc' := [.ref r0, .int x1, .int x2, .int x3, .int (x4 + z22), .int (x5 + 1)]) dX10_change_207 rfl rfl (kX_1 _) rfl ?_
      refine v_goto (pc' := 137) dX10_change_210 (by decide) ?_
      exact T
theorem eX10_held {G : GG} {d : Nat} {h : Hp} {o : OU} {h' : Hp} (r0 : Nat) (x1 : Int32) (hd : 1 ≤ d) (T : kH h r0 = 18 ∧ ∃ z3 h2, VM G mX10_isBlock (d - 1) [.ref r0, .int x1] (h.1, (upI h.2 r0 0 0)) (.inl (some (.int z3))) h2 ∧ ((¬ z3 = 0 → kH h2 r0 = 18 ∧ ∃ z7 h6, VM G mX10_bad (d - 1) [.ref r0, .int 0, .int 1, .int 3] h2 (.inl (some (.int z7))) h6 ∧ ((z7 = 0 → kH h6 r0 = 18 ∧ ∃ z13 h12, VM G mX10_copiesBlock (d - 1) [.ref r0, .ref (rH h6 r0 22), .int x1] h6 (.inl (some (.int z13))) h12 ∧ (o = .inl (some (.int z13)) ∧ h' = h12)) ∧ (¬ z7 = 0 → (o = .inl (some (.int 0)) ∧ h' = h6)))) ∧ (z3 = 0 → kH h2 r0 = 18 ∧ ∃ z16 h15, VM G mX10_bad (d - 1) [.ref r0, .int 1, .int 1, .int 3] h2 (.inl (some (.int z16))) h15 ∧ ((z16 = 0 → kH h15 r0 = 18 ∧ ∃ z22 h21, VM G mX10_copiesBlock (d - 1) [.ref r0, .ref (rH h15 r0 22), .int x1] h15 (.inl (some (.int z22))) h21 ∧ (o = .inl (some (.int z22)) ∧ h' = h21)) ∧ (¬ z16 = 0 → (o = .inl (some (.int 0)) ∧ h' = h15)))))) : VM G mX10_held d [.ref r0, .int x1] h o h' := by
  refine V.toM rfl rfl (le_l rfl) (cat_all rfl) ?_
  show V G mX10_held d 0 [.ref r0, .int x1] [] h o h'
  have hdd : d - 1 + 1 ≤ d := by omega
  refine v_aload_n (pc' := 1) dX10_held_0 rfl rfl ?_
  refine v_iconst (pc' := 2) (v := 0) dX10_held_1 rfl kI_0 ?_
  obtain ⟨q1, T⟩ := T
  refine v_putI (pc' := 5) 8 0 dX10_held_2 rfl (by decide) (by decide) rfl rfl kf_X10_72 q1 ?_
  refine v_aload_n (pc' := 6) dX10_held_5 rfl rfl ?_
  refine v_aload_n (pc' := 7) dX10_held_6 rfl rfl ?_
  refine v_iload_n (pc' := 8) dX10_held_7 rfl rfl ?_
  obtain ⟨z3, h2, k4, T⟩ := T
  refine v_callV (pc' := 11) (M1 := mX10_isBlock) (as := [.int x1]) (r := r0) (rest := [.ref r0]) 8 dX10_held_8 rfl ko_X10_371 kc_X10_isBlock ki_X10_isBlock ks_X10_isBlock (by decide) (by decide) hdd rfl rfl (le_l rfl) q1 k4 ?_
  refine v_if_ne (tgt := 18) (pc' := 14) dX10_held_11 (by decide) rfl ⟨fun c5 => ?_, fun c5 => ?_⟩
  · have T := T.1 c5
    refine v_iconst (pc' := 19) (v := 0) dX10_held_18 rfl kI_0 ?_
    refine v_iconst (pc' := 20) (v := 1) dX10_held_19 rfl kI_1 ?_
    refine v_iconst (pc' := 21) (v := 3) dX10_held_20 rfl kI_3 ?_
    obtain ⟨q9, T⟩ := T
    obtain ⟨z7, h6, k8, T⟩ := T
    refine v_callV (pc' := 24) (M1 := mX10_bad) (as := [.int 0, .int 1, .int 3]) (r := r0) (rest := []) 8 dX10_held_21 rfl ko_X10_155 kc_X10_bad ki_X10_bad ks_X10_bad (by decide) (by decide) hdd rfl rfl (le_l rfl) q9 k8 ?_
    refine v_if_eq (tgt := 29) (pc' := 27) dX10_held_24 (by decide) rfl ⟨fun c10 => ?_, fun c10 => ?_⟩
    · have T := T.1 c10
      refine v_aload_n (pc' := 30) dX10_held_29 rfl rfl ?_
      refine v_aload_n (pc' := 31) dX10_held_30 rfl rfl ?_
      obtain ⟨q11, T⟩ := T
      refine v_getR (pc' := 34) 8 22 dX10_held_31 rfl (by decide) (by decide) rfl kf_X10_31 q11 ?_
      refine v_iload_n (pc' := 35) dX10_held_34 rfl rfl ?_
      obtain ⟨z13, h12, k14, T⟩ := T
      refine v_callV (pc' := 38) (M1 := mX10_copiesBlock) (as := [.ref (rH h6 r0 22), .int x1]) (r := r0) (rest := []) 8 dX10_held_35 rfl ko_X10_258 kc_X10_copiesBlock ki_X10_copiesBlock ks_X10_copiesBlock (by decide) (by decide) hdd rfl rfl (le_l rfl) q11 k14 ?_
      exact v_iret dX10_held_38 rfl T
    · have T := T.2 c10
      refine v_iconst (pc' := 28) (v := 0) dX10_held_27 rfl kI_0 ?_
      exact v_iret dX10_held_28 rfl T
  · have T := T.2 c5
    refine v_iconst (pc' := 15) (v := 1) dX10_held_14 rfl kI_1 ?_
    refine v_goto (pc' := 19) dX10_held_15 (by decide) ?_
    refine v_iconst (pc' := 20) (v := 1) dX10_held_19 rfl kI_1 ?_
    refine v_iconst (pc' := 21) (v := 3) dX10_held_20 rfl kI_3 ?_
    obtain ⟨q18, T⟩ := T
    obtain ⟨z16, h15, k17, T⟩ := T
    refine v_callV (pc' := 24) (M1 := mX10_bad) (as := [.int 1, .int 1, .int 3]) (r := r0) (rest := []) 8 dX10_held_21 rfl ko_X10_155 kc_X10_bad ki_X10_bad ks_X10_bad (by decide) (by decide) hdd rfl rfl (le_l rfl) q18 k17 ?_
    refine v_if_eq (tgt := 29) (pc' := 27) dX10_held_24 (by decide) rfl ⟨fun c19 => ?_, fun c19 => ?_⟩
    · have T := T.1 c19
      refine v_aload_n (pc' := 30) dX10_held_29 rfl rfl ?_
      refine v_aload_n (pc' := 31) dX10_held_30 rfl rfl ?_
      obtain ⟨q20, T⟩ := T
      refine v_getR (pc' := 34) 8 22 dX10_held_31 rfl (by decide) (by decide) rfl kf_X10_31 q20 ?_
      refine v_iload_n (pc' := 35) dX10_held_34 rfl rfl ?_
      obtain ⟨z22, h21, k23, T⟩ := T
      refine v_callV (pc' := 38) (M1 := mX10_copiesBlock) (as := [.ref (rH h15 r0 22), .int x1]) (r := r0) (rest := []) 8 dX10_held_35 rfl ko_X10_258 kc_X10_copiesBlock ki_X10_copiesBlock ks_X10_copiesBlock (by decide) (by decide) hdd rfl rfl (le_l rfl) q20 k23 ?_
      exact v_iret dX10_held_38 rfl T
    · have T := T.2 c19
      refine v_iconst (pc' := 28) (v := 0) dX10_held_27 rfl kI_0 ?_
      exact v_iret dX10_held_28 rfl T
theorem eX10_copy {G : GG} {d : Nat} {h : Hp} {o : OU} {h' : Hp} (r0 : Nat) (x1 : Int32) (x2 : Int32) (hd : 1 ≤ d) (T : kH h r0 = 18 ∧ ∃ z3 h2, VM G mX10_isBlock (d - 1) [.ref r0, .int x1] (h.1, (upI h.2 r0 0 0)) (.inl (some (.int z3))) h2 ∧ ((z3 = 0 → kH h2 r0 = 18 ∧ ∃ z7 h6, VM G mX10_bad (d - 1) [.ref r0, .int 1, .int 1, .int 3] h2 (.inl (some (.int z7))) h6 ∧ ((z7 = 0 → kH h6 r0 = 18 ∧ ∃ z13 h12, VM G mX10_copiesBlock (d - 1) [.ref r0, .ref (rH h6 r0 22), .int x1] h6 (.inl (some (.int z13))) h12 ∧ kH h12 r0 = 18 ∧ kH h12 (rH h12 r0 28) = 1 ∧ vp_in x2 (lH h12 (rH h12 r0 28)) ∧ (o = .inl (some (.int (h12.2 (rH h12 r0 28) x2.toNatClampNeg))) ∧ h' = h12)) ∧ (¬ z7 = 0 → (o = .inl (some (.int 0)) ∧ h' = h6)))) ∧ (¬ z3 = 0 → ∃ z19 h18, VM G mX10_in (d - 1) [.int x2, .int 0, .int 15] h2 (.inl (some (.int z19))) h18 ∧ ((¬ z19 = 0 → kH h18 r0 = 18 ∧ ∃ z23 h22, VM G mX10_bad (d - 1) [.ref r0, .int 0, .int 1, .int 3] h18 (.inl (some (.int z23))) h22 ∧ ((z23 = 0 → kH h22 r0 = 18 ∧ ∃ z29 h28, VM G mX10_copiesBlock (d - 1) [.ref r0, .ref (rH h22 r0 22), .int x1] h22 (.inl (some (.int z29))) h28 ∧ kH h28 r0 = 18 ∧ kH h28 (rH h28 r0 28) = 1 ∧ vp_in x2 (lH h28 (rH h28 r0 28)) ∧ (o = .inl (some (.int (h28.2 (rH h28 r0 28) x2.toNatClampNeg))) ∧ h' = h28)) ∧ (¬ z23 = 0 → (o = .inl (some (.int 0)) ∧ h' = h22)))) ∧ (z19 = 0 → kH h18 r0 = 18 ∧ ∃ z35 h34, VM G mX10_bad (d - 1) [.ref r0, .int 1, .int 1, .int 3] h18 (.inl (some (.int z35))) h34 ∧ ((z35 = 0 → kH h34 r0 = 18 ∧ ∃ z41 h40, VM G mX10_copiesBlock (d - 1) [.ref r0, .ref (rH h34 r0 22), .int x1] h34 (.inl (some (.int z41))) h40 ∧ kH h40 r0 = 18 ∧ kH h40 (rH h40 r0 28) = 1 ∧ vp_in x2 (lH h40 (rH h40 r0 28)) ∧ (o = .inl (some (.int (h40.2 (rH h40 r0 28) x2.toNatClampNeg))) ∧ h' = h40)) ∧ (¬ z35 = 0 → (o = .inl (some (.int 0)) ∧ h' = h34)))))))) : VM G mX10_copy d [.ref r0, .int x1, .int x2] h o h' := by
  refine V.toM rfl rfl (le_l rfl) (cat_all rfl) ?_
  show V G mX10_copy d 0 [.ref r0, .int x1, .int x2] [] h o h'
  have hdd : d - 1 + 1 ≤ d := by omega
  refine v_aload_n (pc' := 1) dX10_copy_0 rfl rfl ?_
  refine v_iconst (pc' := 2) (v := 0) dX10_copy_1 rfl kI_0 ?_
  obtain ⟨q1, T⟩ := T
  refine v_putI (pc' := 5) 8 0 dX10_copy_2 rfl (by decide) (by decide) rfl rfl kf_X10_72 q1 ?_
  refine v_aload_n (pc' := 6) dX10_copy_5 rfl rfl ?_
  refine v_aload_n (pc' := 7) dX10_copy_6 rfl rfl ?_
  refine v_iload_n (pc' := 8) dX10_copy_7 rfl rfl ?_
  obtain ⟨z3, h2, k4, T⟩ := T
  refine v_callV (pc' := 11) (M1 := mX10_isBlock) (as := [.int x1]) (r := r0) (rest := [.ref r0]) 8 dX10_copy_8 rfl ko_X10_371 kc_X10_isBlock ki_X10_isBlock ks_X10_isBlock (by decide) (by decide) hdd rfl rfl (le_l rfl) q1 k4 ?_
  refine v_if_eq (tgt := 24) (pc' := 14) dX10_copy_11 (by decide) rfl ⟨fun c5 => ?_, fun c5 => ?_⟩
  · have T := T.1 c5
    refine v_iconst (pc' := 25) (v := 1) dX10_copy_24 rfl kI_1 ?_
    refine v_goto (pc' := 29) dX10_copy_25 (by decide) ?_
    refine v_iconst (pc' := 30) (v := 1) dX10_copy_29 rfl kI_1 ?_
    refine v_iconst (pc' := 31) (v := 3) dX10_copy_30 rfl kI_3 ?_
    obtain ⟨q9, T⟩ := T
    obtain ⟨z7, h6, k8, T⟩ := T
    refine v_callV (pc' := 34) (M1 := mX10_bad) (as := [.int 1, .int 1, .int 3]) (r := r0) (rest := []) 8 dX10_copy_31 rfl ko_X10_155 kc_X10_bad ki_X10_bad ks_X10_bad (by decide) (by decide) hdd rfl rfl (le_l rfl) q9 k8 ?_
    refine v_if_eq (tgt := 39) (pc' := 37) dX10_copy_34 (by decide) rfl ⟨fun c10 => ?_, fun c10 => ?_⟩
    · have T := T.1 c10
      refine v_aload_n (pc' := 40) dX10_copy_39 rfl rfl ?_
      refine v_aload_n (pc' := 41) dX10_copy_40 rfl rfl ?_
      obtain ⟨q11, T⟩ := T
      refine v_getR (pc' := 44) 8 22 dX10_copy_41 rfl (by decide) (by decide) rfl kf_X10_31 q11 ?_
      refine v_iload_n (pc' := 45) dX10_copy_44 rfl rfl ?_
      obtain ⟨z13, h12, k14, T⟩ := T
      refine v_callV (pc' := 48) (M1 := mX10_copiesBlock) (as := [.ref (rH h6 r0 22), .int x1]) (r := r0) (rest := []) 8 dX10_copy_45 rfl ko_X10_258 kc_X10_copiesBlock ki_X10_copiesBlock ks_X10_copiesBlock (by decide) (by decide) hdd rfl rfl (le_l rfl) q11 k14 ?_
      refine v_pop (pc' := 49) dX10_copy_48 rfl rfl ?_
      refine v_aload_n (pc' := 50) dX10_copy_49 rfl rfl ?_
      obtain ⟨q15, T⟩ := T
      refine v_getR (pc' := 53) 8 28 dX10_copy_50 rfl (by decide) (by decide) rfl kf_X10_51 q15 ?_
      refine v_iload_n (pc' := 54) dX10_copy_53 rfl rfl ?_
      obtain ⟨q16, T⟩ := T
      obtain ⟨q17, T⟩ := T
      refine v_iald (pc' := 55) dX10_copy_54 rfl rfl q16 q17 ?_
      exact v_iret dX10_copy_55 rfl T
    · have T := T.2 c10
      refine v_iconst (pc' := 38) (v := 0) dX10_copy_37 rfl kI_0 ?_
      exact v_iret dX10_copy_38 rfl T
  · have T := T.2 c5
    refine v_iload_n (pc' := 15) dX10_copy_14 rfl rfl ?_
    refine v_iconst (pc' := 16) (v := 0) dX10_copy_15 rfl kI_0 ?_
    refine v_bipush (pc' := 18) (v := 15) dX10_copy_16 rfl kB_15 ?_
    obtain ⟨z19, h18, k20, T⟩ := T
    refine v_callS (pc' := 21) (M1 := mX10_in) (as := [.int x2, .int 0, .int 15]) (rest := [.ref r0]) dX10_copy_18 rfl ko_X10_106 kc_X10_in kt_X10_in (by decide) hdd rfl rfl (le_l rfl) k20 ?_
    refine v_if_ne (tgt := 28) (pc' := 24) dX10_copy_21 (by decide) rfl ⟨fun c21 => ?_, fun c21 => ?_⟩
    · have T := T.1 c21
      refine v_iconst (pc' := 29) (v := 0) dX10_copy_28 rfl kI_0 ?_
      refine v_iconst (pc' := 30) (v := 1) dX10_copy_29 rfl kI_1 ?_
      refine v_iconst (pc' := 31) (v := 3) dX10_copy_30 rfl kI_3 ?_
      obtain ⟨q25, T⟩ := T
      obtain ⟨z23, h22, k24, T⟩ := T
      refine v_callV (pc' := 34) (M1 := mX10_bad) (as := [.int 0, .int 1, .int 3]) (r := r0) (rest := []) 8 dX10_copy_31 rfl ko_X10_155 kc_X10_bad ki_X10_bad ks_X10_bad (by decide) (by decide) hdd rfl rfl (le_l rfl) q25 k24 ?_
      refine v_if_eq (tgt := 39) (pc' := 37) dX10_copy_34 (by decide) rfl ⟨fun c26 => ?_, fun c26 => ?_⟩
      · have T := T.1 c26
        refine v_aload_n (pc' := 40) dX10_copy_39 rfl rfl ?_
        refine v_aload_n (pc' := 41) dX10_copy_40 rfl rfl ?_
        obtain ⟨q27, T⟩ := T
        refine v_getR (pc' := 44) 8 22 dX10_copy_41 rfl (by decide) (by decide) rfl kf_X10_31 q27 ?_
        refine v_iload_n (pc' := 45) dX10_copy_44 rfl rfl ?_
        obtain ⟨z29, h28, k30, T⟩ := T
        refine v_callV (pc' := 48) (M1 := mX10_copiesBlock) (as := [.ref (rH h22 r0 22), .int x1]) (r := r0) (rest := []) 8 dX10_copy_45 rfl ko_X10_258 kc_X10_copiesBlock ki_X10_copiesBlock ks_X10_copiesBlock (by decide) (by decide) hdd rfl rfl (le_l rfl) q27 k30 ?_
        refine v_pop (pc' := 49) dX10_copy_48 rfl rfl ?_
        refine v_aload_n (pc' := 50) dX10_copy_49 rfl rfl ?_
        obtain ⟨q31, T⟩ := T
        refine v_getR (pc' := 53) 8 28 dX10_copy_50 rfl (by decide) (by decide) rfl kf_X10_51 q31 ?_
        refine v_iload_n (pc' := 54) dX10_copy_53 rfl rfl ?_
        obtain ⟨q32, T⟩ := T
        obtain ⟨q33, T⟩ := T
        refine v_iald (pc' := 55) dX10_copy_54 rfl rfl q32 q33 ?_
        exact v_iret dX10_copy_55 rfl T
      · have T := T.2 c26
        refine v_iconst (pc' := 38) (v := 0) dX10_copy_37 rfl kI_0 ?_
        exact v_iret dX10_copy_38 rfl T
    · have T := T.2 c21
      refine v_iconst (pc' := 25) (v := 1) dX10_copy_24 rfl kI_1 ?_
      refine v_goto (pc' := 29) dX10_copy_25 (by decide) ?_
      refine v_iconst (pc' := 30) (v := 1) dX10_copy_29 rfl kI_1 ?_
      refine v_iconst (pc' := 31) (v := 3) dX10_copy_30 rfl kI_3 ?_
      obtain ⟨q37, T⟩ := T
      obtain ⟨z35, h34, k36, T⟩ := T
      refine v_callV (pc' := 34) (M1 := mX10_bad) (as := [.int 1, .int 1, .int 3]) (r := r0) (rest := []) 8 dX10_copy_31 rfl ko_X10_155 kc_X10_bad ki_X10_bad ks_X10_bad (by decide) (by decide) hdd rfl rfl (le_l rfl) q37 k36 ?_
      refine v_if_eq (tgt := 39) (pc' := 37) dX10_copy_34 (by decide) rfl ⟨fun c38 => ?_, fun c38 => ?_⟩
      · have T := T.1 c38
        refine v_aload_n (pc' := 40) dX10_copy_39 rfl rfl ?_
        refine v_aload_n (pc' := 41) dX10_copy_40 rfl rfl ?_
        obtain ⟨q39, T⟩ := T
        refine v_getR (pc' := 44) 8 22 dX10_copy_41 rfl (by decide) (by decide) rfl kf_X10_31 q39 ?_
        refine v_iload_n (pc' := 45) dX10_copy_44 rfl rfl ?_
        obtain ⟨z41, h40, k42, T⟩ := T
        refine v_callV (pc' := 48) (M1 := mX10_copiesBlock) (as := [.ref (rH h34 r0 22), .int x1]) (r := r0) (rest := []) 8 dX10_copy_45 rfl ko_X10_258 kc_X10_copiesBlock ki_X10_copiesBlock ks_X10_copiesBlock (by decide) (by decide) hdd rfl rfl (le_l rfl) q39 k42 ?_
        refine v_pop (pc' := 49) dX10_copy_48 rfl rfl ?_
        refine v_aload_n (pc' := 50) dX10_copy_49 rfl rfl ?_
        obtain ⟨q43, T⟩ := T
        refine v_getR (pc' := 53) 8 28 dX10_copy_50 rfl (by decide) (by decide) rfl kf_X10_51 q43 ?_
        refine v_iload_n (pc' := 54) dX10_copy_53 rfl rfl ?_
        obtain ⟨q44, T⟩ := T
        obtain ⟨q45, T⟩ := T
        refine v_iald (pc' := 55) dX10_copy_54 rfl rfl q44 q45 ?_
        exact v_iret dX10_copy_55 rfl T
      · have T := T.2 c38
        refine v_iconst (pc' := 38) (v := 0) dX10_copy_37 rfl kI_0 ?_
        exact v_iret dX10_copy_38 rfl T
theorem eX10_waitsFor {G : GG} {d : Nat} {h : Hp} {o : OU} {h' : Hp} (r0 : Nat) (x1 : Int32) (T : V G mX10_waitsFor d 4 [.ref r0, .int x1, .int 0, .int 0, uV, uV, uV] [] h o h') : VM G mX10_waitsFor d [.ref r0, .int x1] h o h' := by
  refine V.toM rfl rfl (le_l rfl) (cat_all rfl) ?_
  show V G mX10_waitsFor d 0 [.ref r0, .int x1, uV, uV, uV, uV, uV] [] h o h'
  refine v_iconst (pc' := 1) (v := 0) dX10_waitsFor_0 rfl kI_0 ?_
  refine v_istore_n (pc' := 2) (loc' := [.ref r0, .int x1, .int 0, uV, uV, uV, uV]) dX10_waitsFor_1 rfl (lt_l rfl) rfl ?_
  refine v_iconst (pc' := 3) (v := 0) dX10_waitsFor_2 rfl kI_0 ?_
  refine v_istore_n (pc' := 4) (loc' := [.ref r0, .int x1, .int 0, .int 0, uV, uV, uV]) dX10_waitsFor_3 rfl (lt_l rfl) rfl ?_
  exact T
theorem bX10_waitsFor_4 {G : GG} {d : Nat} {h : Hp} {o : OU} {h' : Hp} (r0 : Nat) (x1 : Int32) (x2 : Int32) (x3 : Int32) (hd : 1 ≤ d) (T : kH h r0 = 18 ∧ kH h (rH h r0 22) = 1 ∧ vp_in 3392 (lH h (rH h r0 22)) ∧ (((h.2 (rH h r0 22) 3392) ≤ x3 → (o = .inl (some (.int (x2 &&& ((1 <<< (x1 &&& 31)) ^^^ (-1))))) ∧ h' = h)) ∧ (¬ (h.2 (rH h r0 22) 3392) ≤ x3 → ∃ z6 h5, VM G mX10_cell (d - 1) [.int x3] h (.inl (some (.int z6))) h5 ∧ V G mX10_waitsFor d 25 [.ref r0, .int x1, .int x2, .int x3, .int z6, .int 4, uV] [] h5 o h'))) : V G mX10_waitsFor d 4 [.ref r0, .int x1, .int x2, .int x3, uV, uV, uV] [] h o h' := by
  have hdd : d - 1 + 1 ≤ d := by omega
  refine v_iload_n (pc' := 5) dX10_waitsFor_4 rfl rfl ?_
  refine v_aload_n (pc' := 6) dX10_waitsFor_5 rfl rfl ?_
  obtain ⟨q1, T⟩ := T
  refine v_getR (pc' := 9) 8 22 dX10_waitsFor_6 rfl (by decide) (by decide) rfl kf_X10_31 q1 ?_
  refine v_sipush (pc' := 12) (v := 3392) dX10_waitsFor_9 rfl kS_3392 ?_
  obtain ⟨q2, T⟩ := T
  obtain ⟨q3, T⟩ := T
  refine v_iald (pc' := 13) dX10_waitsFor_12 rfl kN_3392 q2 q3 ?_
  refine v_icmp_ge (tgt := 158) (pc' := 16) dX10_waitsFor_13 (by decide) rfl ⟨fun c4 => ?_, fun c4 => ?_⟩
  · have T := T.1 c4
    refine v_iload_n (pc' := 159) dX10_waitsFor_158 rfl rfl ?_
    refine v_iconst (pc' := 160) (v := 1) dX10_waitsFor_159 rfl kI_1 ?_
    refine v_iload_n (pc' := 161) dX10_waitsFor_160 rfl rfl ?_
    refine v_ishl (pc' := 162) dX10_waitsFor_161 rfl ?_
    refine v_iconst (pc' := 163) (v := (-1)) dX10_waitsFor_162 rfl kI_m1 ?_
    refine v_ixor (pc' := 164) dX10_waitsFor_163 rfl ?_
    refine v_iand (pc' := 165) dX10_waitsFor_164 rfl ?_
    exact v_iret dX10_waitsFor_165 rfl T
  · have T := T.2 c4
    refine v_iload_n (pc' := 17) dX10_waitsFor_16 rfl rfl ?_
    obtain ⟨z6, h5, k7, T⟩ := T
    refine v_callS (pc' := 20) (M1 := mX10_cell) (as := [.int x3]) (rest := []) dX10_waitsFor_17 rfl ko_X10_201 kc_X10_cell kt_X10_cell (by decide) hdd rfl rfl (le_l rfl) k7 ?_
    refine v_istore (pc' := 22) (loc' := [.ref r0, .int x1, .int x2, .int x3, .int z6, uV, uV]) dX10_waitsFor_20 rfl (lt_l rfl) rfl ?_
    refine v_iconst (pc' := 23) (v := 4) dX10_waitsFor_22 rfl kI_4 ?_
    refine v_istore (pc' := 25) (loc' := [.ref r0, .int x1, .int x2, .int x3, .int z6, .int 4, uV]) dX10_waitsFor_23 rfl (lt_l rfl) rfl ?_
    exact T
theorem bX10_waitsFor_25 {G : GG} {d : Nat} {h : Hp} {o : OU} {h' : Hp} (r0 : Nat) (x1 : Int32) (x2 : Int32) (x3 : Int32) (x4 : Int32) (x5 : Int32) (hd : 1 ≤ d) (T : ((8 ≤ x5 → V G mX10_waitsFor d 4 [.ref r0, .int x1, .int x2, .int (x3 + 1), uV, uV, uV] [] h o h') ∧ (¬ 8 ≤ x5 → kH h r0 = 18 ∧ kH h (rH h r0 22) = 1 ∧ vp_in (x4 + 1) (lH h (rH h r0 22)) ∧ ((¬ (h.2 (rH h r0 22) (x4 + 1).toNatClampNeg) = x1 → V G mX10_waitsFor d 4 [.ref r0, .int x1, .int x2, .int (x3 + 1), uV, uV, uV] [] h o h') ∧ ((h.2 (rH h r0 22) (x4 + 1).toNatClampNeg) = x1 → vp_in (x4 + x5) (lH h (rH h r0 22)) ∧ ∃ z8 h7, VM G mX10_which (d - 1) [.ref (rH h r0 22), .int (h.2 (rH h r0 22) (x4 + x5).toNatClampNeg)] h (.inl (some (.int z8))) h7 ∧ ((¬ z8 = (-1) → kH h7 r0 = 18 ∧ ∃ z13 h12, VM G mX10_cell (d - 1) [.int z8] h7 (.inl (some (.int z13))) h12 ∧ kH h12 (rH h7 r0 22) = 1 ∧ vp_in (z13 + 1) (lH h12 (rH h7 r0 22)) ∧ V G mX10_waitsFor d 89 [.ref r0, .int x1, uV, .int x3, .int x4, .int x5, uV] [.int (1 <<< ((h12.2 (rH h7 r0 22) (z13 + 1).toNatClampNeg) &&& 31)), .int x2] h12 o h') ∧ (z8 = (-1) → V G mX10_waitsFor d 89 [.ref r0, .int x1, uV, .int x3, .int x4, .int x5, uV] [.int 0, .int x2] h7 o h'))))))) : V G mX10_waitsFor d 25 [.ref r0, .int x1, .int x2, .int x3, .int x4, .int x5, uV] [] h o h' := by
  have hdd : d - 1 + 1 ≤ d := by omega
  refine v_iload (pc' := 27) dX10_waitsFor_25 rfl rfl ?_
  refine v_bipush (pc' := 29) (v := 8) dX10_waitsFor_27 rfl kB_8 ?_
  refine v_icmp_ge (tgt := 152) (pc' := 32) dX10_waitsFor_29 (by decide) rfl ⟨fun c1 => ?_, fun c1 => ?_⟩
  · have T := T.1 c1
    refine v_iinc (pc' := 155) (loc' := [.ref r0, .int x1, .int x2, .int (x3 + 1), .int x4, .int x5, uV]) dX10_waitsFor_152 rfl rfl (kX_1 _) rfl ?_
    refine v_goto (pc' := 4) dX10_waitsFor_155 (by decide) ?_
    exact V.drop (llp_r (llp_r (llp_r (llp_r (llp_u (llp_u (llp_r llp_nil))))))) T
  · have T := T.2 c1
    refine v_aload_n (pc' := 33) dX10_waitsFor_32 rfl rfl ?_
    obtain ⟨q2, T⟩ := T
    refine v_getR (pc' := 36) 8 22 dX10_waitsFor_33 rfl (by decide) (by decide) rfl kf_X10_31 q2 ?_
    refine v_iload (pc' := 38) dX10_waitsFor_36 rfl rfl ?_
    refine v_iconst (pc' := 39) (v := 1) dX10_waitsFor_38 rfl kI_1 ?_
    refine v_iadd (pc' := 40) dX10_waitsFor_39 rfl ?_
    obtain ⟨q3, T⟩ := T
    obtain ⟨q4, T⟩ := T
    refine v_iald (pc' := 41) dX10_waitsFor_40 rfl rfl q3 q4 ?_
    refine v_iload_n (pc' := 42) dX10_waitsFor_41 rfl rfl ?_
    refine v_icmp_ne (tgt := 152) (pc' := 45) dX10_waitsFor_42 (by decide) rfl ⟨fun c5 => ?_, fun c5 => ?_⟩
    · have T := T.1 c5
      refine v_iinc (pc' := 155) (loc' := [.ref r0, .int x1, .int x2, .int (x3 + 1), .int x4, .int x5, uV]) dX10_waitsFor_152 rfl rfl (kX_1 _) rfl ?_
      refine v_goto (pc' := 4) dX10_waitsFor_155 (by decide) ?_
      exact V.drop (llp_r (llp_r (llp_r (llp_r (llp_u (llp_u (llp_r llp_nil))))))) T
    · have T := T.2 c5
      refine v_aload_n (pc' := 46) dX10_waitsFor_45 rfl rfl ?_
      refine v_getR (pc' := 49) 8 22 dX10_waitsFor_46 rfl (by decide) (by decide) rfl kf_X10_31 q2 ?_
      refine v_aload_n (pc' := 50) dX10_waitsFor_49 rfl rfl ?_
      refine v_getR (pc' := 53) 8 22 dX10_waitsFor_50 rfl (by decide) (by decide) rfl kf_X10_31 q2 ?_
      refine v_iload (pc' := 55) dX10_waitsFor_53 rfl rfl ?_
      refine v_iload (pc' := 57) dX10_waitsFor_55 rfl rfl ?_
      refine v_iadd (pc' := 58) dX10_waitsFor_57 rfl ?_
      obtain ⟨q6, T⟩ := T
      refine v_iald (pc' := 59) dX10_waitsFor_58 rfl rfl q3 q6 ?_
      obtain ⟨z8, h7, k9, T⟩ := T
      refine v_callS (pc' := 62) (M1 := mX10_which) (as := [.ref (rH h r0 22), .int (h.2 (rH h r0 22) (x4 + x5).toNatClampNeg)]) (rest := []) dX10_waitsFor_59 rfl ko_X10_216 kc_X10_which kt_X10_which (by decide) hdd rfl rfl (le_l rfl) k9 ?_
      refine v_istore (pc' := 64) (loc' := [.ref r0, .int x1, .int x2, .int x3, .int x4, .int x5, .int z8]) dX10_waitsFor_62 rfl (lt_l rfl) rfl ?_
      refine v_iload_n (pc' := 65) dX10_waitsFor_64 rfl rfl ?_
      refine v_iload (pc' := 67) dX10_waitsFor_65 rfl rfl ?_
      refine v_iconst (pc' := 68) (v := (-1)) dX10_waitsFor_67 rfl kI_m1 ?_
      refine v_icmp_ne (tgt := 75) (pc' := 71) dX10_waitsFor_68 (by decide) rfl ⟨fun c10 => ?_, fun c10 => ?_⟩
      · have T := T.1 c10
        refine v_iconst (pc' := 76) (v := 1) dX10_waitsFor_75 rfl kI_1 ?_
        refine v_aload_n (pc' := 77) dX10_waitsFor_76 rfl rfl ?_
        obtain ⟨q11, T⟩ := T
        refine v_getR (pc' := 80) 8 22 dX10_waitsFor_77 rfl (by decide) (by decide) rfl kf_X10_31 q11 ?_
        refine v_iload (pc' := 82) dX10_waitsFor_80 rfl rfl ?_
        obtain ⟨z13, h12, k14, T⟩ := T
        refine v_callS (pc' := 85) (M1 := mX10_cell) (as := [.int z8]) (rest := [.ref (rH h7 r0 22), .int 1, .int x2]) dX10_waitsFor_82 rfl ko_X10_201 kc_X10_cell kt_X10_cell (by decide) hdd rfl rfl (le_l rfl) k14 ?_
        refine v_iconst (pc' := 86) (v := 1) dX10_waitsFor_85 rfl kI_1 ?_
        refine v_iadd (pc' := 87) dX10_waitsFor_86 rfl ?_
        obtain ⟨q15, T⟩ := T
        obtain ⟨q16, T⟩ := T
        refine v_iald (pc' := 88) dX10_waitsFor_87 rfl rfl q15 q16 ?_
        refine v_ishl (pc' := 89) dX10_waitsFor_88 rfl ?_
        exact V.drop (llp_r (llp_r (llp_u (llp_r (llp_r (llp_r (llp_u llp_nil))))))) T
      · have T := T.2 c10
        refine v_iconst (pc' := 72) (v := 0) dX10_waitsFor_71 rfl kI_0 ?_
        refine v_goto (pc' := 89) dX10_waitsFor_72 (by decide) ?_
        exact V.drop (llp_r (llp_r (llp_u (llp_r (llp_r (llp_r (llp_u llp_nil))))))) T
theorem bX10_waitsFor_89 {G : GG} {d : Nat} {h : Hp} {o : OU} {h' : Hp} (r0 : Nat) (x1 : Int32) (x3 : Int32) (x4 : Int32) (x5 : Int32) (s0 : Int32) (s1 : Int32) (hd : 1 ≤ d) (T : kH h r0 = 18 ∧ kH h (rH h r0 22) = 1 ∧ vp_in (x4 + x5) (lH h (rH h r0 22)) ∧ ((0 ≤ (h.2 (rH h r0 22) (x4 + x5).toNatClampNeg) → V G mX10_waitsFor d 25 [.ref r0, .int x1, .int ((s1 ||| s0) ||| 0), .int x3, .int x4, .int (x5 + 1), uV] [] h o h') ∧ (¬ 0 ≤ (h.2 (rH h r0 22) (x4 + x5).toNatClampNeg) → ∃ z6 h5, VM G mX10_ahead (d - 1) [.ref (rH h r0 22), .int x3, .int (-(h.2 (rH h r0 22) (x4 + x5).toNatClampNeg))] h (.inl (some (.int z6))) h5 ∧ ((z6 ≤ 0 → V G mX10_waitsFor d 25 [.ref r0, .int x1, .int ((s1 ||| s0) ||| 0), .int x3, .int x4, .int (x5 + 1), uV] [] h5 o h') ∧ (¬ z6 ≤ 0 → kH h5 r0 = 18 ∧ kH h5 (rH h5 r0 22) = 1 ∧ vp_in (x4 + x5) (lH h5 (rH h5 r0 22)) ∧ V G mX10_waitsFor d 25 [.ref r0, .int x1, .int ((s1 ||| s0) ||| (1 <<< ((-(h5.2 (rH h5 r0 22) (x4 + x5).toNatClampNeg)) &&& 31))), .int x3, .int x4, .int (x5 + 1), uV] [] h5 o h'))))) : V G mX10_waitsFor d 89 [.ref r0, .int x1, uV, .int x3, .int x4, .int x5, uV] [.int s0, .int s1] h o h' := by
  have hdd : d - 1 + 1 ≤ d := by omega
  refine v_ior (pc' := 90) dX10_waitsFor_89 rfl ?_
  refine v_istore_n (pc' := 91) (loc' := [.ref r0, .int x1, .int (s1 ||| s0), .int x3, .int x4, .int x5, uV]) dX10_waitsFor_90 rfl (lt_l rfl) rfl ?_
  refine v_iload_n (pc' := 92) dX10_waitsFor_91 rfl rfl ?_
  refine v_aload_n (pc' := 93) dX10_waitsFor_92 rfl rfl ?_
  obtain ⟨q1, T⟩ := T
  refine v_getR (pc' := 96) 8 22 dX10_waitsFor_93 rfl (by decide) (by decide) rfl kf_X10_31 q1 ?_
  refine v_iload (pc' := 98) dX10_waitsFor_96 rfl rfl ?_
  refine v_iload (pc' := 100) dX10_waitsFor_98 rfl rfl ?_
  refine v_iadd (pc' := 101) dX10_waitsFor_100 rfl ?_
  obtain ⟨q2, T⟩ := T
  obtain ⟨q3, T⟩ := T
  refine v_iald (pc' := 102) dX10_waitsFor_101 rfl rfl q2 q3 ?_
  refine v_if_ge (tgt := 143) (pc' := 105) dX10_waitsFor_102 (by decide) rfl ⟨fun c4 => ?_, fun c4 => ?_⟩
  · have T := T.1 c4
    refine v_iconst (pc' := 144) (v := 0) dX10_waitsFor_143 rfl kI_0 ?_
    refine v_ior (pc' := 145) dX10_waitsFor_144 rfl ?_
    refine v_istore_n (pc' := 146) (loc' := [.ref r0, .int x1, .int ((s1 ||| s0) ||| 0), .int x3, .int x4, .int x5, uV]) dX10_waitsFor_145 rfl (lt_l rfl) rfl ?_
    refine v_iinc (pc' := 149) (loc' := [.ref r0, .int x1, .int ((s1 ||| s0) ||| 0), .int x3, .int x4, .int (x5 + 1), uV]) dX10_waitsFor_146 rfl rfl (kX_1 _) rfl ?_
    refine v_goto (pc' := 25) dX10_waitsFor_149 (by decide) ?_
    exact T
  · have T := T.2 c4
    refine v_aload_n (pc' := 106) dX10_waitsFor_105 rfl rfl ?_
    refine v_getR (pc' := 109) 8 22 dX10_waitsFor_106 rfl (by decide) (by decide) rfl kf_X10_31 q1 ?_
    refine v_iload_n (pc' := 110) dX10_waitsFor_109 rfl rfl ?_
    refine v_aload_n (pc' := 111) dX10_waitsFor_110 rfl rfl ?_
    refine v_getR (pc' := 114) 8 22 dX10_waitsFor_111 rfl (by decide) (by decide) rfl kf_X10_31 q1 ?_
    refine v_iload (pc' := 116) dX10_waitsFor_114 rfl rfl ?_
    refine v_iload (pc' := 118) dX10_waitsFor_116 rfl rfl ?_
    refine v_iadd (pc' := 119) dX10_waitsFor_118 rfl ?_
    refine v_iald (pc' := 120) dX10_waitsFor_119 rfl rfl q2 q3 ?_
    refine v_ineg (pc' := 121) dX10_waitsFor_120 rfl ?_
    obtain ⟨z6, h5, k7, T⟩ := T
    refine v_callS (pc' := 124) (M1 := mX10_ahead) (as := [.ref (rH h r0 22), .int x3, .int (-(h.2 (rH h r0 22) (x4 + x5).toNatClampNeg))]) (rest := [.int (s1 ||| s0)]) dX10_waitsFor_121 rfl ko_X10_212 kc_X10_ahead kt_X10_ahead (by decide) hdd rfl rfl (le_l rfl) k7 ?_
    refine v_if_le (tgt := 143) (pc' := 127) dX10_waitsFor_124 (by decide) rfl ⟨fun c8 => ?_, fun c8 => ?_⟩
    · have T := T.1 c8
      refine v_iconst (pc' := 144) (v := 0) dX10_waitsFor_143 rfl kI_0 ?_
      refine v_ior (pc' := 145) dX10_waitsFor_144 rfl ?_
      refine v_istore_n (pc' := 146) (loc' := [.ref r0, .int x1, .int ((s1 ||| s0) ||| 0), .int x3, .int x4, .int x5, uV]) dX10_waitsFor_145 rfl (lt_l rfl) rfl ?_
      refine v_iinc (pc' := 149) (loc' := [.ref r0, .int x1, .int ((s1 ||| s0) ||| 0), .int x3, .int x4, .int (x5 + 1), uV]) dX10_waitsFor_146 rfl rfl (kX_1 _) rfl ?_
      refine v_goto (pc' := 25) dX10_waitsFor_149 (by decide) ?_
      exact T
    · have T := T.2 c8
      refine v_iconst (pc' := 128) (v := 1) dX10_waitsFor_127 rfl kI_1 ?_
      refine v_aload_n (pc' := 129) dX10_waitsFor_128 rfl rfl ?_
      obtain ⟨q9, T⟩ := T
      refine v_getR (pc' := 132) 8 22 dX10_waitsFor_129 rfl (by decide) (by decide) rfl kf_X10_31 q9 ?_
      refine v_iload (pc' := 134) dX10_waitsFor_132 rfl rfl ?_
      refine v_iload (pc' := 136) dX10_waitsFor_134 rfl rfl ?_
      refine v_iadd (pc' := 137) dX10_waitsFor_136 rfl ?_
      obtain ⟨q10, T⟩ := T
      obtain ⟨q11, T⟩ := T
      refine v_iald (pc' := 138) dX10_waitsFor_137 rfl rfl q10 q11 ?_
      refine v_ineg (pc' := 139) dX10_waitsFor_138 rfl ?_
      refine v_ishl (pc' := 140) dX10_waitsFor_139 rfl ?_
      refine v_goto (pc' := 144) dX10_waitsFor_140 (by decide) ?_
      refine v_ior (pc' := 145) dX10_waitsFor_144 rfl ?_
      refine v_istore_n (pc' := 146) (loc' := [.ref r0, .int x1, .int ((s1 ||| s0) ||| (1 <<< ((-(h5.2 (rH h5 r0 22) (x4 + x5).toNatClampNeg)) &&& 31))), .int x3, .int x4, .int x5, uV]) dX10_waitsFor_145 rfl (lt_l rfl) rfl ?_
      refine v_iinc (pc' := 149) (loc' := [.ref r0, .int x1, .int ((s1 ||| s0) ||| (1 <<< ((-(h5.2 (rH h5 r0 22) (x4 + x5).toNatClampNeg)) &&& 31))), .int x3, .int x4, .int (x5 + 1), uV]) dX10_waitsFor_146 rfl rfl (kX_1 _) rfl ?_
      refine v_goto (pc' := 25) dX10_waitsFor_149 (by decide) ?_
      exact T
theorem eX10_waits {G : GG} {d : Nat} {h : Hp} {o : OU} {h' : Hp} (r0 : Nat) (x1 : Int32) (hd : 1 ≤ d) (T : kH h r0 = 18 ∧ ∃ z3 h2, VM G mX10_isBlock (d - 1) [.ref r0, .int x1] (h.1, (upI h.2 r0 0 0)) (.inl (some (.int z3))) h2 ∧ ((¬ z3 = 0 → kH h2 r0 = 18 ∧ ∃ z7 h6, VM G mX10_bad (d - 1) [.ref r0, .int 0, .int 1, .int 3] h2 (.inl (some (.int z7))) h6 ∧ ((z7 = 0 → kH h6 r0 = 18 ∧ ∃ z12 h11, VM G mX10_waitsFor (d - 1) [.ref r0, .int x1] h6 (.inl (some (.int z12))) h11 ∧ (o = .inl (some (.int z12)) ∧ h' = h11)) ∧ (¬ z7 = 0 → (o = .inl (some (.int 0)) ∧ h' = h6)))) ∧ (z3 = 0 → kH h2 r0 = 18 ∧ ∃ z16 h15, VM G mX10_bad (d - 1) [.ref r0, .int 1, .int 1, .int 3] h2 (.inl (some (.int z16))) h15 ∧ ((z16 = 0 → kH h15 r0 = 18 ∧ ∃ z21 h20, VM G mX10_waitsFor (d - 1) [.ref r0, .int x1] h15 (.inl (some (.int z21))) h20 ∧ (o = .inl (some (.int z21)) ∧ h' = h20)) ∧ (¬ z16 = 0 → (o = .inl (some (.int 0)) ∧ h' = h15)))))) : VM G mX10_waits d [.ref r0, .int x1] h o h' := by
  refine V.toM rfl rfl (le_l rfl) (cat_all rfl) ?_
  show V G mX10_waits d 0 [.ref r0, .int x1] [] h o h'
  have hdd : d - 1 + 1 ≤ d := by omega
  refine v_aload_n (pc' := 1) dX10_waits_0 rfl rfl ?_
  refine v_iconst (pc' := 2) (v := 0) dX10_waits_1 rfl kI_0 ?_
  obtain ⟨q1, T⟩ := T
  refine v_putI (pc' := 5) 8 0 dX10_waits_2 rfl (by decide) (by decide) rfl rfl kf_X10_72 q1 ?_
  refine v_aload_n (pc' := 6) dX10_waits_5 rfl rfl ?_
  refine v_aload_n (pc' := 7) dX10_waits_6 rfl rfl ?_
  refine v_iload_n (pc' := 8) dX10_waits_7 rfl rfl ?_
  obtain ⟨z3, h2, k4, T⟩ := T
  refine v_callV (pc' := 11) (M1 := mX10_isBlock) (as := [.int x1]) (r := r0) (rest := [.ref r0]) 8 dX10_waits_8 rfl ko_X10_371 kc_X10_isBlock ki_X10_isBlock ks_X10_isBlock (by decide) (by decide) hdd rfl rfl (le_l rfl) q1 k4 ?_
  refine v_if_ne (tgt := 18) (pc' := 14) dX10_waits_11 (by decide) rfl ⟨fun c5 => ?_, fun c5 => ?_⟩
  · have T := T.1 c5
    refine v_iconst (pc' := 19) (v := 0) dX10_waits_18 rfl kI_0 ?_
    refine v_iconst (pc' := 20) (v := 1) dX10_waits_19 rfl kI_1 ?_
    refine v_iconst (pc' := 21) (v := 3) dX10_waits_20 rfl kI_3 ?_
    obtain ⟨q9, T⟩ := T
    obtain ⟨z7, h6, k8, T⟩ := T
    refine v_callV (pc' := 24) (M1 := mX10_bad) (as := [.int 0, .int 1, .int 3]) (r := r0) (rest := []) 8 dX10_waits_21 rfl ko_X10_155 kc_X10_bad ki_X10_bad ks_X10_bad (by decide) (by decide) hdd rfl rfl (le_l rfl) q9 k8 ?_
    refine v_if_eq (tgt := 29) (pc' := 27) dX10_waits_24 (by decide) rfl ⟨fun c10 => ?_, fun c10 => ?_⟩
    · have T := T.1 c10
      refine v_aload_n (pc' := 30) dX10_waits_29 rfl rfl ?_
      refine v_iload_n (pc' := 31) dX10_waits_30 rfl rfl ?_
      obtain ⟨q14, T⟩ := T
      obtain ⟨z12, h11, k13, T⟩ := T
      refine v_callV (pc' := 34) (M1 := mX10_waitsFor) (as := [.int x1]) (r := r0) (rest := []) 8 dX10_waits_31 rfl ko_X10_395 kc_X10_waitsFor ki_X10_waitsFor ks_X10_waitsFor (by decide) (by decide) hdd rfl rfl (le_l rfl) q14 k13 ?_
      exact v_iret dX10_waits_34 rfl T
    · have T := T.2 c10
      refine v_iconst (pc' := 28) (v := 0) dX10_waits_27 rfl kI_0 ?_
      exact v_iret dX10_waits_28 rfl T
  · have T := T.2 c5
    refine v_iconst (pc' := 15) (v := 1) dX10_waits_14 rfl kI_1 ?_
    refine v_goto (pc' := 19) dX10_waits_15 (by decide) ?_
    refine v_iconst (pc' := 20) (v := 1) dX10_waits_19 rfl kI_1 ?_
    refine v_iconst (pc' := 21) (v := 3) dX10_waits_20 rfl kI_3 ?_
    obtain ⟨q18, T⟩ := T
    obtain ⟨z16, h15, k17, T⟩ := T
    refine v_callV (pc' := 24) (M1 := mX10_bad) (as := [.int 1, .int 1, .int 3]) (r := r0) (rest := []) 8 dX10_waits_21 rfl ko_X10_155 kc_X10_bad ki_X10_bad ks_X10_bad (by decide) (by decide) hdd rfl rfl (le_l rfl) q18 k17 ?_
    refine v_if_eq (tgt := 29) (pc' := 27) dX10_waits_24 (by decide) rfl ⟨fun c19 => ?_, fun c19 => ?_⟩
    · have T := T.1 c19
      refine v_aload_n (pc' := 30) dX10_waits_29 rfl rfl ?_
      refine v_iload_n (pc' := 31) dX10_waits_30 rfl rfl ?_
      obtain ⟨q23, T⟩ := T
      obtain ⟨z21, h20, k22, T⟩ := T
      refine v_callV (pc' := 34) (M1 := mX10_waitsFor) (as := [.int x1]) (r := r0) (rest := []) 8 dX10_waits_31 rfl ko_X10_395 kc_X10_waitsFor ki_X10_waitsFor ks_X10_waitsFor (by decide) (by decide) hdd rfl rfl (le_l rfl) q23 k22 ?_
      exact v_iret dX10_waits_34 rfl T
    · have T := T.2 c19
      refine v_iconst (pc' := 28) (v := 0) dX10_waits_27 rfl kI_0 ?_
      exact v_iret dX10_waits_28 rfl T
theorem eX10_rings {G : GG} {d : Nat} {h : Hp} {o : OU} {h' : Hp} (r0 : Nat) (T : kH h r0 = 18 ∧ V G mX10_rings d 9 [.ref r0, .int 0, .int 0, uV] [] (h.1, (upI h.2 r0 0 0)) o h') : VM G mX10_rings d [.ref r0] h o h' := by
  refine V.toM rfl rfl (le_l rfl) (cat_all rfl) ?_
  show V G mX10_rings d 0 [.ref r0, uV, uV, uV] [] h o h'
  refine v_aload_n (pc' := 1) dX10_rings_0 rfl rfl ?_
  refine v_iconst (pc' := 2) (v := 0) dX10_rings_1 rfl kI_0 ?_
  obtain ⟨q1, T⟩ := T
  refine v_putI (pc' := 5) 8 0 dX10_rings_2 rfl (by decide) (by decide) rfl rfl kf_X10_72 q1 ?_
  refine v_iconst (pc' := 6) (v := 0) dX10_rings_5 rfl kI_0 ?_
  refine v_istore_n (pc' := 7) (loc' := [.ref r0, .int 0, uV, uV]) dX10_rings_6 rfl (lt_l rfl) rfl ?_
  refine v_iconst (pc' := 8) (v := 0) dX10_rings_7 rfl kI_0 ?_
  refine v_istore_n (pc' := 9) (loc' := [.ref r0, .int 0, .int 0, uV]) dX10_rings_8 rfl (lt_l rfl) rfl ?_
  exact T
theorem bX10_rings_9 {G : GG} {d : Nat} {h : Hp} {o : OU} {h' : Hp} (r0 : Nat) (x1 : Int32) (x2 : Int32) (T : kH h r0 = 18 ∧ (((h.2 r0 11) ≤ x2 → (o = .inl (some (.int x1)) ∧ h' = h)) ∧ (¬ (h.2 r0 11) ≤ x2 → V G mX10_rings d 19 [.ref r0, .int x1, .int x2, .int 0] [] h o h'))) : V G mX10_rings d 9 [.ref r0, .int x1, .int x2, uV] [] h o h' := by
  refine v_iload_n (pc' := 10) dX10_rings_9 rfl rfl ?_
  refine v_aload_n (pc' := 11) dX10_rings_10 rfl rfl ?_
  obtain ⟨q1, T⟩ := T
  refine v_getI (pc' := 14) 8 11 dX10_rings_11 rfl (by decide) (by decide) rfl kf_X10_168 q1 ?_
  refine v_icmp_ge (tgt := 68) (pc' := 17) dX10_rings_14 (by decide) rfl ⟨fun c2 => ?_, fun c2 => ?_⟩
  · have T := T.1 c2
    refine v_iload_n (pc' := 69) dX10_rings_68 rfl rfl ?_
    exact v_iret dX10_rings_69 rfl T
  · have T := T.2 c2
    refine v_iconst (pc' := 18) (v := 0) dX10_rings_17 rfl kI_0 ?_
    refine v_istore_n (pc' := 19) (loc' := [.ref r0, .int x1, .int x2, .int 0]) dX10_rings_18 rfl (lt_l rfl) rfl ?_
    exact T
theorem bX10_rings_19 {G : GG} {d : Nat} {h : Hp} {o : OU} {h' : Hp} (r0 : Nat) (x1 : Int32) (x2 : Int32) (x3 : Int32) (hd : 1 ≤ d) (T : ((x2 ≤ x3 → V G mX10_rings d 9 [.ref r0, .int x1, .int (x2 + 1), uV] [] h o h') ∧ (¬ x2 ≤ x3 → kH h r0 = 18 ∧ ∃ z3 h2, VM G mX10_waitsFor (d - 1) [.ref r0, .int x2] h (.inl (some (.int z3))) h2 ∧ ∃ z7 h6, VM G mX10_has (d - 1) [.int z3, .int x3] h2 (.inl (some (.int z7))) h6 ∧ ((z7 = 0 → V G mX10_rings d 19 [.ref r0, .int (x1 + 0), .int x2, .int (x3 + 1)] [] h6 o h') ∧ (¬ z7 = 0 → kH h6 r0 = 18 ∧ ∃ z11 h10, VM G mX10_waitsFor (d - 1) [.ref r0, .int x3] h6 (.inl (some (.int z11))) h10 ∧ ∃ z15 h14, VM G mX10_has (d - 1) [.int z11, .int x2] h10 (.inl (some (.int z15))) h14 ∧ ((z15 = 0 → V G mX10_rings d 19 [.ref r0, .int (x1 + 0), .int x2, .int (x3 + 1)] [] h14 o h') ∧ (¬ z15 = 0 → V G mX10_rings d 19 [.ref r0, .int (x1 + 1), .int x2, .int (x3 + 1)] [] h14 o h'))))))) : V G mX10_rings d 19 [.ref r0, .int x1, .int x2, .int x3] [] h o h' := by
  have hdd : d - 1 + 1 ≤ d := by omega
  refine v_iload_n (pc' := 20) dX10_rings_19 rfl rfl ?_
  refine v_iload_n (pc' := 21) dX10_rings_20 rfl rfl ?_
  refine v_icmp_ge (tgt := 62) (pc' := 24) dX10_rings_21 (by decide) rfl ⟨fun c1 => ?_, fun c1 => ?_⟩
  · have T := T.1 c1
    refine v_iinc (pc' := 65) (loc' := [.ref r0, .int x1, .int (x2 + 1), .int x3]) dX10_rings_62 rfl rfl (kX_1 _) rfl ?_
    refine v_goto (pc' := 9) dX10_rings_65 (by decide) ?_
    exact V.drop (llp_r (llp_r (llp_r (llp_u llp_nil)))) T
  · have T := T.2 c1
    refine v_iload_n (pc' := 25) dX10_rings_24 rfl rfl ?_
    refine v_aload_n (pc' := 26) dX10_rings_25 rfl rfl ?_
    refine v_iload_n (pc' := 27) dX10_rings_26 rfl rfl ?_
    obtain ⟨q5, T⟩ := T
    obtain ⟨z3, h2, k4, T⟩ := T
    refine v_callV (pc' := 30) (M1 := mX10_waitsFor) (as := [.int x2]) (r := r0) (rest := [.int x1]) 8 dX10_rings_27 rfl ko_X10_395 kc_X10_waitsFor ki_X10_waitsFor ks_X10_waitsFor (by decide) (by decide) hdd rfl rfl (le_l rfl) q5 k4 ?_
    refine v_iload_n (pc' := 31) dX10_rings_30 rfl rfl ?_
    obtain ⟨z7, h6, k8, T⟩ := T
    refine v_callS (pc' := 34) (M1 := mX10_has) (as := [.int z3, .int x3]) (rest := [.int x1]) dX10_rings_31 rfl ko_X10_193 kc_X10_has kt_X10_has (by decide) hdd rfl rfl (le_l rfl) k8 ?_
    refine v_if_eq (tgt := 53) (pc' := 37) dX10_rings_34 (by decide) rfl ⟨fun c9 => ?_, fun c9 => ?_⟩
    · have T := T.1 c9
      refine v_iconst (pc' := 54) (v := 0) dX10_rings_53 rfl kI_0 ?_
      refine v_iadd (pc' := 55) dX10_rings_54 rfl ?_
      refine v_istore_n (pc' := 56) (loc' := [.ref r0, .int (x1 + 0), .int x2, .int x3]) dX10_rings_55 rfl (lt_l rfl) rfl ?_
      refine v_iinc (pc' := 59) (loc' := [.ref r0, .int (x1 + 0), .int x2, .int (x3 + 1)]) dX10_rings_56 rfl rfl (kX_1 _) rfl ?_
      refine v_goto (pc' := 19) dX10_rings_59 (by decide) ?_
      exact T
    · have T := T.2 c9
      refine v_aload_n (pc' := 38) dX10_rings_37 rfl rfl ?_
      refine v_iload_n (pc' := 39) dX10_rings_38 rfl rfl ?_
      obtain ⟨q13, T⟩ := T
      obtain ⟨z11, h10, k12, T⟩ := T
      refine v_callV (pc' := 42) (M1 := mX10_waitsFor) (as := [.int x3]) (r := r0) (rest := [.int x1]) 8 dX10_rings_39 rfl ko_X10_395 kc_X10_waitsFor ki_X10_waitsFor ks_X10_waitsFor (by decide) (by decide) hdd rfl rfl (le_l rfl) q13 k12 ?_
      refine v_iload_n (pc' := 43) dX10_rings_42 rfl rfl ?_
      obtain ⟨z15, h14, k16, T⟩ := T
      refine v_callS (pc' := 46) (M1 := mX10_has) (as := [.int z11, .int x2]) (rest := [.int x1]) dX10_rings_43 rfl ko_X10_193 kc_X10_has kt_X10_has (by decide) hdd rfl rfl (le_l rfl) k16 ?_
      refine v_if_eq (tgt := 53) (pc' := 49) dX10_rings_46 (by decide) rfl ⟨fun c17 => ?_, fun c17 => ?_⟩
      · have T := T.1 c17
        refine v_iconst (pc' := 54) (v := 0) dX10_rings_53 rfl kI_0 ?_
        refine v_iadd (pc' := 55) dX10_rings_54 rfl ?_
        refine v_istore_n (pc' := 56) (loc' := [.ref r0, .int (x1 + 0), .int x2, .int x3]) dX10_rings_55 rfl (lt_l rfl) rfl ?_
        refine v_iinc (pc' := 59) (loc' := [.ref r0, .int (x1 + 0), .int x2, .int (x3 + 1)]) dX10_rings_56 rfl rfl (kX_1 _) rfl ?_
        refine v_goto (pc' := 19) dX10_rings_59 (by decide) ?_
        exact T
      · have T := T.2 c17
        refine v_iconst (pc' := 50) (v := 1) dX10_rings_49 rfl kI_1 ?_
        refine v_goto (pc' := 54) dX10_rings_50 (by decide) ?_
        refine v_iadd (pc' := 55) dX10_rings_54 rfl ?_
        refine v_istore_n (pc' := 56) (loc' := [.ref r0, .int (x1 + 1), .int x2, .int x3]) dX10_rings_55 rfl (lt_l rfl) rfl ?_
        refine v_iinc (pc' := 59) (loc' := [.ref r0, .int (x1 + 1), .int x2, .int (x3 + 1)]) dX10_rings_56 rfl rfl (kX_1 _) rfl ?_
        refine v_goto (pc' := 19) dX10_rings_59 (by decide) ?_
        exact T
theorem eX10_spills {G : GG} {d : Nat} {h : Hp} {o : OU} {h' : Hp} (r0 : Nat) (r1 : Nat) (x2 : Int32) (hd : 1 ≤ d) (T : kH h r0 = 18 ∧ ∃ z2 h1, VM G mX10_leaking (d - 1) [.ref r0, .ref r1, .int 256] h (.inl (some (.int z2))) h1 ∧ ∃ z6 h5, VM G mX10_ones (d - 1) [.int z2] h1 (.inl (some (.int z6))) h5 ∧ kH h5 r0 = 18 ∧ ((z6 ≤ (h5.2 r0 33) → ∃ z11 h10, VM G mX10_more (d - 1) [.int ((upI h5.2 r0 34 (h5.2 r0 34)) r0 33), .int z6] (h5.1, (upI h5.2 r0 34 (h5.2 r0 34))) (.inl (some (.int z11))) h10 ∧ kH h10 r0 = 18 ∧ (o = .inl none ∧ h' = (h10.1, (upI h10.2 r0 33 z11)))) ∧ (¬ z6 ≤ (h5.2 r0 33) → ∃ z15 h14, VM G mX10_more (d - 1) [.int ((upI h5.2 r0 34 x2) r0 33), .int z6] (h5.1, (upI h5.2 r0 34 x2)) (.inl (some (.int z15))) h14 ∧ kH h14 r0 = 18 ∧ (o = .inl none ∧ h' = (h14.1, (upI h14.2 r0 33 z15)))))) : VM G mX10_spills d [.ref r0, .ref r1, .int x2] h o h' := by
  refine V.toM rfl rfl (le_l rfl) (cat_all rfl) ?_
  show V G mX10_spills d 0 [.ref r0, .ref r1, .int x2, uV] [] h o h'
  have hdd : d - 1 + 1 ≤ d := by omega
  refine v_aload_n (pc' := 1) dX10_spills_0 rfl rfl ?_
  refine v_aload_n (pc' := 2) dX10_spills_1 rfl rfl ?_
  refine v_sipush (pc' := 5) (v := 256) dX10_spills_2 rfl kS_256 ?_
  obtain ⟨q4, T⟩ := T
  obtain ⟨z2, h1, k3, T⟩ := T
  refine v_callV (pc' := 8) (M1 := mX10_leaking) (as := [.ref r1, .int 256]) (r := r0) (rest := []) 8 dX10_spills_5 rfl ko_X10_380 kc_X10_leaking ki_X10_leaking ks_X10_leaking (by decide) (by decide) hdd rfl rfl (le_l rfl) q4 k3 ?_
  obtain ⟨z6, h5, k7, T⟩ := T
  refine v_callS (pc' := 11) (M1 := mX10_ones) (as := [.int z2]) (rest := []) dX10_spills_8 rfl ko_X10_398 kc_X10_ones kt_X10_ones (by decide) hdd rfl rfl (le_l rfl) k7 ?_
  refine v_istore_n (pc' := 12) (loc' := [.ref r0, .ref r1, .int x2, .int z6]) dX10_spills_11 rfl (lt_l rfl) rfl ?_
  refine v_aload_n (pc' := 13) dX10_spills_12 rfl rfl ?_
  refine v_iload_n (pc' := 14) dX10_spills_13 rfl rfl ?_
  refine v_aload_n (pc' := 15) dX10_spills_14 rfl rfl ?_
  obtain ⟨q8, T⟩ := T
  refine v_getI (pc' := 18) 8 33 dX10_spills_15 rfl (by decide) (by decide) rfl kf_X10_401 q8 ?_
  refine v_icmp_le (tgt := 25) (pc' := 21) dX10_spills_18 (by decide) rfl ⟨fun c9 => ?_, fun c9 => ?_⟩
  · have T := T.1 c9
    refine v_aload_n (pc' := 26) dX10_spills_25 rfl rfl ?_
    refine v_getI (pc' := 29) 8 34 dX10_spills_26 rfl (by decide) (by decide) rfl kf_X10_404 q8 ?_
    refine v_putI (pc' := 32) 8 34 dX10_spills_29 rfl (by decide) (by decide) rfl rfl kf_X10_404 q8 ?_
    refine v_aload_n (pc' := 33) dX10_spills_32 rfl rfl ?_
    refine v_aload_n (pc' := 34) dX10_spills_33 rfl rfl ?_
    refine v_getI (pc' := 37) 8 33 dX10_spills_34 rfl (by decide) (by decide) rfl kf_X10_401 q8 ?_
    refine v_iload_n (pc' := 38) dX10_spills_37 rfl rfl ?_
    obtain ⟨z11, h10, k12, T⟩ := T
    refine v_callS (pc' := 41) (M1 := mX10_more) (as := [.int ((upI h5.2 r0 34 (h5.2 r0 34)) r0 33), .int z6]) (rest := [.ref r0]) dX10_spills_38 rfl ko_X10_392 kc_X10_more kt_X10_more (by decide) hdd rfl rfl (le_l rfl) k12 ?_
    obtain ⟨q13, T⟩ := T
    refine v_putI (pc' := 44) 8 33 dX10_spills_41 rfl (by decide) (by decide) rfl rfl kf_X10_401 q13 ?_
    exact v_vret dX10_spills_44 rfl T
  · have T := T.2 c9
    refine v_iload_n (pc' := 22) dX10_spills_21 rfl rfl ?_
    refine v_goto (pc' := 29) dX10_spills_22 (by decide) ?_
    refine v_putI (pc' := 32) 8 34 dX10_spills_29 rfl (by decide) (by decide) rfl rfl kf_X10_404 q8 ?_
    refine v_aload_n (pc' := 33) dX10_spills_32 rfl rfl ?_
    refine v_aload_n (pc' := 34) dX10_spills_33 rfl rfl ?_
    refine v_getI (pc' := 37) 8 33 dX10_spills_34 rfl (by decide) (by decide) rfl kf_X10_401 q8 ?_
    refine v_iload_n (pc' := 38) dX10_spills_37 rfl rfl ?_
    obtain ⟨z15, h14, k16, T⟩ := T
    refine v_callS (pc' := 41) (M1 := mX10_more) (as := [.int ((upI h5.2 r0 34 x2) r0 33), .int z6]) (rest := [.ref r0]) dX10_spills_38 rfl ko_X10_392 kc_X10_more kt_X10_more (by decide) hdd rfl rfl (le_l rfl) k16 ?_
    obtain ⟨q17, T⟩ := T
    refine v_putI (pc' := 44) 8 33 dX10_spills_41 rfl (by decide) (by decide) rfl rfl kf_X10_401 q17 ?_
    exact v_vret dX10_spills_44 rfl T
