theorem dX10_isDirty_0 : decode cX10_isDirty 0 = .ok (.iconst 0, 1) := by decide +kernel
theorem dX10_isDirty_1 : decode cX10_isDirty 1 = .ok (.istore_n 2, 1) := by decide +kernel
theorem dX10_isDirty_2 : decode cX10_isDirty 2 = .ok (.iload_n 2, 1) := by decide +kernel
theorem dX10_isDirty_3 : decode cX10_isDirty 3 = .ok (.aload_n 0, 1) := by decide +kernel
theorem dX10_isDirty_4 : decode cX10_isDirty 4 = .ok (.sipush 3392, 3) := by decide +kernel
theorem dX10_isDirty_7 : decode cX10_isDirty 7 = .ok (.iaload, 1) := by decide +kernel
theorem dX10_isDirty_8 : decode cX10_isDirty 8 = .ok (.if_icmp .ge 23, 3) := by decide +kernel
theorem dX10_isDirty_11 : decode cX10_isDirty 11 = .ok (.aload_n 0, 1) := by decide +kernel
theorem dX10_isDirty_12 : decode cX10_isDirty 12 = .ok (.iload_n 2, 1) := by decide +kernel
theorem dX10_isDirty_13 : decode cX10_isDirty 13 = .ok (.invokestatic 201, 3) := by decide +kernel
theorem dX10_isDirty_16 : decode cX10_isDirty 16 = .ok (.iconst 1, 1) := by decide +kernel
theorem dX10_isDirty_17 : decode cX10_isDirty 17 = .ok (.iadd, 1) := by decide +kernel
theorem dX10_isDirty_18 : decode cX10_isDirty 18 = .ok (.iaload, 1) := by decide +kernel
theorem dX10_isDirty_19 : decode cX10_isDirty 19 = .ok (.iload_n 1, 1) := by decide +kernel
theorem dX10_isDirty_20 : decode cX10_isDirty 20 = .ok (.if_icmp .ne 5, 3) := by decide +kernel
theorem dX10_isDirty_23 : decode cX10_isDirty 23 = .ok (.iconst 1, 1) := by decide +kernel
theorem dX10_isDirty_24 : decode cX10_isDirty 24 = .ok (.ireturn, 1) := by decide +kernel
theorem dX10_isDirty_25 : decode cX10_isDirty 25 = .ok (.iinc 2 1, 3) := by decide +kernel
theorem dX10_isDirty_28 : decode cX10_isDirty 28 = .ok (.goto (-26), 3) := by decide +kernel
theorem dX10_isDirty_31 : decode cX10_isDirty 31 = .ok (.iconst 0, 1) := by decide +kernel
theorem dX10_isDirty_32 : decode cX10_isDirty 32 = .ok (.ireturn, 1) := by decide +kernel
theorem dX10_dirty_0 : decode cX10_dirty 0 = .ok (.iconst 0, 1) := by decide +kernel
theorem dX10_dirty_1 : decode cX10_dirty 1 = .ok (.istore_n 2, 1) := by decide +kernel
theorem dX10_dirty_2 : decode cX10_dirty 2 = .ok (.iconst 0, 1) := by decide +kernel
theorem dX10_dirty_3 : decode cX10_dirty 3 = .ok (.istore_n 3, 1) := by decide +kernel
theorem dX10_dirty_4 : decode cX10_dirty 4 = .ok (.iload_n 3, 1) := by decide +kernel
theorem dX10_dirty_5 : decode cX10_dirty 5 = .ok (.aload_n 0, 1) := by decide +kernel
theorem dX10_dirty_6 : decode cX10_dirty 6 = .ok (.getfield 168, 3) := by decide +kernel
theorem dX10_dirty_9 : decode cX10_dirty 9 = .ok (.if_icmp .ge 27, 3) := by decide +kernel
theorem dX10_dirty_12 : decode cX10_dirty 12 = .ok (.iload_n 2, 1) := by decide +kernel
theorem dX10_dirty_13 : decode cX10_dirty 13 = .ok (.aload_n 1, 1) := by decide +kernel
theorem dX10_dirty_14 : decode cX10_dirty 14 = .ok (.iload_n 3, 1) := by decide +kernel
theorem dX10_dirty_15 : decode cX10_dirty 15 = .ok (.invokestatic 208, 3) := by decide +kernel
theorem dX10_dirty_18 : decode cX10_dirty 18 = .ok (.ifCond .eq 9, 3) := by decide +kernel
theorem dX10_dirty_21 : decode cX10_dirty 21 = .ok (.iconst 1, 1) := by decide +kernel
theorem dX10_dirty_22 : decode cX10_dirty 22 = .ok (.iload_n 3, 1) := by decide +kernel
theorem dX10_dirty_23 : decode cX10_dirty 23 = .ok (.ishl, 1) := by decide +kernel
theorem dX10_dirty_24 : decode cX10_dirty 24 = .ok (.goto 4, 3) := by decide +kernel
theorem dX10_dirty_27 : decode cX10_dirty 27 = .ok (.iconst 0, 1) := by decide +kernel
theorem dX10_dirty_28 : decode cX10_dirty 28 = .ok (.ior, 1) := by decide +kernel
theorem dX10_dirty_29 : decode cX10_dirty 29 = .ok (.istore_n 2, 1) := by decide +kernel
theorem dX10_dirty_30 : decode cX10_dirty 30 = .ok (.iinc 3 1, 3) := by decide +kernel
theorem dX10_dirty_33 : decode cX10_dirty 33 = .ok (.goto (-29), 3) := by decide +kernel
theorem dX10_dirty_36 : decode cX10_dirty 36 = .ok (.iload_n 2, 1) := by decide +kernel
theorem dX10_dirty_37 : decode cX10_dirty 37 = .ok (.ireturn, 1) := by decide +kernel
theorem dX10_ahead_0 : decode cX10_ahead 0 = .ok (.iconst 0, 1) := by decide +kernel
theorem dX10_ahead_1 : decode cX10_ahead 1 = .ok (.istore_n 3, 1) := by decide +kernel
theorem dX10_ahead_2 : decode cX10_ahead 2 = .ok (.iconst 0, 1) := by decide +kernel
theorem dX10_ahead_3 : decode cX10_ahead 3 = .ok (.istore 4, 2) := by decide +kernel
theorem dX10_ahead_5 : decode cX10_ahead 5 = .ok (.iload 4, 2) := by decide +kernel
theorem dX10_ahead_7 : decode cX10_ahead 7 = .ok (.iload_n 1, 1) := by decide +kernel
theorem dX10_ahead_8 : decode cX10_ahead 8 = .ok (.if_icmp .ge 30, 3) := by decide +kernel
theorem dX10_ahead_11 : decode cX10_ahead 11 = .ok (.iload_n 3, 1) := by decide +kernel
theorem dX10_ahead_12 : decode cX10_ahead 12 = .ok (.aload_n 0, 1) := by decide +kernel
theorem dX10_ahead_13 : decode cX10_ahead 13 = .ok (.iload 4, 2) := by decide +kernel
theorem dX10_ahead_15 : decode cX10_ahead 15 = .ok (.invokestatic 201, 3) := by decide +kernel
theorem dX10_ahead_18 : decode cX10_ahead 18 = .ok (.iconst 1, 1) := by decide +kernel
theorem dX10_ahead_19 : decode cX10_ahead 19 = .ok (.iadd, 1) := by decide +kernel
theorem dX10_ahead_20 : decode cX10_ahead 20 = .ok (.iaload, 1) := by decide +kernel
theorem dX10_ahead_21 : decode cX10_ahead 21 = .ok (.iload_n 2, 1) := by decide +kernel
theorem dX10_ahead_22 : decode cX10_ahead 22 = .ok (.if_icmp .ne 7, 3) := by decide +kernel
theorem dX10_ahead_25 : decode cX10_ahead 25 = .ok (.iconst 1, 1) := by decide +kernel
theorem dX10_ahead_26 : decode cX10_ahead 26 = .ok (.goto 4, 3) := by decide +kernel
theorem dX10_ahead_29 : decode cX10_ahead 29 = .ok (.iconst 0, 1) := by decide +kernel
theorem dX10_ahead_30 : decode cX10_ahead 30 = .ok (.iadd, 1) := by decide +kernel
theorem dX10_ahead_31 : decode cX10_ahead 31 = .ok (.istore_n 3, 1) := by decide +kernel
theorem dX10_ahead_32 : decode cX10_ahead 32 = .ok (.iinc 4 1, 3) := by decide +kernel
theorem dX10_ahead_35 : decode cX10_ahead 35 = .ok (.goto (-30), 3) := by decide +kernel
theorem dX10_ahead_38 : decode cX10_ahead 38 = .ok (.iload_n 3, 1) := by decide +kernel
theorem dX10_ahead_39 : decode cX10_ahead 39 = .ok (.ireturn, 1) := by decide +kernel
theorem dX10_mayGo_0 : decode cX10_mayGo 0 = .ok (.iload_n 2, 1) := by decide +kernel
theorem dX10_mayGo_1 : decode cX10_mayGo 1 = .ok (.invokestatic 201, 3) := by decide +kernel
theorem dX10_mayGo_4 : decode cX10_mayGo 4 = .ok (.istore_n 3, 1) := by decide +kernel
theorem dX10_mayGo_5 : decode cX10_mayGo 5 = .ok (.iconst 4, 1) := by decide +kernel
theorem dX10_mayGo_6 : decode cX10_mayGo 6 = .ok (.istore 4, 2) := by decide +kernel
theorem dX10_mayGo_8 : decode cX10_mayGo 8 = .ok (.iload 4, 2) := by decide +kernel
theorem dX10_mayGo_10 : decode cX10_mayGo 10 = .ok (.bipush 8, 2) := by decide +kernel
theorem dX10_mayGo_12 : decode cX10_mayGo 12 = .ok (.if_icmp .ge 82, 3) := by decide +kernel
theorem dX10_mayGo_15 : decode cX10_mayGo 15 = .ok (.aload_n 1, 1) := by decide +kernel
theorem dX10_mayGo_16 : decode cX10_mayGo 16 = .ok (.iload_n 3, 1) := by decide +kernel
theorem dX10_mayGo_17 : decode cX10_mayGo 17 = .ok (.iload 4, 2) := by decide +kernel
theorem dX10_mayGo_19 : decode cX10_mayGo 19 = .ok (.iadd, 1) := by decide +kernel
theorem dX10_mayGo_20 : decode cX10_mayGo 20 = .ok (.iaload, 1) := by decide +kernel
theorem dX10_mayGo_21 : decode cX10_mayGo 21 = .ok (.ifCond .ge 20, 3) := by decide +kernel
theorem dX10_mayGo_24 : decode cX10_mayGo 24 = .ok (.aload_n 1, 1) := by decide +kernel
theorem dX10_mayGo_25 : decode cX10_mayGo 25 = .ok (.iload_n 2, 1) := by decide +kernel
theorem dX10_mayGo_26 : decode cX10_mayGo 26 = .ok (.aload_n 1, 1) := by decide +kernel
theorem dX10_mayGo_27 : decode cX10_mayGo 27 = .ok (.iload_n 3, 1) := by decide +kernel
theorem dX10_mayGo_28 : decode cX10_mayGo 28 = .ok (.iload 4, 2) := by decide +kernel
theorem dX10_mayGo_30 : decode cX10_mayGo 30 = .ok (.iadd, 1) := by decide +kernel
theorem dX10_mayGo_31 : decode cX10_mayGo 31 = .ok (.iaload, 1) := by decide +kernel
theorem dX10_mayGo_32 : decode cX10_mayGo 32 = .ok (.ineg, 1) := by decide +kernel
theorem dX10_mayGo_33 : decode cX10_mayGo 33 = .ok (.invokestatic 212, 3) := by decide +kernel
theorem dX10_mayGo_36 : decode cX10_mayGo 36 = .ok (.ifCond .le 5, 3) := by decide +kernel
theorem dX10_mayGo_39 : decode cX10_mayGo 39 = .ok (.iconst 0, 1) := by decide +kernel
theorem dX10_mayGo_40 : decode cX10_mayGo 40 = .ok (.ireturn, 1) := by decide +kernel
theorem dX10_mayGo_41 : decode cX10_mayGo 41 = .ok (.aload_n 1, 1) := by decide +kernel
theorem dX10_mayGo_42 : decode cX10_mayGo 42 = .ok (.aload_n 1, 1) := by decide +kernel
theorem dX10_mayGo_43 : decode cX10_mayGo 43 = .ok (.iload_n 3, 1) := by decide +kernel
theorem dX10_mayGo_44 : decode cX10_mayGo 44 = .ok (.iload 4, 2) := by decide +kernel
theorem dX10_mayGo_46 : decode cX10_mayGo 46 = .ok (.iadd, 1) := by decide +kernel
theorem dX10_mayGo_47 : decode cX10_mayGo 47 = .ok (.iaload, 1) := by decide +kernel
theorem dX10_mayGo_48 : decode cX10_mayGo 48 = .ok (.invokestatic 216, 3) := by decide +kernel
theorem dX10_mayGo_51 : decode cX10_mayGo 51 = .ok (.istore 5, 2) := by decide +kernel
theorem dX10_mayGo_53 : decode cX10_mayGo 53 = .ok (.iload 5, 2) := by decide +kernel
theorem dX10_mayGo_55 : decode cX10_mayGo 55 = .ok (.iconst (-1), 1) := by decide +kernel
theorem dX10_mayGo_56 : decode cX10_mayGo 56 = .ok (.if_icmp .eq 32, 3) := by decide +kernel
theorem dX10_mayGo_59 : decode cX10_mayGo 59 = .ok (.aload_n 1, 1) := by decide +kernel
theorem dX10_mayGo_60 : decode cX10_mayGo 60 = .ok (.iload 5, 2) := by decide +kernel
theorem dX10_mayGo_62 : decode cX10_mayGo 62 = .ok (.invokestatic 201, 3) := by decide +kernel
theorem dX10_mayGo_65 : decode cX10_mayGo 65 = .ok (.iconst 1, 1) := by decide +kernel
theorem dX10_mayGo_66 : decode cX10_mayGo 66 = .ok (.iadd, 1) := by decide +kernel
theorem dX10_mayGo_67 : decode cX10_mayGo 67 = .ok (.iaload, 1) := by decide +kernel
theorem dX10_mayGo_68 : decode cX10_mayGo 68 = .ok (.aload_n 1, 1) := by decide +kernel
theorem dX10_mayGo_69 : decode cX10_mayGo 69 = .ok (.iload_n 3, 1) := by decide +kernel
theorem dX10_mayGo_70 : decode cX10_mayGo 70 = .ok (.iconst 1, 1) := by decide +kernel
theorem dX10_mayGo_71 : decode cX10_mayGo 71 = .ok (.iadd, 1) := by decide +kernel
theorem dX10_mayGo_72 : decode cX10_mayGo 72 = .ok (.iaload, 1) := by decide +kernel
theorem dX10_mayGo_73 : decode cX10_mayGo 73 = .ok (.if_icmp .ne 13, 3) := by decide +kernel
theorem dX10_mayGo_76 : decode cX10_mayGo 76 = .ok (.aload_n 0, 1) := by decide +kernel
theorem dX10_mayGo_77 : decode cX10_mayGo 77 = .ok (.getfield 47, 3) := by decide +kernel
theorem dX10_mayGo_80 : decode cX10_mayGo 80 = .ok (.iload 5, 2) := by decide +kernel
theorem dX10_mayGo_82 : decode cX10_mayGo 82 = .ok (.baload, 1) := by decide +kernel
theorem dX10_mayGo_83 : decode cX10_mayGo 83 = .ok (.ifCond .ne 5, 3) := by decide +kernel
theorem dX10_mayGo_86 : decode cX10_mayGo 86 = .ok (.iconst 0, 1) := by decide +kernel
theorem dX10_mayGo_87 : decode cX10_mayGo 87 = .ok (.ireturn, 1) := by decide +kernel
theorem dX10_mayGo_88 : decode cX10_mayGo 88 = .ok (.iinc 4 1, 3) := by decide +kernel
theorem dX10_mayGo_91 : decode cX10_mayGo 91 = .ok (.goto (-83), 3) := by decide +kernel
theorem dX10_mayGo_94 : decode cX10_mayGo 94 = .ok (.iconst 0, 1) := by decide +kernel
theorem dX10_mayGo_95 : decode cX10_mayGo 95 = .ok (.istore 4, 2) := by decide +kernel
theorem dX10_mayGo_97 : decode cX10_mayGo 97 = .ok (.iload 4, 2) := by decide +kernel
theorem dX10_mayGo_99 : decode cX10_mayGo 99 = .ok (.iload_n 2, 1) := by decide +kernel
theorem dX10_mayGo_100 : decode cX10_mayGo 100 = .ok (.if_icmp .ge 70, 3) := by decide +kernel
theorem dX10_mayGo_103 : decode cX10_mayGo 103 = .ok (.iload 4, 2) := by decide +kernel
theorem dX10_mayGo_105 : decode cX10_mayGo 105 = .ok (.invokestatic 201, 3) := by decide +kernel
theorem dX10_mayGo_108 : decode cX10_mayGo 108 = .ok (.istore 5, 2) := by decide +kernel
theorem dX10_mayGo_110 : decode cX10_mayGo 110 = .ok (.aload_n 1, 1) := by decide +kernel
theorem dX10_mayGo_111 : decode cX10_mayGo 111 = .ok (.iload 5, 2) := by decide +kernel
theorem dX10_mayGo_113 : decode cX10_mayGo 113 = .ok (.iconst 1, 1) := by decide +kernel
theorem dX10_mayGo_114 : decode cX10_mayGo 114 = .ok (.iadd, 1) := by decide +kernel
theorem dX10_mayGo_115 : decode cX10_mayGo 115 = .ok (.iaload, 1) := by decide +kernel
theorem dX10_mayGo_116 : decode cX10_mayGo 116 = .ok (.aload_n 1, 1) := by decide +kernel
theorem dX10_mayGo_117 : decode cX10_mayGo 117 = .ok (.iload_n 3, 1) := by decide +kernel
theorem dX10_mayGo_118 : decode cX10_mayGo 118 = .ok (.iconst 1, 1) := by decide +kernel
theorem dX10_mayGo_119 : decode cX10_mayGo 119 = .ok (.iadd, 1) := by decide +kernel
theorem dX10_mayGo_120 : decode cX10_mayGo 120 = .ok (.iaload, 1) := by decide +kernel
theorem dX10_mayGo_121 : decode cX10_mayGo 121 = .ok (.if_icmp .ne 43, 3) := by decide +kernel
theorem dX10_mayGo_124 : decode cX10_mayGo 124 = .ok (.aload_n 0, 1) := by decide +kernel
theorem dX10_mayGo_125 : decode cX10_mayGo 125 = .ok (.getfield 47, 3) := by decide +kernel
theorem dX10_mayGo_128 : decode cX10_mayGo 128 = .ok (.iload 4, 2) := by decide +kernel
theorem dX10_mayGo_130 : decode cX10_mayGo 130 = .ok (.baload, 1) := by decide +kernel
theorem dX10_mayGo_131 : decode cX10_mayGo 131 = .ok (.ifCond .eq 6, 3) := by decide +kernel
theorem dX10_mayGo_134 : decode cX10_mayGo 134 = .ok (.goto 30, 3) := by decide +kernel
theorem dX10_mayGo_137 : decode cX10_mayGo 137 = .ok (.aload_n 1, 1) := by decide +kernel
theorem dX10_mayGo_138 : decode cX10_mayGo 138 = .ok (.iload 5, 2) := by decide +kernel
theorem dX10_mayGo_140 : decode cX10_mayGo 140 = .ok (.iconst 2, 1) := by decide +kernel
theorem dX10_mayGo_141 : decode cX10_mayGo 141 = .ok (.iadd, 1) := by decide +kernel
theorem dX10_mayGo_142 : decode cX10_mayGo 142 = .ok (.iaload, 1) := by decide +kernel
theorem dX10_mayGo_143 : decode cX10_mayGo 143 = .ok (.bipush 16, 2) := by decide +kernel
theorem dX10_mayGo_145 : decode cX10_mayGo 145 = .ok (.if_icmp .eq 17, 3) := by decide +kernel
theorem dX10_mayGo_148 : decode cX10_mayGo 148 = .ok (.aload_n 1, 1) := by decide +kernel
theorem dX10_mayGo_149 : decode cX10_mayGo 149 = .ok (.iload_n 3, 1) := by decide +kernel
theorem dX10_mayGo_150 : decode cX10_mayGo 150 = .ok (.aload_n 1, 1) := by decide +kernel
theorem dX10_mayGo_151 : decode cX10_mayGo 151 = .ok (.iload 5, 2) := by decide +kernel
theorem dX10_mayGo_153 : decode cX10_mayGo 153 = .ok (.iconst 2, 1) := by decide +kernel
theorem dX10_mayGo_154 : decode cX10_mayGo 154 = .ok (.iadd, 1) := by decide +kernel
theorem dX10_mayGo_155 : decode cX10_mayGo 155 = .ok (.iaload, 1) := by decide +kernel
theorem dX10_mayGo_156 : decode cX10_mayGo 156 = .ok (.invokestatic 220, 3) := by decide +kernel
theorem dX10_mayGo_159 : decode cX10_mayGo 159 = .ok (.ifCond .eq 5, 3) := by decide +kernel
theorem dX10_mayGo_162 : decode cX10_mayGo 162 = .ok (.iconst 0, 1) := by decide +kernel
theorem dX10_mayGo_163 : decode cX10_mayGo 163 = .ok (.ireturn, 1) := by decide +kernel
theorem dX10_mayGo_164 : decode cX10_mayGo 164 = .ok (.iinc 4 1, 3) := by decide +kernel
theorem dX10_mayGo_167 : decode cX10_mayGo 167 = .ok (.goto (-70), 3) := by decide +kernel
theorem dX10_mayGo_170 : decode cX10_mayGo 170 = .ok (.iconst 1, 1) := by decide +kernel
theorem dX10_mayGo_171 : decode cX10_mayGo 171 = .ok (.ireturn, 1) := by decide +kernel
theorem dX10_copiesBlock_0 : decode cX10_copiesBlock 0 = .ok (.iconst 0, 1) := by decide +kernel
theorem dX10_copiesBlock_1 : decode cX10_copiesBlock 1 = .ok (.istore_n 3, 1) := by decide +kernel
theorem dX10_copiesBlock_2 : decode cX10_copiesBlock 2 = .ok (.iconst 0, 1) := by decide +kernel
theorem dX10_copiesBlock_3 : decode cX10_copiesBlock 3 = .ok (.istore 4, 2) := by decide +kernel
theorem dX10_copiesBlock_5 : decode cX10_copiesBlock 5 = .ok (.iload 4, 2) := by decide +kernel
theorem dX10_copiesBlock_7 : decode cX10_copiesBlock 7 = .ok (.aload_n 1, 1) := by decide +kernel
theorem dX10_copiesBlock_8 : decode cX10_copiesBlock 8 = .ok (.sipush 3392, 3) := by decide +kernel
theorem dX10_copiesBlock_11 : decode cX10_copiesBlock 11 = .ok (.iaload, 1) := by decide +kernel
theorem dX10_copiesBlock_12 : decode cX10_copiesBlock 12 = .ok (.if_icmp .ge 65, 3) := by decide +kernel
theorem dX10_copiesBlock_15 : decode cX10_copiesBlock 15 = .ok (.aload_n 0, 1) := by decide +kernel
theorem dX10_copiesBlock_16 : decode cX10_copiesBlock 16 = .ok (.getfield 47, 3) := by decide +kernel
theorem dX10_copiesBlock_19 : decode cX10_copiesBlock 19 = .ok (.iload 4, 2) := by decide +kernel
theorem dX10_copiesBlock_21 : decode cX10_copiesBlock 21 = .ok (.iconst 0, 1) := by decide +kernel
theorem dX10_copiesBlock_22 : decode cX10_copiesBlock 22 = .ok (.bastore, 1) := by decide +kernel
theorem dX10_copiesBlock_23 : decode cX10_copiesBlock 23 = .ok (.aload_n 1, 1) := by decide +kernel
theorem dX10_copiesBlock_24 : decode cX10_copiesBlock 24 = .ok (.iload 4, 2) := by decide +kernel
theorem dX10_copiesBlock_26 : decode cX10_copiesBlock 26 = .ok (.invokestatic 201, 3) := by decide +kernel
theorem dX10_copiesBlock_29 : decode cX10_copiesBlock 29 = .ok (.iconst 1, 1) := by decide +kernel
theorem dX10_copiesBlock_30 : decode cX10_copiesBlock 30 = .ok (.iadd, 1) := by decide +kernel
theorem dX10_copiesBlock_31 : decode cX10_copiesBlock 31 = .ok (.iaload, 1) := by decide +kernel
theorem dX10_copiesBlock_32 : decode cX10_copiesBlock 32 = .ok (.iload_n 2, 1) := by decide +kernel
theorem dX10_copiesBlock_33 : decode cX10_copiesBlock 33 = .ok (.if_icmp .eq 6, 3) := by decide +kernel
theorem dX10_copiesBlock_36 : decode cX10_copiesBlock 36 = .ok (.goto 35, 3) := by decide +kernel
theorem dX10_copiesBlock_39 : decode cX10_copiesBlock 39 = .ok (.aload_n 0, 1) := by decide +kernel
theorem dX10_copiesBlock_40 : decode cX10_copiesBlock 40 = .ok (.getfield 47, 3) := by decide +kernel
theorem dX10_copiesBlock_43 : decode cX10_copiesBlock 43 = .ok (.iload 4, 2) := by decide +kernel
theorem dX10_copiesBlock_45 : decode cX10_copiesBlock 45 = .ok (.aload_n 0, 1) := by decide +kernel
theorem dX10_copiesBlock_46 : decode cX10_copiesBlock 46 = .ok (.aload_n 1, 1) := by decide +kernel
theorem dX10_copiesBlock_47 : decode cX10_copiesBlock 47 = .ok (.iload 4, 2) := by decide +kernel
theorem dX10_copiesBlock_49 : decode cX10_copiesBlock 49 = .ok (.invokevirtual 224, 3) := by decide +kernel
theorem dX10_copiesBlock_52 : decode cX10_copiesBlock 52 = .ok (.bastore, 1) := by decide +kernel
theorem dX10_copiesBlock_53 : decode cX10_copiesBlock 53 = .ok (.iload_n 3, 1) := by decide +kernel
theorem dX10_copiesBlock_54 : decode cX10_copiesBlock 54 = .ok (.aload_n 0, 1) := by decide +kernel
theorem dX10_copiesBlock_55 : decode cX10_copiesBlock 55 = .ok (.getfield 47, 3) := by decide +kernel
theorem dX10_copiesBlock_58 : decode cX10_copiesBlock 58 = .ok (.iload 4, 2) := by decide +kernel
theorem dX10_copiesBlock_60 : decode cX10_copiesBlock 60 = .ok (.baload, 1) := by decide +kernel
theorem dX10_copiesBlock_61 : decode cX10_copiesBlock 61 = .ok (.ifCond .eq 7, 3) := by decide +kernel
theorem dX10_copiesBlock_64 : decode cX10_copiesBlock 64 = .ok (.iconst 0, 1) := by decide +kernel
theorem dX10_copiesBlock_65 : decode cX10_copiesBlock 65 = .ok (.goto 4, 3) := by decide +kernel
theorem dX10_copiesBlock_68 : decode cX10_copiesBlock 68 = .ok (.iconst 1, 1) := by decide +kernel
theorem dX10_copiesBlock_69 : decode cX10_copiesBlock 69 = .ok (.iadd, 1) := by decide +kernel
theorem dX10_copiesBlock_70 : decode cX10_copiesBlock 70 = .ok (.istore_n 3, 1) := by decide +kernel
theorem dX10_copiesBlock_71 : decode cX10_copiesBlock 71 = .ok (.iinc 4 1, 3) := by decide +kernel
theorem dX10_copiesBlock_74 : decode cX10_copiesBlock 74 = .ok (.goto (-69), 3) := by decide +kernel
theorem dX10_copiesBlock_77 : decode cX10_copiesBlock 77 = .ok (.iconst 0, 1) := by decide +kernel
theorem dX10_copiesBlock_78 : decode cX10_copiesBlock 78 = .ok (.istore 4, 2) := by decide +kernel
theorem dX10_copiesBlock_80 : decode cX10_copiesBlock 80 = .ok (.iload 4, 2) := by decide +kernel
theorem dX10_copiesBlock_82 : decode cX10_copiesBlock 82 = .ok (.bipush 16, 2) := by decide +kernel
theorem dX10_copiesBlock_84 : decode cX10_copiesBlock 84 = .ok (.if_icmp .ge 27, 3) := by decide +kernel
theorem dX10_copiesBlock_87 : decode cX10_copiesBlock 87 = .ok (.aload_n 0, 1) := by decide +kernel
theorem dX10_copiesBlock_88 : decode cX10_copiesBlock 88 = .ok (.getfield 51, 3) := by decide +kernel
theorem dX10_copiesBlock_91 : decode cX10_copiesBlock 91 = .ok (.iload 4, 2) := by decide +kernel
theorem dX10_copiesBlock_93 : decode cX10_copiesBlock 93 = .ok (.aload_n 1, 1) := by decide +kernel
theorem dX10_copiesBlock_94 : decode cX10_copiesBlock 94 = .ok (.iconst 0, 1) := by decide +kernel
theorem dX10_copiesBlock_95 : decode cX10_copiesBlock 95 = .ok (.bipush 16, 2) := by decide +kernel
theorem dX10_copiesBlock_97 : decode cX10_copiesBlock 97 = .ok (.iload_n 2, 1) := by decide +kernel
theorem dX10_copiesBlock_98 : decode cX10_copiesBlock 98 = .ok (.imul, 1) := by decide +kernel
theorem dX10_copiesBlock_99 : decode cX10_copiesBlock 99 = .ok (.iadd, 1) := by decide +kernel
theorem dX10_copiesBlock_100 : decode cX10_copiesBlock 100 = .ok (.iload 4, 2) := by decide +kernel
theorem dX10_copiesBlock_102 : decode cX10_copiesBlock 102 = .ok (.iadd, 1) := by decide +kernel
theorem dX10_copiesBlock_103 : decode cX10_copiesBlock 103 = .ok (.iaload, 1) := by decide +kernel
theorem dX10_copiesBlock_104 : decode cX10_copiesBlock 104 = .ok (.iastore, 1) := by decide +kernel
theorem dX10_copiesBlock_105 : decode cX10_copiesBlock 105 = .ok (.iinc 4 1, 3) := by decide +kernel
theorem dX10_copiesBlock_108 : decode cX10_copiesBlock 108 = .ok (.goto (-28), 3) := by decide +kernel
theorem dX10_copiesBlock_111 : decode cX10_copiesBlock 111 = .ok (.aload_n 1, 1) := by decide +kernel
theorem dX10_copiesBlock_112 : decode cX10_copiesBlock 112 = .ok (.sipush 3392, 3) := by decide +kernel
theorem dX10_copiesBlock_115 : decode cX10_copiesBlock 115 = .ok (.iaload, 1) := by decide +kernel
theorem dX10_copiesBlock_116 : decode cX10_copiesBlock 116 = .ok (.iconst 1, 1) := by decide +kernel
theorem dX10_copiesBlock_117 : decode cX10_copiesBlock 117 = .ok (.isub, 1) := by decide +kernel
theorem dX10_copiesBlock_118 : decode cX10_copiesBlock 118 = .ok (.istore 4, 2) := by decide +kernel
theorem dX10_copiesBlock_120 : decode cX10_copiesBlock 120 = .ok (.iload 4, 2) := by decide +kernel
theorem dX10_copiesBlock_122 : decode cX10_copiesBlock 122 = .ok (.ifCond .lt 91, 3) := by decide +kernel
theorem dX10_copiesBlock_125 : decode cX10_copiesBlock 125 = .ok (.iload 4, 2) := by decide +kernel
theorem dX10_copiesBlock_127 : decode cX10_copiesBlock 127 = .ok (.invokestatic 201, 3) := by decide +kernel
theorem dX10_copiesBlock_130 : decode cX10_copiesBlock 130 = .ok (.istore 5, 2) := by decide +kernel
theorem dX10_copiesBlock_132 : decode cX10_copiesBlock 132 = .ok (.aload_n 1, 1) := by decide +kernel
theorem dX10_copiesBlock_133 : decode cX10_copiesBlock 133 = .ok (.iload 5, 2) := by decide +kernel
theorem dX10_copiesBlock_135 : decode cX10_copiesBlock 135 = .ok (.iconst 1, 1) := by decide +kernel
theorem dX10_copiesBlock_136 : decode cX10_copiesBlock 136 = .ok (.iadd, 1) := by decide +kernel
theorem dX10_copiesBlock_137 : decode cX10_copiesBlock 137 = .ok (.iaload, 1) := by decide +kernel
theorem dX10_copiesBlock_138 : decode cX10_copiesBlock 138 = .ok (.iload_n 2, 1) := by decide +kernel
theorem dX10_copiesBlock_139 : decode cX10_copiesBlock 139 = .ok (.if_icmp .ne 68, 3) := by decide +kernel
theorem dX10_copiesBlock_142 : decode cX10_copiesBlock 142 = .ok (.aload_n 0, 1) := by decide +kernel
theorem dX10_copiesBlock_143 : decode cX10_copiesBlock 143 = .ok (.getfield 47, 3) := by decide +kernel
theorem dX10_copiesBlock_146 : decode cX10_copiesBlock 146 = .ok (.iload 4, 2) := by decide +kernel
theorem dX10_copiesBlock_148 : decode cX10_copiesBlock 148 = .ok (.baload, 1) := by decide +kernel
theorem dX10_copiesBlock_149 : decode cX10_copiesBlock 149 = .ok (.ifCond .eq 6, 3) := by decide +kernel
theorem dX10_copiesBlock_152 : decode cX10_copiesBlock 152 = .ok (.goto 55, 3) := by decide +kernel
theorem dX10_copiesBlock_155 : decode cX10_copiesBlock 155 = .ok (.iconst 0, 1) := by decide +kernel
theorem dX10_copiesBlock_156 : decode cX10_copiesBlock 156 = .ok (.istore 6, 2) := by decide +kernel
theorem dX10_copiesBlock_158 : decode cX10_copiesBlock 158 = .ok (.iload 6, 2) := by decide +kernel
theorem dX10_copiesBlock_160 : decode cX10_copiesBlock 160 = .ok (.bipush 16, 2) := by decide +kernel
theorem dX10_copiesBlock_162 : decode cX10_copiesBlock 162 = .ok (.if_icmp .ge 45, 3) := by decide +kernel
theorem dX10_copiesBlock_165 : decode cX10_copiesBlock 165 = .ok (.aload_n 0, 1) := by decide +kernel
theorem dX10_copiesBlock_166 : decode cX10_copiesBlock 166 = .ok (.getfield 51, 3) := by decide +kernel
theorem dX10_copiesBlock_169 : decode cX10_copiesBlock 169 = .ok (.iload 6, 2) := by decide +kernel
theorem dX10_copiesBlock_171 : decode cX10_copiesBlock 171 = .ok (.aload_n 1, 1) := by decide +kernel
theorem dX10_copiesBlock_172 : decode cX10_copiesBlock 172 = .ok (.iload 5, 2) := by decide +kernel
theorem dX10_copiesBlock_174 : decode cX10_copiesBlock 174 = .ok (.iload 6, 2) := by decide +kernel
theorem dX10_copiesBlock_176 : decode cX10_copiesBlock 176 = .ok (.invokestatic 220, 3) := by decide +kernel
theorem dX10_copiesBlock_179 : decode cX10_copiesBlock 179 = .ok (.ifCond .eq 14, 3) := by decide +kernel
theorem dX10_copiesBlock_182 : decode cX10_copiesBlock 182 = .ok (.aload_n 1, 1) := by decide +kernel
theorem dX10_copiesBlock_183 : decode cX10_copiesBlock 183 = .ok (.iload 5, 2) := by decide +kernel
theorem dX10_copiesBlock_185 : decode cX10_copiesBlock 185 = .ok (.iload 6, 2) := by decide +kernel
theorem dX10_copiesBlock_187 : decode cX10_copiesBlock 187 = .ok (.invokestatic 227, 3) := by decide +kernel
theorem dX10_copiesBlock_190 : decode cX10_copiesBlock 190 = .ok (.goto 10, 3) := by decide +kernel
theorem dX10_copiesBlock_193 : decode cX10_copiesBlock 193 = .ok (.aload_n 0, 1) := by decide +kernel
theorem dX10_copiesBlock_194 : decode cX10_copiesBlock 194 = .ok (.getfield 51, 3) := by decide +kernel
theorem dX10_copiesBlock_197 : decode cX10_copiesBlock 197 = .ok (.iload 6, 2) := by decide +kernel
theorem dX10_copiesBlock_199 : decode cX10_copiesBlock 199 = .ok (.iaload, 1) := by decide +kernel
theorem dX10_copiesBlock_200 : decode cX10_copiesBlock 200 = .ok (.iastore, 1) := by decide +kernel
theorem dX10_copiesBlock_201 : decode cX10_copiesBlock 201 = .ok (.iinc 6 1, 3) := by decide +kernel
theorem dX10_copiesBlock_204 : decode cX10_copiesBlock 204 = .ok (.goto (-46), 3) := by decide +kernel
theorem dX10_copiesBlock_207 : decode cX10_copiesBlock 207 = .ok (.iinc 4 (-1), 3) := by decide +kernel
theorem dX10_copiesBlock_210 : decode cX10_copiesBlock 210 = .ok (.goto (-90), 3) := by decide +kernel
theorem dX10_copiesBlock_213 : decode cX10_copiesBlock 213 = .ok (.iload_n 3, 1) := by decide +kernel
theorem dX10_copiesBlock_214 : decode cX10_copiesBlock 214 = .ok (.ireturn, 1) := by decide +kernel
theorem dX10_leavesOut_0 : decode cX10_leavesOut 0 = .ok (.iconst 0, 1) := by decide +kernel
theorem dX10_leavesOut_1 : decode cX10_leavesOut 1 = .ok (.istore_n 2, 1) := by decide +kernel
theorem dX10_leavesOut_2 : decode cX10_leavesOut 2 = .ok (.aload_n 0, 1) := by decide +kernel
theorem dX10_leavesOut_3 : decode cX10_leavesOut 3 = .ok (.iconst 0, 1) := by decide +kernel
theorem dX10_leavesOut_4 : decode cX10_leavesOut 4 = .ok (.putfield 230, 3) := by decide +kernel
theorem dX10_leavesOut_7 : decode cX10_leavesOut 7 = .ok (.iconst 0, 1) := by decide +kernel
theorem dX10_leavesOut_8 : decode cX10_leavesOut 8 = .ok (.istore_n 3, 1) := by decide +kernel
theorem dX10_leavesOut_9 : decode cX10_leavesOut 9 = .ok (.iload_n 3, 1) := by decide +kernel
theorem dX10_leavesOut_10 : decode cX10_leavesOut 10 = .ok (.aload_n 1, 1) := by decide +kernel
theorem dX10_leavesOut_11 : decode cX10_leavesOut 11 = .ok (.sipush 3392, 3) := by decide +kernel
theorem dX10_leavesOut_14 : decode cX10_leavesOut 14 = .ok (.iaload, 1) := by decide +kernel
theorem dX10_leavesOut_15 : decode cX10_leavesOut 15 = .ok (.if_icmp .ge 83, 3) := by decide +kernel
theorem dX10_leavesOut_18 : decode cX10_leavesOut 18 = .ok (.aload_n 0, 1) := by decide +kernel
theorem dX10_leavesOut_19 : decode cX10_leavesOut 19 = .ok (.getfield 47, 3) := by decide +kernel
theorem dX10_leavesOut_22 : decode cX10_leavesOut 22 = .ok (.iload_n 3, 1) := by decide +kernel
theorem dX10_leavesOut_23 : decode cX10_leavesOut 23 = .ok (.baload, 1) := by decide +kernel
theorem dX10_leavesOut_24 : decode cX10_leavesOut 24 = .ok (.ifCond .eq 31, 3) := by decide +kernel
theorem dX10_leavesOut_27 : decode cX10_leavesOut 27 = .ok (.aload_n 0, 1) := by decide +kernel
theorem dX10_leavesOut_28 : decode cX10_leavesOut 28 = .ok (.getfield 54, 3) := by decide +kernel
theorem dX10_leavesOut_31 : decode cX10_leavesOut 31 = .ok (.aload_n 0, 1) := by decide +kernel
theorem dX10_leavesOut_32 : decode cX10_leavesOut 32 = .ok (.getfield 230, 3) := by decide +kernel
theorem dX10_leavesOut_35 : decode cX10_leavesOut 35 = .ok (.aload_n 1, 1) := by decide +kernel
theorem dX10_leavesOut_36 : decode cX10_leavesOut 36 = .ok (.iload_n 3, 1) := by decide +kernel
theorem dX10_leavesOut_37 : decode cX10_leavesOut 37 = .ok (.invokestatic 201, 3) := by decide +kernel
theorem dX10_leavesOut_40 : decode cX10_leavesOut 40 = .ok (.iaload, 1) := by decide +kernel
theorem dX10_leavesOut_41 : decode cX10_leavesOut 41 = .ok (.iastore, 1) := by decide +kernel
theorem dX10_leavesOut_42 : decode cX10_leavesOut 42 = .ok (.aload_n 0, 1) := by decide +kernel
theorem dX10_leavesOut_43 : decode cX10_leavesOut 43 = .ok (.dup, 1) := by decide +kernel
theorem dX10_leavesOut_44 : decode cX10_leavesOut 44 = .ok (.getfield 230, 3) := by decide +kernel
theorem dX10_leavesOut_47 : decode cX10_leavesOut 47 = .ok (.iconst 1, 1) := by decide +kernel
theorem dX10_leavesOut_48 : decode cX10_leavesOut 48 = .ok (.iadd, 1) := by decide +kernel
theorem dX10_leavesOut_49 : decode cX10_leavesOut 49 = .ok (.putfield 230, 3) := by decide +kernel
theorem dX10_leavesOut_52 : decode cX10_leavesOut 52 = .ok (.goto 40, 3) := by decide +kernel
theorem dX10_leavesOut_55 : decode cX10_leavesOut 55 = .ok (.iconst 0, 1) := by decide +kernel
theorem dX10_leavesOut_56 : decode cX10_leavesOut 56 = .ok (.istore 4, 2) := by decide +kernel
theorem dX10_leavesOut_58 : decode cX10_leavesOut 58 = .ok (.iload 4, 2) := by decide +kernel
theorem dX10_leavesOut_60 : decode cX10_leavesOut 60 = .ok (.bipush 12, 2) := by decide +kernel
theorem dX10_leavesOut_62 : decode cX10_leavesOut 62 = .ok (.if_icmp .ge 27, 3) := by decide +kernel
theorem dX10_leavesOut_65 : decode cX10_leavesOut 65 = .ok (.aload_n 1, 1) := by decide +kernel
theorem dX10_leavesOut_66 : decode cX10_leavesOut 66 = .ok (.iload_n 2, 1) := by decide +kernel
theorem dX10_leavesOut_67 : decode cX10_leavesOut 67 = .ok (.invokestatic 201, 3) := by decide +kernel
theorem dX10_leavesOut_70 : decode cX10_leavesOut 70 = .ok (.iload 4, 2) := by decide +kernel
theorem dX10_leavesOut_72 : decode cX10_leavesOut 72 = .ok (.iadd, 1) := by decide +kernel
theorem dX10_leavesOut_73 : decode cX10_leavesOut 73 = .ok (.aload_n 1, 1) := by decide +kernel
theorem dX10_leavesOut_74 : decode cX10_leavesOut 74 = .ok (.iload_n 3, 1) := by decide +kernel
theorem dX10_leavesOut_75 : decode cX10_leavesOut 75 = .ok (.invokestatic 201, 3) := by decide +kernel
theorem dX10_leavesOut_78 : decode cX10_leavesOut 78 = .ok (.iload 4, 2) := by decide +kernel
theorem dX10_leavesOut_80 : decode cX10_leavesOut 80 = .ok (.iadd, 1) := by decide +kernel
theorem dX10_leavesOut_81 : decode cX10_leavesOut 81 = .ok (.iaload, 1) := by decide +kernel
theorem dX10_leavesOut_82 : decode cX10_leavesOut 82 = .ok (.iastore, 1) := by decide +kernel
theorem dX10_leavesOut_83 : decode cX10_leavesOut 83 = .ok (.iinc 4 1, 3) := by decide +kernel
theorem dX10_leavesOut_86 : decode cX10_leavesOut 86 = .ok (.goto (-28), 3) := by decide +kernel
theorem dX10_leavesOut_89 : decode cX10_leavesOut 89 = .ok (.iinc 2 1, 3) := by decide +kernel
theorem dX10_leavesOut_92 : decode cX10_leavesOut 92 = .ok (.iinc 3 1, 3) := by decide +kernel
theorem dX10_leavesOut_95 : decode cX10_leavesOut 95 = .ok (.goto (-86), 3) := by decide +kernel
theorem dX10_leavesOut_98 : decode cX10_leavesOut 98 = .ok (.aload_n 1, 1) := by decide +kernel
theorem dX10_leavesOut_99 : decode cX10_leavesOut 99 = .ok (.sipush 3392, 3) := by decide +kernel
theorem dX10_leavesOut_102 : decode cX10_leavesOut 102 = .ok (.iload_n 2, 1) := by decide +kernel
theorem dX10_leavesOut_103 : decode cX10_leavesOut 103 = .ok (.iastore, 1) := by decide +kernel
theorem dX10_leavesOut_104 : decode cX10_leavesOut 104 = .ok (.return_, 1) := by decide +kernel
theorem dX10_isGone_0 : decode cX10_isGone 0 = .ok (.iconst 0, 1) := by decide +kernel
theorem dX10_isGone_1 : decode cX10_isGone 1 = .ok (.istore_n 2, 1) := by decide +kernel
theorem dX10_isGone_2 : decode cX10_isGone 2 = .ok (.iload_n 2, 1) := by decide +kernel
theorem dX10_isGone_3 : decode cX10_isGone 3 = .ok (.aload_n 0, 1) := by decide +kernel
theorem dX10_isGone_4 : decode cX10_isGone 4 = .ok (.getfield 230, 3) := by decide +kernel
theorem dX10_isGone_7 : decode cX10_isGone 7 = .ok (.if_icmp .ge 21, 3) := by decide +kernel
theorem dX10_isGone_10 : decode cX10_isGone 10 = .ok (.aload_n 0, 1) := by decide +kernel
theorem dX10_isGone_11 : decode cX10_isGone 11 = .ok (.getfield 54, 3) := by decide +kernel
theorem dX10_isGone_14 : decode cX10_isGone 14 = .ok (.iload_n 2, 1) := by decide +kernel
theorem dX10_isGone_15 : decode cX10_isGone 15 = .ok (.iaload, 1) := by decide +kernel
theorem dX10_isGone_16 : decode cX10_isGone 16 = .ok (.iload_n 1, 1) := by decide +kernel
theorem dX10_isGone_17 : decode cX10_isGone 17 = .ok (.if_icmp .ne 5, 3) := by decide +kernel
theorem dX10_isGone_20 : decode cX10_isGone 20 = .ok (.iconst 1, 1) := by decide +kernel
theorem dX10_isGone_21 : decode cX10_isGone 21 = .ok (.ireturn, 1) := by decide +kernel
theorem dX10_isGone_22 : decode cX10_isGone 22 = .ok (.iinc 2 1, 3) := by decide +kernel
theorem dX10_isGone_25 : decode cX10_isGone 25 = .ok (.goto (-23), 3) := by decide +kernel
theorem dX10_isGone_28 : decode cX10_isGone 28 = .ok (.iconst 0, 1) := by decide +kernel
theorem dX10_isGone_29 : decode cX10_isGone 29 = .ok (.ireturn, 1) := by decide +kernel
theorem dX10_lessens_0 : decode cX10_lessens 0 = .ok (.aload_n 0, 1) := by decide +kernel
theorem dX10_lessens_1 : decode cX10_lessens 1 = .ok (.iconst 0, 1) := by decide +kernel
theorem dX10_lessens_2 : decode cX10_lessens 2 = .ok (.iload_n 1, 1) := by decide +kernel
theorem dX10_lessens_3 : decode cX10_lessens 3 = .ok (.iconst 0, 1) := by decide +kernel
theorem dX10_lessens_4 : decode cX10_lessens 4 = .ok (.invokestatic 233, 3) := by decide +kernel
theorem dX10_lessens_7 : decode cX10_lessens 7 = .ok (.iconst 1, 1) := by decide +kernel
theorem dX10_lessens_8 : decode cX10_lessens 8 = .ok (.isub, 1) := by decide +kernel
theorem dX10_lessens_9 : decode cX10_lessens 9 = .ok (.istore_n 2, 1) := by decide +kernel
theorem dX10_lessens_10 : decode cX10_lessens 10 = .ok (.iload_n 2, 1) := by decide +kernel
theorem dX10_lessens_11 : decode cX10_lessens 11 = .ok (.ifCond .ge 4, 3) := by decide +kernel
theorem dX10_lessens_14 : decode cX10_lessens 14 = .ok (.return_, 1) := by decide +kernel
theorem dX10_lessens_15 : decode cX10_lessens 15 = .ok (.aload_n 0, 1) := by decide +kernel
theorem dX10_lessens_16 : decode cX10_lessens 16 = .ok (.iload_n 1, 1) := by decide +kernel
theorem dX10_lessens_17 : decode cX10_lessens 17 = .ok (.iconst 0, 1) := by decide +kernel
theorem dX10_lessens_18 : decode cX10_lessens 18 = .ok (.iload_n 2, 1) := by decide +kernel
theorem dX10_lessens_19 : decode cX10_lessens 19 = .ok (.iconst 0, 1) := by decide +kernel
theorem dX10_lessens_20 : decode cX10_lessens 20 = .ok (.iconst 0, 1) := by decide +kernel
theorem dX10_lessens_21 : decode cX10_lessens 21 = .ok (.invokestatic 237, 3) := by decide +kernel
theorem dX10_lessens_24 : decode cX10_lessens 24 = .ok (.pop, 1) := by decide +kernel
theorem dX10_lessens_25 : decode cX10_lessens 25 = .ok (.iload_n 2, 1) := by decide +kernel
theorem dX10_lessens_26 : decode cX10_lessens 26 = .ok (.ifCond .ne 8, 3) := by decide +kernel
theorem dX10_lessens_29 : decode cX10_lessens 29 = .ok (.aload_n 0, 1) := by decide +kernel
theorem dX10_lessens_30 : decode cX10_lessens 30 = .ok (.iload_n 1, 1) := by decide +kernel
theorem dX10_lessens_31 : decode cX10_lessens 31 = .ok (.invokestatic 241, 3) := by decide +kernel
theorem dX10_lessens_34 : decode cX10_lessens 34 = .ok (.return_, 1) := by decide +kernel
theorem dX10_empties_0 : decode cX10_empties 0 = .ok (.aload_n 0, 1) := by decide +kernel
theorem dX10_empties_1 : decode cX10_empties 1 = .ok (.iload_n 1, 1) := by decide +kernel
theorem dX10_empties_2 : decode cX10_empties 2 = .ok (.iconst 1, 1) := by decide +kernel
theorem dX10_empties_3 : decode cX10_empties 3 = .ok (.iconst 0, 1) := by decide +kernel
theorem dX10_empties_4 : decode cX10_empties 4 = .ok (.iconst 0, 1) := by decide +kernel
theorem dX10_empties_5 : decode cX10_empties 5 = .ok (.iconst 0, 1) := by decide +kernel
theorem dX10_empties_6 : decode cX10_empties 6 = .ok (.invokestatic 237, 3) := by decide +kernel
theorem dX10_empties_9 : decode cX10_empties 9 = .ok (.pop, 1) := by decide +kernel
theorem dX10_empties_10 : decode cX10_empties 10 = .ok (.iconst 2, 1) := by decide +kernel
theorem dX10_empties_11 : decode cX10_empties 11 = .ok (.istore_n 2, 1) := by decide +kernel
theorem dX10_empties_12 : decode cX10_empties 12 = .ok (.iload_n 2, 1) := by decide +kernel
theorem dX10_empties_13 : decode cX10_empties 13 = .ok (.iconst 3, 1) := by decide +kernel
theorem dX10_empties_14 : decode cX10_empties 14 = .ok (.if_icmp .gt 36, 3) := by decide +kernel
theorem dX10_empties_17 : decode cX10_empties 17 = .ok (.aload_n 0, 1) := by decide +kernel
theorem dX10_empties_18 : decode cX10_empties 18 = .ok (.iconst 0, 1) := by decide +kernel
theorem dX10_empties_19 : decode cX10_empties 19 = .ok (.iload_n 1, 1) := by decide +kernel
theorem dX10_empties_20 : decode cX10_empties 20 = .ok (.iload_n 2, 1) := by decide +kernel
theorem dX10_empties_21 : decode cX10_empties 21 = .ok (.invokestatic 233, 3) := by decide +kernel
theorem dX10_empties_24 : decode cX10_empties 24 = .ok (.istore_n 3, 1) := by decide +kernel
theorem dX10_empties_25 : decode cX10_empties 25 = .ok (.iload_n 3, 1) := by decide +kernel
theorem dX10_empties_26 : decode cX10_empties 26 = .ok (.ifCond .eq 18, 3) := by decide +kernel
theorem dX10_empties_29 : decode cX10_empties 29 = .ok (.aload_n 0, 1) := by decide +kernel
theorem dX10_empties_30 : decode cX10_empties 30 = .ok (.iconst 0, 1) := by decide +kernel
theorem dX10_empties_31 : decode cX10_empties 31 = .ok (.iload_n 3, 1) := by decide +kernel
theorem dX10_empties_32 : decode cX10_empties 32 = .ok (.aload_n 0, 1) := by decide +kernel
theorem dX10_empties_33 : decode cX10_empties 33 = .ok (.iload_n 1, 1) := by decide +kernel
theorem dX10_empties_34 : decode cX10_empties 34 = .ok (.iload_n 2, 1) := by decide +kernel
theorem dX10_empties_35 : decode cX10_empties 35 = .ok (.iconst 0, 1) := by decide +kernel
theorem dX10_empties_36 : decode cX10_empties 36 = .ok (.iconst 0, 1) := by decide +kernel
theorem dX10_empties_37 : decode cX10_empties 37 = .ok (.iconst 0, 1) := by decide +kernel
theorem dX10_empties_38 : decode cX10_empties 38 = .ok (.invokestatic 237, 3) := by decide +kernel
theorem dX10_empties_41 : decode cX10_empties 41 = .ok (.invokestatic 245, 3) := by decide +kernel
theorem dX10_empties_44 : decode cX10_empties 44 = .ok (.iinc 2 1, 3) := by decide +kernel
theorem dX10_empties_47 : decode cX10_empties 47 = .ok (.goto (-35), 3) := by decide +kernel
theorem dX10_empties_50 : decode cX10_empties 50 = .ok (.return_, 1) := by decide +kernel
theorem dX10_doesLater_0 : decode cX10_doesLater 0 = .ok (.aload_n 1, 1) := by decide +kernel
theorem dX10_doesLater_1 : decode cX10_doesLater 1 = .ok (.sipush 3393, 3) := by decide +kernel
theorem dX10_doesLater_4 : decode cX10_doesLater 4 = .ok (.iaload, 1) := by decide +kernel
theorem dX10_doesLater_5 : decode cX10_doesLater 5 = .ok (.istore_n 2, 1) := by decide +kernel
theorem dX10_doesLater_6 : decode cX10_doesLater 6 = .ok (.iconst 0, 1) := by decide +kernel
theorem dX10_doesLater_7 : decode cX10_doesLater 7 = .ok (.istore_n 3, 1) := by decide +kernel
theorem dX10_doesLater_8 : decode cX10_doesLater 8 = .ok (.iconst 0, 1) := by decide +kernel
theorem dX10_doesLater_9 : decode cX10_doesLater 9 = .ok (.istore 4, 2) := by decide +kernel
theorem dX10_doesLater_11 : decode cX10_doesLater 11 = .ok (.iload 4, 2) := by decide +kernel
theorem dX10_doesLater_13 : decode cX10_doesLater 13 = .ok (.iload_n 2, 1) := by decide +kernel
theorem dX10_doesLater_14 : decode cX10_doesLater 14 = .ok (.if_icmp .ge 75, 3) := by decide +kernel
theorem dX10_doesLater_17 : decode cX10_doesLater 17 = .ok (.sipush 2912, 3) := by decide +kernel
theorem dX10_doesLater_20 : decode cX10_doesLater 20 = .ok (.iconst 3, 1) := by decide +kernel
theorem dX10_doesLater_21 : decode cX10_doesLater 21 = .ok (.iload 4, 2) := by decide +kernel
theorem dX10_doesLater_23 : decode cX10_doesLater 23 = .ok (.imul, 1) := by decide +kernel
theorem dX10_doesLater_24 : decode cX10_doesLater 24 = .ok (.iadd, 1) := by decide +kernel
theorem dX10_doesLater_25 : decode cX10_doesLater 25 = .ok (.istore 5, 2) := by decide +kernel
theorem dX10_doesLater_27 : decode cX10_doesLater 27 = .ok (.aload_n 0, 1) := by decide +kernel
theorem dX10_doesLater_28 : decode cX10_doesLater 28 = .ok (.aload_n 1, 1) := by decide +kernel
theorem dX10_doesLater_29 : decode cX10_doesLater 29 = .ok (.iload 5, 2) := by decide +kernel
theorem dX10_doesLater_31 : decode cX10_doesLater 31 = .ok (.iconst 2, 1) := by decide +kernel
theorem dX10_doesLater_32 : decode cX10_doesLater 32 = .ok (.iadd, 1) := by decide +kernel
theorem dX10_doesLater_33 : decode cX10_doesLater 33 = .ok (.iaload, 1) := by decide +kernel
theorem dX10_doesLater_34 : decode cX10_doesLater 34 = .ok (.invokevirtual 249, 3) := by decide +kernel
theorem dX10_doesLater_37 : decode cX10_doesLater 37 = .ok (.ifCond .ne 6, 3) := by decide +kernel
theorem dX10_doesLater_40 : decode cX10_doesLater 40 = .ok (.goto 43, 3) := by decide +kernel
theorem dX10_doesLater_43 : decode cX10_doesLater 43 = .ok (.aload_n 1, 1) := by decide +kernel
theorem dX10_doesLater_44 : decode cX10_doesLater 44 = .ok (.iload 5, 2) := by decide +kernel
theorem dX10_doesLater_46 : decode cX10_doesLater 46 = .ok (.iaload, 1) := by decide +kernel
theorem dX10_doesLater_47 : decode cX10_doesLater 47 = .ok (.ifCond .ne 19, 3) := by decide +kernel
theorem dX10_doesLater_50 : decode cX10_doesLater 50 = .ok (.aload_n 1, 1) := by decide +kernel
theorem dX10_doesLater_51 : decode cX10_doesLater 51 = .ok (.iconst 0, 1) := by decide +kernel
theorem dX10_doesLater_52 : decode cX10_doesLater 52 = .ok (.aload_n 1, 1) := by decide +kernel
theorem dX10_doesLater_53 : decode cX10_doesLater 53 = .ok (.iload 5, 2) := by decide +kernel
theorem dX10_doesLater_55 : decode cX10_doesLater 55 = .ok (.iconst 1, 1) := by decide +kernel
theorem dX10_doesLater_56 : decode cX10_doesLater 56 = .ok (.iadd, 1) := by decide +kernel
theorem dX10_doesLater_57 : decode cX10_doesLater 57 = .ok (.iaload, 1) := by decide +kernel
theorem dX10_doesLater_58 : decode cX10_doesLater 58 = .ok (.iconst 0, 1) := by decide +kernel
theorem dX10_doesLater_59 : decode cX10_doesLater 59 = .ok (.invokestatic 252, 3) := by decide +kernel
theorem dX10_doesLater_62 : decode cX10_doesLater 62 = .ok (.pop, 1) := by decide +kernel
theorem dX10_doesLater_63 : decode cX10_doesLater 63 = .ok (.goto 13, 3) := by decide +kernel
theorem dX10_doesLater_66 : decode cX10_doesLater 66 = .ok (.aload_n 1, 1) := by decide +kernel
theorem dX10_doesLater_67 : decode cX10_doesLater 67 = .ok (.aload_n 1, 1) := by decide +kernel
theorem dX10_doesLater_68 : decode cX10_doesLater 68 = .ok (.iload 5, 2) := by decide +kernel
theorem dX10_doesLater_70 : decode cX10_doesLater 70 = .ok (.iconst 1, 1) := by decide +kernel
theorem dX10_doesLater_71 : decode cX10_doesLater 71 = .ok (.iadd, 1) := by decide +kernel
theorem dX10_doesLater_72 : decode cX10_doesLater 72 = .ok (.iaload, 1) := by decide +kernel
theorem dX10_doesLater_73 : decode cX10_doesLater 73 = .ok (.invokestatic 255, 3) := by decide +kernel
theorem dX10_doesLater_76 : decode cX10_doesLater 76 = .ok (.aload_n 1, 1) := by decide +kernel
theorem dX10_doesLater_77 : decode cX10_doesLater 77 = .ok (.iload 5, 2) := by decide +kernel
theorem dX10_doesLater_79 : decode cX10_doesLater 79 = .ok (.iconst 2, 1) := by decide +kernel
theorem dX10_doesLater_80 : decode cX10_doesLater 80 = .ok (.iadd, 1) := by decide +kernel
theorem dX10_doesLater_81 : decode cX10_doesLater 81 = .ok (.iconst (-1), 1) := by decide +kernel
theorem dX10_doesLater_82 : decode cX10_doesLater 82 = .ok (.iastore, 1) := by decide +kernel
theorem dX10_doesLater_83 : decode cX10_doesLater 83 = .ok (.iinc 4 1, 3) := by decide +kernel
theorem dX10_doesLater_86 : decode cX10_doesLater 86 = .ok (.goto (-75), 3) := by decide +kernel
theorem dX10_doesLater_89 : decode cX10_doesLater 89 = .ok (.iconst 0, 1) := by decide +kernel
theorem dX10_doesLater_90 : decode cX10_doesLater 90 = .ok (.istore 4, 2) := by decide +kernel
theorem dX10_doesLater_92 : decode cX10_doesLater 92 = .ok (.iload 4, 2) := by decide +kernel
theorem dX10_doesLater_94 : decode cX10_doesLater 94 = .ok (.aload_n 1, 1) := by decide +kernel
theorem dX10_doesLater_95 : decode cX10_doesLater 95 = .ok (.sipush 3393, 3) := by decide +kernel
theorem dX10_doesLater_98 : decode cX10_doesLater 98 = .ok (.iaload, 1) := by decide +kernel
theorem dX10_doesLater_99 : decode cX10_doesLater 99 = .ok (.if_icmp .ge 69, 3) := by decide +kernel
theorem dX10_doesLater_102 : decode cX10_doesLater 102 = .ok (.sipush 2912, 3) := by decide +kernel
theorem dX10_doesLater_105 : decode cX10_doesLater 105 = .ok (.iconst 3, 1) := by decide +kernel
theorem dX10_doesLater_106 : decode cX10_doesLater 106 = .ok (.iload 4, 2) := by decide +kernel
theorem dX10_doesLater_108 : decode cX10_doesLater 108 = .ok (.imul, 1) := by decide +kernel
theorem dX10_doesLater_109 : decode cX10_doesLater 109 = .ok (.iadd, 1) := by decide +kernel
theorem dX10_doesLater_110 : decode cX10_doesLater 110 = .ok (.istore 5, 2) := by decide +kernel
theorem dX10_doesLater_112 : decode cX10_doesLater 112 = .ok (.aload_n 1, 1) := by decide +kernel
theorem dX10_doesLater_113 : decode cX10_doesLater 113 = .ok (.iload 5, 2) := by decide +kernel
theorem dX10_doesLater_115 : decode cX10_doesLater 115 = .ok (.iconst 2, 1) := by decide +kernel
theorem dX10_doesLater_116 : decode cX10_doesLater 116 = .ok (.iadd, 1) := by decide +kernel
theorem dX10_doesLater_117 : decode cX10_doesLater 117 = .ok (.iaload, 1) := by decide +kernel
theorem dX10_doesLater_118 : decode cX10_doesLater 118 = .ok (.iconst (-1), 1) := by decide +kernel
theorem dX10_doesLater_119 : decode cX10_doesLater 119 = .ok (.if_icmp .ne 6, 3) := by decide +kernel
theorem dX10_doesLater_122 : decode cX10_doesLater 122 = .ok (.goto 40, 3) := by decide +kernel
theorem dX10_doesLater_125 : decode cX10_doesLater 125 = .ok (.iconst 0, 1) := by decide +kernel
theorem dX10_doesLater_126 : decode cX10_doesLater 126 = .ok (.istore 6, 2) := by decide +kernel
theorem dX10_doesLater_128 : decode cX10_doesLater 128 = .ok (.iload 6, 2) := by decide +kernel
theorem dX10_doesLater_130 : decode cX10_doesLater 130 = .ok (.iconst 3, 1) := by decide +kernel
theorem dX10_doesLater_131 : decode cX10_doesLater 131 = .ok (.if_icmp .ge 28, 3) := by decide +kernel
theorem dX10_doesLater_134 : decode cX10_doesLater 134 = .ok (.aload_n 1, 1) := by decide +kernel
theorem dX10_doesLater_135 : decode cX10_doesLater 135 = .ok (.sipush 2912, 3) := by decide +kernel
theorem dX10_doesLater_138 : decode cX10_doesLater 138 = .ok (.iconst 3, 1) := by decide +kernel
theorem dX10_doesLater_139 : decode cX10_doesLater 139 = .ok (.iload_n 3, 1) := by decide +kernel
theorem dX10_doesLater_140 : decode cX10_doesLater 140 = .ok (.imul, 1) := by decide +kernel
theorem dX10_doesLater_141 : decode cX10_doesLater 141 = .ok (.iadd, 1) := by decide +kernel
theorem dX10_doesLater_142 : decode cX10_doesLater 142 = .ok (.iload 6, 2) := by decide +kernel
theorem dX10_doesLater_144 : decode cX10_doesLater 144 = .ok (.iadd, 1) := by decide +kernel
theorem dX10_doesLater_145 : decode cX10_doesLater 145 = .ok (.aload_n 1, 1) := by decide +kernel
theorem dX10_doesLater_146 : decode cX10_doesLater 146 = .ok (.iload 5, 2) := by decide +kernel
theorem dX10_doesLater_148 : decode cX10_doesLater 148 = .ok (.iload 6, 2) := by decide +kernel
theorem dX10_doesLater_150 : decode cX10_doesLater 150 = .ok (.iadd, 1) := by decide +kernel
theorem dX10_doesLater_151 : decode cX10_doesLater 151 = .ok (.iaload, 1) := by decide +kernel
theorem dX10_doesLater_152 : decode cX10_doesLater 152 = .ok (.iastore, 1) := by decide +kernel
theorem dX10_doesLater_153 : decode cX10_doesLater 153 = .ok (.iinc 6 1, 3) := by decide +kernel
theorem dX10_doesLater_156 : decode cX10_doesLater 156 = .ok (.goto (-28), 3) := by decide +kernel
theorem dX10_doesLater_159 : decode cX10_doesLater 159 = .ok (.iinc 3 1, 3) := by decide +kernel
theorem dX10_doesLater_162 : decode cX10_doesLater 162 = .ok (.iinc 4 1, 3) := by decide +kernel
theorem dX10_doesLater_165 : decode cX10_doesLater 165 = .ok (.goto (-73), 3) := by decide +kernel
theorem dX10_doesLater_168 : decode cX10_doesLater 168 = .ok (.aload_n 1, 1) := by decide +kernel
theorem dX10_doesLater_169 : decode cX10_doesLater 169 = .ok (.sipush 3393, 3) := by decide +kernel
theorem dX10_doesLater_172 : decode cX10_doesLater 172 = .ok (.iload_n 3, 1) := by decide +kernel
theorem dX10_doesLater_173 : decode cX10_doesLater 173 = .ok (.iastore, 1) := by decide +kernel
theorem dX10_doesLater_174 : decode cX10_doesLater 174 = .ok (.return_, 1) := by decide +kernel
theorem dX10_writes_0 : decode cX10_writes 0 = .ok (.aload_n 1, 1) := by decide +kernel
theorem dX10_writes_1 : decode cX10_writes 1 = .ok (.iload_n 2, 1) := by decide +kernel
theorem dX10_writes_2 : decode cX10_writes 2 = .ok (.invokestatic 208, 3) := by decide +kernel
theorem dX10_writes_5 : decode cX10_writes 5 = .ok (.ifCond .ne 5, 3) := by decide +kernel
theorem dX10_writes_8 : decode cX10_writes 8 = .ok (.iconst 0, 1) := by decide +kernel
theorem dX10_writes_9 : decode cX10_writes 9 = .ok (.ireturn, 1) := by decide +kernel
theorem dX10_writes_10 : decode cX10_writes 10 = .ok (.aload_n 1, 1) := by decide +kernel
theorem dX10_writes_11 : decode cX10_writes 11 = .ok (.sipush 3396, 3) := by decide +kernel
theorem dX10_writes_14 : decode cX10_writes 14 = .ok (.dup2, 1) := by decide +kernel
theorem dX10_writes_15 : decode cX10_writes 15 = .ok (.iaload, 1) := by decide +kernel
theorem dX10_writes_16 : decode cX10_writes 16 = .ok (.aload_n 0, 1) := by decide +kernel
theorem dX10_writes_17 : decode cX10_writes 17 = .ok (.aload_n 1, 1) := by decide +kernel
theorem dX10_writes_18 : decode cX10_writes 18 = .ok (.iload_n 2, 1) := by decide +kernel
theorem dX10_writes_19 : decode cX10_writes 19 = .ok (.invokevirtual 258, 3) := by decide +kernel
theorem dX10_writes_22 : decode cX10_writes 22 = .ok (.iadd, 1) := by decide +kernel
theorem dX10_writes_23 : decode cX10_writes 23 = .ok (.iastore, 1) := by decide +kernel
theorem dX10_writes_24 : decode cX10_writes 24 = .ok (.aload_n 1, 1) := by decide +kernel
theorem dX10_writes_25 : decode cX10_writes 25 = .ok (.sipush 3395, 3) := by decide +kernel
theorem dX10_writes_28 : decode cX10_writes 28 = .ok (.dup2, 1) := by decide +kernel
theorem dX10_writes_29 : decode cX10_writes 29 = .ok (.iaload, 1) := by decide +kernel
theorem dX10_writes_30 : decode cX10_writes 30 = .ok (.iconst 1, 1) := by decide +kernel
theorem dX10_writes_31 : decode cX10_writes 31 = .ok (.iadd, 1) := by decide +kernel
theorem dX10_writes_32 : decode cX10_writes 32 = .ok (.iastore, 1) := by decide +kernel
theorem dX10_writes_33 : decode cX10_writes 33 = .ok (.iconst 0, 1) := by decide +kernel
theorem dX10_writes_34 : decode cX10_writes 34 = .ok (.istore_n 3, 1) := by decide +kernel
theorem dX10_writes_35 : decode cX10_writes 35 = .ok (.iload_n 3, 1) := by decide +kernel
theorem dX10_writes_36 : decode cX10_writes 36 = .ok (.bipush 16, 2) := by decide +kernel
theorem dX10_writes_38 : decode cX10_writes 38 = .ok (.if_icmp .ge 27, 3) := by decide +kernel
theorem dX10_writes_41 : decode cX10_writes 41 = .ok (.aload_n 1, 1) := by decide +kernel
theorem dX10_writes_42 : decode cX10_writes 42 = .ok (.sipush 256, 3) := by decide +kernel
theorem dX10_writes_45 : decode cX10_writes 45 = .ok (.bipush 16, 2) := by decide +kernel
theorem dX10_writes_47 : decode cX10_writes 47 = .ok (.iload_n 2, 1) := by decide +kernel
theorem dX10_writes_48 : decode cX10_writes 48 = .ok (.imul, 1) := by decide +kernel
theorem dX10_writes_49 : decode cX10_writes 49 = .ok (.iadd, 1) := by decide +kernel
theorem dX10_writes_50 : decode cX10_writes 50 = .ok (.iload_n 3, 1) := by decide +kernel
theorem dX10_writes_51 : decode cX10_writes 51 = .ok (.iadd, 1) := by decide +kernel
theorem dX10_writes_52 : decode cX10_writes 52 = .ok (.aload_n 0, 1) := by decide +kernel
theorem dX10_writes_53 : decode cX10_writes 53 = .ok (.getfield 51, 3) := by decide +kernel
theorem dX10_writes_56 : decode cX10_writes 56 = .ok (.iload_n 3, 1) := by decide +kernel
theorem dX10_writes_57 : decode cX10_writes 57 = .ok (.iaload, 1) := by decide +kernel
theorem dX10_writes_58 : decode cX10_writes 58 = .ok (.iastore, 1) := by decide +kernel
theorem dX10_writes_59 : decode cX10_writes 59 = .ok (.iinc 3 1, 3) := by decide +kernel
theorem dX10_writes_62 : decode cX10_writes 62 = .ok (.goto (-27), 3) := by decide +kernel
theorem dX10_writes_65 : decode cX10_writes 65 = .ok (.aload_n 0, 1) := by decide +kernel
theorem dX10_writes_66 : decode cX10_writes 66 = .ok (.aload_n 1, 1) := by decide +kernel
theorem dX10_writes_67 : decode cX10_writes 67 = .ok (.invokevirtual 261, 3) := by decide +kernel
theorem dX10_writes_70 : decode cX10_writes 70 = .ok (.aload_n 0, 1) := by decide +kernel
theorem dX10_writes_71 : decode cX10_writes 71 = .ok (.aload_n 1, 1) := by decide +kernel
theorem dX10_writes_72 : decode cX10_writes 72 = .ok (.invokevirtual 264, 3) := by decide +kernel
theorem dX10_writes_75 : decode cX10_writes 75 = .ok (.iconst 1, 1) := by decide +kernel
theorem dX10_writes_76 : decode cX10_writes 76 = .ok (.ireturn, 1) := by decide +kernel
theorem dX10_syncs_0 : decode cX10_syncs 0 = .ok (.iconst 0, 1) := by decide +kernel
theorem dX10_syncs_1 : decode cX10_syncs 1 = .ok (.istore_n 2, 1) := by decide +kernel
theorem dX10_syncs_2 : decode cX10_syncs 2 = .ok (.iconst 0, 1) := by decide +kernel
theorem dX10_syncs_3 : decode cX10_syncs 3 = .ok (.istore_n 3, 1) := by decide +kernel
theorem dX10_syncs_4 : decode cX10_syncs 4 = .ok (.iload_n 3, 1) := by decide +kernel
theorem dX10_syncs_5 : decode cX10_syncs 5 = .ok (.aload_n 0, 1) := by decide +kernel
theorem dX10_syncs_6 : decode cX10_syncs 6 = .ok (.getfield 168, 3) := by decide +kernel
theorem dX10_syncs_9 : decode cX10_syncs 9 = .ok (.if_icmp .ge 18, 3) := by decide +kernel
theorem dX10_syncs_12 : decode cX10_syncs 12 = .ok (.iload_n 2, 1) := by decide +kernel
theorem dX10_syncs_13 : decode cX10_syncs 13 = .ok (.aload_n 0, 1) := by decide +kernel
theorem dX10_syncs_14 : decode cX10_syncs 14 = .ok (.aload_n 1, 1) := by decide +kernel
theorem dX10_syncs_15 : decode cX10_syncs 15 = .ok (.iload_n 3, 1) := by decide +kernel
theorem dX10_syncs_16 : decode cX10_syncs 16 = .ok (.invokevirtual 267, 3) := by decide +kernel
theorem dX10_syncs_19 : decode cX10_syncs 19 = .ok (.ior, 1) := by decide +kernel
theorem dX10_syncs_20 : decode cX10_syncs 20 = .ok (.istore_n 2, 1) := by decide +kernel
theorem dX10_syncs_21 : decode cX10_syncs 21 = .ok (.iinc 3 1, 3) := by decide +kernel
theorem dX10_syncs_24 : decode cX10_syncs 24 = .ok (.goto (-20), 3) := by decide +kernel
theorem dX10_syncs_27 : decode cX10_syncs 27 = .ok (.iload_n 2, 1) := by decide +kernel
theorem dX10_syncs_28 : decode cX10_syncs 28 = .ok (.ireturn, 1) := by decide +kernel
theorem dX10_isKind_0 : decode cX10_isKind 0 = .ok (.aload_n 0, 1) := by decide +kernel
theorem dX10_isKind_1 : decode cX10_isKind 1 = .ok (.iload_n 1, 1) := by decide +kernel
theorem dX10_isKind_2 : decode cX10_isKind 2 = .ok (.iload_n 2, 1) := by decide +kernel
theorem dX10_isKind_3 : decode cX10_isKind 3 = .ok (.iconst 0, 1) := by decide +kernel
theorem dX10_isKind_4 : decode cX10_isKind 4 = .ok (.invokestatic 233, 3) := by decide +kernel
theorem dX10_isKind_7 : decode cX10_isKind 7 = .ok (.ifCond .le 18, 3) := by decide +kernel
theorem dX10_isKind_10 : decode cX10_isKind 10 = .ok (.aload_n 0, 1) := by decide +kernel
theorem dX10_isKind_11 : decode cX10_isKind 11 = .ok (.iload_n 1, 1) := by decide +kernel
theorem dX10_isKind_12 : decode cX10_isKind 12 = .ok (.iload_n 2, 1) := by decide +kernel
theorem dX10_isKind_13 : decode cX10_isKind 13 = .ok (.iconst 1, 1) := by decide +kernel
theorem dX10_isKind_14 : decode cX10_isKind 14 = .ok (.invokestatic 233, 3) := by decide +kernel
theorem dX10_isKind_17 : decode cX10_isKind 17 = .ok (.iload_n 3, 1) := by decide +kernel
theorem dX10_isKind_18 : decode cX10_isKind 18 = .ok (.if_icmp .ne 7, 3) := by decide +kernel
theorem dX10_isKind_21 : decode cX10_isKind 21 = .ok (.iconst 1, 1) := by decide +kernel
theorem dX10_isKind_22 : decode cX10_isKind 22 = .ok (.goto 4, 3) := by decide +kernel
theorem dX10_isKind_25 : decode cX10_isKind 25 = .ok (.iconst 0, 1) := by decide +kernel
theorem dX10_isKind_26 : decode cX10_isKind 26 = .ok (.ireturn, 1) := by decide +kernel
theorem dX10_entryOf_0 : decode cX10_entryOf 0 = .ok (.aload_n 0, 1) := by decide +kernel
theorem dX10_entryOf_1 : decode cX10_entryOf 1 = .ok (.iload_n 1, 1) := by decide +kernel
theorem dX10_entryOf_2 : decode cX10_entryOf 2 = .ok (.iload_n 2, 1) := by decide +kernel
theorem dX10_entryOf_3 : decode cX10_entryOf 3 = .ok (.iconst 2, 1) := by decide +kernel
theorem dX10_entryOf_4 : decode cX10_entryOf 4 = .ok (.invokestatic 233, 3) := by decide +kernel
theorem dX10_entryOf_7 : decode cX10_entryOf 7 = .ok (.istore 4, 2) := by decide +kernel
theorem dX10_entryOf_9 : decode cX10_entryOf 9 = .ok (.aload_n 0, 1) := by decide +kernel
theorem dX10_entryOf_10 : decode cX10_entryOf 10 = .ok (.iload_n 1, 1) := by decide +kernel
theorem dX10_entryOf_11 : decode cX10_entryOf 11 = .ok (.iload_n 2, 1) := by decide +kernel
theorem dX10_entryOf_12 : decode cX10_entryOf 12 = .ok (.iconst 3, 1) := by decide +kernel
theorem dX10_entryOf_13 : decode cX10_entryOf 13 = .ok (.invokestatic 233, 3) := by decide +kernel
theorem dX10_entryOf_16 : decode cX10_entryOf 16 = .ok (.istore 5, 2) := by decide +kernel
theorem dX10_entryOf_18 : decode cX10_entryOf 18 = .ok (.iload 4, 2) := by decide +kernel
theorem dX10_entryOf_20 : decode cX10_entryOf 20 = .ok (.ifCond .ne 7, 3) := by decide +kernel
theorem dX10_entryOf_23 : decode cX10_entryOf 23 = .ok (.iconst 0, 1) := by decide +kernel
theorem dX10_entryOf_24 : decode cX10_entryOf 24 = .ok (.goto 5, 3) := by decide +kernel
theorem dX10_entryOf_27 : decode cX10_entryOf 27 = .ok (.bipush 8, 2) := by decide +kernel
theorem dX10_entryOf_29 : decode cX10_entryOf 29 = .ok (.iload 5, 2) := by decide +kernel
theorem dX10_entryOf_31 : decode cX10_entryOf 31 = .ok (.ifCond .ne 7, 3) := by decide +kernel
theorem dX10_entryOf_34 : decode cX10_entryOf 34 = .ok (.iconst 0, 1) := by decide +kernel
theorem dX10_entryOf_35 : decode cX10_entryOf 35 = .ok (.goto 5, 3) := by decide +kernel
theorem dX10_entryOf_38 : decode cX10_entryOf 38 = .ok (.bipush 8, 2) := by decide +kernel
theorem dX10_entryOf_40 : decode cX10_entryOf 40 = .ok (.iadd, 1) := by decide +kernel
theorem dX10_entryOf_41 : decode cX10_entryOf 41 = .ok (.istore 6, 2) := by decide +kernel
theorem dX10_entryOf_43 : decode cX10_entryOf 43 = .ok (.iload_n 3, 1) := by decide +kernel
theorem dX10_entryOf_44 : decode cX10_entryOf 44 = .ok (.iload 6, 2) := by decide +kernel
theorem dX10_entryOf_46 : decode cX10_entryOf 46 = .ok (.if_icmp .lt 5, 3) := by decide +kernel
theorem dX10_entryOf_49 : decode cX10_entryOf 49 = .ok (.iconst (-1), 1) := by decide +kernel
theorem dX10_entryOf_50 : decode cX10_entryOf 50 = .ok (.ireturn, 1) := by decide +kernel
theorem dX10_entryOf_51 : decode cX10_entryOf 51 = .ok (.iload_n 3, 1) := by decide +kernel
theorem dX10_entryOf_52 : decode cX10_entryOf 52 = .ok (.bipush 8, 2) := by decide +kernel
theorem dX10_entryOf_54 : decode cX10_entryOf 54 = .ok (.if_icmp .ge 13, 3) := by decide +kernel
theorem dX10_entryOf_57 : decode cX10_entryOf 57 = .ok (.iload 4, 2) := by decide +kernel
theorem dX10_entryOf_59 : decode cX10_entryOf 59 = .ok (.ifCond .eq 8, 3) := by decide +kernel
theorem dX10_entryOf_62 : decode cX10_entryOf 62 = .ok (.iload 4, 2) := by decide +kernel
theorem dX10_entryOf_64 : decode cX10_entryOf 64 = .ok (.goto 5, 3) := by decide +kernel
theorem dX10_entryOf_67 : decode cX10_entryOf 67 = .ok (.iload 5, 2) := by decide +kernel
theorem dX10_entryOf_69 : decode cX10_entryOf 69 = .ok (.istore 7, 2) := by decide +kernel
theorem dX10_entryOf_71 : decode cX10_entryOf 71 = .ok (.bipush 16, 2) := by decide +kernel
theorem dX10_entryOf_73 : decode cX10_entryOf 73 = .ok (.iload 7, 2) := by decide +kernel
theorem dX10_entryOf_75 : decode cX10_entryOf 75 = .ok (.imul, 1) := by decide +kernel
theorem dX10_entryOf_76 : decode cX10_entryOf 76 = .ok (.iconst 2, 1) := by decide +kernel
theorem dX10_entryOf_77 : decode cX10_entryOf 77 = .ok (.iload_n 3, 1) := by decide +kernel
theorem dX10_entryOf_78 : decode cX10_entryOf 78 = .ok (.bipush 8, 2) := by decide +kernel
theorem dX10_entryOf_80 : decode cX10_entryOf 80 = .ok (.irem, 1) := by decide +kernel
theorem dX10_entryOf_81 : decode cX10_entryOf 81 = .ok (.imul, 1) := by decide +kernel
theorem dX10_entryOf_82 : decode cX10_entryOf 82 = .ok (.iadd, 1) := by decide +kernel
theorem dX10_entryOf_83 : decode cX10_entryOf 83 = .ok (.ireturn, 1) := by decide +kernel
theorem dX10_entry_0 : decode cX10_entry 0 = .ok (.iconst 0, 1) := by decide +kernel
theorem dX10_entry_1 : decode cX10_entry 1 = .ok (.istore 4, 2) := by decide +kernel
theorem dX10_entry_3 : decode cX10_entry 3 = .ok (.aload_n 0, 1) := by decide +kernel
theorem dX10_entry_4 : decode cX10_entry 4 = .ok (.iload_n 1, 1) := by decide +kernel
theorem dX10_entry_5 : decode cX10_entry 5 = .ok (.iload_n 2, 1) := by decide +kernel
theorem dX10_entry_6 : decode cX10_entry 6 = .ok (.iload 4, 2) := by decide +kernel
theorem dX10_entry_8 : decode cX10_entry 8 = .ok (.invokestatic 270, 3) := by decide +kernel
theorem dX10_entry_11 : decode cX10_entry 11 = .ok (.iconst (-1), 1) := by decide +kernel
theorem dX10_entry_12 : decode cX10_entry 12 = .ok (.if_icmp .eq 34, 3) := by decide +kernel
theorem dX10_entry_15 : decode cX10_entry 15 = .ok (.aload_n 0, 1) := by decide +kernel
theorem dX10_entry_16 : decode cX10_entry 16 = .ok (.iload_n 1, 1) := by decide +kernel
theorem dX10_entry_17 : decode cX10_entry 17 = .ok (.aload_n 0, 1) := by decide +kernel
theorem dX10_entry_18 : decode cX10_entry 18 = .ok (.iload_n 1, 1) := by decide +kernel
theorem dX10_entry_19 : decode cX10_entry 19 = .ok (.iload_n 2, 1) := by decide +kernel
theorem dX10_entry_20 : decode cX10_entry 20 = .ok (.iload 4, 2) := by decide +kernel
theorem dX10_entry_22 : decode cX10_entry 22 = .ok (.invokestatic 270, 3) := by decide +kernel
theorem dX10_entry_25 : decode cX10_entry 25 = .ok (.iadd, 1) := by decide +kernel
theorem dX10_entry_26 : decode cX10_entry 26 = .ok (.iaload, 1) := by decide +kernel
theorem dX10_entry_27 : decode cX10_entry 27 = .ok (.iload_n 3, 1) := by decide +kernel
theorem dX10_entry_28 : decode cX10_entry 28 = .ok (.if_icmp .ne 12, 3) := by decide +kernel
theorem dX10_entry_31 : decode cX10_entry 31 = .ok (.aload_n 0, 1) := by decide +kernel
theorem dX10_entry_32 : decode cX10_entry 32 = .ok (.iload_n 1, 1) := by decide +kernel
theorem dX10_entry_33 : decode cX10_entry 33 = .ok (.iload_n 2, 1) := by decide +kernel
theorem dX10_entry_34 : decode cX10_entry 34 = .ok (.iload 4, 2) := by decide +kernel
theorem dX10_entry_36 : decode cX10_entry 36 = .ok (.invokestatic 270, 3) := by decide +kernel
theorem dX10_entry_39 : decode cX10_entry 39 = .ok (.ireturn, 1) := by decide +kernel
theorem dX10_entry_40 : decode cX10_entry 40 = .ok (.iinc 4 1, 3) := by decide +kernel
theorem dX10_entry_43 : decode cX10_entry 43 = .ok (.goto (-40), 3) := by decide +kernel
theorem dX10_entry_46 : decode cX10_entry 46 = .ok (.iconst (-1), 1) := by decide +kernel
theorem dX10_entry_47 : decode cX10_entry 47 = .ok (.ireturn, 1) := by decide +kernel
theorem dX10_isNewName_0 : decode cX10_isNewName 0 = .ok (.aload_n 1, 1) := by decide +kernel
theorem dX10_isNewName_1 : decode cX10_isNewName 1 = .ok (.iconst 0, 1) := by decide +kernel
theorem dX10_isNewName_2 : decode cX10_isNewName 2 = .ok (.iload_n 2, 1) := by decide +kernel
theorem dX10_isNewName_3 : decode cX10_isNewName 3 = .ok (.iconst 2, 1) := by decide +kernel
theorem dX10_isNewName_4 : decode cX10_isNewName 4 = .ok (.invokestatic 273, 3) := by decide +kernel
theorem dX10_isNewName_7 : decode cX10_isNewName 7 = .ok (.ifCond .eq 41, 3) := by decide +kernel
theorem dX10_isNewName_10 : decode cX10_isNewName 10 = .ok (.aload_n 1, 1) := by decide +kernel
theorem dX10_isNewName_11 : decode cX10_isNewName 11 = .ok (.iconst 0, 1) := by decide +kernel
theorem dX10_isNewName_12 : decode cX10_isNewName 12 = .ok (.invokestatic 276, 3) := by decide +kernel
theorem dX10_isNewName_15 : decode cX10_isNewName 15 = .ok (.iload_n 2, 1) := by decide +kernel
theorem dX10_isNewName_16 : decode cX10_isNewName 16 = .ok (.invokestatic 193, 3) := by decide +kernel
theorem dX10_isNewName_19 : decode cX10_isNewName 19 = .ok (.ifCond .eq 29, 3) := by decide +kernel
theorem dX10_isNewName_22 : decode cX10_isNewName 22 = .ok (.aload_n 1, 1) := by decide +kernel
theorem dX10_isNewName_23 : decode cX10_isNewName 23 = .ok (.iconst 0, 1) := by decide +kernel
theorem dX10_isNewName_24 : decode cX10_isNewName 24 = .ok (.iload_n 2, 1) := by decide +kernel
theorem dX10_isNewName_25 : decode cX10_isNewName 25 = .ok (.iload_n 3, 1) := by decide +kernel
theorem dX10_isNewName_26 : decode cX10_isNewName 26 = .ok (.invokestatic 279, 3) := by decide +kernel
theorem dX10_isNewName_29 : decode cX10_isNewName 29 = .ok (.iconst (-1), 1) := by decide +kernel
theorem dX10_isNewName_30 : decode cX10_isNewName 30 = .ok (.if_icmp .ne 18, 3) := by decide +kernel
theorem dX10_isNewName_33 : decode cX10_isNewName 33 = .ok (.aload_n 1, 1) := by decide +kernel
theorem dX10_isNewName_34 : decode cX10_isNewName 34 = .ok (.iconst 0, 1) := by decide +kernel
theorem dX10_isNewName_35 : decode cX10_isNewName 35 = .ok (.iload_n 2, 1) := by decide +kernel
theorem dX10_isNewName_36 : decode cX10_isNewName 36 = .ok (.iconst 0, 1) := by decide +kernel
theorem dX10_isNewName_37 : decode cX10_isNewName 37 = .ok (.invokestatic 279, 3) := by decide +kernel
theorem dX10_isNewName_40 : decode cX10_isNewName 40 = .ok (.iconst (-1), 1) := by decide +kernel
theorem dX10_isNewName_41 : decode cX10_isNewName 41 = .ok (.if_icmp .eq 7, 3) := by decide +kernel
theorem dX10_isNewName_44 : decode cX10_isNewName 44 = .ok (.iconst 1, 1) := by decide +kernel
theorem dX10_isNewName_45 : decode cX10_isNewName 45 = .ok (.goto 4, 3) := by decide +kernel
theorem dX10_isNewName_48 : decode cX10_isNewName 48 = .ok (.iconst 0, 1) := by decide +kernel
theorem dX10_isNewName_49 : decode cX10_isNewName 49 = .ok (.ireturn, 1) := by decide +kernel
theorem dX10_isFull_0 : decode cX10_isFull 0 = .ok (.aload_n 0, 1) := by decide +kernel
theorem dX10_isFull_1 : decode cX10_isFull 1 = .ok (.sipush 3392, 3) := by decide +kernel
theorem dX10_isFull_4 : decode cX10_isFull 4 = .ok (.iaload, 1) := by decide +kernel
theorem dX10_isFull_5 : decode cX10_isFull 5 = .ok (.bipush 60, 2) := by decide +kernel
theorem dX10_isFull_7 : decode cX10_isFull 7 = .ok (.if_icmp .ge 13, 3) := by decide +kernel
theorem dX10_isFull_10 : decode cX10_isFull 10 = .ok (.aload_n 0, 1) := by decide +kernel
theorem dX10_isFull_11 : decode cX10_isFull 11 = .ok (.sipush 3393, 3) := by decide +kernel
theorem dX10_isFull_14 : decode cX10_isFull 14 = .ok (.iaload, 1) := by decide +kernel
theorem dX10_isFull_15 : decode cX10_isFull 15 = .ok (.bipush 30, 2) := by decide +kernel
theorem dX10_isFull_17 : decode cX10_isFull 17 = .ok (.if_icmp .lt 7, 3) := by decide +kernel
theorem dX10_isFull_20 : decode cX10_isFull 20 = .ok (.iconst 1, 1) := by decide +kernel
theorem dX10_isFull_21 : decode cX10_isFull 21 = .ok (.goto 4, 3) := by decide +kernel
theorem dX10_isFull_24 : decode cX10_isFull 24 = .ok (.iconst 0, 1) := by decide +kernel
theorem dX10_isFull_25 : decode cX10_isFull 25 = .ok (.ireturn, 1) := by decide +kernel
theorem dX10_freeNode_0 : decode cX10_freeNode 0 = .ok (.iconst 0, 1) := by decide +kernel
theorem dX10_freeNode_1 : decode cX10_freeNode 1 = .ok (.istore_n 1, 1) := by decide +kernel
theorem dX10_freeNode_2 : decode cX10_freeNode 2 = .ok (.iload_n 1, 1) := by decide +kernel
theorem dX10_freeNode_3 : decode cX10_freeNode 3 = .ok (.bipush 12, 2) := by decide +kernel
theorem dX10_freeNode_5 : decode cX10_freeNode 5 = .ok (.if_icmp .ge 31, 3) := by decide +kernel
theorem dX10_freeNode_8 : decode cX10_freeNode 8 = .ok (.aload_n 0, 1) := by decide +kernel
theorem dX10_freeNode_9 : decode cX10_freeNode 9 = .ok (.iconst 0, 1) := by decide +kernel
theorem dX10_freeNode_10 : decode cX10_freeNode 10 = .ok (.iload_n 1, 1) := by decide +kernel
theorem dX10_freeNode_11 : decode cX10_freeNode 11 = .ok (.iconst 0, 1) := by decide +kernel
theorem dX10_freeNode_12 : decode cX10_freeNode 12 = .ok (.invokestatic 233, 3) := by decide +kernel
theorem dX10_freeNode_15 : decode cX10_freeNode 15 = .ok (.ifCond .ne 15, 3) := by decide +kernel
theorem dX10_freeNode_18 : decode cX10_freeNode 18 = .ok (.aload_n 0, 1) := by decide +kernel
theorem dX10_freeNode_19 : decode cX10_freeNode 19 = .ok (.iconst 0, 1) := by decide +kernel
theorem dX10_freeNode_20 : decode cX10_freeNode 20 = .ok (.iload_n 1, 1) := by decide +kernel
theorem dX10_freeNode_21 : decode cX10_freeNode 21 = .ok (.iconst 1, 1) := by decide +kernel
theorem dX10_freeNode_22 : decode cX10_freeNode 22 = .ok (.invokestatic 233, 3) := by decide +kernel
theorem dX10_freeNode_25 : decode cX10_freeNode 25 = .ok (.ifCond .ne 5, 3) := by decide +kernel
theorem dX10_freeNode_28 : decode cX10_freeNode 28 = .ok (.iload_n 1, 1) := by decide +kernel
theorem dX10_freeNode_29 : decode cX10_freeNode 29 = .ok (.ireturn, 1) := by decide +kernel
theorem dX10_freeNode_30 : decode cX10_freeNode 30 = .ok (.iinc 1 1, 3) := by decide +kernel
theorem dX10_freeNode_33 : decode cX10_freeNode 33 = .ok (.goto (-31), 3) := by decide +kernel
theorem dX10_freeNode_36 : decode cX10_freeNode 36 = .ok (.iconst (-1), 1) := by decide +kernel
theorem dX10_freeNode_37 : decode cX10_freeNode 37 = .ok (.ireturn, 1) := by decide +kernel
theorem dX10_freeBlock_0 : decode cX10_freeBlock 0 = .ok (.iconst 4, 1) := by decide +kernel
theorem dX10_freeBlock_1 : decode cX10_freeBlock 1 = .ok (.istore_n 2, 1) := by decide +kernel
theorem dX10_freeBlock_2 : decode cX10_freeBlock 2 = .ok (.iload_n 2, 1) := by decide +kernel
theorem dX10_freeBlock_3 : decode cX10_freeBlock 3 = .ok (.aload_n 0, 1) := by decide +kernel
theorem dX10_freeBlock_4 : decode cX10_freeBlock 4 = .ok (.getfield 168, 3) := by decide +kernel
theorem dX10_freeBlock_7 : decode cX10_freeBlock 7 = .ok (.if_icmp .ge 19, 3) := by decide +kernel
theorem dX10_freeBlock_10 : decode cX10_freeBlock 10 = .ok (.aload_n 1, 1) := by decide +kernel
theorem dX10_freeBlock_11 : decode cX10_freeBlock 11 = .ok (.iconst 0, 1) := by decide +kernel
theorem dX10_freeBlock_12 : decode cX10_freeBlock 12 = .ok (.iload_n 2, 1) := by decide +kernel
theorem dX10_freeBlock_13 : decode cX10_freeBlock 13 = .ok (.iadd, 1) := by decide +kernel
theorem dX10_freeBlock_14 : decode cX10_freeBlock 14 = .ok (.iaload, 1) := by decide +kernel
theorem dX10_freeBlock_15 : decode cX10_freeBlock 15 = .ok (.ifCond .ne 5, 3) := by decide +kernel
theorem dX10_freeBlock_18 : decode cX10_freeBlock 18 = .ok (.iload_n 2, 1) := by decide +kernel
theorem dX10_freeBlock_19 : decode cX10_freeBlock 19 = .ok (.ireturn, 1) := by decide +kernel
theorem dX10_freeBlock_20 : decode cX10_freeBlock 20 = .ok (.iinc 2 1, 3) := by decide +kernel
theorem dX10_freeBlock_23 : decode cX10_freeBlock 23 = .ok (.goto (-21), 3) := by decide +kernel
theorem dX10_freeBlock_26 : decode cX10_freeBlock 26 = .ok (.iconst (-1), 1) := by decide +kernel
theorem dX10_freeBlock_27 : decode cX10_freeBlock 27 = .ok (.ireturn, 1) := by decide +kernel
theorem dX10_latest_0 : decode cX10_latest 0 = .ok (.iconst 0, 1) := by decide +kernel
theorem dX10_latest_1 : decode cX10_latest 1 = .ok (.istore_n 3, 1) := by decide +kernel
theorem dX10_latest_2 : decode cX10_latest 2 = .ok (.iconst 0, 1) := by decide +kernel
theorem dX10_latest_3 : decode cX10_latest 3 = .ok (.istore 4, 2) := by decide +kernel
theorem dX10_latest_5 : decode cX10_latest 5 = .ok (.iload 4, 2) := by decide +kernel
theorem dX10_latest_7 : decode cX10_latest 7 = .ok (.aload_n 0, 1) := by decide +kernel
theorem dX10_latest_8 : decode cX10_latest 8 = .ok (.sipush 3392, 3) := by decide +kernel
theorem dX10_latest_11 : decode cX10_latest 11 = .ok (.iaload, 1) := by decide +kernel
theorem dX10_latest_12 : decode cX10_latest 12 = .ok (.if_icmp .ge 47, 3) := by decide +kernel
theorem dX10_latest_15 : decode cX10_latest 15 = .ok (.aload_n 0, 1) := by decide +kernel
theorem dX10_latest_16 : decode cX10_latest 16 = .ok (.iload 4, 2) := by decide +kernel
theorem dX10_latest_18 : decode cX10_latest 18 = .ok (.invokestatic 201, 3) := by decide +kernel
theorem dX10_latest_21 : decode cX10_latest 21 = .ok (.iconst 1, 1) := by decide +kernel
theorem dX10_latest_22 : decode cX10_latest 22 = .ok (.iadd, 1) := by decide +kernel
theorem dX10_latest_23 : decode cX10_latest 23 = .ok (.iaload, 1) := by decide +kernel
theorem dX10_latest_24 : decode cX10_latest 24 = .ok (.iload_n 1, 1) := by decide +kernel
theorem dX10_latest_25 : decode cX10_latest 25 = .ok (.if_icmp .ne 26, 3) := by decide +kernel
theorem dX10_latest_28 : decode cX10_latest 28 = .ok (.aload_n 0, 1) := by decide +kernel
theorem dX10_latest_29 : decode cX10_latest 29 = .ok (.iload 4, 2) := by decide +kernel
theorem dX10_latest_31 : decode cX10_latest 31 = .ok (.invokestatic 201, 3) := by decide +kernel
theorem dX10_latest_34 : decode cX10_latest 34 = .ok (.iconst 2, 1) := by decide +kernel
theorem dX10_latest_35 : decode cX10_latest 35 = .ok (.iadd, 1) := by decide +kernel
theorem dX10_latest_36 : decode cX10_latest 36 = .ok (.iaload, 1) := by decide +kernel
theorem dX10_latest_37 : decode cX10_latest 37 = .ok (.iload_n 2, 1) := by decide +kernel
theorem dX10_latest_38 : decode cX10_latest 38 = .ok (.if_icmp .ne 13, 3) := by decide +kernel
theorem dX10_latest_41 : decode cX10_latest 41 = .ok (.aload_n 0, 1) := by decide +kernel
theorem dX10_latest_42 : decode cX10_latest 42 = .ok (.iload 4, 2) := by decide +kernel
theorem dX10_latest_44 : decode cX10_latest 44 = .ok (.invokestatic 201, 3) := by decide +kernel
theorem dX10_latest_47 : decode cX10_latest 47 = .ok (.iaload, 1) := by decide +kernel
theorem dX10_latest_48 : decode cX10_latest 48 = .ok (.goto 4, 3) := by decide +kernel
theorem dX10_latest_51 : decode cX10_latest 51 = .ok (.iload_n 3, 1) := by decide +kernel
theorem dX10_latest_52 : decode cX10_latest 52 = .ok (.istore_n 3, 1) := by decide +kernel
theorem dX10_latest_53 : decode cX10_latest 53 = .ok (.iinc 4 1, 3) := by decide +kernel
theorem dX10_latest_56 : decode cX10_latest 56 = .ok (.goto (-51), 3) := by decide +kernel
theorem dX10_latest_59 : decode cX10_latest 59 = .ok (.iload_n 3, 1) := by decide +kernel
theorem dX10_latest_60 : decode cX10_latest 60 = .ok (.ireturn, 1) := by decide +kernel
theorem dX10_names_0 : decode cX10_names 0 = .ok (.iload_n 1, 1) := by decide +kernel
theorem dX10_names_1 : decode cX10_names 1 = .ok (.bipush 16, 2) := by decide +kernel
theorem dX10_names_3 : decode cX10_names 3 = .ok (.idiv, 1) := by decide +kernel
theorem dX10_names_4 : decode cX10_names 4 = .ok (.istore 7, 2) := by decide +kernel
theorem dX10_names_6 : decode cX10_names 6 = .ok (.iload_n 1, 1) := by decide +kernel
theorem dX10_names_7 : decode cX10_names 7 = .ok (.bipush 16, 2) := by decide +kernel
theorem dX10_names_9 : decode cX10_names 9 = .ok (.irem, 1) := by decide +kernel
theorem dX10_names_10 : decode cX10_names 10 = .ok (.istore 8, 2) := by decide +kernel
theorem dX10_names_12 : decode cX10_names 12 = .ok (.aload_n 0, 1) := by decide +kernel
theorem dX10_names_13 : decode cX10_names 13 = .ok (.iload 7, 2) := by decide +kernel
theorem dX10_names_15 : decode cX10_names 15 = .ok (.iload 8, 2) := by decide +kernel
theorem dX10_names_17 : decode cX10_names 17 = .ok (.iconst 1, 1) := by decide +kernel
theorem dX10_names_18 : decode cX10_names 18 = .ok (.iadd, 1) := by decide +kernel
theorem dX10_names_19 : decode cX10_names 19 = .ok (.iload_n 3, 1) := by decide +kernel
theorem dX10_names_20 : decode cX10_names 20 = .ok (.aload_n 0, 1) := by decide +kernel
theorem dX10_names_21 : decode cX10_names 21 = .ok (.iload 7, 2) := by decide +kernel
theorem dX10_names_23 : decode cX10_names 23 = .ok (.iload 8, 2) := by decide +kernel
theorem dX10_names_25 : decode cX10_names 25 = .ok (.invokestatic 282, 3) := by decide +kernel
theorem dX10_names_28 : decode cX10_names 28 = .ok (.iconst 0, 1) := by decide +kernel
theorem dX10_names_29 : decode cX10_names 29 = .ok (.iconst 0, 1) := by decide +kernel
theorem dX10_names_30 : decode cX10_names 30 = .ok (.iconst 0, 1) := by decide +kernel
theorem dX10_names_31 : decode cX10_names 31 = .ok (.invokestatic 204, 3) := by decide +kernel
theorem dX10_names_34 : decode cX10_names 34 = .ok (.istore 9, 2) := by decide +kernel
theorem dX10_names_36 : decode cX10_names 36 = .ok (.aload_n 0, 1) := by decide +kernel
theorem dX10_names_37 : decode cX10_names 37 = .ok (.iload 7, 2) := by decide +kernel
theorem dX10_names_39 : decode cX10_names 39 = .ok (.iload 8, 2) := by decide +kernel
theorem dX10_names_41 : decode cX10_names 41 = .ok (.iload_n 2, 1) := by decide +kernel
theorem dX10_names_42 : decode cX10_names 42 = .ok (.iload 4, 2) := by decide +kernel
theorem dX10_names_44 : decode cX10_names 44 = .ok (.iload 5, 2) := by decide +kernel
theorem dX10_names_46 : decode cX10_names 46 = .ok (.iload 6, 2) := by decide +kernel
theorem dX10_names_48 : decode cX10_names 48 = .ok (.iload 9, 2) := by decide +kernel
theorem dX10_names_50 : decode cX10_names 50 = .ok (.invokestatic 204, 3) := by decide +kernel
theorem dX10_names_53 : decode cX10_names 53 = .ok (.pop, 1) := by decide +kernel
theorem dX10_names_54 : decode cX10_names 54 = .ok (.return_, 1) := by decide +kernel
theorem dX10_begins_0 : decode cX10_begins 0 = .ok (.aload_n 1, 1) := by decide +kernel
theorem dX10_begins_1 : decode cX10_begins 1 = .ok (.invokestatic 285, 3) := by decide +kernel
theorem dX10_begins_4 : decode cX10_begins 4 = .ok (.istore 5, 2) := by decide +kernel
theorem dX10_begins_6 : decode cX10_begins 6 = .ok (.aload_n 0, 1) := by decide +kernel
theorem dX10_begins_7 : decode cX10_begins 7 = .ok (.aload_n 1, 1) := by decide +kernel
theorem dX10_begins_8 : decode cX10_begins 8 = .ok (.invokevirtual 289, 3) := by decide +kernel
theorem dX10_begins_11 : decode cX10_begins 11 = .ok (.istore 6, 2) := by decide +kernel
theorem dX10_begins_13 : decode cX10_begins 13 = .ok (.aload_n 0, 1) := by decide +kernel
theorem dX10_begins_14 : decode cX10_begins 14 = .ok (.aload_n 1, 1) := by decide +kernel
theorem dX10_begins_15 : decode cX10_begins 15 = .ok (.iload_n 2, 1) := by decide +kernel
theorem dX10_begins_16 : decode cX10_begins 16 = .ok (.iload_n 3, 1) := by decide +kernel
theorem dX10_begins_17 : decode cX10_begins 17 = .ok (.invokevirtual 292, 3) := by decide +kernel
theorem dX10_begins_20 : decode cX10_begins 20 = .ok (.ifCond .eq 21, 3) := by decide +kernel
theorem dX10_begins_23 : decode cX10_begins 23 = .ok (.iload 5, 2) := by decide +kernel
theorem dX10_begins_25 : decode cX10_begins 25 = .ok (.iconst (-1), 1) := by decide +kernel
theorem dX10_begins_26 : decode cX10_begins 26 = .ok (.if_icmp .eq 15, 3) := by decide +kernel
theorem dX10_begins_29 : decode cX10_begins 29 = .ok (.iload 4, 2) := by decide +kernel
theorem dX10_begins_31 : decode cX10_begins 31 = .ok (.iconst 2, 1) := by decide +kernel
theorem dX10_begins_32 : decode cX10_begins 32 = .ok (.if_icmp .ne 11, 3) := by decide +kernel
theorem dX10_begins_35 : decode cX10_begins 35 = .ok (.iload 6, 2) := by decide +kernel
theorem dX10_begins_37 : decode cX10_begins 37 = .ok (.iconst (-1), 1) := by decide +kernel
theorem dX10_begins_38 : decode cX10_begins 38 = .ok (.if_icmp .ne 5, 3) := by decide +kernel
theorem dX10_begins_41 : decode cX10_begins 41 = .ok (.iconst 0, 1) := by decide +kernel
theorem dX10_begins_42 : decode cX10_begins 42 = .ok (.ireturn, 1) := by decide +kernel
theorem dX10_begins_43 : decode cX10_begins 43 = .ok (.aload_n 1, 1) := by decide +kernel
theorem dX10_begins_44 : decode cX10_begins 44 = .ok (.iconst 0, 1) := by decide +kernel
theorem dX10_begins_45 : decode cX10_begins 45 = .ok (.iload_n 2, 1) := by decide +kernel
theorem dX10_begins_46 : decode cX10_begins 46 = .ok (.iconst 0, 1) := by decide +kernel
theorem dX10_begins_47 : decode cX10_begins 47 = .ok (.invokestatic 279, 3) := by decide +kernel
theorem dX10_begins_50 : decode cX10_begins 50 = .ok (.istore 7, 2) := by decide +kernel
theorem dX10_begins_52 : decode cX10_begins 52 = .ok (.aload_n 1, 1) := by decide +kernel
theorem dX10_begins_53 : decode cX10_begins 53 = .ok (.iload 5, 2) := by decide +kernel
theorem dX10_begins_55 : decode cX10_begins 55 = .ok (.iconst 0, 1) := by decide +kernel
theorem dX10_begins_56 : decode cX10_begins 56 = .ok (.iconst 1, 1) := by decide +kernel
theorem dX10_begins_57 : decode cX10_begins 57 = .ok (.iconst 0, 1) := by decide +kernel
theorem dX10_begins_58 : decode cX10_begins 58 = .ok (.iconst 0, 1) := by decide +kernel
theorem dX10_begins_59 : decode cX10_begins 59 = .ok (.invokestatic 237, 3) := by decide +kernel
theorem dX10_begins_62 : decode cX10_begins 62 = .ok (.istore 8, 2) := by decide +kernel
theorem dX10_begins_64 : decode cX10_begins 64 = .ok (.aload_n 1, 1) := by decide +kernel
theorem dX10_begins_65 : decode cX10_begins 65 = .ok (.iload 5, 2) := by decide +kernel
theorem dX10_begins_67 : decode cX10_begins 67 = .ok (.iconst 1, 1) := by decide +kernel
theorem dX10_begins_68 : decode cX10_begins 68 = .ok (.iload 4, 2) := by decide +kernel
theorem dX10_begins_70 : decode cX10_begins 70 = .ok (.iconst 0, 1) := by decide +kernel
theorem dX10_begins_71 : decode cX10_begins 71 = .ok (.iconst 0, 1) := by decide +kernel
theorem dX10_begins_72 : decode cX10_begins 72 = .ok (.invokestatic 237, 3) := by decide +kernel
theorem dX10_begins_75 : decode cX10_begins 75 = .ok (.istore 9, 2) := by decide +kernel
theorem dX10_begins_77 : decode cX10_begins 77 = .ok (.iload 4, 2) := by decide +kernel
theorem dX10_begins_79 : decode cX10_begins 79 = .ok (.iconst 2, 1) := by decide +kernel
theorem dX10_begins_80 : decode cX10_begins 80 = .ok (.if_icmp .ne 16, 3) := by decide +kernel
theorem dX10_begins_83 : decode cX10_begins 83 = .ok (.aload_n 1, 1) := by decide +kernel
theorem dX10_begins_84 : decode cX10_begins 84 = .ok (.iload 5, 2) := by decide +kernel
theorem dX10_begins_86 : decode cX10_begins 86 = .ok (.iload 6, 2) := by decide +kernel
theorem dX10_begins_88 : decode cX10_begins 88 = .ok (.iconst 2, 1) := by decide +kernel
theorem dX10_begins_89 : decode cX10_begins 89 = .ok (.iconst 0, 1) := by decide +kernel
theorem dX10_begins_90 : decode cX10_begins 90 = .ok (.invokestatic 295, 3) := by decide +kernel
theorem dX10_begins_93 : decode cX10_begins 93 = .ok (.goto 4, 3) := by decide +kernel
theorem dX10_begins_96 : decode cX10_begins 96 = .ok (.iconst 0, 1) := by decide +kernel
theorem dX10_begins_97 : decode cX10_begins 97 = .ok (.istore 10, 2) := by decide +kernel
theorem dX10_begins_99 : decode cX10_begins 99 = .ok (.aload_n 1, 1) := by decide +kernel
theorem dX10_begins_100 : decode cX10_begins 100 = .ok (.iload 7, 2) := by decide +kernel
theorem dX10_begins_102 : decode cX10_begins 102 = .ok (.iload_n 3, 1) := by decide +kernel
theorem dX10_begins_103 : decode cX10_begins 103 = .ok (.iload 5, 2) := by decide +kernel
theorem dX10_begins_105 : decode cX10_begins 105 = .ok (.iload 8, 2) := by decide +kernel
theorem dX10_begins_107 : decode cX10_begins 107 = .ok (.iload 9, 2) := by decide +kernel
theorem dX10_begins_109 : decode cX10_begins 109 = .ok (.iload 10, 2) := by decide +kernel
theorem dX10_begins_111 : decode cX10_begins 111 = .ok (.invokestatic 299, 3) := by decide +kernel
theorem dX10_begins_114 : decode cX10_begins 114 = .ok (.iconst 1, 1) := by decide +kernel
theorem dX10_begins_115 : decode cX10_begins 115 = .ok (.ireturn, 1) := by decide +kernel
theorem dX10_gets_0 : decode cX10_gets 0 = .ok (.aload_n 0, 1) := by decide +kernel
theorem dX10_gets_1 : decode cX10_gets 1 = .ok (.iconst 0, 1) := by decide +kernel
theorem dX10_gets_2 : decode cX10_gets 2 = .ok (.iload_n 2, 1) := by decide +kernel
theorem dX10_gets_3 : decode cX10_gets 3 = .ok (.iconst 1, 1) := by decide +kernel
theorem dX10_gets_4 : decode cX10_gets 4 = .ok (.invokestatic 252, 3) := by decide +kernel
theorem dX10_gets_7 : decode cX10_gets 7 = .ok (.istore 5, 2) := by decide +kernel
theorem dX10_gets_9 : decode cX10_gets 9 = .ok (.aload_n 0, 1) := by decide +kernel
theorem dX10_gets_10 : decode cX10_gets 10 = .ok (.iload_n 2, 1) := by decide +kernel
theorem dX10_gets_11 : decode cX10_gets 11 = .ok (.bipush 16, 2) := by decide +kernel
theorem dX10_gets_13 : decode cX10_gets 13 = .ok (.iload 4, 2) := by decide +kernel
theorem dX10_gets_15 : decode cX10_gets 15 = .ok (.invokestatic 252, 3) := by decide +kernel
theorem dX10_gets_18 : decode cX10_gets 18 = .ok (.istore 6, 2) := by decide +kernel
theorem dX10_gets_20 : decode cX10_gets 20 = .ok (.aload_n 0, 1) := by decide +kernel
theorem dX10_gets_21 : decode cX10_gets 21 = .ok (.iload_n 1, 1) := by decide +kernel
theorem dX10_gets_22 : decode cX10_gets 22 = .ok (.iload_n 3, 1) := by decide +kernel
theorem dX10_gets_23 : decode cX10_gets 23 = .ok (.iload_n 2, 1) := by decide +kernel
theorem dX10_gets_24 : decode cX10_gets 24 = .ok (.iload 5, 2) := by decide +kernel
theorem dX10_gets_26 : decode cX10_gets 26 = .ok (.iload 6, 2) := by decide +kernel
theorem dX10_gets_28 : decode cX10_gets 28 = .ok (.ifCond .ne 8, 3) := by decide +kernel
theorem dX10_gets_31 : decode cX10_gets 31 = .ok (.iload_n 2, 1) := by decide +kernel
theorem dX10_gets_32 : decode cX10_gets 32 = .ok (.ineg, 1) := by decide +kernel
theorem dX10_gets_33 : decode cX10_gets 33 = .ok (.goto 5, 3) := by decide +kernel
theorem dX10_gets_36 : decode cX10_gets 36 = .ok (.iload 6, 2) := by decide +kernel
theorem dX10_gets_38 : decode cX10_gets 38 = .ok (.invokestatic 237, 3) := by decide +kernel
theorem dX10_gets_41 : decode cX10_gets 41 = .ok (.ireturn, 1) := by decide +kernel
theorem dX10_links_0 : decode cX10_links 0 = .ok (.aload_n 1, 1) := by decide +kernel
theorem dX10_links_1 : decode cX10_links 1 = .ok (.iconst 0, 1) := by decide +kernel
theorem dX10_links_2 : decode cX10_links 2 = .ok (.iload 4, 2) := by decide +kernel
theorem dX10_links_4 : decode cX10_links 4 = .ok (.iconst 0, 1) := by decide +kernel
theorem dX10_links_5 : decode cX10_links 5 = .ok (.invokestatic 233, 3) := by decide +kernel
theorem dX10_links_8 : decode cX10_links 8 = .ok (.istore 5, 2) := by decide +kernel
theorem dX10_links_10 : decode cX10_links 10 = .ok (.aload_n 1, 1) := by decide +kernel
theorem dX10_links_11 : decode cX10_links 11 = .ok (.iconst 0, 1) := by decide +kernel
theorem dX10_links_12 : decode cX10_links 12 = .ok (.iload 4, 2) := by decide +kernel
theorem dX10_links_14 : decode cX10_links 14 = .ok (.iconst 1, 1) := by decide +kernel
theorem dX10_links_15 : decode cX10_links 15 = .ok (.invokestatic 273, 3) := by decide +kernel
theorem dX10_links_18 : decode cX10_links 18 = .ok (.ifCond .eq 20, 3) := by decide +kernel
theorem dX10_links_21 : decode cX10_links 21 = .ok (.iload 5, 2) := by decide +kernel
theorem dX10_links_23 : decode cX10_links 23 = .ok (.bipush 8, 2) := by decide +kernel
theorem dX10_links_25 : decode cX10_links 25 = .ok (.if_icmp .gt 13, 3) := by decide +kernel
theorem dX10_links_28 : decode cX10_links 28 = .ok (.aload_n 0, 1) := by decide +kernel
theorem dX10_links_29 : decode cX10_links 29 = .ok (.aload_n 1, 1) := by decide +kernel
theorem dX10_links_30 : decode cX10_links 30 = .ok (.iload_n 2, 1) := by decide +kernel
theorem dX10_links_31 : decode cX10_links 31 = .ok (.iload_n 3, 1) := by decide +kernel
theorem dX10_links_32 : decode cX10_links 32 = .ok (.invokevirtual 292, 3) := by decide +kernel
theorem dX10_links_35 : decode cX10_links 35 = .ok (.ifCond .ne 5, 3) := by decide +kernel
theorem dX10_links_38 : decode cX10_links 38 = .ok (.iconst 0, 1) := by decide +kernel
theorem dX10_links_39 : decode cX10_links 39 = .ok (.ireturn, 1) := by decide +kernel
theorem dX10_links_40 : decode cX10_links 40 = .ok (.aload_n 1, 1) := by decide +kernel
theorem dX10_links_41 : decode cX10_links 41 = .ok (.iconst 0, 1) := by decide +kernel
theorem dX10_links_42 : decode cX10_links 42 = .ok (.iload_n 2, 1) := by decide +kernel
theorem dX10_links_43 : decode cX10_links 43 = .ok (.iconst 0, 1) := by decide +kernel
theorem dX10_links_44 : decode cX10_links 44 = .ok (.invokestatic 279, 3) := by decide +kernel
theorem dX10_links_47 : decode cX10_links 47 = .ok (.istore 6, 2) := by decide +kernel
theorem dX10_links_49 : decode cX10_links 49 = .ok (.aload_n 1, 1) := by decide +kernel
theorem dX10_links_50 : decode cX10_links 50 = .ok (.iload 4, 2) := by decide +kernel
theorem dX10_links_52 : decode cX10_links 52 = .ok (.iconst 0, 1) := by decide +kernel
theorem dX10_links_53 : decode cX10_links 53 = .ok (.iload 5, 2) := by decide +kernel
theorem dX10_links_55 : decode cX10_links 55 = .ok (.iconst 1, 1) := by decide +kernel
theorem dX10_links_56 : decode cX10_links 56 = .ok (.iadd, 1) := by decide +kernel
theorem dX10_links_57 : decode cX10_links 57 = .ok (.iconst 0, 1) := by decide +kernel
theorem dX10_links_58 : decode cX10_links 58 = .ok (.iconst 0, 1) := by decide +kernel
theorem dX10_links_59 : decode cX10_links 59 = .ok (.invokestatic 237, 3) := by decide +kernel
theorem dX10_links_62 : decode cX10_links 62 = .ok (.istore 7, 2) := by decide +kernel
theorem dX10_links_64 : decode cX10_links 64 = .ok (.aload_n 1, 1) := by decide +kernel
theorem dX10_links_65 : decode cX10_links 65 = .ok (.iload 6, 2) := by decide +kernel
theorem dX10_links_67 : decode cX10_links 67 = .ok (.iload_n 3, 1) := by decide +kernel
theorem dX10_links_68 : decode cX10_links 68 = .ok (.iload 4, 2) := by decide +kernel
theorem dX10_links_70 : decode cX10_links 70 = .ok (.iload 7, 2) := by decide +kernel
theorem dX10_links_72 : decode cX10_links 72 = .ok (.iconst 0, 1) := by decide +kernel
theorem dX10_links_73 : decode cX10_links 73 = .ok (.iconst 0, 1) := by decide +kernel
theorem dX10_links_74 : decode cX10_links 74 = .ok (.invokestatic 299, 3) := by decide +kernel
theorem dX10_links_77 : decode cX10_links 77 = .ok (.iconst 1, 1) := by decide +kernel
theorem dX10_links_78 : decode cX10_links 78 = .ok (.ireturn, 1) := by decide +kernel
theorem dX10_grows_0 : decode cX10_grows 0 = .ok (.aload_n 0, 1) := by decide +kernel
theorem dX10_grows_1 : decode cX10_grows 1 = .ok (.aload_n 1, 1) := by decide +kernel
theorem dX10_grows_2 : decode cX10_grows 2 = .ok (.invokevirtual 289, 3) := by decide +kernel
theorem dX10_grows_5 : decode cX10_grows 5 = .ok (.istore 4, 2) := by decide +kernel
theorem dX10_grows_7 : decode cX10_grows 7 = .ok (.aload_n 1, 1) := by decide +kernel
theorem dX10_grows_8 : decode cX10_grows 8 = .ok (.iconst 0, 1) := by decide +kernel
theorem dX10_grows_9 : decode cX10_grows 9 = .ok (.iload_n 2, 1) := by decide +kernel
theorem dX10_grows_10 : decode cX10_grows 10 = .ok (.iconst 2, 1) := by decide +kernel
theorem dX10_grows_11 : decode cX10_grows 11 = .ok (.invokestatic 233, 3) := by decide +kernel
theorem dX10_grows_14 : decode cX10_grows 14 = .ok (.istore 5, 2) := by decide +kernel
theorem dX10_grows_16 : decode cX10_grows 16 = .ok (.aload_n 1, 1) := by decide +kernel
theorem dX10_grows_17 : decode cX10_grows 17 = .ok (.iconst 0, 1) := by decide +kernel
theorem dX10_grows_18 : decode cX10_grows 18 = .ok (.iload_n 2, 1) := by decide +kernel
theorem dX10_grows_19 : decode cX10_grows 19 = .ok (.iconst 0, 1) := by decide +kernel
theorem dX10_grows_20 : decode cX10_grows 20 = .ok (.invokestatic 233, 3) := by decide +kernel
theorem dX10_grows_23 : decode cX10_grows 23 = .ok (.ifCond .eq 24, 3) := by decide +kernel
theorem dX10_grows_26 : decode cX10_grows 26 = .ok (.iload 4, 2) := by decide +kernel
theorem dX10_grows_28 : decode cX10_grows 28 = .ok (.iconst (-1), 1) := by decide +kernel
theorem dX10_grows_29 : decode cX10_grows 29 = .ok (.if_icmp .eq 18, 3) := by decide +kernel
theorem dX10_grows_32 : decode cX10_grows 32 = .ok (.iload 5, 2) := by decide +kernel
theorem dX10_grows_34 : decode cX10_grows 34 = .ok (.ifCond .eq 15, 3) := by decide +kernel
theorem dX10_grows_37 : decode cX10_grows 37 = .ok (.aload_n 1, 1) := by decide +kernel
theorem dX10_grows_38 : decode cX10_grows 38 = .ok (.iconst 0, 1) := by decide +kernel
theorem dX10_grows_39 : decode cX10_grows 39 = .ok (.iload_n 2, 1) := by decide +kernel
theorem dX10_grows_40 : decode cX10_grows 40 = .ok (.iconst 3, 1) := by decide +kernel
theorem dX10_grows_41 : decode cX10_grows 41 = .ok (.invokestatic 233, 3) := by decide +kernel
theorem dX10_grows_44 : decode cX10_grows 44 = .ok (.ifCond .eq 5, 3) := by decide +kernel
theorem dX10_grows_47 : decode cX10_grows 47 = .ok (.iconst 0, 1) := by decide +kernel
theorem dX10_grows_48 : decode cX10_grows 48 = .ok (.ireturn, 1) := by decide +kernel
theorem dX10_grows_49 : decode cX10_grows 49 = .ok (.aload_n 1, 1) := by decide +kernel
theorem dX10_grows_50 : decode cX10_grows 50 = .ok (.iload_n 2, 1) := by decide +kernel
theorem dX10_grows_51 : decode cX10_grows 51 = .ok (.iload 4, 2) := by decide +kernel
theorem dX10_grows_53 : decode cX10_grows 53 = .ok (.iload 5, 2) := by decide +kernel
theorem dX10_grows_55 : decode cX10_grows 55 = .ok (.ifCond .ne 7, 3) := by decide +kernel
theorem dX10_grows_58 : decode cX10_grows 58 = .ok (.iconst 2, 1) := by decide +kernel
theorem dX10_grows_59 : decode cX10_grows 59 = .ok (.goto 4, 3) := by decide +kernel
theorem dX10_grows_62 : decode cX10_grows 62 = .ok (.iconst 3, 1) := by decide +kernel
theorem dX10_grows_63 : decode cX10_grows 63 = .ok (.aload_n 1, 1) := by decide +kernel
theorem dX10_grows_64 : decode cX10_grows 64 = .ok (.iconst 0, 1) := by decide +kernel
theorem dX10_grows_65 : decode cX10_grows 65 = .ok (.iload_n 2, 1) := by decide +kernel
theorem dX10_grows_66 : decode cX10_grows 66 = .ok (.iconst 1, 1) := by decide +kernel
theorem dX10_grows_67 : decode cX10_grows 67 = .ok (.invokestatic 233, 3) := by decide +kernel
theorem dX10_grows_70 : decode cX10_grows 70 = .ok (.iconst 2, 1) := by decide +kernel
theorem dX10_grows_71 : decode cX10_grows 71 = .ok (.if_icmp .ne 7, 3) := by decide +kernel
theorem dX10_grows_74 : decode cX10_grows 74 = .ok (.iconst 0, 1) := by decide +kernel
theorem dX10_grows_75 : decode cX10_grows 75 = .ok (.goto 4, 3) := by decide +kernel
theorem dX10_grows_78 : decode cX10_grows 78 = .ok (.iload_n 3, 1) := by decide +kernel
theorem dX10_grows_79 : decode cX10_grows 79 = .ok (.invokestatic 295, 3) := by decide +kernel
theorem dX10_grows_82 : decode cX10_grows 82 = .ok (.pop, 1) := by decide +kernel
theorem dX10_grows_83 : decode cX10_grows 83 = .ok (.iconst 1, 1) := by decide +kernel
theorem dX10_grows_84 : decode cX10_grows 84 = .ok (.ireturn, 1) := by decide +kernel
theorem dX10_setsByte_0 : decode cX10_setsByte 0 = .ok (.aload_n 0, 1) := by decide +kernel
theorem dX10_setsByte_1 : decode cX10_setsByte 1 = .ok (.iconst 0, 1) := by decide +kernel
theorem dX10_setsByte_2 : decode cX10_setsByte 2 = .ok (.iload_n 1, 1) := by decide +kernel
theorem dX10_setsByte_3 : decode cX10_setsByte 3 = .ok (.iload_n 2, 1) := by decide +kernel
theorem dX10_setsByte_4 : decode cX10_setsByte 4 = .ok (.bipush 16, 2) := by decide +kernel
theorem dX10_setsByte_6 : decode cX10_setsByte 6 = .ok (.if_icmp .ge 7, 3) := by decide +kernel
theorem dX10_setsByte_9 : decode cX10_setsByte 9 = .ok (.iconst 2, 1) := by decide +kernel
theorem dX10_setsByte_10 : decode cX10_setsByte 10 = .ok (.goto 4, 3) := by decide +kernel
theorem dX10_setsByte_13 : decode cX10_setsByte 13 = .ok (.iconst 3, 1) := by decide +kernel
theorem dX10_setsByte_14 : decode cX10_setsByte 14 = .ok (.invokestatic 233, 3) := by decide +kernel
theorem dX10_setsByte_17 : decode cX10_setsByte 17 = .ok (.istore 4, 2) := by decide +kernel
theorem dX10_setsByte_19 : decode cX10_setsByte 19 = .ok (.aload_n 0, 1) := by decide +kernel
theorem dX10_setsByte_20 : decode cX10_setsByte 20 = .ok (.iconst 0, 1) := by decide +kernel
theorem dX10_setsByte_21 : decode cX10_setsByte 21 = .ok (.iload_n 1, 1) := by decide +kernel
theorem dX10_setsByte_22 : decode cX10_setsByte 22 = .ok (.iconst 1, 1) := by decide +kernel
theorem dX10_setsByte_23 : decode cX10_setsByte 23 = .ok (.invokestatic 273, 3) := by decide +kernel
theorem dX10_setsByte_26 : decode cX10_setsByte 26 = .ok (.ifCond .eq 26, 3) := by decide +kernel
theorem dX10_setsByte_29 : decode cX10_setsByte 29 = .ok (.iload 4, 2) := by decide +kernel
theorem dX10_setsByte_31 : decode cX10_setsByte 31 = .ok (.ifCond .eq 21, 3) := by decide +kernel
theorem dX10_setsByte_34 : decode cX10_setsByte 34 = .ok (.aload_n 0, 1) := by decide +kernel
theorem dX10_setsByte_35 : decode cX10_setsByte 35 = .ok (.iload 4, 2) := by decide +kernel
theorem dX10_setsByte_37 : decode cX10_setsByte 37 = .ok (.iload_n 2, 1) := by decide +kernel
theorem dX10_setsByte_38 : decode cX10_setsByte 38 = .ok (.bipush 16, 2) := by decide +kernel
theorem dX10_setsByte_40 : decode cX10_setsByte 40 = .ok (.irem, 1) := by decide +kernel
theorem dX10_setsByte_41 : decode cX10_setsByte 41 = .ok (.iload_n 3, 1) := by decide +kernel
theorem dX10_setsByte_42 : decode cX10_setsByte 42 = .ok (.invokestatic 252, 3) := by decide +kernel
theorem dX10_setsByte_45 : decode cX10_setsByte 45 = .ok (.ifCond .eq 7, 3) := by decide +kernel
theorem dX10_setsByte_48 : decode cX10_setsByte 48 = .ok (.iconst 1, 1) := by decide +kernel
theorem dX10_setsByte_49 : decode cX10_setsByte 49 = .ok (.goto 4, 3) := by decide +kernel
theorem dX10_setsByte_52 : decode cX10_setsByte 52 = .ok (.iconst 0, 1) := by decide +kernel
theorem dX10_setsByte_53 : decode cX10_setsByte 53 = .ok (.ireturn, 1) := by decide +kernel
theorem dX10_cuts_0 : decode cX10_cuts 0 = .ok (.aload_n 0, 1) := by decide +kernel
theorem dX10_cuts_1 : decode cX10_cuts 1 = .ok (.iconst 0, 1) := by decide +kernel
theorem dX10_cuts_2 : decode cX10_cuts 2 = .ok (.iload_n 1, 1) := by decide +kernel
theorem dX10_cuts_3 : decode cX10_cuts 3 = .ok (.iconst 3, 1) := by decide +kernel
theorem dX10_cuts_4 : decode cX10_cuts 4 = .ok (.invokestatic 233, 3) := by decide +kernel
theorem dX10_cuts_7 : decode cX10_cuts 7 = .ok (.ifCond .eq 7, 3) := by decide +kernel
theorem dX10_cuts_10 : decode cX10_cuts 10 = .ok (.iconst 3, 1) := by decide +kernel
theorem dX10_cuts_11 : decode cX10_cuts 11 = .ok (.goto 4, 3) := by decide +kernel
theorem dX10_cuts_14 : decode cX10_cuts 14 = .ok (.iconst 2, 1) := by decide +kernel
theorem dX10_cuts_15 : decode cX10_cuts 15 = .ok (.istore_n 2, 1) := by decide +kernel
theorem dX10_cuts_16 : decode cX10_cuts 16 = .ok (.aload_n 0, 1) := by decide +kernel
theorem dX10_cuts_17 : decode cX10_cuts 17 = .ok (.iconst 0, 1) := by decide +kernel
theorem dX10_cuts_18 : decode cX10_cuts 18 = .ok (.iload_n 1, 1) := by decide +kernel
theorem dX10_cuts_19 : decode cX10_cuts 19 = .ok (.iload_n 2, 1) := by decide +kernel
theorem dX10_cuts_20 : decode cX10_cuts 20 = .ok (.invokestatic 233, 3) := by decide +kernel
theorem dX10_cuts_23 : decode cX10_cuts 23 = .ok (.istore_n 3, 1) := by decide +kernel
theorem dX10_cuts_24 : decode cX10_cuts 24 = .ok (.aload_n 0, 1) := by decide +kernel
theorem dX10_cuts_25 : decode cX10_cuts 25 = .ok (.iconst 0, 1) := by decide +kernel
theorem dX10_cuts_26 : decode cX10_cuts 26 = .ok (.iload_n 1, 1) := by decide +kernel
theorem dX10_cuts_27 : decode cX10_cuts 27 = .ok (.iconst 1, 1) := by decide +kernel
theorem dX10_cuts_28 : decode cX10_cuts 28 = .ok (.invokestatic 273, 3) := by decide +kernel
theorem dX10_cuts_31 : decode cX10_cuts 31 = .ok (.ifCond .eq 7, 3) := by decide +kernel
theorem dX10_cuts_34 : decode cX10_cuts 34 = .ok (.iload_n 3, 1) := by decide +kernel
theorem dX10_cuts_35 : decode cX10_cuts 35 = .ok (.ifCond .ne 5, 3) := by decide +kernel
theorem dX10_cuts_38 : decode cX10_cuts 38 = .ok (.iconst 0, 1) := by decide +kernel
theorem dX10_cuts_39 : decode cX10_cuts 39 = .ok (.ireturn, 1) := by decide +kernel
theorem dX10_cuts_40 : decode cX10_cuts 40 = .ok (.aload_n 0, 1) := by decide +kernel
theorem dX10_cuts_41 : decode cX10_cuts 41 = .ok (.iconst 0, 1) := by decide +kernel
theorem dX10_cuts_42 : decode cX10_cuts 42 = .ok (.iload_n 3, 1) := by decide +kernel
theorem dX10_cuts_43 : decode cX10_cuts 43 = .ok (.aload_n 0, 1) := by decide +kernel
theorem dX10_cuts_44 : decode cX10_cuts 44 = .ok (.iload_n 1, 1) := by decide +kernel
theorem dX10_cuts_45 : decode cX10_cuts 45 = .ok (.iload_n 2, 1) := by decide +kernel
theorem dX10_cuts_46 : decode cX10_cuts 46 = .ok (.iconst 0, 1) := by decide +kernel
theorem dX10_cuts_47 : decode cX10_cuts 47 = .ok (.iconst 0, 1) := by decide +kernel
theorem dX10_cuts_48 : decode cX10_cuts 48 = .ok (.iconst 0, 1) := by decide +kernel
theorem dX10_cuts_49 : decode cX10_cuts 49 = .ok (.invokestatic 237, 3) := by decide +kernel
theorem dX10_cuts_52 : decode cX10_cuts 52 = .ok (.invokestatic 245, 3) := by decide +kernel
theorem dX10_cuts_55 : decode cX10_cuts 55 = .ok (.iconst 1, 1) := by decide +kernel
theorem dX10_cuts_56 : decode cX10_cuts 56 = .ok (.ireturn, 1) := by decide +kernel
theorem dX10_hasNames_0 : decode cX10_hasNames 0 = .ok (.iconst 0, 1) := by decide +kernel
theorem dX10_hasNames_1 : decode cX10_hasNames 1 = .ok (.istore_n 3, 1) := by decide +kernel
theorem dX10_hasNames_2 : decode cX10_hasNames 2 = .ok (.aload_n 0, 1) := by decide +kernel
theorem dX10_hasNames_3 : decode cX10_hasNames 3 = .ok (.iload_n 1, 1) := by decide +kernel
theorem dX10_hasNames_4 : decode cX10_hasNames 4 = .ok (.iload_n 2, 1) := by decide +kernel
theorem dX10_hasNames_5 : decode cX10_hasNames 5 = .ok (.iload_n 3, 1) := by decide +kernel
theorem dX10_hasNames_6 : decode cX10_hasNames 6 = .ok (.invokestatic 270, 3) := by decide +kernel
theorem dX10_hasNames_9 : decode cX10_hasNames 9 = .ok (.iconst (-1), 1) := by decide +kernel
theorem dX10_hasNames_10 : decode cX10_hasNames 10 = .ok (.if_icmp .eq 25, 3) := by decide +kernel
theorem dX10_hasNames_13 : decode cX10_hasNames 13 = .ok (.aload_n 0, 1) := by decide +kernel
theorem dX10_hasNames_14 : decode cX10_hasNames 14 = .ok (.iload_n 1, 1) := by decide +kernel
theorem dX10_hasNames_15 : decode cX10_hasNames 15 = .ok (.aload_n 0, 1) := by decide +kernel
theorem dX10_hasNames_16 : decode cX10_hasNames 16 = .ok (.iload_n 1, 1) := by decide +kernel
theorem dX10_hasNames_17 : decode cX10_hasNames 17 = .ok (.iload_n 2, 1) := by decide +kernel
theorem dX10_hasNames_18 : decode cX10_hasNames 18 = .ok (.iload_n 3, 1) := by decide +kernel
theorem dX10_hasNames_19 : decode cX10_hasNames 19 = .ok (.invokestatic 270, 3) := by decide +kernel
theorem dX10_hasNames_22 : decode cX10_hasNames 22 = .ok (.iadd, 1) := by decide +kernel
theorem dX10_hasNames_23 : decode cX10_hasNames 23 = .ok (.iaload, 1) := by decide +kernel
theorem dX10_hasNames_24 : decode cX10_hasNames 24 = .ok (.ifCond .eq 5, 3) := by decide +kernel
theorem dX10_hasNames_27 : decode cX10_hasNames 27 = .ok (.iconst 1, 1) := by decide +kernel
theorem dX10_hasNames_28 : decode cX10_hasNames 28 = .ok (.ireturn, 1) := by decide +kernel
theorem dX10_hasNames_29 : decode cX10_hasNames 29 = .ok (.iinc 3 1, 3) := by decide +kernel
theorem dX10_hasNames_32 : decode cX10_hasNames 32 = .ok (.goto (-30), 3) := by decide +kernel
theorem dX10_hasNames_35 : decode cX10_hasNames 35 = .ok (.iconst 0, 1) := by decide +kernel
theorem dX10_hasNames_36 : decode cX10_hasNames 36 = .ok (.ireturn, 1) := by decide +kernel
theorem dX10_drops_0 : decode cX10_drops 0 = .ok (.aload_n 0, 1) := by decide +kernel
theorem dX10_drops_1 : decode cX10_drops 1 = .ok (.iconst 0, 1) := by decide +kernel
theorem dX10_drops_2 : decode cX10_drops 2 = .ok (.iload_n 1, 1) := by decide +kernel
theorem dX10_drops_3 : decode cX10_drops 3 = .ok (.iconst 2, 1) := by decide +kernel
theorem dX10_drops_4 : decode cX10_drops 4 = .ok (.invokestatic 273, 3) := by decide +kernel
theorem dX10_drops_7 : decode cX10_drops 7 = .ok (.ifCond .eq 26, 3) := by decide +kernel
theorem dX10_drops_10 : decode cX10_drops 10 = .ok (.aload_n 0, 1) := by decide +kernel
theorem dX10_drops_11 : decode cX10_drops 11 = .ok (.iconst 0, 1) := by decide +kernel
theorem dX10_drops_12 : decode cX10_drops 12 = .ok (.invokestatic 276, 3) := by decide +kernel
theorem dX10_drops_15 : decode cX10_drops 15 = .ok (.iload_n 1, 1) := by decide +kernel
theorem dX10_drops_16 : decode cX10_drops 16 = .ok (.invokestatic 193, 3) := by decide +kernel
theorem dX10_drops_19 : decode cX10_drops 19 = .ok (.ifCond .eq 14, 3) := by decide +kernel
theorem dX10_drops_22 : decode cX10_drops 22 = .ok (.aload_n 0, 1) := by decide +kernel
theorem dX10_drops_23 : decode cX10_drops 23 = .ok (.iconst 0, 1) := by decide +kernel
theorem dX10_drops_24 : decode cX10_drops 24 = .ok (.iload_n 1, 1) := by decide +kernel
theorem dX10_drops_25 : decode cX10_drops 25 = .ok (.iload_n 2, 1) := by decide +kernel
theorem dX10_drops_26 : decode cX10_drops 26 = .ok (.invokestatic 279, 3) := by decide +kernel
theorem dX10_drops_29 : decode cX10_drops 29 = .ok (.iconst (-1), 1) := by decide +kernel
theorem dX10_drops_30 : decode cX10_drops 30 = .ok (.if_icmp .ne 5, 3) := by decide +kernel
theorem dX10_drops_33 : decode cX10_drops 33 = .ok (.iconst 0, 1) := by decide +kernel
theorem dX10_drops_34 : decode cX10_drops 34 = .ok (.ireturn, 1) := by decide +kernel
theorem dX10_drops_35 : decode cX10_drops 35 = .ok (.aload_n 0, 1) := by decide +kernel
theorem dX10_drops_36 : decode cX10_drops 36 = .ok (.iconst 0, 1) := by decide +kernel
theorem dX10_drops_37 : decode cX10_drops 37 = .ok (.iload_n 1, 1) := by decide +kernel
theorem dX10_drops_38 : decode cX10_drops 38 = .ok (.iload_n 2, 1) := by decide +kernel
theorem dX10_drops_39 : decode cX10_drops 39 = .ok (.invokestatic 279, 3) := by decide +kernel
theorem dX10_drops_42 : decode cX10_drops 42 = .ok (.istore_n 3, 1) := by decide +kernel
theorem dX10_drops_43 : decode cX10_drops 43 = .ok (.aload_n 0, 1) := by decide +kernel
theorem dX10_drops_44 : decode cX10_drops 44 = .ok (.iconst 0, 1) := by decide +kernel
theorem dX10_drops_45 : decode cX10_drops 45 = .ok (.iload_n 3, 1) := by decide +kernel
theorem dX10_drops_46 : decode cX10_drops 46 = .ok (.iadd, 1) := by decide +kernel
theorem dX10_drops_47 : decode cX10_drops 47 = .ok (.iconst 1, 1) := by decide +kernel
theorem dX10_drops_48 : decode cX10_drops 48 = .ok (.iadd, 1) := by decide +kernel
theorem dX10_drops_49 : decode cX10_drops 49 = .ok (.iaload, 1) := by decide +kernel
theorem dX10_drops_50 : decode cX10_drops 50 = .ok (.istore 4, 2) := by decide +kernel
theorem dX10_drops_52 : decode cX10_drops 52 = .ok (.aload_n 0, 1) := by decide +kernel
theorem dX10_drops_53 : decode cX10_drops 53 = .ok (.iconst 0, 1) := by decide +kernel
theorem dX10_drops_54 : decode cX10_drops 54 = .ok (.iload 4, 2) := by decide +kernel
theorem dX10_drops_56 : decode cX10_drops 56 = .ok (.iconst 1, 1) := by decide +kernel
theorem dX10_drops_57 : decode cX10_drops 57 = .ok (.invokestatic 233, 3) := by decide +kernel
theorem dX10_drops_60 : decode cX10_drops 60 = .ok (.iconst 2, 1) := by decide +kernel
theorem dX10_drops_61 : decode cX10_drops 61 = .ok (.if_icmp .ne 15, 3) := by decide +kernel
theorem dX10_drops_64 : decode cX10_drops 64 = .ok (.aload_n 0, 1) := by decide +kernel
theorem dX10_drops_65 : decode cX10_drops 65 = .ok (.iconst 0, 1) := by decide +kernel
theorem dX10_drops_66 : decode cX10_drops 66 = .ok (.iload 4, 2) := by decide +kernel
theorem dX10_drops_68 : decode cX10_drops 68 = .ok (.invokestatic 303, 3) := by decide +kernel
theorem dX10_drops_71 : decode cX10_drops 71 = .ok (.ifCond .eq 5, 3) := by decide +kernel
theorem dX10_drops_74 : decode cX10_drops 74 = .ok (.iconst 0, 1) := by decide +kernel
theorem dX10_drops_75 : decode cX10_drops 75 = .ok (.ireturn, 1) := by decide +kernel
theorem dX10_drops_76 : decode cX10_drops 76 = .ok (.aload_n 0, 1) := by decide +kernel
theorem dX10_drops_77 : decode cX10_drops 77 = .ok (.iconst 1, 1) := by decide +kernel
theorem dX10_drops_78 : decode cX10_drops 78 = .ok (.iload 4, 2) := by decide +kernel
theorem dX10_drops_80 : decode cX10_drops 80 = .ok (.aload_n 0, 1) := by decide +kernel
theorem dX10_drops_81 : decode cX10_drops 81 = .ok (.iload_n 3, 1) := by decide +kernel
theorem dX10_drops_82 : decode cX10_drops 82 = .ok (.bipush 16, 2) := by decide +kernel
theorem dX10_drops_84 : decode cX10_drops 84 = .ok (.idiv, 1) := by decide +kernel
theorem dX10_drops_85 : decode cX10_drops 85 = .ok (.iload_n 3, 1) := by decide +kernel
theorem dX10_drops_86 : decode cX10_drops 86 = .ok (.bipush 16, 2) := by decide +kernel
theorem dX10_drops_88 : decode cX10_drops 88 = .ok (.irem, 1) := by decide +kernel
theorem dX10_drops_89 : decode cX10_drops 89 = .ok (.iconst 0, 1) := by decide +kernel
theorem dX10_drops_90 : decode cX10_drops 90 = .ok (.invokestatic 252, 3) := by decide +kernel
theorem dX10_drops_93 : decode cX10_drops 93 = .ok (.invokestatic 245, 3) := by decide +kernel
theorem dX10_drops_96 : decode cX10_drops 96 = .ok (.iconst 1, 1) := by decide +kernel
theorem dX10_drops_97 : decode cX10_drops 97 = .ok (.ireturn, 1) := by decide +kernel
theorem dX10_reached_0 : decode cX10_reached 0 = .ok (.iconst 1, 1) := by decide +kernel
theorem dX10_reached_1 : decode cX10_reached 1 = .ok (.istore_n 2, 1) := by decide +kernel
theorem dX10_reached_2 : decode cX10_reached 2 = .ok (.iconst 0, 1) := by decide +kernel
theorem dX10_reached_3 : decode cX10_reached 3 = .ok (.istore_n 3, 1) := by decide +kernel
theorem dX10_reached_4 : decode cX10_reached 4 = .ok (.iload_n 2, 1) := by decide +kernel
theorem dX10_reached_5 : decode cX10_reached 5 = .ok (.iload_n 3, 1) := by decide +kernel
theorem dX10_reached_6 : decode cX10_reached 6 = .ok (.if_icmp .eq 105, 3) := by decide +kernel
theorem dX10_reached_9 : decode cX10_reached 9 = .ok (.iload_n 2, 1) := by decide +kernel
theorem dX10_reached_10 : decode cX10_reached 10 = .ok (.istore_n 3, 1) := by decide +kernel
theorem dX10_reached_11 : decode cX10_reached 11 = .ok (.iconst 0, 1) := by decide +kernel
theorem dX10_reached_12 : decode cX10_reached 12 = .ok (.istore 4, 2) := by decide +kernel
theorem dX10_reached_14 : decode cX10_reached 14 = .ok (.iload 4, 2) := by decide +kernel
theorem dX10_reached_16 : decode cX10_reached 16 = .ok (.bipush 12, 2) := by decide +kernel
theorem dX10_reached_18 : decode cX10_reached 18 = .ok (.if_icmp .ge 90, 3) := by decide +kernel
theorem dX10_reached_21 : decode cX10_reached 21 = .ok (.iload_n 3, 1) := by decide +kernel
theorem dX10_reached_22 : decode cX10_reached 22 = .ok (.iload 4, 2) := by decide +kernel
theorem dX10_reached_24 : decode cX10_reached 24 = .ok (.invokestatic 193, 3) := by decide +kernel
theorem dX10_reached_27 : decode cX10_reached 27 = .ok (.ifCond .eq 75, 3) := by decide +kernel
theorem dX10_reached_30 : decode cX10_reached 30 = .ok (.aload_n 0, 1) := by decide +kernel
theorem dX10_reached_31 : decode cX10_reached 31 = .ok (.iload_n 1, 1) := by decide +kernel
theorem dX10_reached_32 : decode cX10_reached 32 = .ok (.iload 4, 2) := by decide +kernel
theorem dX10_reached_34 : decode cX10_reached 34 = .ok (.iconst 1, 1) := by decide +kernel
theorem dX10_reached_35 : decode cX10_reached 35 = .ok (.invokestatic 233, 3) := by decide +kernel
theorem dX10_reached_38 : decode cX10_reached 38 = .ok (.iconst 2, 1) := by decide +kernel
theorem dX10_reached_39 : decode cX10_reached 39 = .ok (.if_icmp .eq 6, 3) := by decide +kernel
theorem dX10_reached_42 : decode cX10_reached 42 = .ok (.goto 60, 3) := by decide +kernel
theorem dX10_reached_45 : decode cX10_reached 45 = .ok (.iconst 0, 1) := by decide +kernel
theorem dX10_reached_46 : decode cX10_reached 46 = .ok (.istore 5, 2) := by decide +kernel
theorem dX10_reached_48 : decode cX10_reached 48 = .ok (.aload_n 0, 1) := by decide +kernel
theorem dX10_reached_49 : decode cX10_reached 49 = .ok (.iload_n 1, 1) := by decide +kernel
theorem dX10_reached_50 : decode cX10_reached 50 = .ok (.iload 4, 2) := by decide +kernel
theorem dX10_reached_52 : decode cX10_reached 52 = .ok (.iload 5, 2) := by decide +kernel
theorem dX10_reached_54 : decode cX10_reached 54 = .ok (.invokestatic 270, 3) := by decide +kernel
theorem dX10_reached_57 : decode cX10_reached 57 = .ok (.iconst (-1), 1) := by decide +kernel
theorem dX10_reached_58 : decode cX10_reached 58 = .ok (.if_icmp .eq 44, 3) := by decide +kernel
theorem dX10_reached_61 : decode cX10_reached 61 = .ok (.iload_n 1, 1) := by decide +kernel
theorem dX10_reached_62 : decode cX10_reached 62 = .ok (.aload_n 0, 1) := by decide +kernel
theorem dX10_reached_63 : decode cX10_reached 63 = .ok (.iload_n 1, 1) := by decide +kernel
theorem dX10_reached_64 : decode cX10_reached 64 = .ok (.iload 4, 2) := by decide +kernel
theorem dX10_reached_66 : decode cX10_reached 66 = .ok (.iload 5, 2) := by decide +kernel
theorem dX10_reached_68 : decode cX10_reached 68 = .ok (.invokestatic 270, 3) := by decide +kernel
theorem dX10_reached_71 : decode cX10_reached 71 = .ok (.iadd, 1) := by decide +kernel
theorem dX10_reached_72 : decode cX10_reached 72 = .ok (.istore 6, 2) := by decide +kernel
theorem dX10_reached_74 : decode cX10_reached 74 = .ok (.iload_n 2, 1) := by decide +kernel
theorem dX10_reached_75 : decode cX10_reached 75 = .ok (.aload_n 0, 1) := by decide +kernel
theorem dX10_reached_76 : decode cX10_reached 76 = .ok (.iload 6, 2) := by decide +kernel
theorem dX10_reached_78 : decode cX10_reached 78 = .ok (.iaload, 1) := by decide +kernel
theorem dX10_reached_79 : decode cX10_reached 79 = .ok (.ifCond .ne 7, 3) := by decide +kernel
theorem dX10_reached_82 : decode cX10_reached 82 = .ok (.iconst 0, 1) := by decide +kernel
theorem dX10_reached_83 : decode cX10_reached 83 = .ok (.goto 11, 3) := by decide +kernel
theorem dX10_reached_86 : decode cX10_reached 86 = .ok (.iconst 1, 1) := by decide +kernel
theorem dX10_reached_87 : decode cX10_reached 87 = .ok (.aload_n 0, 1) := by decide +kernel
theorem dX10_reached_88 : decode cX10_reached 88 = .ok (.iload 6, 2) := by decide +kernel
theorem dX10_reached_90 : decode cX10_reached 90 = .ok (.iconst 1, 1) := by decide +kernel
theorem dX10_reached_91 : decode cX10_reached 91 = .ok (.iadd, 1) := by decide +kernel
theorem dX10_reached_92 : decode cX10_reached 92 = .ok (.iaload, 1) := by decide +kernel
theorem dX10_reached_93 : decode cX10_reached 93 = .ok (.ishl, 1) := by decide +kernel
theorem dX10_reached_94 : decode cX10_reached 94 = .ok (.ior, 1) := by decide +kernel
theorem dX10_reached_95 : decode cX10_reached 95 = .ok (.istore_n 2, 1) := by decide +kernel
theorem dX10_reached_96 : decode cX10_reached 96 = .ok (.iinc 5 1, 3) := by decide +kernel
theorem dX10_reached_99 : decode cX10_reached 99 = .ok (.goto (-51), 3) := by decide +kernel
theorem dX10_reached_102 : decode cX10_reached 102 = .ok (.iinc 4 1, 3) := by decide +kernel
theorem dX10_reached_105 : decode cX10_reached 105 = .ok (.goto (-91), 3) := by decide +kernel
theorem dX10_reached_108 : decode cX10_reached 108 = .ok (.goto (-104), 3) := by decide +kernel
theorem dX10_reached_111 : decode cX10_reached 111 = .ok (.iload_n 2, 1) := by decide +kernel
theorem dX10_reached_112 : decode cX10_reached 112 = .ok (.ireturn, 1) := by decide +kernel
theorem dX10_named_0 : decode cX10_named 0 = .ok (.iconst 0, 1) := by decide +kernel
theorem dX10_named_1 : decode cX10_named 1 = .ok (.istore_n 3, 1) := by decide +kernel
theorem dX10_named_2 : decode cX10_named 2 = .ok (.aload_n 0, 1) := by decide +kernel
theorem dX10_named_3 : decode cX10_named 3 = .ok (.iload_n 1, 1) := by decide +kernel
theorem dX10_named_4 : decode cX10_named 4 = .ok (.invokestatic 276, 3) := by decide +kernel
theorem dX10_named_7 : decode cX10_named 7 = .ok (.istore 4, 2) := by decide +kernel
theorem dX10_named_9 : decode cX10_named 9 = .ok (.iconst 0, 1) := by decide +kernel
theorem dX10_named_10 : decode cX10_named 10 = .ok (.istore 5, 2) := by decide +kernel
theorem dX10_named_12 : decode cX10_named 12 = .ok (.iload 5, 2) := by decide +kernel
theorem dX10_named_14 : decode cX10_named 14 = .ok (.bipush 12, 2) := by decide +kernel
theorem dX10_named_16 : decode cX10_named 16 = .ok (.if_icmp .ge 94, 3) := by decide +kernel
theorem dX10_named_19 : decode cX10_named 19 = .ok (.iload 4, 2) := by decide +kernel
theorem dX10_named_21 : decode cX10_named 21 = .ok (.iload 5, 2) := by decide +kernel
theorem dX10_named_23 : decode cX10_named 23 = .ok (.invokestatic 193, 3) := by decide +kernel
theorem dX10_named_26 : decode cX10_named 26 = .ok (.ifCond .eq 78, 3) := by decide +kernel
theorem dX10_named_29 : decode cX10_named 29 = .ok (.aload_n 0, 1) := by decide +kernel
theorem dX10_named_30 : decode cX10_named 30 = .ok (.iload_n 1, 1) := by decide +kernel
theorem dX10_named_31 : decode cX10_named 31 = .ok (.iload 5, 2) := by decide +kernel
theorem dX10_named_33 : decode cX10_named 33 = .ok (.iconst 1, 1) := by decide +kernel
theorem dX10_named_34 : decode cX10_named 34 = .ok (.invokestatic 233, 3) := by decide +kernel
theorem dX10_named_37 : decode cX10_named 37 = .ok (.iconst 2, 1) := by decide +kernel
theorem dX10_named_38 : decode cX10_named 38 = .ok (.if_icmp .eq 6, 3) := by decide +kernel
theorem dX10_named_41 : decode cX10_named 41 = .ok (.goto 63, 3) := by decide +kernel
theorem dX10_named_44 : decode cX10_named 44 = .ok (.iconst 0, 1) := by decide +kernel
theorem dX10_named_45 : decode cX10_named 45 = .ok (.istore 6, 2) := by decide +kernel
theorem dX10_named_47 : decode cX10_named 47 = .ok (.aload_n 0, 1) := by decide +kernel
theorem dX10_named_48 : decode cX10_named 48 = .ok (.iload_n 1, 1) := by decide +kernel
theorem dX10_named_49 : decode cX10_named 49 = .ok (.iload 5, 2) := by decide +kernel
theorem dX10_named_51 : decode cX10_named 51 = .ok (.iload 6, 2) := by decide +kernel
theorem dX10_named_53 : decode cX10_named 53 = .ok (.invokestatic 270, 3) := by decide +kernel
theorem dX10_named_56 : decode cX10_named 56 = .ok (.iconst (-1), 1) := by decide +kernel
theorem dX10_named_57 : decode cX10_named 57 = .ok (.if_icmp .eq 47, 3) := by decide +kernel
theorem dX10_named_60 : decode cX10_named 60 = .ok (.iload_n 1, 1) := by decide +kernel
theorem dX10_named_61 : decode cX10_named 61 = .ok (.aload_n 0, 1) := by decide +kernel
theorem dX10_named_62 : decode cX10_named 62 = .ok (.iload_n 1, 1) := by decide +kernel
theorem dX10_named_63 : decode cX10_named 63 = .ok (.iload 5, 2) := by decide +kernel
theorem dX10_named_65 : decode cX10_named 65 = .ok (.iload 6, 2) := by decide +kernel
theorem dX10_named_67 : decode cX10_named 67 = .ok (.invokestatic 270, 3) := by decide +kernel
theorem dX10_named_70 : decode cX10_named 70 = .ok (.iadd, 1) := by decide +kernel
theorem dX10_named_71 : decode cX10_named 71 = .ok (.istore 7, 2) := by decide +kernel
theorem dX10_named_73 : decode cX10_named 73 = .ok (.iload_n 3, 1) := by decide +kernel
theorem dX10_named_74 : decode cX10_named 74 = .ok (.aload_n 0, 1) := by decide +kernel
theorem dX10_named_75 : decode cX10_named 75 = .ok (.iload 7, 2) := by decide +kernel
theorem dX10_named_77 : decode cX10_named 77 = .ok (.iaload, 1) := by decide +kernel
theorem dX10_named_78 : decode cX10_named 78 = .ok (.ifCond .eq 17, 3) := by decide +kernel
theorem dX10_named_81 : decode cX10_named 81 = .ok (.aload_n 0, 1) := by decide +kernel
theorem dX10_named_82 : decode cX10_named 82 = .ok (.iload 7, 2) := by decide +kernel
theorem dX10_named_84 : decode cX10_named 84 = .ok (.iconst 1, 1) := by decide +kernel
theorem dX10_named_85 : decode cX10_named 85 = .ok (.iadd, 1) := by decide +kernel
theorem dX10_named_86 : decode cX10_named 86 = .ok (.iaload, 1) := by decide +kernel
theorem dX10_named_87 : decode cX10_named 87 = .ok (.iload_n 2, 1) := by decide +kernel
theorem dX10_named_88 : decode cX10_named 88 = .ok (.if_icmp .ne 7, 3) := by decide +kernel
theorem dX10_named_91 : decode cX10_named 91 = .ok (.iconst 1, 1) := by decide +kernel
theorem dX10_named_92 : decode cX10_named 92 = .ok (.goto 4, 3) := by decide +kernel
theorem dX10_named_95 : decode cX10_named 95 = .ok (.iconst 0, 1) := by decide +kernel
theorem dX10_named_96 : decode cX10_named 96 = .ok (.iadd, 1) := by decide +kernel
theorem dX10_named_97 : decode cX10_named 97 = .ok (.istore_n 3, 1) := by decide +kernel
theorem dX10_named_98 : decode cX10_named 98 = .ok (.iinc 6 1, 3) := by decide +kernel
theorem dX10_named_101 : decode cX10_named 101 = .ok (.goto (-54), 3) := by decide +kernel
theorem dX10_named_104 : decode cX10_named 104 = .ok (.iinc 5 1, 3) := by decide +kernel
theorem dX10_named_107 : decode cX10_named 107 = .ok (.goto (-95), 3) := by decide +kernel
theorem dX10_named_110 : decode cX10_named 110 = .ok (.iload_n 3, 1) := by decide +kernel
theorem dX10_named_111 : decode cX10_named 111 = .ok (.ireturn, 1) := by decide +kernel
theorem dX10_later_0 : decode cX10_later 0 = .ok (.iconst 0, 1) := by decide +kernel
theorem dX10_later_1 : decode cX10_later 1 = .ok (.istore_n 3, 1) := by decide +kernel
theorem dX10_later_2 : decode cX10_later 2 = .ok (.iconst 0, 1) := by decide +kernel
theorem dX10_later_3 : decode cX10_later 3 = .ok (.istore 4, 2) := by decide +kernel
theorem dX10_later_5 : decode cX10_later 5 = .ok (.iload 4, 2) := by decide +kernel
theorem dX10_later_7 : decode cX10_later 7 = .ok (.aload_n 0, 1) := by decide +kernel
theorem dX10_later_8 : decode cX10_later 8 = .ok (.sipush 3393, 3) := by decide +kernel
theorem dX10_later_11 : decode cX10_later 11 = .ok (.iaload, 1) := by decide +kernel
theorem dX10_later_12 : decode cX10_later 12 = .ok (.if_icmp .ge 47, 3) := by decide +kernel
theorem dX10_later_15 : decode cX10_later 15 = .ok (.iload_n 3, 1) := by decide +kernel
theorem dX10_later_16 : decode cX10_later 16 = .ok (.aload_n 0, 1) := by decide +kernel
theorem dX10_later_17 : decode cX10_later 17 = .ok (.sipush 2912, 3) := by decide +kernel
theorem dX10_later_20 : decode cX10_later 20 = .ok (.iconst 3, 1) := by decide +kernel
theorem dX10_later_21 : decode cX10_later 21 = .ok (.iload 4, 2) := by decide +kernel
theorem dX10_later_23 : decode cX10_later 23 = .ok (.imul, 1) := by decide +kernel
theorem dX10_later_24 : decode cX10_later 24 = .ok (.iadd, 1) := by decide +kernel
theorem dX10_later_25 : decode cX10_later 25 = .ok (.iaload, 1) := by decide +kernel
theorem dX10_later_26 : decode cX10_later 26 = .ok (.iload_n 1, 1) := by decide +kernel
theorem dX10_later_27 : decode cX10_later 27 = .ok (.if_icmp .ne 23, 3) := by decide +kernel
theorem dX10_later_30 : decode cX10_later 30 = .ok (.aload_n 0, 1) := by decide +kernel
theorem dX10_later_31 : decode cX10_later 31 = .ok (.sipush 2912, 3) := by decide +kernel
theorem dX10_later_34 : decode cX10_later 34 = .ok (.iconst 3, 1) := by decide +kernel
theorem dX10_later_35 : decode cX10_later 35 = .ok (.iload 4, 2) := by decide +kernel
theorem dX10_later_37 : decode cX10_later 37 = .ok (.imul, 1) := by decide +kernel
theorem dX10_later_38 : decode cX10_later 38 = .ok (.iadd, 1) := by decide +kernel
theorem dX10_later_39 : decode cX10_later 39 = .ok (.iconst 1, 1) := by decide +kernel
theorem dX10_later_40 : decode cX10_later 40 = .ok (.iadd, 1) := by decide +kernel
theorem dX10_later_41 : decode cX10_later 41 = .ok (.iaload, 1) := by decide +kernel
theorem dX10_later_42 : decode cX10_later 42 = .ok (.iload_n 2, 1) := by decide +kernel
theorem dX10_later_43 : decode cX10_later 43 = .ok (.if_icmp .ne 7, 3) := by decide +kernel
theorem dX10_later_46 : decode cX10_later 46 = .ok (.iconst 1, 1) := by decide +kernel
theorem dX10_later_47 : decode cX10_later 47 = .ok (.goto 4, 3) := by decide +kernel
theorem dX10_later_50 : decode cX10_later 50 = .ok (.iconst 0, 1) := by decide +kernel
theorem dX10_later_51 : decode cX10_later 51 = .ok (.iadd, 1) := by decide +kernel
theorem dX10_later_52 : decode cX10_later 52 = .ok (.istore_n 3, 1) := by decide +kernel
theorem dX10_later_53 : decode cX10_later 53 = .ok (.iinc 4 1, 3) := by decide +kernel
theorem dX10_later_56 : decode cX10_later 56 = .ok (.goto (-51), 3) := by decide +kernel
theorem dX10_later_59 : decode cX10_later 59 = .ok (.iload_n 3, 1) := by decide +kernel
theorem dX10_later_60 : decode cX10_later 60 = .ok (.ireturn, 1) := by decide +kernel
theorem dX10_pointer_0 : decode cX10_pointer 0 = .ok (.iconst 0, 1) := by decide +kernel
theorem dX10_pointer_1 : decode cX10_pointer 1 = .ok (.istore 4, 2) := by decide +kernel
theorem dX10_pointer_3 : decode cX10_pointer 3 = .ok (.iload 4, 2) := by decide +kernel
theorem dX10_pointer_5 : decode cX10_pointer 5 = .ok (.bipush 12, 2) := by decide +kernel
theorem dX10_pointer_7 : decode cX10_pointer 7 = .ok (.if_icmp .ge 45, 3) := by decide +kernel
theorem dX10_pointer_10 : decode cX10_pointer 10 = .ok (.iload_n 2, 1) := by decide +kernel
theorem dX10_pointer_11 : decode cX10_pointer 11 = .ok (.iload 4, 2) := by decide +kernel
theorem dX10_pointer_13 : decode cX10_pointer 13 = .ok (.invokestatic 193, 3) := by decide +kernel
theorem dX10_pointer_16 : decode cX10_pointer 16 = .ok (.ifCond .eq 30, 3) := by decide +kernel
theorem dX10_pointer_19 : decode cX10_pointer 19 = .ok (.aload_n 0, 1) := by decide +kernel
theorem dX10_pointer_20 : decode cX10_pointer 20 = .ok (.iload_n 1, 1) := by decide +kernel
theorem dX10_pointer_21 : decode cX10_pointer 21 = .ok (.iload 4, 2) := by decide +kernel
theorem dX10_pointer_23 : decode cX10_pointer 23 = .ok (.iconst 2, 1) := by decide +kernel
theorem dX10_pointer_24 : decode cX10_pointer 24 = .ok (.invokestatic 233, 3) := by decide +kernel
theorem dX10_pointer_27 : decode cX10_pointer 27 = .ok (.iload_n 3, 1) := by decide +kernel
theorem dX10_pointer_28 : decode cX10_pointer 28 = .ok (.if_icmp .eq 15, 3) := by decide +kernel
theorem dX10_pointer_31 : decode cX10_pointer 31 = .ok (.aload_n 0, 1) := by decide +kernel
theorem dX10_pointer_32 : decode cX10_pointer 32 = .ok (.iload_n 1, 1) := by decide +kernel
theorem dX10_pointer_33 : decode cX10_pointer 33 = .ok (.iload 4, 2) := by decide +kernel
theorem dX10_pointer_35 : decode cX10_pointer 35 = .ok (.iconst 3, 1) := by decide +kernel
theorem dX10_pointer_36 : decode cX10_pointer 36 = .ok (.invokestatic 233, 3) := by decide +kernel
theorem dX10_pointer_39 : decode cX10_pointer 39 = .ok (.iload_n 3, 1) := by decide +kernel
theorem dX10_pointer_40 : decode cX10_pointer 40 = .ok (.if_icmp .ne 6, 3) := by decide +kernel
theorem dX10_pointer_43 : decode cX10_pointer 43 = .ok (.iload 4, 2) := by decide +kernel
theorem dX10_pointer_45 : decode cX10_pointer 45 = .ok (.ireturn, 1) := by decide +kernel
theorem dX10_pointer_46 : decode cX10_pointer 46 = .ok (.iinc 4 1, 3) := by decide +kernel
theorem dX10_pointer_49 : decode cX10_pointer 49 = .ok (.goto (-46), 3) := by decide +kernel
theorem dX10_pointer_52 : decode cX10_pointer 52 = .ok (.iconst (-1), 1) := by decide +kernel
theorem dX10_pointer_53 : decode cX10_pointer 53 = .ok (.ireturn, 1) := by decide +kernel
theorem dX10_linked_0 : decode cX10_linked 0 = .ok (.iconst 0, 1) := by decide +kernel
theorem dX10_linked_1 : decode cX10_linked 1 = .ok (.istore_n 2, 1) := by decide +kernel
theorem dX10_linked_2 : decode cX10_linked 2 = .ok (.iconst 0, 1) := by decide +kernel
theorem dX10_linked_3 : decode cX10_linked 3 = .ok (.istore_n 3, 1) := by decide +kernel
theorem dX10_linked_4 : decode cX10_linked 4 = .ok (.iload_n 3, 1) := by decide +kernel
theorem dX10_linked_5 : decode cX10_linked 5 = .ok (.bipush 12, 2) := by decide +kernel
theorem dX10_linked_7 : decode cX10_linked 7 = .ok (.if_icmp .ge 29, 3) := by decide +kernel
theorem dX10_linked_10 : decode cX10_linked 10 = .ok (.iload_n 2, 1) := by decide +kernel
theorem dX10_linked_11 : decode cX10_linked 11 = .ok (.aload_n 0, 1) := by decide +kernel
theorem dX10_linked_12 : decode cX10_linked 12 = .ok (.iload_n 1, 1) := by decide +kernel
theorem dX10_linked_13 : decode cX10_linked 13 = .ok (.iload_n 3, 1) := by decide +kernel
theorem dX10_linked_14 : decode cX10_linked 14 = .ok (.iconst 0, 1) := by decide +kernel
theorem dX10_linked_15 : decode cX10_linked 15 = .ok (.invokestatic 233, 3) := by decide +kernel
theorem dX10_linked_18 : decode cX10_linked 18 = .ok (.ifCond .le 9, 3) := by decide +kernel
theorem dX10_linked_21 : decode cX10_linked 21 = .ok (.iconst 1, 1) := by decide +kernel
theorem dX10_linked_22 : decode cX10_linked 22 = .ok (.iload_n 3, 1) := by decide +kernel
theorem dX10_linked_23 : decode cX10_linked 23 = .ok (.ishl, 1) := by decide +kernel
theorem dX10_linked_24 : decode cX10_linked 24 = .ok (.goto 4, 3) := by decide +kernel
theorem dX10_linked_27 : decode cX10_linked 27 = .ok (.iconst 0, 1) := by decide +kernel
theorem dX10_linked_28 : decode cX10_linked 28 = .ok (.ior, 1) := by decide +kernel
theorem dX10_linked_29 : decode cX10_linked 29 = .ok (.istore_n 2, 1) := by decide +kernel
theorem dX10_linked_30 : decode cX10_linked 30 = .ok (.iinc 3 1, 3) := by decide +kernel
theorem dX10_linked_33 : decode cX10_linked 33 = .ok (.goto (-29), 3) := by decide +kernel
theorem dX10_linked_36 : decode cX10_linked 36 = .ok (.iload_n 2, 1) := by decide +kernel
theorem dX10_linked_37 : decode cX10_linked 37 = .ok (.ireturn, 1) := by decide +kernel
theorem dX10_leaking_0 : decode cX10_leaking 0 = .ok (.iconst 0, 1) := by decide +kernel
theorem dX10_leaking_1 : decode cX10_leaking 1 = .ok (.istore_n 3, 1) := by decide +kernel
theorem dX10_leaking_2 : decode cX10_leaking 2 = .ok (.aload_n 1, 1) := by decide +kernel
theorem dX10_leaking_3 : decode cX10_leaking 3 = .ok (.iload_n 2, 1) := by decide +kernel
theorem dX10_leaking_4 : decode cX10_leaking 4 = .ok (.invokestatic 276, 3) := by decide +kernel
theorem dX10_leaking_7 : decode cX10_leaking 7 = .ok (.istore 4, 2) := by decide +kernel
theorem dX10_leaking_9 : decode cX10_leaking 9 = .ok (.iconst 4, 1) := by decide +kernel
theorem dX10_leaking_10 : decode cX10_leaking 10 = .ok (.istore 5, 2) := by decide +kernel
theorem dX10_leaking_12 : decode cX10_leaking 12 = .ok (.iload 5, 2) := by decide +kernel
theorem dX10_leaking_14 : decode cX10_leaking 14 = .ok (.aload_n 0, 1) := by decide +kernel
theorem dX10_leaking_15 : decode cX10_leaking 15 = .ok (.getfield 168, 3) := by decide +kernel
theorem dX10_leaking_18 : decode cX10_leaking 18 = .ok (.if_icmp .ge 42, 3) := by decide +kernel
theorem dX10_leaking_21 : decode cX10_leaking 21 = .ok (.iload_n 3, 1) := by decide +kernel
theorem dX10_leaking_22 : decode cX10_leaking 22 = .ok (.aload_n 1, 1) := by decide +kernel
theorem dX10_leaking_23 : decode cX10_leaking 23 = .ok (.iload_n 2, 1) := by decide +kernel
theorem dX10_leaking_24 : decode cX10_leaking 24 = .ok (.iload 5, 2) := by decide +kernel
theorem dX10_leaking_26 : decode cX10_leaking 26 = .ok (.iadd, 1) := by decide +kernel
theorem dX10_leaking_27 : decode cX10_leaking 27 = .ok (.iaload, 1) := by decide +kernel
theorem dX10_leaking_28 : decode cX10_leaking 28 = .ok (.ifCond .eq 23, 3) := by decide +kernel
theorem dX10_leaking_31 : decode cX10_leaking 31 = .ok (.aload_n 1, 1) := by decide +kernel
theorem dX10_leaking_32 : decode cX10_leaking 32 = .ok (.iload_n 2, 1) := by decide +kernel
theorem dX10_leaking_33 : decode cX10_leaking 33 = .ok (.iload 4, 2) := by decide +kernel
theorem dX10_leaking_35 : decode cX10_leaking 35 = .ok (.iload 5, 2) := by decide +kernel
theorem dX10_leaking_37 : decode cX10_leaking 37 = .ok (.invokestatic 306, 3) := by decide +kernel
theorem dX10_leaking_40 : decode cX10_leaking 40 = .ok (.iconst (-1), 1) := by decide +kernel
theorem dX10_leaking_41 : decode cX10_leaking 41 = .ok (.if_icmp .ne 10, 3) := by decide +kernel
theorem dX10_leaking_44 : decode cX10_leaking 44 = .ok (.iconst 1, 1) := by decide +kernel
theorem dX10_leaking_45 : decode cX10_leaking 45 = .ok (.iload 5, 2) := by decide +kernel
theorem dX10_leaking_47 : decode cX10_leaking 47 = .ok (.ishl, 1) := by decide +kernel
theorem dX10_leaking_48 : decode cX10_leaking 48 = .ok (.goto 4, 3) := by decide +kernel
theorem dX10_leaking_51 : decode cX10_leaking 51 = .ok (.iconst 0, 1) := by decide +kernel
theorem dX10_leaking_52 : decode cX10_leaking 52 = .ok (.ior, 1) := by decide +kernel
theorem dX10_leaking_53 : decode cX10_leaking 53 = .ok (.istore_n 3, 1) := by decide +kernel
theorem dX10_leaking_54 : decode cX10_leaking 54 = .ok (.iinc 5 1, 3) := by decide +kernel
theorem dX10_leaking_57 : decode cX10_leaking 57 = .ok (.goto (-45), 3) := by decide +kernel
theorem dX10_leaking_60 : decode cX10_leaking 60 = .ok (.iload_n 3, 1) := by decide +kernel
theorem dX10_leaking_61 : decode cX10_leaking 61 = .ok (.ireturn, 1) := by decide +kernel
theorem dX10_ones_0 : decode cX10_ones 0 = .ok (.iconst 0, 1) := by decide +kernel
theorem dX10_ones_1 : decode cX10_ones 1 = .ok (.istore_n 1, 1) := by decide +kernel
theorem dX10_ones_2 : decode cX10_ones 2 = .ok (.iconst 0, 1) := by decide +kernel
theorem dX10_ones_3 : decode cX10_ones 3 = .ok (.istore_n 2, 1) := by decide +kernel
theorem dX10_ones_4 : decode cX10_ones 4 = .ok (.iload_n 2, 1) := by decide +kernel
theorem dX10_ones_5 : decode cX10_ones 5 = .ok (.bipush 16, 2) := by decide +kernel
theorem dX10_ones_7 : decode cX10_ones 7 = .ok (.if_icmp .ge 17, 3) := by decide +kernel
theorem dX10_ones_10 : decode cX10_ones 10 = .ok (.iload_n 1, 1) := by decide +kernel
theorem dX10_ones_11 : decode cX10_ones 11 = .ok (.iload_n 0, 1) := by decide +kernel
theorem dX10_ones_12 : decode cX10_ones 12 = .ok (.iload_n 2, 1) := by decide +kernel
theorem dX10_ones_13 : decode cX10_ones 13 = .ok (.ishr, 1) := by decide +kernel
theorem dX10_ones_14 : decode cX10_ones 14 = .ok (.iconst 1, 1) := by decide +kernel
theorem dX10_ones_15 : decode cX10_ones 15 = .ok (.iand, 1) := by decide +kernel
theorem dX10_ones_16 : decode cX10_ones 16 = .ok (.iadd, 1) := by decide +kernel
theorem dX10_ones_17 : decode cX10_ones 17 = .ok (.istore_n 1, 1) := by decide +kernel
theorem dX10_ones_18 : decode cX10_ones 18 = .ok (.iinc 2 1, 3) := by decide +kernel
theorem dX10_ones_21 : decode cX10_ones 21 = .ok (.goto (-17), 3) := by decide +kernel
theorem dX10_ones_24 : decode cX10_ones 24 = .ok (.iload_n 1, 1) := by decide +kernel
theorem dX10_ones_25 : decode cX10_ones 25 = .ok (.ireturn, 1) := by decide +kernel
theorem eX10_isDirty {G : GG} {d : Nat} {h : Hp} {o : OU} {h' : Hp} (r0 : Nat) (x1 : Int32) (T : V G mX10_isDirty d 2 [.ref r0, .int x1, .int 0] [] h o h') : VM G mX10_isDirty d [.ref r0, .int x1] h o h' := by
  refine V.toM rfl rfl (le_l rfl) (cat_all rfl) ?_
  show V G mX10_isDirty d 0 [.ref r0, .int x1, uV] [] h o h'
  refine v_iconst (pc' := 1) (v := 0) dX10_isDirty_0 rfl kI_0 ?_
  refine v_istore_n (pc' := 2) (loc' := [.ref r0, .int x1, .int 0]) dX10_isDirty_1 rfl (lt_l rfl) rfl ?_
  exact T
theorem bX10_isDirty_2 {G : GG} {d : Nat} {h : Hp} {o : OU} {h' : Hp} (r0 : Nat) (x1 : Int32) (x2 : Int32) (hd : 1 ≤ d) (T : kH h r0 = 1 ∧ vp_in 3392 (lH h r0) ∧ (((h.2 r0 3392) ≤ x2 → (o = .inl (some (.int 0)) ∧ h' = h)) ∧ (¬ (h.2 r0 3392) ≤ x2 → ∃ z5 h4, VM G mX10_cell (d - 1) [.int x2] h (.inl (some (.int z5))) h4 ∧ kH h4 r0 = 1 ∧ vp_in (z5 + 1) (lH h4 r0) ∧ ((¬ (h4.2 r0 (z5 + 1).toNatClampNeg) = x1 → V G mX10_isDirty d 2 [.ref r0, .int x1, .int (x2 + 1)] [] h4 o h') ∧ ((h4.2 r0 (z5 + 1).toNatClampNeg) = x1 → (o = .inl (some (.int 1)) ∧ h' = h4)))))) : V G mX10_isDirty d 2 [.ref r0, .int x1, .int x2] [] h o h' := by
  have hdd : d - 1 + 1 ≤ d := by omega
  refine v_iload_n (pc' := 3) dX10_isDirty_2 rfl rfl ?_
  refine v_aload_n (pc' := 4) dX10_isDirty_3 rfl rfl ?_
  refine v_sipush (pc' := 7) (v := 3392) dX10_isDirty_4 rfl kS_3392 ?_
  obtain ⟨q1, T⟩ := T
  obtain ⟨q2, T⟩ := T
  refine v_iald (pc' := 8) dX10_isDirty_7 rfl kN_3392 q1 q2 ?_
  refine v_icmp_ge (tgt := 31) (pc' := 11) dX10_isDirty_8 (by decide) rfl ⟨fun c3 => ?_, fun c3 => ?_⟩
  · have T := T.1 c3
    refine v_iconst (pc' := 32) (v := 0) dX10_isDirty_31 rfl kI_0 ?_
    exact v_zret dX10_isDirty_32 rfl (Or.inl rfl) T
  · have T := T.2 c3
    refine v_aload_n (pc' := 12) dX10_isDirty_11 rfl rfl ?_
    refine v_iload_n (pc' := 13) dX10_isDirty_12 rfl rfl ?_
    obtain ⟨z5, h4, k6, T⟩ := T
    refine v_callS (pc' := 16) (M1 := mX10_cell) (as := [.int x2]) (rest := [.ref r0]) dX10_isDirty_13 rfl ko_X10_201 kc_X10_cell kt_X10_cell (by decide) hdd rfl rfl (le_l rfl) k6 ?_
    refine v_iconst (pc' := 17) (v := 1) dX10_isDirty_16 rfl kI_1 ?_
    refine v_iadd (pc' := 18) dX10_isDirty_17 rfl ?_
    obtain ⟨q7, T⟩ := T
    obtain ⟨q8, T⟩ := T
    refine v_iald (pc' := 19) dX10_isDirty_18 rfl rfl q7 q8 ?_
    refine v_iload_n (pc' := 20) dX10_isDirty_19 rfl rfl ?_
    refine v_icmp_ne (tgt := 25) (pc' := 23) dX10_isDirty_20 (by decide) rfl ⟨fun c9 => ?_, fun c9 => ?_⟩
    · have T := T.1 c9
      refine v_iinc (pc' := 28) (loc' := [.ref r0, .int x1, .int (x2 + 1)]) dX10_isDirty_25 rfl rfl (kX_1 _) rfl ?_
      refine v_goto (pc' := 2) dX10_isDirty_28 (by decide) ?_
      exact T
    · have T := T.2 c9
      refine v_iconst (pc' := 24) (v := 1) dX10_isDirty_23 rfl kI_1 ?_
      exact v_zret dX10_isDirty_24 rfl (Or.inr rfl) T
theorem eX10_dirty {G : GG} {d : Nat} {h : Hp} {o : OU} {h' : Hp} (r0 : Nat) (r1 : Nat) (T : V G mX10_dirty d 4 [.ref r0, .ref r1, .int 0, .int 0] [] h o h') : VM G mX10_dirty d [.ref r0, .ref r1] h o h' := by
  refine V.toM rfl rfl (le_l rfl) (cat_all rfl) ?_
  show V G mX10_dirty d 0 [.ref r0, .ref r1, uV, uV] [] h o h'
  refine v_iconst (pc' := 1) (v := 0) dX10_dirty_0 rfl kI_0 ?_
  refine v_istore_n (pc' := 2) (loc' := [.ref r0, .ref r1, .int 0, uV]) dX10_dirty_1 rfl (lt_l rfl) rfl ?_
  refine v_iconst (pc' := 3) (v := 0) dX10_dirty_2 rfl kI_0 ?_
  refine v_istore_n (pc' := 4) (loc' := [.ref r0, .ref r1, .int 0, .int 0]) dX10_dirty_3 rfl (lt_l rfl) rfl ?_
  exact T
theorem bX10_dirty_4 {G : GG} {d : Nat} {h : Hp} {o : OU} {h' : Hp} (r0 : Nat) (r1 : Nat) (x2 : Int32) (x3 : Int32) (hd : 1 ≤ d) (T : kH h r0 = 18 ∧ (((h.2 r0 11) ≤ x3 → (o = .inl (some (.int x2)) ∧ h' = h)) ∧ (¬ (h.2 r0 11) ≤ x3 → ∃ z4 h3, VM G mX10_isDirty (d - 1) [.ref r1, .int x3] h (.inl (some (.int z4))) h3 ∧ ((z4 = 0 → V G mX10_dirty d 4 [.ref r0, .ref r1, .int (x2 ||| 0), .int (x3 + 1)] [] h3 o h') ∧ (¬ z4 = 0 → V G mX10_dirty d 4 [.ref r0, .ref r1, .int (x2 ||| (1 <<< (x3 &&& 31))), .int (x3 + 1)] [] h3 o h'))))) : V G mX10_dirty d 4 [.ref r0, .ref r1, .int x2, .int x3] [] h o h' := by
  have hdd : d - 1 + 1 ≤ d := by omega
  refine v_iload_n (pc' := 5) dX10_dirty_4 rfl rfl ?_
  refine v_aload_n (pc' := 6) dX10_dirty_5 rfl rfl ?_
  obtain ⟨q1, T⟩ := T
  refine v_getI (pc' := 9) 8 11 dX10_dirty_6 rfl (by decide) (by decide) rfl kf_X10_168 q1 ?_
  refine v_icmp_ge (tgt := 36) (pc' := 12) dX10_dirty_9 (by decide) rfl ⟨fun c2 => ?_, fun c2 => ?_⟩
  · have T := T.1 c2
    refine v_iload_n (pc' := 37) dX10_dirty_36 rfl rfl ?_
    exact v_iret dX10_dirty_37 rfl T
  · have T := T.2 c2
    refine v_iload_n (pc' := 13) dX10_dirty_12 rfl rfl ?_
    refine v_aload_n (pc' := 14) dX10_dirty_13 rfl rfl ?_
    refine v_iload_n (pc' := 15) dX10_dirty_14 rfl rfl ?_
    obtain ⟨z4, h3, k5, T⟩ := T
    refine v_callS (pc' := 18) (M1 := mX10_isDirty) (as := [.ref r1, .int x3]) (rest := [.int x2]) dX10_dirty_15 rfl ko_X10_208 kc_X10_isDirty kt_X10_isDirty (by decide) hdd rfl rfl (le_l rfl) k5 ?_
    refine v_if_eq (tgt := 27) (pc' := 21) dX10_dirty_18 (by decide) rfl ⟨fun c6 => ?_, fun c6 => ?_⟩
    · have T := T.1 c6
      refine v_iconst (pc' := 28) (v := 0) dX10_dirty_27 rfl kI_0 ?_
      refine v_ior (pc' := 29) dX10_dirty_28 rfl ?_
      refine v_istore_n (pc' := 30) (loc' := [.ref r0, .ref r1, .int (x2 ||| 0), .int x3]) dX10_dirty_29 rfl (lt_l rfl) rfl ?_
      refine v_iinc (pc' := 33) (loc' := [.ref r0, .ref r1, .int (x2 ||| 0), .int (x3 + 1)]) dX10_dirty_30 rfl rfl (kX_1 _) rfl ?_
      refine v_goto (pc' := 4) dX10_dirty_33 (by decide) ?_
      exact T
    · have T := T.2 c6
      refine v_iconst (pc' := 22) (v := 1) dX10_dirty_21 rfl kI_1 ?_
      refine v_iload_n (pc' := 23) dX10_dirty_22 rfl rfl ?_
      refine v_ishl (pc' := 24) dX10_dirty_23 rfl ?_
      refine v_goto (pc' := 28) dX10_dirty_24 (by decide) ?_
      refine v_ior (pc' := 29) dX10_dirty_28 rfl ?_
      refine v_istore_n (pc' := 30) (loc' := [.ref r0, .ref r1, .int (x2 ||| (1 <<< (x3 &&& 31))), .int x3]) dX10_dirty_29 rfl (lt_l rfl) rfl ?_
      refine v_iinc (pc' := 33) (loc' := [.ref r0, .ref r1, .int (x2 ||| (1 <<< (x3 &&& 31))), .int (x3 + 1)]) dX10_dirty_30 rfl rfl (kX_1 _) rfl ?_
      refine v_goto (pc' := 4) dX10_dirty_33 (by decide) ?_
      exact T
theorem eX10_ahead {G : GG} {d : Nat} {h : Hp} {o : OU} {h' : Hp} (r0 : Nat) (x1 : Int32) (x2 : Int32) (T : V G mX10_ahead d 5 [.ref r0, .int x1, .int x2, .int 0, .int 0] [] h o h') : VM G mX10_ahead d [.ref r0, .int x1, .int x2] h o h' := by
  refine V.toM rfl rfl (le_l rfl) (cat_all rfl) ?_
  show V G mX10_ahead d 0 [.ref r0, .int x1, .int x2, uV, uV] [] h o h'
  refine v_iconst (pc' := 1) (v := 0) dX10_ahead_0 rfl kI_0 ?_
  refine v_istore_n (pc' := 2) (loc' := [.ref r0, .int x1, .int x2, .int 0, uV]) dX10_ahead_1 rfl (lt_l rfl) rfl ?_
  refine v_iconst (pc' := 3) (v := 0) dX10_ahead_2 rfl kI_0 ?_
  refine v_istore (pc' := 5) (loc' := [.ref r0, .int x1, .int x2, .int 0, .int 0]) dX10_ahead_3 rfl (lt_l rfl) rfl ?_
  exact T
theorem bX10_ahead_5 {G : GG} {d : Nat} {h : Hp} {o : OU} {h' : Hp} (r0 : Nat) (x1 : Int32) (x2 : Int32) (x3 : Int32) (x4 : Int32) (hd : 1 ≤ d) (T : ((x1 ≤ x4 → (o = .inl (some (.int x3)) ∧ h' = h)) ∧ (¬ x1 ≤ x4 → ∃ z3 h2, VM G mX10_cell (d - 1) [.int x4] h (.inl (some (.int z3))) h2 ∧ kH h2 r0 = 1 ∧ vp_in (z3 + 1) (lH h2 r0) ∧ ((¬ (h2.2 r0 (z3 + 1).toNatClampNeg) = x2 → V G mX10_ahead d 5 [.ref r0, .int x1, .int x2, .int (x3 + 0), .int (x4 + 1)] [] h2 o h') ∧ ((h2.2 r0 (z3 + 1).toNatClampNeg) = x2 → V G mX10_ahead d 5 [.ref r0, .int x1, .int x2, .int (x3 + 1), .int (x4 + 1)] [] h2 o h'))))) : V G mX10_ahead d 5 [.ref r0, .int x1, .int x2, .int x3, .int x4] [] h o h' := by
  have hdd : d - 1 + 1 ≤ d := by omega
  refine v_iload (pc' := 7) dX10_ahead_5 rfl rfl ?_
  refine v_iload_n (pc' := 8) dX10_ahead_7 rfl rfl ?_
  refine v_icmp_ge (tgt := 38) (pc' := 11) dX10_ahead_8 (by decide) rfl ⟨fun c1 => ?_, fun c1 => ?_⟩
  · have T := T.1 c1
    refine v_iload_n (pc' := 39) dX10_ahead_38 rfl rfl ?_
    exact v_iret dX10_ahead_39 rfl T
  · have T := T.2 c1
    refine v_iload_n (pc' := 12) dX10_ahead_11 rfl rfl ?_
    refine v_aload_n (pc' := 13) dX10_ahead_12 rfl rfl ?_
    refine v_iload (pc' := 15) dX10_ahead_13 rfl rfl ?_
    obtain ⟨z3, h2, k4, T⟩ := T
    refine v_callS (pc' := 18) (M1 := mX10_cell) (as := [.int x4]) (rest := [.ref r0, .int x3]) dX10_ahead_15 rfl ko_X10_201 kc_X10_cell kt_X10_cell (by decide) hdd rfl rfl (le_l rfl) k4 ?_
    refine v_iconst (pc' := 19) (v := 1) dX10_ahead_18 rfl kI_1 ?_
    refine v_iadd (pc' := 20) dX10_ahead_19 rfl ?_
    obtain ⟨q5, T⟩ := T
    obtain ⟨q6, T⟩ := T
    refine v_iald (pc' := 21) dX10_ahead_20 rfl rfl q5 q6 ?_
    refine v_iload_n (pc' := 22) dX10_ahead_21 rfl rfl ?_
    refine v_icmp_ne (tgt := 29) (pc' := 25) dX10_ahead_22 (by decide) rfl ⟨fun c7 => ?_, fun c7 => ?_⟩
    · have T := T.1 c7
      refine v_iconst (pc' := 30) (v := 0) dX10_ahead_29 rfl kI_0 ?_
      refine v_iadd (pc' := 31) dX10_ahead_30 rfl ?_
      refine v_istore_n (pc' := 32) (loc' := [.ref r0, .int x1, .int x2, .int (x3 + 0), .int x4]) dX10_ahead_31 rfl (lt_l rfl) rfl ?_
      refine v_iinc (pc' := 35) (loc' := [.ref r0, .int x1, .int x2, .int (x3 + 0), .int (x4 + 1)]) dX10_ahead_32 rfl rfl (kX_1 _) rfl ?_
      refine v_goto (pc' := 5) dX10_ahead_35 (by decide) ?_
      exact T
    · have T := T.2 c7
      refine v_iconst (pc' := 26) (v := 1) dX10_ahead_25 rfl kI_1 ?_
      refine v_goto (pc' := 30) dX10_ahead_26 (by decide) ?_
      refine v_iadd (pc' := 31) dX10_ahead_30 rfl ?_
      refine v_istore_n (pc' := 32) (loc' := [.ref r0, .int x1, .int x2, .int (x3 + 1), .int x4]) dX10_ahead_31 rfl (lt_l rfl) rfl ?_
      refine v_iinc (pc' := 35) (loc' := [.ref r0, .int x1, .int x2, .int (x3 + 1), .int (x4 + 1)]) dX10_ahead_32 rfl rfl (kX_1 _) rfl ?_
      refine v_goto (pc' := 5) dX10_ahead_35 (by decide) ?_
      exact T
theorem eX10_mayGo {G : GG} {d : Nat} {h : Hp} {o : OU} {h' : Hp} (r0 : Nat) (r1 : Nat) (x2 : Int32) (hd : 1 ≤ d) (T : ∃ z2 h1, VM G mX10_cell (d - 1) [.int x2] h (.inl (some (.int z2))) h1 ∧ V G mX10_mayGo d 8 [.ref r0, .ref r1, .int x2, .int z2, .int 4, uV] [] h1 o h') : VM G mX10_mayGo d [.ref r0, .ref r1, .int x2] h o h' := by
  refine V.toM rfl rfl (le_l rfl) (cat_all rfl) ?_
  show V G mX10_mayGo d 0 [.ref r0, .ref r1, .int x2, uV, uV, uV] [] h o h'
  have hdd : d - 1 + 1 ≤ d := by omega
  refine v_iload_n (pc' := 1) dX10_mayGo_0 rfl rfl ?_
  obtain ⟨z2, h1, k3, T⟩ := T
  refine v_callS (pc' := 4) (M1 := mX10_cell) (as := [.int x2]) (rest := []) dX10_mayGo_1 rfl ko_X10_201 kc_X10_cell kt_X10_cell (by decide) hdd rfl rfl (le_l rfl) k3 ?_
  refine v_istore_n (pc' := 5) (loc' := [.ref r0, .ref r1, .int x2, .int z2, uV, uV]) dX10_mayGo_4 rfl (lt_l rfl) rfl ?_
  refine v_iconst (pc' := 6) (v := 4) dX10_mayGo_5 rfl kI_4 ?_
  refine v_istore (pc' := 8) (loc' := [.ref r0, .ref r1, .int x2, .int z2, .int 4, uV]) dX10_mayGo_6 rfl (lt_l rfl) rfl ?_
  exact T
theorem bX10_mayGo_8 {G : GG} {d : Nat} {h : Hp} {o : OU} {h' : Hp} (r0 : Nat) (r1 : Nat) (x2 : Int32) (x3 : Int32) (x4 : Int32) (hd : 1 ≤ d) (T : ((8 ≤ x4 → V G mX10_mayGo d 97 [.ref r0, .ref r1, .int x2, .int x3, .int 0, uV] [] h o h') ∧ (¬ 8 ≤ x4 → kH h r1 = 1 ∧ vp_in (x3 + x4) (lH h r1) ∧ ((0 ≤ (h.2 r1 (x3 + x4).toNatClampNeg) → V G mX10_mayGo d 41 [.ref r0, .ref r1, .int x2, .int x3, .int x4, uV] [] h o h') ∧ (¬ 0 ≤ (h.2 r1 (x3 + x4).toNatClampNeg) → ∃ z6 h5, VM G mX10_ahead (d - 1) [.ref r1, .int x2, .int (-(h.2 r1 (x3 + x4).toNatClampNeg))] h (.inl (some (.int z6))) h5 ∧ ((z6 ≤ 0 → V G mX10_mayGo d 41 [.ref r0, .ref r1, .int x2, .int x3, .int x4, uV] [] h5 o h') ∧ (¬ z6 ≤ 0 → (o = .inl (some (.int 0)) ∧ h' = h5)))))))) : V G mX10_mayGo d 8 [.ref r0, .ref r1, .int x2, .int x3, .int x4, uV] [] h o h' := by
  have hdd : d - 1 + 1 ≤ d := by omega
  refine v_iload (pc' := 10) dX10_mayGo_8 rfl rfl ?_
  refine v_bipush (pc' := 12) (v := 8) dX10_mayGo_10 rfl kB_8 ?_
  refine v_icmp_ge (tgt := 94) (pc' := 15) dX10_mayGo_12 (by decide) rfl ⟨fun c1 => ?_, fun c1 => ?_⟩
  · have T := T.1 c1
    refine v_iconst (pc' := 95) (v := 0) dX10_mayGo_94 rfl kI_0 ?_
    refine v_istore (pc' := 97) (loc' := [.ref r0, .ref r1, .int x2, .int x3, .int 0, uV]) dX10_mayGo_95 rfl (lt_l rfl) rfl ?_
    exact T
  · have T := T.2 c1
    refine v_aload_n (pc' := 16) dX10_mayGo_15 rfl rfl ?_
    refine v_iload_n (pc' := 17) dX10_mayGo_16 rfl rfl ?_
    refine v_iload (pc' := 19) dX10_mayGo_17 rfl rfl ?_
    refine v_iadd (pc' := 20) dX10_mayGo_19 rfl ?_
    obtain ⟨q2, T⟩ := T
    obtain ⟨q3, T⟩ := T
    refine v_iald (pc' := 21) dX10_mayGo_20 rfl rfl q2 q3 ?_
    refine v_if_ge (tgt := 41) (pc' := 24) dX10_mayGo_21 (by decide) rfl ⟨fun c4 => ?_, fun c4 => ?_⟩
    · have T := T.1 c4
      exact T
    · have T := T.2 c4
      refine v_aload_n (pc' := 25) dX10_mayGo_24 rfl rfl ?_
      refine v_iload_n (pc' := 26) dX10_mayGo_25 rfl rfl ?_
      refine v_aload_n (pc' := 27) dX10_mayGo_26 rfl rfl ?_
      refine v_iload_n (pc' := 28) dX10_mayGo_27 rfl rfl ?_
      refine v_iload (pc' := 30) dX10_mayGo_28 rfl rfl ?_
      refine v_iadd (pc' := 31) dX10_mayGo_30 rfl ?_
      refine v_iald (pc' := 32) dX10_mayGo_31 rfl rfl q2 q3 ?_
      refine v_ineg (pc' := 33) dX10_mayGo_32 rfl ?_
      obtain ⟨z6, h5, k7, T⟩ := T
      refine v_callS (pc' := 36) (M1 := mX10_ahead) (as := [.ref r1, .int x2, .int (-(h.2 r1 (x3 + x4).toNatClampNeg))]) (rest := []) dX10_mayGo_33 rfl ko_X10_212 kc_X10_ahead kt_X10_ahead (by decide) hdd rfl rfl (le_l rfl) k7 ?_
      refine v_if_le (tgt := 41) (pc' := 39) dX10_mayGo_36 (by decide) rfl ⟨fun c8 => ?_, fun c8 => ?_⟩
      · have T := T.1 c8
        exact T
      · have T := T.2 c8
        refine v_iconst (pc' := 40) (v := 0) dX10_mayGo_39 rfl kI_0 ?_
        exact v_zret dX10_mayGo_40 rfl (Or.inl rfl) T
theorem bX10_mayGo_41 {G : GG} {d : Nat} {h : Hp} {o : OU} {h' : Hp} (r0 : Nat) (r1 : Nat) (x2 : Int32) (x3 : Int32) (x4 : Int32) (hd : 1 ≤ d) (T : kH h r1 = 1 ∧ vp_in (x3 + x4) (lH h r1) ∧ ∃ z4 h3, VM G mX10_which (d - 1) [.ref r1, .int (h.2 r1 (x3 + x4).toNatClampNeg)] h (.inl (some (.int z4))) h3 ∧ ((z4 = (-1) → V G mX10_mayGo d 8 [.ref r0, .ref r1, .int x2, .int x3, .int (x4 + 1), uV] [] h3 o h') ∧ (¬ z4 = (-1) → ∃ z8 h7, VM G mX10_cell (d - 1) [.int z4] h3 (.inl (some (.int z8))) h7 ∧ kH h7 r1 = 1 ∧ vp_in (z8 + 1) (lH h7 r1) ∧ vp_in (x3 + 1) (lH h7 r1) ∧ ((¬ (h7.2 r1 (z8 + 1).toNatClampNeg) = (h7.2 r1 (x3 + 1).toNatClampNeg) → (o = .inl (some (.int 0)) ∧ h' = h7)) ∧ ((h7.2 r1 (z8 + 1).toNatClampNeg) = (h7.2 r1 (x3 + 1).toNatClampNeg) → kH h7 r0 = 18 ∧ kH h7 (rH h7 r0 27) = 3 ∧ vp_in z4 (lH h7 (rH h7 r0 27)) ∧ ((¬ (h7.2 (rH h7 r0 27) z4.toNatClampNeg) = 0 → V G mX10_mayGo d 8 [.ref r0, .ref r1, .int x2, .int x3, .int (x4 + 1), uV] [] h7 o h') ∧ ((h7.2 (rH h7 r0 27) z4.toNatClampNeg) = 0 → (o = .inl (some (.int 0)) ∧ h' = h7)))))))) : V G mX10_mayGo d 41 [.ref r0, .ref r1, .int x2, .int x3, .int x4, uV] [] h o h' := by
  have hdd : d - 1 + 1 ≤ d := by omega
  refine v_aload_n (pc' := 42) dX10_mayGo_41 rfl rfl ?_
  refine v_aload_n (pc' := 43) dX10_mayGo_42 rfl rfl ?_
  refine v_iload_n (pc' := 44) dX10_mayGo_43 rfl rfl ?_
  refine v_iload (pc' := 46) dX10_mayGo_44 rfl rfl ?_
  refine v_iadd (pc' := 47) dX10_mayGo_46 rfl ?_
  obtain ⟨q1, T⟩ := T
  obtain ⟨q2, T⟩ := T
  refine v_iald (pc' := 48) dX10_mayGo_47 rfl rfl q1 q2 ?_
  obtain ⟨z4, h3, k5, T⟩ := T
  refine v_callS (pc' := 51) (M1 := mX10_which) (as := [.ref r1, .int (h.2 r1 (x3 + x4).toNatClampNeg)]) (rest := []) dX10_mayGo_48 rfl ko_X10_216 kc_X10_which kt_X10_which (by decide) hdd rfl rfl (le_l rfl) k5 ?_
  refine v_istore (pc' := 53) (loc' := [.ref r0, .ref r1, .int x2, .int x3, .int x4, .int z4]) dX10_mayGo_51 rfl (lt_l rfl) rfl ?_
  refine v_iload (pc' := 55) dX10_mayGo_53 rfl rfl ?_
  refine v_iconst (pc' := 56) (v := (-1)) dX10_mayGo_55 rfl kI_m1 ?_
  refine v_icmp_eq (tgt := 88) (pc' := 59) dX10_mayGo_56 (by decide) rfl ⟨fun c6 => ?_, fun c6 => ?_⟩
  · have T := T.1 c6
    refine v_iinc (pc' := 91) (loc' := [.ref r0, .ref r1, .int x2, .int x3, .int (x4 + 1), .int z4]) dX10_mayGo_88 rfl rfl (kX_1 _) rfl ?_
    refine v_goto (pc' := 8) dX10_mayGo_91 (by decide) ?_
    exact V.drop (llp_r (llp_r (llp_r (llp_r (llp_r (llp_u llp_nil)))))) T
  · have T := T.2 c6
    refine v_aload_n (pc' := 60) dX10_mayGo_59 rfl rfl ?_
    refine v_iload (pc' := 62) dX10_mayGo_60 rfl rfl ?_
    obtain ⟨z8, h7, k9, T⟩ := T
    refine v_callS (pc' := 65) (M1 := mX10_cell) (as := [.int z4]) (rest := [.ref r1]) dX10_mayGo_62 rfl ko_X10_201 kc_X10_cell kt_X10_cell (by decide) hdd rfl rfl (le_l rfl) k9 ?_
    refine v_iconst (pc' := 66) (v := 1) dX10_mayGo_65 rfl kI_1 ?_
    refine v_iadd (pc' := 67) dX10_mayGo_66 rfl ?_
    obtain ⟨q10, T⟩ := T
    obtain ⟨q11, T⟩ := T
    refine v_iald (pc' := 68) dX10_mayGo_67 rfl rfl q10 q11 ?_
    refine v_aload_n (pc' := 69) dX10_mayGo_68 rfl rfl ?_
    refine v_iload_n (pc' := 70) dX10_mayGo_69 rfl rfl ?_
    refine v_iconst (pc' := 71) (v := 1) dX10_mayGo_70 rfl kI_1 ?_
    refine v_iadd (pc' := 72) dX10_mayGo_71 rfl ?_
    obtain ⟨q12, T⟩ := T
    refine v_iald (pc' := 73) dX10_mayGo_72 rfl rfl q10 q12 ?_
    refine v_icmp_ne (tgt := 86) (pc' := 76) dX10_mayGo_73 (by decide) rfl ⟨fun c13 => ?_, fun c13 => ?_⟩
    · have T := T.1 c13
      refine v_iconst (pc' := 87) (v := 0) dX10_mayGo_86 rfl kI_0 ?_
      exact v_zret dX10_mayGo_87 rfl (Or.inl rfl) T
    · have T := T.2 c13
      refine v_aload_n (pc' := 77) dX10_mayGo_76 rfl rfl ?_
      obtain ⟨q14, T⟩ := T
      refine v_getR (pc' := 80) 8 27 dX10_mayGo_77 rfl (by decide) (by decide) rfl kf_X10_47 q14 ?_
      refine v_iload (pc' := 82) dX10_mayGo_80 rfl rfl ?_
      obtain ⟨q15, T⟩ := T
      obtain ⟨q16, T⟩ := T
      refine v_zald (pc' := 83) dX10_mayGo_82 rfl rfl q15 q16 ?_
      refine v_if_ne (tgt := 88) (pc' := 86) dX10_mayGo_83 (by decide) rfl ⟨fun c17 => ?_, fun c17 => ?_⟩
      · have T := T.1 c17
        refine v_iinc (pc' := 91) (loc' := [.ref r0, .ref r1, .int x2, .int x3, .int (x4 + 1), .int z4]) dX10_mayGo_88 rfl rfl (kX_1 _) rfl ?_
        refine v_goto (pc' := 8) dX10_mayGo_91 (by decide) ?_
        exact V.drop (llp_r (llp_r (llp_r (llp_r (llp_r (llp_u llp_nil)))))) T
      · have T := T.2 c17
        refine v_iconst (pc' := 87) (v := 0) dX10_mayGo_86 rfl kI_0 ?_
        exact v_zret dX10_mayGo_87 rfl (Or.inl rfl) T
theorem bX10_mayGo_97 {G : GG} {d : Nat} {h : Hp} {o : OU} {h' : Hp} (r0 : Nat) (r1 : Nat) (x2 : Int32) (x3 : Int32) (x4 : Int32) (hd : 1 ≤ d) (T : ((x2 ≤ x4 → (o = .inl (some (.int 1)) ∧ h' = h)) ∧ (¬ x2 ≤ x4 → ∃ z3 h2, VM G mX10_cell (d - 1) [.int x4] h (.inl (some (.int z3))) h2 ∧ kH h2 r1 = 1 ∧ vp_in (z3 + 1) (lH h2 r1) ∧ vp_in (x3 + 1) (lH h2 r1) ∧ ((¬ (h2.2 r1 (z3 + 1).toNatClampNeg) = (h2.2 r1 (x3 + 1).toNatClampNeg) → V G mX10_mayGo d 97 [.ref r0, .ref r1, .int x2, .int x3, .int (x4 + 1), uV] [] h2 o h') ∧ ((h2.2 r1 (z3 + 1).toNatClampNeg) = (h2.2 r1 (x3 + 1).toNatClampNeg) → kH h2 r0 = 18 ∧ kH h2 (rH h2 r0 27) = 3 ∧ vp_in x4 (lH h2 (rH h2 r0 27)) ∧ (((h2.2 (rH h2 r0 27) x4.toNatClampNeg) = 0 → vp_in (z3 + 2) (lH h2 r1) ∧ (((h2.2 r1 (z3 + 2).toNatClampNeg) = 16 → (o = .inl (some (.int 0)) ∧ h' = h2)) ∧ (¬ (h2.2 r1 (z3 + 2).toNatClampNeg) = 16 → ∃ z16 h15, VM G mX10_puts (d - 1) [.ref r1, .int x3, .int (h2.2 r1 (z3 + 2).toNatClampNeg)] h2 (.inl (some (.int z16))) h15 ∧ ((z16 = 0 → V G mX10_mayGo d 97 [.ref r0, .ref r1, .int x2, .int x3, .int (x4 + 1), uV] [] h15 o h') ∧ (¬ z16 = 0 → (o = .inl (some (.int 0)) ∧ h' = h15)))))) ∧ (¬ (h2.2 (rH h2 r0 27) x4.toNatClampNeg) = 0 → V G mX10_mayGo d 97 [.ref r0, .ref r1, .int x2, .int x3, .int (x4 + 1), uV] [] h2 o h'))))))) : V G mX10_mayGo d 97 [.ref r0, .ref r1, .int x2, .int x3, .int x4, uV] [] h o h' := by
  have hdd : d - 1 + 1 ≤ d := by omega
  refine v_iload (pc' := 99) dX10_mayGo_97 rfl rfl ?_
  refine v_iload_n (pc' := 100) dX10_mayGo_99 rfl rfl ?_
  refine v_icmp_ge (tgt := 170) (pc' := 103) dX10_mayGo_100 (by decide) rfl ⟨fun c1 => ?_, fun c1 => ?_⟩
  · have T := T.1 c1
    refine v_iconst (pc' := 171) (v := 1) dX10_mayGo_170 rfl kI_1 ?_
    exact v_zret dX10_mayGo_171 rfl (Or.inr rfl) T
  · have T := T.2 c1
    refine v_iload (pc' := 105) dX10_mayGo_103 rfl rfl ?_
    obtain ⟨z3, h2, k4, T⟩ := T
    refine v_callS (pc' := 108) (M1 := mX10_cell) (as := [.int x4]) (rest := []) dX10_mayGo_105 rfl ko_X10_201 kc_X10_cell kt_X10_cell (by decide) hdd rfl rfl (le_l rfl) k4 ?_
    refine v_istore (pc' := 110) (loc' := [.ref r0, .ref r1, .int x2, .int x3, .int x4, .int z3]) dX10_mayGo_108 rfl (lt_l rfl) rfl ?_
    refine v_aload_n (pc' := 111) dX10_mayGo_110 rfl rfl ?_
    refine v_iload (pc' := 113) dX10_mayGo_111 rfl rfl ?_
    refine v_iconst (pc' := 114) (v := 1) dX10_mayGo_113 rfl kI_1 ?_
    refine v_iadd (pc' := 115) dX10_mayGo_114 rfl ?_
    obtain ⟨q5, T⟩ := T
    obtain ⟨q6, T⟩ := T
    refine v_iald (pc' := 116) dX10_mayGo_115 rfl rfl q5 q6 ?_
    refine v_aload_n (pc' := 117) dX10_mayGo_116 rfl rfl ?_
    refine v_iload_n (pc' := 118) dX10_mayGo_117 rfl rfl ?_
    refine v_iconst (pc' := 119) (v := 1) dX10_mayGo_118 rfl kI_1 ?_
    refine v_iadd (pc' := 120) dX10_mayGo_119 rfl ?_
    obtain ⟨q7, T⟩ := T
    refine v_iald (pc' := 121) dX10_mayGo_120 rfl rfl q5 q7 ?_
    refine v_icmp_ne (tgt := 164) (pc' := 124) dX10_mayGo_121 (by decide) rfl ⟨fun c8 => ?_, fun c8 => ?_⟩
    · have T := T.1 c8
      refine v_iinc (pc' := 167) (loc' := [.ref r0, .ref r1, .int x2, .int x3, .int (x4 + 1), .int z3]) dX10_mayGo_164 rfl rfl (kX_1 _) rfl ?_
      refine v_goto (pc' := 97) dX10_mayGo_167 (by decide) ?_
      exact V.drop (llp_r (llp_r (llp_r (llp_r (llp_r (llp_u llp_nil)))))) T
    · have T := T.2 c8
      refine v_aload_n (pc' := 125) dX10_mayGo_124 rfl rfl ?_
      obtain ⟨q9, T⟩ := T
      refine v_getR (pc' := 128) 8 27 dX10_mayGo_125 rfl (by decide) (by decide) rfl kf_X10_47 q9 ?_
      refine v_iload (pc' := 130) dX10_mayGo_128 rfl rfl ?_
      obtain ⟨q10, T⟩ := T
      obtain ⟨q11, T⟩ := T
      refine v_zald (pc' := 131) dX10_mayGo_130 rfl rfl q10 q11 ?_
      refine v_if_eq (tgt := 137) (pc' := 134) dX10_mayGo_131 (by decide) rfl ⟨fun c12 => ?_, fun c12 => ?_⟩
      · have T := T.1 c12
        refine v_aload_n (pc' := 138) dX10_mayGo_137 rfl rfl ?_
        refine v_iload (pc' := 140) dX10_mayGo_138 rfl rfl ?_
        refine v_iconst (pc' := 141) (v := 2) dX10_mayGo_140 rfl kI_2 ?_
        refine v_iadd (pc' := 142) dX10_mayGo_141 rfl ?_
        obtain ⟨q13, T⟩ := T
        refine v_iald (pc' := 143) dX10_mayGo_142 rfl rfl q5 q13 ?_
        refine v_bipush (pc' := 145) (v := 16) dX10_mayGo_143 rfl kB_16 ?_
        refine v_icmp_eq (tgt := 162) (pc' := 148) dX10_mayGo_145 (by decide) rfl ⟨fun c14 => ?_, fun c14 => ?_⟩
        · have T := T.1 c14
          refine v_iconst (pc' := 163) (v := 0) dX10_mayGo_162 rfl kI_0 ?_
          exact v_zret dX10_mayGo_163 rfl (Or.inl rfl) T
        · have T := T.2 c14
          refine v_aload_n (pc' := 149) dX10_mayGo_148 rfl rfl ?_
          refine v_iload_n (pc' := 150) dX10_mayGo_149 rfl rfl ?_
          refine v_aload_n (pc' := 151) dX10_mayGo_150 rfl rfl ?_
          refine v_iload (pc' := 153) dX10_mayGo_151 rfl rfl ?_
          refine v_iconst (pc' := 154) (v := 2) dX10_mayGo_153 rfl kI_2 ?_
          refine v_iadd (pc' := 155) dX10_mayGo_154 rfl ?_
          refine v_iald (pc' := 156) dX10_mayGo_155 rfl rfl q5 q13 ?_
          obtain ⟨z16, h15, k17, T⟩ := T
          refine v_callS (pc' := 159) (M1 := mX10_puts) (as := [.ref r1, .int x3, .int (h2.2 r1 (z3 + 2).toNatClampNeg)]) (rest := []) dX10_mayGo_156 rfl ko_X10_220 kc_X10_puts kt_X10_puts (by decide) hdd rfl rfl (le_l rfl) k17 ?_
          refine v_if_eq (tgt := 164) (pc' := 162) dX10_mayGo_159 (by decide) rfl ⟨fun c18 => ?_, fun c18 => ?_⟩
          · have T := T.1 c18
            refine v_iinc (pc' := 167) (loc' := [.ref r0, .ref r1, .int x2, .int x3, .int (x4 + 1), .int z3]) dX10_mayGo_164 rfl rfl (kX_1 _) rfl ?_
            refine v_goto (pc' := 97) dX10_mayGo_167 (by decide) ?_
            exact V.drop (llp_r (llp_r (llp_r (llp_r (llp_r (llp_u llp_nil)))))) T
          · have T := T.2 c18
            refine v_iconst (pc' := 163) (v := 0) dX10_mayGo_162 rfl kI_0 ?_
            exact v_zret dX10_mayGo_163 rfl (Or.inl rfl) T
      · have T := T.2 c12
        refine v_goto (pc' := 164) dX10_mayGo_134 (by decide) ?_
        refine v_iinc (pc' := 167) (loc' := [.ref r0, .ref r1, .int x2, .int x3, .int (x4 + 1), .int z3]) dX10_mayGo_164 rfl rfl (kX_1 _) rfl ?_
        refine v_goto (pc' := 97) dX10_mayGo_167 (by decide) ?_
        exact V.drop (llp_r (llp_r (llp_r (llp_r (llp_r (llp_u llp_nil)))))) T
theorem eX10_copiesBlock {G : GG} {d : Nat} {h : Hp} {o : OU} {h' : Hp} (r0 : Nat) (r1 : Nat) (x2 : Int32) (T : V G mX10_copiesBlock d 5 [.ref r0, .ref r1, .int x2, .int 0, .int 0, uV, uV] [] h o h') : VM G mX10_copiesBlock d [.ref r0, .ref r1, .int x2] h o h' := by
  refine V.toM rfl rfl (le_l rfl) (cat_all rfl) ?_
  show V G mX10_copiesBlock d 0 [.ref r0, .ref r1, .int x2, uV, uV, uV, uV] [] h o h'
  refine v_iconst (pc' := 1) (v := 0) dX10_copiesBlock_0 rfl kI_0 ?_
  refine v_istore_n (pc' := 2) (loc' := [.ref r0, .ref r1, .int x2, .int 0, uV, uV, uV]) dX10_copiesBlock_1 rfl (lt_l rfl) rfl ?_
  refine v_iconst (pc' := 3) (v := 0) dX10_copiesBlock_2 rfl kI_0 ?_
  refine v_istore (pc' := 5) (loc' := [.ref r0, .ref r1, .int x2, .int 0, .int 0, uV, uV]) dX10_copiesBlock_3 rfl (lt_l rfl) rfl ?_
  exact T
theorem bX10_copiesBlock_5 {G : GG} {d : Nat} {h : Hp} {o : OU} {h' : Hp} (r0 : Nat) (r1 : Nat) (x2 : Int32) (x3 : Int32) (x4 : Int32) (hd : 1 ≤ d) (T : kH h r1 = 1 ∧ vp_in 3392 (lH h r1) ∧ (((h.2 r1 3392) ≤ x4 → V G mX10_copiesBlock d 80 [.ref r0, .ref r1, .int x2, .int x3, .int 0, uV, uV] [] h o h') ∧ (¬ (h.2 r1 3392) ≤ x4 → kH h r0 = 18 ∧ kH h (rH h r0 27) = 3 ∧ vp_in x4 (lH h (rH h r0 27)) ∧ ∃ z8 h7, VM G mX10_cell (d - 1) [.int x4] (h.1, (upI h.2 (rH h r0 27) x4.toNatClampNeg 0)) (.inl (some (.int z8))) h7 ∧ kH h7 r1 = 1 ∧ vp_in (z8 + 1) (lH h7 r1) ∧ (((h7.2 r1 (z8 + 1).toNatClampNeg) = x2 → kH h7 r0 = 18 ∧ ∃ z15 h14, VM G mX10_mayGo (d - 1) [.ref r0, .ref r1, .int x4] h7 (.inl (some (.int z15))) h14 ∧ (z15 = 0 ∨ z15 = 1) ∧ kH h14 (rH h7 r0 27) = 3 ∧ vp_in x4 (lH h14 (rH h7 r0 27)) ∧ kH h14 r0 = 18 ∧ kH h14 (rH h14 r0 27) = 3 ∧ vp_in x4 (lH h14 (rH h14 r0 27)) ∧ ((((upI h14.2 (rH h7 r0 27) x4.toNatClampNeg z15) (rH h14 r0 27) x4.toNatClampNeg) = 0 → V G mX10_copiesBlock d 5 [.ref r0, .ref r1, .int x2, .int (x3 + 1), .int (x4 + 1), uV, uV] [] (h14.1, (upI h14.2 (rH h7 r0 27) x4.toNatClampNeg z15)) o h') ∧ (¬ ((upI h14.2 (rH h7 r0 27) x4.toNatClampNeg z15) (rH h14 r0 27) x4.toNatClampNeg) = 0 → V G mX10_copiesBlock d 5 [.ref r0, .ref r1, .int x2, .int (x3 + 0), .int (x4 + 1), uV, uV] [] (h14.1, (upI h14.2 (rH h7 r0 27) x4.toNatClampNeg z15)) o h'))) ∧ (¬ (h7.2 r1 (z8 + 1).toNatClampNeg) = x2 → V G mX10_copiesBlock d 5 [.ref r0, .ref r1, .int x2, .int x3, .int (x4 + 1), uV, uV] [] h7 o h'))))) : V G mX10_copiesBlock d 5 [.ref r0, .ref r1, .int x2, .int x3, .int x4, uV, uV] [] h o h' := by
  have hdd : d - 1 + 1 ≤ d := by omega
  refine v_iload (pc' := 7) dX10_copiesBlock_5 rfl rfl ?_
  refine v_aload_n (pc' := 8) dX10_copiesBlock_7 rfl rfl ?_
  refine v_sipush (pc' := 11) (v := 3392) dX10_copiesBlock_8 rfl kS_3392 ?_
  obtain ⟨q1, T⟩ := T
  obtain ⟨q2, T⟩ := T
  refine v_iald (pc' := 12) dX10_copiesBlock_11 rfl kN_3392 q1 q2 ?_
  refine v_icmp_ge (tgt := 77) (pc' := 15) dX10_copiesBlock_12 (by decide) rfl ⟨fun c3 => ?_, fun c3 => ?_⟩
  · have T := T.1 c3
    refine v_iconst (pc' := 78) (v := 0) dX10_copiesBlock_77 rfl kI_0 ?_
    refine v_istore (pc' := 80) (loc' := [.ref r0, .ref r1, .int x2, .int x3, .int 0, uV, uV]) dX10_copiesBlock_78 rfl (lt_l rfl) rfl ?_
    exact T
  · have T := T.2 c3
    refine v_aload_n (pc' := 16) dX10_copiesBlock_15 rfl rfl ?_
    obtain ⟨q4, T⟩ := T
    refine v_getR (pc' := 19) 8 27 dX10_copiesBlock_16 rfl (by decide) (by decide) rfl kf_X10_47 q4 ?_
    refine v_iload (pc' := 21) dX10_copiesBlock_19 rfl rfl ?_
    refine v_iconst (pc' := 22) (v := 0) dX10_copiesBlock_21 rfl kI_0 ?_
    obtain ⟨q5, T⟩ := T
    obtain ⟨q6, T⟩ := T
    refine v_zast (pc' := 23) dX10_copiesBlock_22 rfl rfl (Or.inl rfl) q5 q6 ?_
    refine v_aload_n (pc' := 24) dX10_copiesBlock_23 rfl rfl ?_
    refine v_iload (pc' := 26) dX10_copiesBlock_24 rfl rfl ?_
    obtain ⟨z8, h7, k9, T⟩ := T
    refine v_callS (pc' := 29) (M1 := mX10_cell) (as := [.int x4]) (rest := [.ref r1]) dX10_copiesBlock_26 rfl ko_X10_201 kc_X10_cell kt_X10_cell (by decide) hdd rfl rfl (le_l rfl) k9 ?_
    refine v_iconst (pc' := 30) (v := 1) dX10_copiesBlock_29 rfl kI_1 ?_
    refine v_iadd (pc' := 31) dX10_copiesBlock_30 rfl ?_
    obtain ⟨q10, T⟩ := T
    obtain ⟨q11, T⟩ := T
    refine v_iald (pc' := 32) dX10_copiesBlock_31 rfl rfl q10 q11 ?_
    refine v_iload_n (pc' := 33) dX10_copiesBlock_32 rfl rfl ?_
    refine v_icmp_eq (tgt := 39) (pc' := 36) dX10_copiesBlock_33 (by decide) rfl ⟨fun c12 => ?_, fun c12 => ?_⟩
    · have T := T.1 c12
      refine v_aload_n (pc' := 40) dX10_copiesBlock_39 rfl rfl ?_
      obtain ⟨q13, T⟩ := T
      refine v_getR (pc' := 43) 8 27 dX10_copiesBlock_40 rfl (by decide) (by decide) rfl kf_X10_47 q13 ?_
      refine v_iload (pc' := 45) dX10_copiesBlock_43 rfl rfl ?_
      refine v_aload_n (pc' := 46) dX10_copiesBlock_45 rfl rfl ?_
      refine v_aload_n (pc' := 47) dX10_copiesBlock_46 rfl rfl ?_
      refine v_iload (pc' := 49) dX10_copiesBlock_47 rfl rfl ?_
      obtain ⟨z15, h14, k16, T⟩ := T
      refine v_callV (pc' := 52) (M1 := mX10_mayGo) (as := [.ref r1, .int x4]) (r := r0) (rest := [.int x4, .ref (rH h7 r0 27)]) 8 dX10_copiesBlock_49 rfl ko_X10_224 kc_X10_mayGo ki_X10_mayGo ks_X10_mayGo (by decide) (by decide) hdd rfl rfl (le_l rfl) q13 k16 ?_
      obtain ⟨q17, T⟩ := T
      obtain ⟨q18, T⟩ := T
      obtain ⟨q19, T⟩ := T
      refine v_zast (pc' := 53) dX10_copiesBlock_52 rfl rfl q17 q18 q19 ?_
      refine v_iload_n (pc' := 54) dX10_copiesBlock_53 rfl rfl ?_
      refine v_aload_n (pc' := 55) dX10_copiesBlock_54 rfl rfl ?_
      obtain ⟨q20, T⟩ := T
      refine v_getR (pc' := 58) 8 27 dX10_copiesBlock_55 rfl (by decide) (by decide) rfl kf_X10_47 q20 ?_
      refine v_iload (pc' := 60) dX10_copiesBlock_58 rfl rfl ?_
      obtain ⟨q21, T⟩ := T
      obtain ⟨q22, T⟩ := T
      refine v_zald (pc' := 61) dX10_copiesBlock_60 rfl rfl q21 q22 ?_
      refine v_if_eq (tgt := 68) (pc' := 64) dX10_copiesBlock_61 (by decide) rfl ⟨fun c23 => ?_, fun c23 => ?_⟩
      · have T := T.1 c23
        refine v_iconst (pc' := 69) (v := 1) dX10_copiesBlock_68 rfl kI_1 ?_
        refine v_iadd (pc' := 70) dX10_copiesBlock_69 rfl ?_
        refine v_istore_n (pc' := 71) (loc' := [.ref r0, .ref r1, .int x2, .int (x3 + 1), .int x4, uV, uV]) dX10_copiesBlock_70 rfl (lt_l rfl) rfl ?_
        refine v_iinc (pc' := 74) (loc' := [.ref r0, .ref r1, .int x2, .int (x3 + 1), .int (x4 + 1), uV, uV]) dX10_copiesBlock_71 rfl rfl (kX_1 _) rfl ?_
        refine v_goto (pc' := 5) dX10_copiesBlock_74 (by decide) ?_
        exact T
      · have T := T.2 c23
        refine v_iconst (pc' := 65) (v := 0) dX10_copiesBlock_64 rfl kI_0 ?_
        refine v_goto (pc' := 69) dX10_copiesBlock_65 (by decide) ?_
        refine v_iadd (pc' := 70) dX10_copiesBlock_69 rfl ?_
        refine v_istore_n (pc' := 71) (loc' := [.ref r0, .ref r1, .int x2, .int (x3 + 0), .int x4, uV, uV]) dX10_copiesBlock_70 rfl (lt_l rfl) rfl ?_
        refine v_iinc (pc' := 74) (loc' := [.ref r0, .ref r1, .int x2, .int (x3 + 0), .int (x4 + 1), uV, uV]) dX10_copiesBlock_71 rfl rfl (kX_1 _) rfl ?_
        refine v_goto (pc' := 5) dX10_copiesBlock_74 (by decide) ?_
        exact T
    · have T := T.2 c12
      refine v_goto (pc' := 71) dX10_copiesBlock_36 (by decide) ?_
      refine v_iinc (pc' := 74) (loc' := [.ref r0, .ref r1, .int x2, .int x3, .int (x4 + 1), uV, uV]) dX10_copiesBlock_71 rfl rfl (kX_1 _) rfl ?_
      refine v_goto (pc' := 5) dX10_copiesBlock_74 (by decide) ?_
      exact T
theorem bX10_copiesBlock_80 {G : GG} {d : Nat} {h : Hp} {o : OU} {h' : Hp} (r0 : Nat) (r1 : Nat) (x2 : Int32) (x3 : Int32) (x4 : Int32) (T : ((16 ≤ x4 → kH h r1 = 1 ∧ vp_in 3392 (lH h r1) ∧ V G mX10_copiesBlock d 120 [.ref r0, .ref r1, .int x2, .int x3, .int ((h.2 r1 3392) - 1), uV, uV] [] h o h') ∧ (¬ 16 ≤ x4 → kH h r0 = 18 ∧ kH h r1 = 1 ∧ vp_in ((0 + (16 * x2)) + x4) (lH h r1) ∧ kH h (rH h r0 28) = 1 ∧ vp_in x4 (lH h (rH h r0 28)) ∧ V G mX10_copiesBlock d 80 [.ref r0, .ref r1, .int x2, .int x3, .int (x4 + 1), uV, uV] [] (h.1, (upI h.2 (rH h r0 28) x4.toNatClampNeg (h.2 r1 ((0 + (16 * x2)) + x4).toNatClampNeg))) o h'))) : V G mX10_copiesBlock d 80 [.ref r0, .ref r1, .int x2, .int x3, .int x4, uV, uV] [] h o h' := by
  refine v_iload (pc' := 82) dX10_copiesBlock_80 rfl rfl ?_
  refine v_bipush (pc' := 84) (v := 16) dX10_copiesBlock_82 rfl kB_16 ?_
  refine v_icmp_ge (tgt := 111) (pc' := 87) dX10_copiesBlock_84 (by decide) rfl ⟨fun c1 => ?_, fun c1 => ?_⟩
  · have T := T.1 c1
    refine v_aload_n (pc' := 112) dX10_copiesBlock_111 rfl rfl ?_
    refine v_sipush (pc' := 115) (v := 3392) dX10_copiesBlock_112 rfl kS_3392 ?_
    obtain ⟨q2, T⟩ := T
    obtain ⟨q3, T⟩ := T
    refine v_iald (pc' := 116) dX10_copiesBlock_115 rfl kN_3392 q2 q3 ?_
    refine v_iconst (pc' := 117) (v := 1) dX10_copiesBlock_116 rfl kI_1 ?_
    refine v_isub (pc' := 118) dX10_copiesBlock_117 rfl ?_
    refine v_istore (pc' := 120) (loc' := [.ref r0, .ref r1, .int x2, .int x3, .int ((h.2 r1 3392) - 1), uV, uV]) dX10_copiesBlock_118 rfl (lt_l rfl) rfl ?_
    exact T
  · have T := T.2 c1
    refine v_aload_n (pc' := 88) dX10_copiesBlock_87 rfl rfl ?_
    obtain ⟨q4, T⟩ := T
    refine v_getR (pc' := 91) 8 28 dX10_copiesBlock_88 rfl (by decide) (by decide) rfl kf_X10_51 q4 ?_
    refine v_iload (pc' := 93) dX10_copiesBlock_91 rfl rfl ?_
    refine v_aload_n (pc' := 94) dX10_copiesBlock_93 rfl rfl ?_
    refine v_iconst (pc' := 95) (v := 0) dX10_copiesBlock_94 rfl kI_0 ?_
    refine v_bipush (pc' := 97) (v := 16) dX10_copiesBlock_95 rfl kB_16 ?_
    refine v_iload_n (pc' := 98) dX10_copiesBlock_97 rfl rfl ?_
    refine v_imul (pc' := 99) dX10_copiesBlock_98 rfl ?_
    refine v_iadd (pc' := 100) dX10_copiesBlock_99 rfl ?_
    refine v_iload (pc' := 102) dX10_copiesBlock_100 rfl rfl ?_
    refine v_iadd (pc' := 103) dX10_copiesBlock_102 rfl ?_
    obtain ⟨q5, T⟩ := T
    obtain ⟨q6, T⟩ := T
    refine v_iald (pc' := 104) dX10_copiesBlock_103 rfl rfl q5 q6 ?_
    obtain ⟨q7, T⟩ := T
    obtain ⟨q8, T⟩ := T
    refine v_iast (pc' := 105) dX10_copiesBlock_104 rfl rfl q7 q8 ?_
    refine v_iinc (pc' := 108) (loc' := [.ref r0, .ref r1, .int x2, .int x3, .int (x4 + 1), uV, uV]) dX10_copiesBlock_105 rfl rfl (kX_1 _) rfl ?_
    refine v_goto (pc' := 80) dX10_copiesBlock_108 (by decide) ?_
    exact T
theorem bX10_copiesBlock_120 {G : GG} {d : Nat} {h : Hp} {o : OU} {h' : Hp} (r0 : Nat) (r1 : Nat) (x2 : Int32) (x3 : Int32) (x4 : Int32) (hd : 1 ≤ d) (T : ((x4 < 0 → (o = .inl (some (.int x3)) ∧ h' = h)) ∧ (¬ x4 < 0 → ∃ z3 h2, VM G mX10_cell (d - 1) [.int x4] h (.inl (some (.int z3))) h2 ∧ kH h2 r1 = 1 ∧ vp_in (z3 + 1) (lH h2 r1) ∧ ((¬ (h2.2 r1 (z3 + 1).toNatClampNeg) = x2 → V G mX10_copiesBlock d 120 [.ref r0, .ref r1, .int x2, .int x3, .int (x4 + (-1)), uV, uV] [] h2 o h') ∧ ((h2.2 r1 (z3 + 1).toNatClampNeg) = x2 → kH h2 r0 = 18 ∧ kH h2 (rH h2 r0 27) = 3 ∧ vp_in x4 (lH h2 (rH h2 r0 27)) ∧ (((h2.2 (rH h2 r0 27) x4.toNatClampNeg) = 0 → V G mX10_copiesBlock d 158 [.ref r0, .ref r1, .int x2, .int x3, .int x4, .int z3, .int 0] [] h2 o h') ∧ (¬ (h2.2 (rH h2 r0 27) x4.toNatClampNeg) = 0 → V G mX10_copiesBlock d 120 [.ref r0, .ref r1, .int x2, .int x3, .int (x4 + (-1)), uV, uV] [] h2 o h'))))))) : V G mX10_copiesBlock d 120 [.ref r0, .ref r1, .int x2, .int x3, .int x4, uV, uV] [] h o h' := by
  have hdd : d - 1 + 1 ≤ d := by omega
  refine v_iload (pc' := 122) dX10_copiesBlock_120 rfl rfl ?_
  refine v_if_lt (tgt := 213) (pc' := 125) dX10_copiesBlock_122 (by decide) rfl ⟨fun c1 => ?_, fun c1 => ?_⟩
  · have T := T.1 c1
    refine v_iload_n (pc' := 214) dX10_copiesBlock_213 rfl rfl ?_
    exact v_iret dX10_copiesBlock_214 rfl T
  · have T := T.2 c1
    refine v_iload (pc' := 127) dX10_copiesBlock_125 rfl rfl ?_
    obtain ⟨z3, h2, k4, T⟩ := T
    refine v_callS (pc' := 130) (M1 := mX10_cell) (as := [.int x4]) (rest := []) dX10_copiesBlock_127 rfl ko_X10_201 kc_X10_cell kt_X10_cell (by decide) hdd rfl rfl (le_l rfl) k4 ?_
    refine v_istore (pc' := 132) (loc' := [.ref r0, .ref r1, .int x2, .int x3, .int x4, .int z3, uV]) dX10_copiesBlock_130 rfl (lt_l rfl) rfl ?_
    refine v_aload_n (pc' := 133) dX10_copiesBlock_132 rfl rfl ?_
    refine v_iload (pc' := 135) dX10_copiesBlock_133 rfl rfl ?_
    refine v_iconst (pc' := 136) (v := 1) dX10_copiesBlock_135 rfl kI_1 ?_
    refine v_iadd (pc' := 137) dX10_copiesBlock_136 rfl ?_
    obtain ⟨q5, T⟩ := T
    obtain ⟨q6, T⟩ := T
    refine v_iald (pc' := 138) dX10_copiesBlock_137 rfl rfl q5 q6 ?_
    refine v_iload_n (pc' := 139) dX10_copiesBlock_138 rfl rfl ?_
    refine v_icmp_ne (tgt := 207) (pc' := 142) dX10_copiesBlock_139 (by decide) rfl ⟨fun c7 => ?_, fun c7 => ?_⟩
    · have T := T.1 c7
      refine v_iinc (pc' := 210) (loc' := [.ref r0, .ref r1, .int x2, .int x3, .int (x4 + (-1)), .int z3, uV]) dX10_copiesBlock_207 rfl rfl (kX_m1 _) rfl ?_
      refine v_goto (pc' := 120) dX10_copiesBlock_210 (by decide) ?_
      exact V.drop (llp_r (llp_r (llp_r (llp_r (llp_r (llp_u (llp_r llp_nil))))))) T
    · have T := T.2 c7
      refine v_aload_n (pc' := 143) dX10_copiesBlock_142 rfl rfl ?_
      obtain ⟨q8, T⟩ := T
      refine v_getR (pc' := 146) 8 27 dX10_copiesBlock_143 rfl (by decide) (by decide) rfl kf_X10_47 q8 ?_
      refine v_iload (pc' := 148) dX10_copiesBlock_146 rfl rfl ?_
      obtain ⟨q9, T⟩ := T
      obtain ⟨q10, T⟩ := T
      refine v_zald (pc' := 149) dX10_copiesBlock_148 rfl rfl q9 q10 ?_
      refine v_if_eq (tgt := 155) (pc' := 152) dX10_copiesBlock_149 (by decide) rfl ⟨fun c11 => ?_, fun c11 => ?_⟩
      · have T := T.1 c11
        refine v_iconst (pc' := 156) (v := 0) dX10_copiesBlock_155 rfl kI_0 ?_
        refine v_istore (pc' := 158) (loc' := [.ref r0, .ref r1, .int x2, .int x3, .int x4, .int z3, .int 0]) dX10_copiesBlock_156 rfl (lt_l rfl) rfl ?_
        exact T
      · have T := T.2 c11
        refine v_goto (pc' := 207) dX10_copiesBlock_152 (by decide) ?_
        refine v_iinc (pc' := 210) (loc' := [.ref r0, .ref r1, .int x2, .int x3, .int (x4 + (-1)), .int z3, uV]) dX10_copiesBlock_207 rfl rfl (kX_m1 _) rfl ?_
        refine v_goto (pc' := 120) dX10_copiesBlock_210 (by decide) ?_
        exact V.drop (llp_r (llp_r (llp_r (llp_r (llp_r (llp_u (llp_r llp_nil))))))) T
theorem bX10_copiesBlock_158 {G : GG} {d : Nat} {h : Hp} {o : OU} {h' : Hp} (r0 : Nat) (r1 : Nat) (x2 : Int32) (x3 : Int32) (x4 : Int32) (x5 : Int32) (x6 : Int32) (hd : 1 ≤ d) (T : ((16 ≤ x6 → V G mX10_copiesBlock d 120 [.ref r0, .ref r1, .int x2, .int x3, .int (x4 + (-1)), uV, uV] [] h o h') ∧ (¬ 16 ≤ x6 → kH h r0 = 18 ∧ ∃ z4 h3, VM G mX10_puts (d - 1) [.ref r1, .int x5, .int x6] h (.inl (some (.int z4))) h3 ∧ ((z4 = 0 → kH h3 r0 = 18 ∧ kH h3 (rH h3 r0 28) = 1 ∧ vp_in x6 (lH h3 (rH h3 r0 28)) ∧ kH h3 (rH h r0 28) = 1 ∧ vp_in x6 (lH h3 (rH h r0 28)) ∧ V G mX10_copiesBlock d 158 [.ref r0, .ref r1, .int x2, .int x3, .int x4, .int x5, .int (x6 + 1)] [] (h3.1, (upI h3.2 (rH h r0 28) x6.toNatClampNeg (h3.2 (rH h3 r0 28) x6.toNatClampNeg))) o h') ∧ (¬ z4 = 0 → ∃ z13 h12, VM G mX10_wasAt (d - 1) [.ref r1, .int x5, .int x6] h3 (.inl (some (.int z13))) h12 ∧ kH h12 (rH h r0 28) = 1 ∧ vp_in x6 (lH h12 (rH h r0 28)) ∧ V G mX10_copiesBlock d 158 [.ref r0, .ref r1, .int x2, .int x3, .int x4, .int x5, .int (x6 + 1)] [] (h12.1, (upI h12.2 (rH h r0 28) x6.toNatClampNeg z13)) o h'))))) : V G mX10_copiesBlock d 158 [.ref r0, .ref r1, .int x2, .int x3, .int x4, .int x5, .int x6] [] h o h' := by
  have hdd : d - 1 + 1 ≤ d := by omega
  refine v_iload (pc' := 160) dX10_copiesBlock_158 rfl rfl ?_
  refine v_bipush (pc' := 162) (v := 16) dX10_copiesBlock_160 rfl kB_16 ?_
  refine v_icmp_ge (tgt := 207) (pc' := 165) dX10_copiesBlock_162 (by decide) rfl ⟨fun c1 => ?_, fun c1 => ?_⟩
  · have T := T.1 c1
    refine v_iinc (pc' := 210) (loc' := [.ref r0, .ref r1, .int x2, .int x3, .int (x4 + (-1)), .int x5, .int x6]) dX10_copiesBlock_207 rfl rfl (kX_m1 _) rfl ?_
    refine v_goto (pc' := 120) dX10_copiesBlock_210 (by decide) ?_
    exact V.drop (llp_r (llp_r (llp_r (llp_r (llp_r (llp_u (llp_u llp_nil))))))) T
  · have T := T.2 c1
    refine v_aload_n (pc' := 166) dX10_copiesBlock_165 rfl rfl ?_
    obtain ⟨q2, T⟩ := T
    refine v_getR (pc' := 169) 8 28 dX10_copiesBlock_166 rfl (by decide) (by decide) rfl kf_X10_51 q2 ?_
    refine v_iload (pc' := 171) dX10_copiesBlock_169 rfl rfl ?_
    refine v_aload_n (pc' := 172) dX10_copiesBlock_171 rfl rfl ?_
    refine v_iload (pc' := 174) dX10_copiesBlock_172 rfl rfl ?_
    refine v_iload (pc' := 176) dX10_copiesBlock_174 rfl rfl ?_
    obtain ⟨z4, h3, k5, T⟩ := T
    refine v_callS (pc' := 179) (M1 := mX10_puts) (as := [.ref r1, .int x5, .int x6]) (rest := [.int x6, .ref (rH h r0 28)]) dX10_copiesBlock_176 rfl ko_X10_220 kc_X10_puts kt_X10_puts (by decide) hdd rfl rfl (le_l rfl) k5 ?_
    refine v_if_eq (tgt := 193) (pc' := 182) dX10_copiesBlock_179 (by decide) rfl ⟨fun c6 => ?_, fun c6 => ?_⟩
    · have T := T.1 c6
      refine v_aload_n (pc' := 194) dX10_copiesBlock_193 rfl rfl ?_
      obtain ⟨q7, T⟩ := T
      refine v_getR (pc' := 197) 8 28 dX10_copiesBlock_194 rfl (by decide) (by decide) rfl kf_X10_51 q7 ?_
      refine v_iload (pc' := 199) dX10_copiesBlock_197 rfl rfl ?_
      obtain ⟨q8, T⟩ := T
      obtain ⟨q9, T⟩ := T
      refine v_iald (pc' := 200) dX10_copiesBlock_199 rfl rfl q8 q9 ?_
      obtain ⟨q10, T⟩ := T
      obtain ⟨q11, T⟩ := T
      refine v_iast (pc' := 201) dX10_copiesBlock_200 rfl rfl q10 q11 ?_
      refine v_iinc (pc' := 204) (loc' := [.ref r0, .ref r1, .int x2, .int x3, .int x4, .int x5, .int (x6 + 1)]) dX10_copiesBlock_201 rfl rfl (kX_1 _) rfl ?_
      refine v_goto (pc' := 158) dX10_copiesBlock_204 (by decide) ?_
      exact T
    · have T := T.2 c6
      refine v_aload_n (pc' := 183) dX10_copiesBlock_182 rfl rfl ?_
      refine v_iload (pc' := 185) dX10_copiesBlock_183 rfl rfl ?_
      refine v_iload (pc' := 187) dX10_copiesBlock_185 rfl rfl ?_
      obtain ⟨z13, h12, k14, T⟩ := T
      refine v_callS (pc' := 190) (M1 := mX10_wasAt) (as := [.ref r1, .int x5, .int x6]) (rest := [.int x6, .ref (rH h r0 28)]) dX10_copiesBlock_187 rfl ko_X10_227 kc_X10_wasAt kt_X10_wasAt (by decide) hdd rfl rfl (le_l rfl) k14 ?_
      refine v_goto (pc' := 200) dX10_copiesBlock_190 (by decide) ?_
      obtain ⟨q15, T⟩ := T
      obtain ⟨q16, T⟩ := T
      refine v_iast (pc' := 201) dX10_copiesBlock_200 rfl rfl q15 q16 ?_
      refine v_iinc (pc' := 204) (loc' := [.ref r0, .ref r1, .int x2, .int x3, .int x4, .int x5, .int (x6 + 1)]) dX10_copiesBlock_201 rfl rfl (kX_1 _) rfl ?_
      refine v_goto (pc' := 158) dX10_copiesBlock_204 (by decide) ?_
      exact T
theorem eX10_leavesOut {G : GG} {d : Nat} {h : Hp} {o : OU} {h' : Hp} (r0 : Nat) (r1 : Nat) (T : kH h r0 = 18 ∧ V G mX10_leavesOut d 9 [.ref r0, .ref r1, .int 0, .int 0, uV] [] (h.1, (upI h.2 r0 30 0)) o h') : VM G mX10_leavesOut d [.ref r0, .ref r1] h o h' := by
  refine V.toM rfl rfl (le_l rfl) (cat_all rfl) ?_
  show V G mX10_leavesOut d 0 [.ref r0, .ref r1, uV, uV, uV] [] h o h'
  refine v_iconst (pc' := 1) (v := 0) dX10_leavesOut_0 rfl kI_0 ?_
  refine v_istore_n (pc' := 2) (loc' := [.ref r0, .ref r1, .int 0, uV, uV]) dX10_leavesOut_1 rfl (lt_l rfl) rfl ?_
  refine v_aload_n (pc' := 3) dX10_leavesOut_2 rfl rfl ?_
  refine v_iconst (pc' := 4) (v := 0) dX10_leavesOut_3 rfl kI_0 ?_
  obtain ⟨q1, T⟩ := T
  refine v_putI (pc' := 7) 8 30 dX10_leavesOut_4 rfl (by decide) (by decide) rfl rfl kf_X10_230 q1 ?_
  refine v_iconst (pc' := 8) (v := 0) dX10_leavesOut_7 rfl kI_0 ?_
  refine v_istore_n (pc' := 9) (loc' := [.ref r0, .ref r1, .int 0, .int 0, uV]) dX10_leavesOut_8 rfl (lt_l rfl) rfl ?_
  exact T
theorem bX10_leavesOut_9 {G : GG} {d : Nat} {h : Hp} {o : OU} {h' : Hp} (r0 : Nat) (r1 : Nat) (x2 : Int32) (x3 : Int32) (hd : 1 ≤ d) (T : kH h r1 = 1 ∧ vp_in 3392 (lH h r1) ∧ (((h.2 r1 3392) ≤ x3 → (o = .inl none ∧ h' = (h.1, (upI h.2 r1 3392 x2)))) ∧ (¬ (h.2 r1 3392) ≤ x3 → kH h r0 = 18 ∧ kH h (rH h r0 27) = 3 ∧ vp_in x3 (lH h (rH h r0 27)) ∧ (((h.2 (rH h r0 27) x3.toNatClampNeg) = 0 → V G mX10_leavesOut d 58 [.ref r0, .ref r1, .int x2, .int x3, .int 0] [] h o h') ∧ (¬ (h.2 (rH h r0 27) x3.toNatClampNeg) = 0 → ∃ z9 h8, VM G mX10_cell (d - 1) [.int x3] h (.inl (some (.int z9))) h8 ∧ kH h8 r1 = 1 ∧ vp_in z9 (lH h8 r1) ∧ kH h8 (rH h r0 29) = 1 ∧ vp_in (h.2 r0 30) (lH h8 (rH h r0 29)) ∧ kH h8 r0 = 18 ∧ (∀ i16 : Nat → Nat → Int32, i16 = (upI (upI h8.2 (rH h r0 29) (h.2 r0 30).toNatClampNeg (h8.2 r1 z9.toNatClampNeg)) r0 30 (((upI h8.2 (rH h r0 29) (h.2 r0 30).toNatClampNeg (h8.2 r1 z9.toNatClampNeg)) r0 30) + 1)) → V G mX10_leavesOut d 9 [.ref r0, .ref r1, .int x2, .int (x3 + 1), uV] [] (h8.1, i16) o h')))))) : V G mX10_leavesOut d 9 [.ref r0, .ref r1, .int x2, .int x3, uV] [] h o h' := by
  have hdd : d - 1 + 1 ≤ d := by omega
  refine v_iload_n (pc' := 10) dX10_leavesOut_9 rfl rfl ?_
  refine v_aload_n (pc' := 11) dX10_leavesOut_10 rfl rfl ?_
  refine v_sipush (pc' := 14) (v := 3392) dX10_leavesOut_11 rfl kS_3392 ?_
  obtain ⟨q1, T⟩ := T
  obtain ⟨q2, T⟩ := T
  refine v_iald (pc' := 15) dX10_leavesOut_14 rfl kN_3392 q1 q2 ?_
  refine v_icmp_ge (tgt := 98) (pc' := 18) dX10_leavesOut_15 (by decide) rfl ⟨fun c3 => ?_, fun c3 => ?_⟩
  · have T := T.1 c3
    refine v_aload_n (pc' := 99) dX10_leavesOut_98 rfl rfl ?_
    refine v_sipush (pc' := 102) (v := 3392) dX10_leavesOut_99 rfl kS_3392 ?_
    refine v_iload_n (pc' := 103) dX10_leavesOut_102 rfl rfl ?_
    refine v_iast (pc' := 104) dX10_leavesOut_103 rfl kN_3392 q1 q2 ?_
    exact v_vret dX10_leavesOut_104 rfl T
  · have T := T.2 c3
    refine v_aload_n (pc' := 19) dX10_leavesOut_18 rfl rfl ?_
    obtain ⟨q4, T⟩ := T
    refine v_getR (pc' := 22) 8 27 dX10_leavesOut_19 rfl (by decide) (by decide) rfl kf_X10_47 q4 ?_
    refine v_iload_n (pc' := 23) dX10_leavesOut_22 rfl rfl ?_
    obtain ⟨q5, T⟩ := T
    obtain ⟨q6, T⟩ := T
    refine v_zald (pc' := 24) dX10_leavesOut_23 rfl rfl q5 q6 ?_
    refine v_if_eq (tgt := 55) (pc' := 27) dX10_leavesOut_24 (by decide) rfl ⟨fun c7 => ?_, fun c7 => ?_⟩
    · have T := T.1 c7
      refine v_iconst (pc' := 56) (v := 0) dX10_leavesOut_55 rfl kI_0 ?_
      refine v_istore (pc' := 58) (loc' := [.ref r0, .ref r1, .int x2, .int x3, .int 0]) dX10_leavesOut_56 rfl (lt_l rfl) rfl ?_
      exact T
    · have T := T.2 c7
      refine v_aload_n (pc' := 28) dX10_leavesOut_27 rfl rfl ?_
      refine v_getR (pc' := 31) 8 29 dX10_leavesOut_28 rfl (by decide) (by decide) rfl kf_X10_54 q4 ?_
      refine v_aload_n (pc' := 32) dX10_leavesOut_31 rfl rfl ?_
      refine v_getI (pc' := 35) 8 30 dX10_leavesOut_32 rfl (by decide) (by decide) rfl kf_X10_230 q4 ?_
      refine v_aload_n (pc' := 36) dX10_leavesOut_35 rfl rfl ?_
      refine v_iload_n (pc' := 37) dX10_leavesOut_36 rfl rfl ?_
      obtain ⟨z9, h8, k10, T⟩ := T
      refine v_callS (pc' := 40) (M1 := mX10_cell) (as := [.int x3]) (rest := [.ref r1, .int (h.2 r0 30), .ref (rH h r0 29)]) dX10_leavesOut_37 rfl ko_X10_201 kc_X10_cell kt_X10_cell (by decide) hdd rfl rfl (le_l rfl) k10 ?_
      obtain ⟨q11, T⟩ := T
      obtain ⟨q12, T⟩ := T
      refine v_iald (pc' := 41) dX10_leavesOut_40 rfl rfl q11 q12 ?_
      obtain ⟨q13, T⟩ := T
      obtain ⟨q14, T⟩ := T
      refine v_iast (pc' := 42) dX10_leavesOut_41 rfl rfl q13 q14 ?_
      refine v_aload_n (pc' := 43) dX10_leavesOut_42 rfl rfl ?_
      refine v_dup (pc' := 44) dX10_leavesOut_43 rfl rfl ?_
      obtain ⟨q15, T⟩ := T
      refine v_getI (pc' := 47) 8 30 dX10_leavesOut_44 rfl (by decide) (by decide) rfl kf_X10_230 q15 ?_
      refine v_iconst (pc' := 48) (v := 1) dX10_leavesOut_47 rfl kI_1 ?_
      refine v_iadd (pc' := 49) dX10_leavesOut_48 rfl ?_
      refine v_putI (pc' := 52) 8 30 dX10_leavesOut_49 rfl (by decide) (by decide) rfl rfl kf_X10_230 q15 ?_
      show V G mX10_leavesOut d 52 [.ref r0, .ref r1, .int x2, .int x3, uV] [] (h8.1, (upI (upI h8.2 (rH h r0 29) (h.2 r0 30).toNatClampNeg (h8.2 r1 z9.toNatClampNeg)) r0 30 (((upI h8.2 (rH h r0 29) (h.2 r0 30).toNatClampNeg (h8.2 r1 z9.toNatClampNeg)) r0 30) + 1))) o h'
      obtain ⟨i16, e17⟩ : ∃ z : Nat → Nat → Int32, z = (upI (upI h8.2 (rH h r0 29) (h.2 r0 30).toNatClampNeg (h8.2 r1 z9.toNatClampNeg)) r0 30 (((upI h8.2 (rH h r0 29) (h.2 r0 30).toNatClampNeg (h8.2 r1 z9.toNatClampNeg)) r0 30) + 1)) := ⟨_, rfl⟩
      rw [← e17]
      have T := T i16 e17
      refine v_goto (pc' := 92) dX10_leavesOut_52 (by decide) ?_
      refine v_iinc (pc' := 95) (loc' := [.ref r0, .ref r1, .int x2, .int (x3 + 1), uV]) dX10_leavesOut_92 rfl rfl (kX_1 _) rfl ?_
      refine v_goto (pc' := 9) dX10_leavesOut_95 (by decide) ?_
      exact T
theorem bX10_leavesOut_58 {G : GG} {d : Nat} {h : Hp} {o : OU} {h' : Hp} (r0 : Nat) (r1 : Nat) (x2 : Int32) (x3 : Int32) (x4 : Int32) (hd : 1 ≤ d) (T : ((12 ≤ x4 → V G mX10_leavesOut d 9 [.ref r0, .ref r1, .int (x2 + 1), .int (x3 + 1), uV] [] h o h') ∧ (¬ 12 ≤ x4 → ∃ z3 h2, VM G mX10_cell (d - 1) [.int x2] h (.inl (some (.int z3))) h2 ∧ ∃ z6 h5, VM G mX10_cell (d - 1) [.int x3] h2 (.inl (some (.int z6))) h5 ∧ kH h5 r1 = 1 ∧ vp_in (z6 + x4) (lH h5 r1) ∧ vp_in (z3 + x4) (lH h5 r1) ∧ V G mX10_leavesOut d 58 [.ref r0, .ref r1, .int x2, .int x3, .int (x4 + 1)] [] (h5.1, (upI h5.2 r1 (z3 + x4).toNatClampNeg (h5.2 r1 (z6 + x4).toNatClampNeg))) o h'))) : V G mX10_leavesOut d 58 [.ref r0, .ref r1, .int x2, .int x3, .int x4] [] h o h' := by
  have hdd : d - 1 + 1 ≤ d := by omega
  refine v_iload (pc' := 60) dX10_leavesOut_58 rfl rfl ?_
  refine v_bipush (pc' := 62) (v := 12) dX10_leavesOut_60 rfl kB_12 ?_
  refine v_icmp_ge (tgt := 89) (pc' := 65) dX10_leavesOut_62 (by decide) rfl ⟨fun c1 => ?_, fun c1 => ?_⟩
  · have T := T.1 c1
    refine v_iinc (pc' := 92) (loc' := [.ref r0, .ref r1, .int (x2 + 1), .int x3, .int x4]) dX10_leavesOut_89 rfl rfl (kX_1 _) rfl ?_
    refine v_iinc (pc' := 95) (loc' := [.ref r0, .ref r1, .int (x2 + 1), .int (x3 + 1), .int x4]) dX10_leavesOut_92 rfl rfl (kX_1 _) rfl ?_
    refine v_goto (pc' := 9) dX10_leavesOut_95 (by decide) ?_
    exact V.drop (llp_r (llp_r (llp_r (llp_r (llp_u llp_nil))))) T
  · have T := T.2 c1
    refine v_aload_n (pc' := 66) dX10_leavesOut_65 rfl rfl ?_
    refine v_iload_n (pc' := 67) dX10_leavesOut_66 rfl rfl ?_
    obtain ⟨z3, h2, k4, T⟩ := T
    refine v_callS (pc' := 70) (M1 := mX10_cell) (as := [.int x2]) (rest := [.ref r1]) dX10_leavesOut_67 rfl ko_X10_201 kc_X10_cell kt_X10_cell (by decide) hdd rfl rfl (le_l rfl) k4 ?_
    refine v_iload (pc' := 72) dX10_leavesOut_70 rfl rfl ?_
    refine v_iadd (pc' := 73) dX10_leavesOut_72 rfl ?_
    refine v_aload_n (pc' := 74) dX10_leavesOut_73 rfl rfl ?_
    refine v_iload_n (pc' := 75) dX10_leavesOut_74 rfl rfl ?_
    obtain ⟨z6, h5, k7, T⟩ := T
    refine v_callS (pc' := 78) (M1 := mX10_cell) (as := [.int x3]) (rest := [.ref r1, .int (z3 + x4), .ref r1]) dX10_leavesOut_75 rfl ko_X10_201 kc_X10_cell kt_X10_cell (by decide) hdd rfl rfl (le_l rfl) k7 ?_
    refine v_iload (pc' := 80) dX10_leavesOut_78 rfl rfl ?_
    refine v_iadd (pc' := 81) dX10_leavesOut_80 rfl ?_
    obtain ⟨q8, T⟩ := T
    obtain ⟨q9, T⟩ := T
    refine v_iald (pc' := 82) dX10_leavesOut_81 rfl rfl q8 q9 ?_
    obtain ⟨q10, T⟩ := T
    refine v_iast (pc' := 83) dX10_leavesOut_82 rfl rfl q8 q10 ?_
    refine v_iinc (pc' := 86) (loc' := [.ref r0, .ref r1, .int x2, .int x3, .int (x4 + 1)]) dX10_leavesOut_83 rfl rfl (kX_1 _) rfl ?_
    refine v_goto (pc' := 58) dX10_leavesOut_86 (by decide) ?_
    exact T
theorem eX10_isGone {G : GG} {d : Nat} {h : Hp} {o : OU} {h' : Hp} (r0 : Nat) (x1 : Int32) (T : V G mX10_isGone d 2 [.ref r0, .int x1, .int 0] [] h o h') : VM G mX10_isGone d [.ref r0, .int x1] h o h' := by
  refine V.toM rfl rfl (le_l rfl) (cat_all rfl) ?_
  show V G mX10_isGone d 0 [.ref r0, .int x1, uV] [] h o h'
  refine v_iconst (pc' := 1) (v := 0) dX10_isGone_0 rfl kI_0 ?_
  refine v_istore_n (pc' := 2) (loc' := [.ref r0, .int x1, .int 0]) dX10_isGone_1 rfl (lt_l rfl) rfl ?_
  exact T
theorem bX10_isGone_2 {G : GG} {d : Nat} {h : Hp} {o : OU} {h' : Hp} (r0 : Nat) (x1 : Int32) (x2 : Int32) (T : kH h r0 = 18 ∧ (((h.2 r0 30) ≤ x2 → (o = .inl (some (.int 0)) ∧ h' = h)) ∧ (¬ (h.2 r0 30) ≤ x2 → kH h (rH h r0 29) = 1 ∧ vp_in x2 (lH h (rH h r0 29)) ∧ ((¬ (h.2 (rH h r0 29) x2.toNatClampNeg) = x1 → V G mX10_isGone d 2 [.ref r0, .int x1, .int (x2 + 1)] [] h o h') ∧ ((h.2 (rH h r0 29) x2.toNatClampNeg) = x1 → (o = .inl (some (.int 1)) ∧ h' = h)))))) : V G mX10_isGone d 2 [.ref r0, .int x1, .int x2] [] h o h' := by
  refine v_iload_n (pc' := 3) dX10_isGone_2 rfl rfl ?_
  refine v_aload_n (pc' := 4) dX10_isGone_3 rfl rfl ?_
  obtain ⟨q1, T⟩ := T
  refine v_getI (pc' := 7) 8 30 dX10_isGone_4 rfl (by decide) (by decide) rfl kf_X10_230 q1 ?_
  refine v_icmp_ge (tgt := 28) (pc' := 10) dX10_isGone_7 (by decide) rfl ⟨fun c2 => ?_, fun c2 => ?_⟩
  · have T := T.1 c2
    refine v_iconst (pc' := 29) (v := 0) dX10_isGone_28 rfl kI_0 ?_
    exact v_zret dX10_isGone_29 rfl (Or.inl rfl) T
  · have T := T.2 c2
    refine v_aload_n (pc' := 11) dX10_isGone_10 rfl rfl ?_
    refine v_getR (pc' := 14) 8 29 dX10_isGone_11 rfl (by decide) (by decide) rfl kf_X10_54 q1 ?_
    refine v_iload_n (pc' := 15) dX10_isGone_14 rfl rfl ?_
    obtain ⟨q3, T⟩ := T
    obtain ⟨q4, T⟩ := T
    refine v_iald (pc' := 16) dX10_isGone_15 rfl rfl q3 q4 ?_
    refine v_iload_n (pc' := 17) dX10_isGone_16 rfl rfl ?_
    refine v_icmp_ne (tgt := 22) (pc' := 20) dX10_isGone_17 (by decide) rfl ⟨fun c5 => ?_, fun c5 => ?_⟩
    · have T := T.1 c5
      refine v_iinc (pc' := 25) (loc' := [.ref r0, .int x1, .int (x2 + 1)]) dX10_isGone_22 rfl rfl (kX_1 _) rfl ?_
      refine v_goto (pc' := 2) dX10_isGone_25 (by decide) ?_
      exact T
    · have T := T.2 c5
      refine v_iconst (pc' := 21) (v := 1) dX10_isGone_20 rfl kI_1 ?_
      exact v_zret dX10_isGone_21 rfl (Or.inr rfl) T
theorem eX10_lessens {G : GG} {d : Nat} {h : Hp} {o : OU} {h' : Hp} (r0 : Nat) (x1 : Int32) (hd : 1 ≤ d) (T : ∃ z2 h1, VM G mX10_fieldOf (d - 1) [.ref r0, .int 0, .int x1, .int 0] h (.inl (some (.int z2))) h1 ∧ ((0 ≤ (z2 - 1) → ∃ z6 h5, VM G mX10_field (d - 1) [.ref r0, .int x1, .int 0, .int (z2 - 1), .int 0, .int 0] h1 (.inl (some (.int z6))) h5 ∧ ((¬ (z2 - 1) = 0 → (o = .inl none ∧ h' = h5)) ∧ ((z2 - 1) = 0 → ∃ h9, VM G mX10_empties (d - 1) [.ref r0, .int x1] h5 (.inl none) h9 ∧ (o = .inl none ∧ h' = h9)))) ∧ (¬ 0 ≤ (z2 - 1) → (o = .inl none ∧ h' = h1)))) : VM G mX10_lessens d [.ref r0, .int x1] h o h' := by
  refine V.toM rfl rfl (le_l rfl) (cat_all rfl) ?_
  show V G mX10_lessens d 0 [.ref r0, .int x1, uV] [] h o h'
  have hdd : d - 1 + 1 ≤ d := by omega
  refine v_aload_n (pc' := 1) dX10_lessens_0 rfl rfl ?_
  refine v_iconst (pc' := 2) (v := 0) dX10_lessens_1 rfl kI_0 ?_
  refine v_iload_n (pc' := 3) dX10_lessens_2 rfl rfl ?_
  refine v_iconst (pc' := 4) (v := 0) dX10_lessens_3 rfl kI_0 ?_
  obtain ⟨z2, h1, k3, T⟩ := T
  refine v_callS (pc' := 7) (M1 := mX10_fieldOf) (as := [.ref r0, .int 0, .int x1, .int 0]) (rest := []) dX10_lessens_4 rfl ko_X10_233 kc_X10_fieldOf kt_X10_fieldOf (by decide) hdd rfl rfl (le_l rfl) k3 ?_
  refine v_iconst (pc' := 8) (v := 1) dX10_lessens_7 rfl kI_1 ?_
  refine v_isub (pc' := 9) dX10_lessens_8 rfl ?_
  refine v_istore_n (pc' := 10) (loc' := [.ref r0, .int x1, .int (z2 - 1)]) dX10_lessens_9 rfl (lt_l rfl) rfl ?_
  refine v_iload_n (pc' := 11) dX10_lessens_10 rfl rfl ?_
  refine v_if_ge (tgt := 15) (pc' := 14) dX10_lessens_11 (by decide) rfl ⟨fun c4 => ?_, fun c4 => ?_⟩
  · have T := T.1 c4
    refine v_aload_n (pc' := 16) dX10_lessens_15 rfl rfl ?_
    refine v_iload_n (pc' := 17) dX10_lessens_16 rfl rfl ?_
    refine v_iconst (pc' := 18) (v := 0) dX10_lessens_17 rfl kI_0 ?_
    refine v_iload_n (pc' := 19) dX10_lessens_18 rfl rfl ?_
    refine v_iconst (pc' := 20) (v := 0) dX10_lessens_19 rfl kI_0 ?_
    refine v_iconst (pc' := 21) (v := 0) dX10_lessens_20 rfl kI_0 ?_
    obtain ⟨z6, h5, k7, T⟩ := T
    refine v_callS (pc' := 24) (M1 := mX10_field) (as := [.ref r0, .int x1, .int 0, .int (z2 - 1), .int 0, .int 0]) (rest := []) dX10_lessens_21 rfl ko_X10_237 kc_X10_field kt_X10_field (by decide) hdd rfl rfl (le_l rfl) k7 ?_
    refine v_pop (pc' := 25) dX10_lessens_24 rfl rfl ?_
    refine v_iload_n (pc' := 26) dX10_lessens_25 rfl rfl ?_
    refine v_if_ne (tgt := 34) (pc' := 29) dX10_lessens_26 (by decide) rfl ⟨fun c8 => ?_, fun c8 => ?_⟩
    · have T := T.1 c8
      exact v_vret dX10_lessens_34 rfl T
    · have T := T.2 c8
      refine v_aload_n (pc' := 30) dX10_lessens_29 rfl rfl ?_
      refine v_iload_n (pc' := 31) dX10_lessens_30 rfl rfl ?_
      obtain ⟨h9, k10, T⟩ := T
      refine v_callS (pc' := 34) (M1 := mX10_empties) (as := [.ref r0, .int x1]) (rest := []) dX10_lessens_31 rfl ko_X10_241 kc_X10_empties kt_X10_empties (by decide) hdd rfl rfl (le_l rfl) k10 ?_
      exact v_vret dX10_lessens_34 rfl T
  · have T := T.2 c4
    exact v_vret dX10_lessens_14 rfl T
theorem eX10_empties {G : GG} {d : Nat} {h : Hp} {o : OU} {h' : Hp} (r0 : Nat) (x1 : Int32) (hd : 1 ≤ d) (T : ∃ z2 h1, VM G mX10_field (d - 1) [.ref r0, .int x1, .int 1, .int 0, .int 0, .int 0] h (.inl (some (.int z2))) h1 ∧ V G mX10_empties d 12 [.ref r0, .int x1, .int 2, uV] [] h1 o h') : VM G mX10_empties d [.ref r0, .int x1] h o h' := by
  refine V.toM rfl rfl (le_l rfl) (cat_all rfl) ?_
  show V G mX10_empties d 0 [.ref r0, .int x1, uV, uV] [] h o h'
  have hdd : d - 1 + 1 ≤ d := by omega
  refine v_aload_n (pc' := 1) dX10_empties_0 rfl rfl ?_
  refine v_iload_n (pc' := 2) dX10_empties_1 rfl rfl ?_
  refine v_iconst (pc' := 3) (v := 1) dX10_empties_2 rfl kI_1 ?_
  refine v_iconst (pc' := 4) (v := 0) dX10_empties_3 rfl kI_0 ?_
  refine v_iconst (pc' := 5) (v := 0) dX10_empties_4 rfl kI_0 ?_
  refine v_iconst (pc' := 6) (v := 0) dX10_empties_5 rfl kI_0 ?_
  obtain ⟨z2, h1, k3, T⟩ := T
  refine v_callS (pc' := 9) (M1 := mX10_field) (as := [.ref r0, .int x1, .int 1, .int 0, .int 0, .int 0]) (rest := []) dX10_empties_6 rfl ko_X10_237 kc_X10_field kt_X10_field (by decide) hdd rfl rfl (le_l rfl) k3 ?_
  refine v_pop (pc' := 10) dX10_empties_9 rfl rfl ?_
  refine v_iconst (pc' := 11) (v := 2) dX10_empties_10 rfl kI_2 ?_
  refine v_istore_n (pc' := 12) (loc' := [.ref r0, .int x1, .int 2, uV]) dX10_empties_11 rfl (lt_l rfl) rfl ?_
  exact T
theorem bX10_empties_12 {G : GG} {d : Nat} {h : Hp} {o : OU} {h' : Hp} (r0 : Nat) (x1 : Int32) (x2 : Int32) (hd : 1 ≤ d) (T : ((3 < x2 → (o = .inl none ∧ h' = h)) ∧ (¬ 3 < x2 → ∃ z3 h2, VM G mX10_fieldOf (d - 1) [.ref r0, .int 0, .int x1, .int x2] h (.inl (some (.int z3))) h2 ∧ ((z3 = 0 → V G mX10_empties d 12 [.ref r0, .int x1, .int (x2 + 1), uV] [] h2 o h') ∧ (¬ z3 = 0 → ∃ z7 h6, VM G mX10_field (d - 1) [.ref r0, .int x1, .int x2, .int 0, .int 0, .int 0] h2 (.inl (some (.int z7))) h6 ∧ ∃ h9, VM G mX10_putsOff (d - 1) [.ref r0, .int 0, .int z3, .int z7] h6 (.inl none) h9 ∧ V G mX10_empties d 12 [.ref r0, .int x1, .int (x2 + 1), uV] [] h9 o h'))))) : V G mX10_empties d 12 [.ref r0, .int x1, .int x2, uV] [] h o h' := by
  have hdd : d - 1 + 1 ≤ d := by omega
  refine v_iload_n (pc' := 13) dX10_empties_12 rfl rfl ?_
  refine v_iconst (pc' := 14) (v := 3) dX10_empties_13 rfl kI_3 ?_
  refine v_icmp_gt (tgt := 50) (pc' := 17) dX10_empties_14 (by decide) rfl ⟨fun c1 => ?_, fun c1 => ?_⟩
  · have T := T.1 c1
    exact v_vret dX10_empties_50 rfl T
  · have T := T.2 c1
    refine v_aload_n (pc' := 18) dX10_empties_17 rfl rfl ?_
    refine v_iconst (pc' := 19) (v := 0) dX10_empties_18 rfl kI_0 ?_
    refine v_iload_n (pc' := 20) dX10_empties_19 rfl rfl ?_
    refine v_iload_n (pc' := 21) dX10_empties_20 rfl rfl ?_
    obtain ⟨z3, h2, k4, T⟩ := T
    refine v_callS (pc' := 24) (M1 := mX10_fieldOf) (as := [.ref r0, .int 0, .int x1, .int x2]) (rest := []) dX10_empties_21 rfl ko_X10_233 kc_X10_fieldOf kt_X10_fieldOf (by decide) hdd rfl rfl (le_l rfl) k4 ?_
    refine v_istore_n (pc' := 25) (loc' := [.ref r0, .int x1, .int x2, .int z3]) dX10_empties_24 rfl (lt_l rfl) rfl ?_
    refine v_iload_n (pc' := 26) dX10_empties_25 rfl rfl ?_
    refine v_if_eq (tgt := 44) (pc' := 29) dX10_empties_26 (by decide) rfl ⟨fun c5 => ?_, fun c5 => ?_⟩
    · have T := T.1 c5
      refine v_iinc (pc' := 47) (loc' := [.ref r0, .int x1, .int (x2 + 1), .int z3]) dX10_empties_44 rfl rfl (kX_1 _) rfl ?_
      refine v_goto (pc' := 12) dX10_empties_47 (by decide) ?_
      exact V.drop (llp_r (llp_r (llp_r (llp_u llp_nil)))) T
    · have T := T.2 c5
      refine v_aload_n (pc' := 30) dX10_empties_29 rfl rfl ?_
      refine v_iconst (pc' := 31) (v := 0) dX10_empties_30 rfl kI_0 ?_
      refine v_iload_n (pc' := 32) dX10_empties_31 rfl rfl ?_
      refine v_aload_n (pc' := 33) dX10_empties_32 rfl rfl ?_
      refine v_iload_n (pc' := 34) dX10_empties_33 rfl rfl ?_
      refine v_iload_n (pc' := 35) dX10_empties_34 rfl rfl ?_
      refine v_iconst (pc' := 36) (v := 0) dX10_empties_35 rfl kI_0 ?_
      refine v_iconst (pc' := 37) (v := 0) dX10_empties_36 rfl kI_0 ?_
      refine v_iconst (pc' := 38) (v := 0) dX10_empties_37 rfl kI_0 ?_
      obtain ⟨z7, h6, k8, T⟩ := T
      refine v_callS (pc' := 41) (M1 := mX10_field) (as := [.ref r0, .int x1, .int x2, .int 0, .int 0, .int 0]) (rest := [.int z3, .int 0, .ref r0]) dX10_empties_38 rfl ko_X10_237 kc_X10_field kt_X10_field (by decide) hdd rfl rfl (le_l rfl) k8 ?_
      obtain ⟨h9, k10, T⟩ := T
      refine v_callS (pc' := 44) (M1 := mX10_putsOff) (as := [.ref r0, .int 0, .int z3, .int z7]) (rest := []) dX10_empties_41 rfl ko_X10_245 kc_X10_putsOff kt_X10_putsOff (by decide) hdd rfl rfl (le_l rfl) k10 ?_
      refine v_iinc (pc' := 47) (loc' := [.ref r0, .int x1, .int (x2 + 1), .int z3]) dX10_empties_44 rfl rfl (kX_1 _) rfl ?_
      refine v_goto (pc' := 12) dX10_empties_47 (by decide) ?_
      exact V.drop (llp_r (llp_r (llp_r (llp_u llp_nil)))) T
theorem eX10_doesLater {G : GG} {d : Nat} {h : Hp} {o : OU} {h' : Hp} (r0 : Nat) (r1 : Nat) (T : kH h r1 = 1 ∧ vp_in 3393 (lH h r1) ∧ V G mX10_doesLater d 11 [.ref r0, .ref r1, .int (h.2 r1 3393), .int 0, .int 0, uV, uV] [] h o h') : VM G mX10_doesLater d [.ref r0, .ref r1] h o h' := by
  refine V.toM rfl rfl (le_l rfl) (cat_all rfl) ?_
  show V G mX10_doesLater d 0 [.ref r0, .ref r1, uV, uV, uV, uV, uV] [] h o h'
  refine v_aload_n (pc' := 1) dX10_doesLater_0 rfl rfl ?_
  refine v_sipush (pc' := 4) (v := 3393) dX10_doesLater_1 rfl kS_3393 ?_
  obtain ⟨q1, T⟩ := T
  obtain ⟨q2, T⟩ := T
  refine v_iald (pc' := 5) dX10_doesLater_4 rfl kN_3393 q1 q2 ?_
  refine v_istore_n (pc' := 6) (loc' := [.ref r0, .ref r1, .int (h.2 r1 3393), uV, uV, uV, uV]) dX10_doesLater_5 rfl (lt_l rfl) rfl ?_
  refine v_iconst (pc' := 7) (v := 0) dX10_doesLater_6 rfl kI_0 ?_
  refine v_istore_n (pc' := 8) (loc' := [.ref r0, .ref r1, .int (h.2 r1 3393), .int 0, uV, uV, uV]) dX10_doesLater_7 rfl (lt_l rfl) rfl ?_
  refine v_iconst (pc' := 9) (v := 0) dX10_doesLater_8 rfl kI_0 ?_
  refine v_istore (pc' := 11) (loc' := [.ref r0, .ref r1, .int (h.2 r1 3393), .int 0, .int 0, uV, uV]) dX10_doesLater_9 rfl (lt_l rfl) rfl ?_
  exact T
theorem bX10_doesLater_11 {G : GG} {d : Nat} {h : Hp} {o : OU} {h' : Hp} (r0 : Nat) (r1 : Nat) (x2 : Int32) (x3 : Int32) (x4 : Int32) (hd : 1 ≤ d) (T : ((x2 ≤ x4 → V G mX10_doesLater d 92 [uV, .ref r1, uV, .int x3, .int 0, uV, uV] [] h o h') ∧ (¬ x2 ≤ x4 → kH h r1 = 1 ∧ vp_in ((2912 + (3 * x4)) + 2) (lH h r1) ∧ kH h r0 = 18 ∧ ∃ z5 h4, VM G mX10_isGone (d - 1) [.ref r0, .int (h.2 r1 ((2912 + (3 * x4)) + 2).toNatClampNeg)] h (.inl (some (.int z5))) h4 ∧ ((¬ z5 = 0 → kH h4 r1 = 1 ∧ vp_in (2912 + (3 * x4)) (lH h4 r1) ∧ ((¬ (h4.2 r1 (2912 + (3 * x4)).toNatClampNeg) = 0 → vp_in ((2912 + (3 * x4)) + 1) (lH h4 r1) ∧ ∃ h13, VM G mX10_lessens (d - 1) [.ref r1, .int (h4.2 r1 ((2912 + (3 * x4)) + 1).toNatClampNeg)] h4 (.inl none) h13 ∧ kH h13 r1 = 1 ∧ vp_in ((2912 + (3 * x4)) + 2) (lH h13 r1) ∧ V G mX10_doesLater d 11 [.ref r0, .ref r1, .int x2, .int x3, .int (x4 + 1), uV, uV] [] (h13.1, (upI h13.2 r1 ((2912 + (3 * x4)) + 2).toNatClampNeg (-1))) o h') ∧ ((h4.2 r1 (2912 + (3 * x4)).toNatClampNeg) = 0 → vp_in ((2912 + (3 * x4)) + 1) (lH h4 r1) ∧ ∃ z19 h18, VM G mX10_bare (d - 1) [.ref r1, .int 0, .int (h4.2 r1 ((2912 + (3 * x4)) + 1).toNatClampNeg), .int 0] h4 (.inl (some (.int z19))) h18 ∧ kH h18 r1 = 1 ∧ vp_in ((2912 + (3 * x4)) + 2) (lH h18 r1) ∧ V G mX10_doesLater d 11 [.ref r0, .ref r1, .int x2, .int x3, .int (x4 + 1), uV, uV] [] (h18.1, (upI h18.2 r1 ((2912 + (3 * x4)) + 2).toNatClampNeg (-1))) o h'))) ∧ (z5 = 0 → V G mX10_doesLater d 11 [.ref r0, .ref r1, .int x2, .int x3, .int (x4 + 1), uV, uV] [] h4 o h'))))) : V G mX10_doesLater d 11 [.ref r0, .ref r1, .int x2, .int x3, .int x4, uV, uV] [] h o h' := by
  have hdd : d - 1 + 1 ≤ d := by omega
  refine v_iload (pc' := 13) dX10_doesLater_11 rfl rfl ?_
  refine v_iload_n (pc' := 14) dX10_doesLater_13 rfl rfl ?_
  refine v_icmp_ge (tgt := 89) (pc' := 17) dX10_doesLater_14 (by decide) rfl ⟨fun c1 => ?_, fun c1 => ?_⟩
  · have T := T.1 c1
    refine v_iconst (pc' := 90) (v := 0) dX10_doesLater_89 rfl kI_0 ?_
    refine v_istore (pc' := 92) (loc' := [.ref r0, .ref r1, .int x2, .int x3, .int 0, uV, uV]) dX10_doesLater_90 rfl (lt_l rfl) rfl ?_
    exact V.drop (llp_u (llp_r (llp_u (llp_r (llp_r (llp_r (llp_r llp_nil))))))) T
  · have T := T.2 c1
    refine v_sipush (pc' := 20) (v := 2912) dX10_doesLater_17 rfl kS_2912 ?_
    refine v_iconst (pc' := 21) (v := 3) dX10_doesLater_20 rfl kI_3 ?_
    refine v_iload (pc' := 23) dX10_doesLater_21 rfl rfl ?_
    refine v_imul (pc' := 24) dX10_doesLater_23 rfl ?_
    refine v_iadd (pc' := 25) dX10_doesLater_24 rfl ?_
    refine v_istore (pc' := 27) (loc' := [.ref r0, .ref r1, .int x2, .int x3, .int x4, .int (2912 + (3 * x4)), uV]) dX10_doesLater_25 rfl (lt_l rfl) rfl ?_
    refine v_aload_n (pc' := 28) dX10_doesLater_27 rfl rfl ?_
    refine v_aload_n (pc' := 29) dX10_doesLater_28 rfl rfl ?_
    refine v_iload (pc' := 31) dX10_doesLater_29 rfl rfl ?_
    refine v_iconst (pc' := 32) (v := 2) dX10_doesLater_31 rfl kI_2 ?_
    refine v_iadd (pc' := 33) dX10_doesLater_32 rfl ?_
    obtain ⟨q2, T⟩ := T
    obtain ⟨q3, T⟩ := T
    refine v_iald (pc' := 34) dX10_doesLater_33 rfl rfl q2 q3 ?_
    obtain ⟨q7, T⟩ := T
    obtain ⟨z5, h4, k6, T⟩ := T
    refine v_callV (pc' := 37) (M1 := mX10_isGone) (as := [.int (h.2 r1 ((2912 + (3 * x4)) + 2).toNatClampNeg)]) (r := r0) (rest := []) 8 dX10_doesLater_34 rfl ko_X10_249 kc_X10_isGone ki_X10_isGone ks_X10_isGone (by decide) (by decide) hdd rfl rfl (le_l rfl) q7 k6 ?_
    refine v_if_ne (tgt := 43) (pc' := 40) dX10_doesLater_37 (by decide) rfl ⟨fun c8 => ?_, fun c8 => ?_⟩
    · have T := T.1 c8
      refine v_aload_n (pc' := 44) dX10_doesLater_43 rfl rfl ?_
      refine v_iload (pc' := 46) dX10_doesLater_44 rfl rfl ?_
      obtain ⟨q9, T⟩ := T
      obtain ⟨q10, T⟩ := T
      refine v_iald (pc' := 47) dX10_doesLater_46 rfl rfl q9 q10 ?_
      refine v_if_ne (tgt := 66) (pc' := 50) dX10_doesLater_47 (by decide) rfl ⟨fun c11 => ?_, fun c11 => ?_⟩
      · have T := T.1 c11
        refine v_aload_n (pc' := 67) dX10_doesLater_66 rfl rfl ?_
        refine v_aload_n (pc' := 68) dX10_doesLater_67 rfl rfl ?_
        refine v_iload (pc' := 70) dX10_doesLater_68 rfl rfl ?_
        refine v_iconst (pc' := 71) (v := 1) dX10_doesLater_70 rfl kI_1 ?_
        refine v_iadd (pc' := 72) dX10_doesLater_71 rfl ?_
        obtain ⟨q12, T⟩ := T
        refine v_iald (pc' := 73) dX10_doesLater_72 rfl rfl q9 q12 ?_
        obtain ⟨h13, k14, T⟩ := T
        refine v_callS (pc' := 76) (M1 := mX10_lessens) (as := [.ref r1, .int (h4.2 r1 ((2912 + (3 * x4)) + 1).toNatClampNeg)]) (rest := []) dX10_doesLater_73 rfl ko_X10_255 kc_X10_lessens kt_X10_lessens (by decide) hdd rfl rfl (le_l rfl) k14 ?_
        refine v_aload_n (pc' := 77) dX10_doesLater_76 rfl rfl ?_
        refine v_iload (pc' := 79) dX10_doesLater_77 rfl rfl ?_
        refine v_iconst (pc' := 80) (v := 2) dX10_doesLater_79 rfl kI_2 ?_
        refine v_iadd (pc' := 81) dX10_doesLater_80 rfl ?_
        refine v_iconst (pc' := 82) (v := (-1)) dX10_doesLater_81 rfl kI_m1 ?_
        obtain ⟨q15, T⟩ := T
        obtain ⟨q16, T⟩ := T
        refine v_iast (pc' := 83) dX10_doesLater_82 rfl rfl q15 q16 ?_
        refine v_iinc (pc' := 86) (loc' := [.ref r0, .ref r1, .int x2, .int x3, .int (x4 + 1), .int (2912 + (3 * x4)), uV]) dX10_doesLater_83 rfl rfl (kX_1 _) rfl ?_
        refine v_goto (pc' := 11) dX10_doesLater_86 (by decide) ?_
        exact V.drop (llp_r (llp_r (llp_r (llp_r (llp_r (llp_u (llp_r llp_nil))))))) T
      · have T := T.2 c11
        refine v_aload_n (pc' := 51) dX10_doesLater_50 rfl rfl ?_
        refine v_iconst (pc' := 52) (v := 0) dX10_doesLater_51 rfl kI_0 ?_
        refine v_aload_n (pc' := 53) dX10_doesLater_52 rfl rfl ?_
        refine v_iload (pc' := 55) dX10_doesLater_53 rfl rfl ?_
        refine v_iconst (pc' := 56) (v := 1) dX10_doesLater_55 rfl kI_1 ?_
        refine v_iadd (pc' := 57) dX10_doesLater_56 rfl ?_
        obtain ⟨q17, T⟩ := T
        refine v_iald (pc' := 58) dX10_doesLater_57 rfl rfl q9 q17 ?_
        refine v_iconst (pc' := 59) (v := 0) dX10_doesLater_58 rfl kI_0 ?_
        obtain ⟨z19, h18, k20, T⟩ := T
        refine v_callS (pc' := 62) (M1 := mX10_bare) (as := [.ref r1, .int 0, .int (h4.2 r1 ((2912 + (3 * x4)) + 1).toNatClampNeg), .int 0]) (rest := []) dX10_doesLater_59 rfl ko_X10_252 kc_X10_bare kt_X10_bare (by decide) hdd rfl rfl (le_l rfl) k20 ?_
        refine v_pop (pc' := 63) dX10_doesLater_62 rfl rfl ?_
        refine v_goto (pc' := 76) dX10_doesLater_63 (by decide) ?_
        refine v_aload_n (pc' := 77) dX10_doesLater_76 rfl rfl ?_
        refine v_iload (pc' := 79) dX10_doesLater_77 rfl rfl ?_
        refine v_iconst (pc' := 80) (v := 2) dX10_doesLater_79 rfl kI_2 ?_
        refine v_iadd (pc' := 81) dX10_doesLater_80 rfl ?_
        refine v_iconst (pc' := 82) (v := (-1)) dX10_doesLater_81 rfl kI_m1 ?_
        obtain ⟨q21, T⟩ := T
        obtain ⟨q22, T⟩ := T
        refine v_iast (pc' := 83) dX10_doesLater_82 rfl rfl q21 q22 ?_
        refine v_iinc (pc' := 86) (loc' := [.ref r0, .ref r1, .int x2, .int x3, .int (x4 + 1), .int (2912 + (3 * x4)), uV]) dX10_doesLater_83 rfl rfl (kX_1 _) rfl ?_
        refine v_goto (pc' := 11) dX10_doesLater_86 (by decide) ?_
        exact V.drop (llp_r (llp_r (llp_r (llp_r (llp_r (llp_u (llp_r llp_nil))))))) T
    · have T := T.2 c8
      refine v_goto (pc' := 83) dX10_doesLater_40 (by decide) ?_
      refine v_iinc (pc' := 86) (loc' := [.ref r0, .ref r1, .int x2, .int x3, .int (x4 + 1), .int (2912 + (3 * x4)), uV]) dX10_doesLater_83 rfl rfl (kX_1 _) rfl ?_
      refine v_goto (pc' := 11) dX10_doesLater_86 (by decide) ?_
      exact V.drop (llp_r (llp_r (llp_r (llp_r (llp_r (llp_u (llp_r llp_nil))))))) T
theorem bX10_doesLater_92 {G : GG} {d : Nat} {h : Hp} {o : OU} {h' : Hp} (r1 : Nat) (x3 : Int32) (x4 : Int32) (T : kH h r1 = 1 ∧ vp_in 3393 (lH h r1) ∧ (((h.2 r1 3393) ≤ x4 → (o = .inl none ∧ h' = (h.1, (upI h.2 r1 3393 x3)))) ∧ (¬ (h.2 r1 3393) ≤ x4 → vp_in ((2912 + (3 * x4)) + 2) (lH h r1) ∧ ((¬ (h.2 r1 ((2912 + (3 * x4)) + 2).toNatClampNeg) = (-1) → V G mX10_doesLater d 128 [uV, .ref r1, uV, .int x3, .int x4, .int (2912 + (3 * x4)), .int 0] [] h o h') ∧ ((h.2 r1 ((2912 + (3 * x4)) + 2).toNatClampNeg) = (-1) → V G mX10_doesLater d 92 [uV, .ref r1, uV, .int x3, .int (x4 + 1), uV, uV] [] h o h'))))) : V G mX10_doesLater d 92 [uV, .ref r1, uV, .int x3, .int x4, uV, uV] [] h o h' := by
  refine v_iload (pc' := 94) dX10_doesLater_92 rfl rfl ?_
  refine v_aload_n (pc' := 95) dX10_doesLater_94 rfl rfl ?_
  refine v_sipush (pc' := 98) (v := 3393) dX10_doesLater_95 rfl kS_3393 ?_
  obtain ⟨q1, T⟩ := T
  obtain ⟨q2, T⟩ := T
  refine v_iald (pc' := 99) dX10_doesLater_98 rfl kN_3393 q1 q2 ?_
  refine v_icmp_ge (tgt := 168) (pc' := 102) dX10_doesLater_99 (by decide) rfl ⟨fun c3 => ?_, fun c3 => ?_⟩
  · have T := T.1 c3
    refine v_aload_n (pc' := 169) dX10_doesLater_168 rfl rfl ?_
    refine v_sipush (pc' := 172) (v := 3393) dX10_doesLater_169 rfl kS_3393 ?_
    refine v_iload_n (pc' := 173) dX10_doesLater_172 rfl rfl ?_
    refine v_iast (pc' := 174) dX10_doesLater_173 rfl kN_3393 q1 q2 ?_
    exact v_vret dX10_doesLater_174 rfl T
  · have T := T.2 c3
    refine v_sipush (pc' := 105) (v := 2912) dX10_doesLater_102 rfl kS_2912 ?_
    refine v_iconst (pc' := 106) (v := 3) dX10_doesLater_105 rfl kI_3 ?_
    refine v_iload (pc' := 108) dX10_doesLater_106 rfl rfl ?_
    refine v_imul (pc' := 109) dX10_doesLater_108 rfl ?_
    refine v_iadd (pc' := 110) dX10_doesLater_109 rfl ?_
    refine v_istore (pc' := 112) (loc' := [uV, .ref r1, uV, .int x3, .int x4, .int (2912 + (3 * x4)), uV]) dX10_doesLater_110 rfl (lt_l rfl) rfl ?_
    refine v_aload_n (pc' := 113) dX10_doesLater_112 rfl rfl ?_
    refine v_iload (pc' := 115) dX10_doesLater_113 rfl rfl ?_
    refine v_iconst (pc' := 116) (v := 2) dX10_doesLater_115 rfl kI_2 ?_
    refine v_iadd (pc' := 117) dX10_doesLater_116 rfl ?_
    obtain ⟨q4, T⟩ := T
    refine v_iald (pc' := 118) dX10_doesLater_117 rfl rfl q1 q4 ?_
    refine v_iconst (pc' := 119) (v := (-1)) dX10_doesLater_118 rfl kI_m1 ?_
    refine v_icmp_ne (tgt := 125) (pc' := 122) dX10_doesLater_119 (by decide) rfl ⟨fun c5 => ?_, fun c5 => ?_⟩
    · have T := T.1 c5
      refine v_iconst (pc' := 126) (v := 0) dX10_doesLater_125 rfl kI_0 ?_
      refine v_istore (pc' := 128) (loc' := [uV, .ref r1, uV, .int x3, .int x4, .int (2912 + (3 * x4)), .int 0]) dX10_doesLater_126 rfl (lt_l rfl) rfl ?_
      exact T
    · have T := T.2 c5
      refine v_goto (pc' := 162) dX10_doesLater_122 (by decide) ?_
      refine v_iinc (pc' := 165) (loc' := [uV, .ref r1, uV, .int x3, .int (x4 + 1), .int (2912 + (3 * x4)), uV]) dX10_doesLater_162 rfl rfl (kX_1 _) rfl ?_
      refine v_goto (pc' := 92) dX10_doesLater_165 (by decide) ?_
      exact V.drop (llp_r (llp_r (llp_r (llp_r (llp_r (llp_u (llp_r llp_nil))))))) T
theorem bX10_doesLater_128 {G : GG} {d : Nat} {h : Hp} {o : OU} {h' : Hp} (r1 : Nat) (x3 : Int32) (x4 : Int32) (x5 : Int32) (x6 : Int32) (T : ((3 ≤ x6 → V G mX10_doesLater d 92 [uV, .ref r1, uV, .int (x3 + 1), .int (x4 + 1), uV, uV] [] h o h') ∧ (¬ 3 ≤ x6 → kH h r1 = 1 ∧ vp_in (x5 + x6) (lH h r1) ∧ vp_in ((2912 + (3 * x3)) + x6) (lH h r1) ∧ V G mX10_doesLater d 128 [uV, .ref r1, uV, .int x3, .int x4, .int x5, .int (x6 + 1)] [] (h.1, (upI h.2 r1 ((2912 + (3 * x3)) + x6).toNatClampNeg (h.2 r1 (x5 + x6).toNatClampNeg))) o h'))) : V G mX10_doesLater d 128 [uV, .ref r1, uV, .int x3, .int x4, .int x5, .int x6] [] h o h' := by
  refine v_iload (pc' := 130) dX10_doesLater_128 rfl rfl ?_
  refine v_iconst (pc' := 131) (v := 3) dX10_doesLater_130 rfl kI_3 ?_
  refine v_icmp_ge (tgt := 159) (pc' := 134) dX10_doesLater_131 (by decide) rfl ⟨fun c1 => ?_, fun c1 => ?_⟩
  · have T := T.1 c1
    refine v_iinc (pc' := 162) (loc' := [uV, .ref r1, uV, .int (x3 + 1), .int x4, .int x5, .int x6]) dX10_doesLater_159 rfl rfl (kX_1 _) rfl ?_
    refine v_iinc (pc' := 165) (loc' := [uV, .ref r1, uV, .int (x3 + 1), .int (x4 + 1), .int x5, .int x6]) dX10_doesLater_162 rfl rfl (kX_1 _) rfl ?_
    refine v_goto (pc' := 92) dX10_doesLater_165 (by decide) ?_
    exact V.drop (llp_r (llp_r (llp_r (llp_r (llp_r (llp_u (llp_u llp_nil))))))) T
  · have T := T.2 c1
    refine v_aload_n (pc' := 135) dX10_doesLater_134 rfl rfl ?_
    refine v_sipush (pc' := 138) (v := 2912) dX10_doesLater_135 rfl kS_2912 ?_
    refine v_iconst (pc' := 139) (v := 3) dX10_doesLater_138 rfl kI_3 ?_
    refine v_iload_n (pc' := 140) dX10_doesLater_139 rfl rfl ?_
    refine v_imul (pc' := 141) dX10_doesLater_140 rfl ?_
    refine v_iadd (pc' := 142) dX10_doesLater_141 rfl ?_
    refine v_iload (pc' := 144) dX10_doesLater_142 rfl rfl ?_
    refine v_iadd (pc' := 145) dX10_doesLater_144 rfl ?_
    refine v_aload_n (pc' := 146) dX10_doesLater_145 rfl rfl ?_
    refine v_iload (pc' := 148) dX10_doesLater_146 rfl rfl ?_
    refine v_iload (pc' := 150) dX10_doesLater_148 rfl rfl ?_
    refine v_iadd (pc' := 151) dX10_doesLater_150 rfl ?_
    obtain ⟨q2, T⟩ := T
    obtain ⟨q3, T⟩ := T
    refine v_iald (pc' := 152) dX10_doesLater_151 rfl rfl q2 q3 ?_
    obtain ⟨q4, T⟩ := T
    refine v_iast (pc' := 153) dX10_doesLater_152 rfl rfl q2 q4 ?_
    refine v_iinc (pc' := 156) (loc' := [uV, .ref r1, uV, .int x3, .int x4, .int x5, .int (x6 + 1)]) dX10_doesLater_153 rfl rfl (kX_1 _) rfl ?_
    refine v_goto (pc' := 128) dX10_doesLater_156 (by decide) ?_
    exact T
theorem eX10_writes {G : GG} {d : Nat} {h : Hp} {o : OU} {h' : Hp} (r0 : Nat) (r1 : Nat) (x2 : Int32) (hd : 1 ≤ d) (T : ∃ z2 h1, VM G mX10_isDirty (d - 1) [.ref r1, .int x2] h (.inl (some (.int z2))) h1 ∧ ((¬ z2 = 0 → kH h1 r1 = 1 ∧ vp_in 3396 (lH h1 r1) ∧ kH h1 r0 = 18 ∧ ∃ z8 h7, VM G mX10_copiesBlock (d - 1) [.ref r0, .ref r1, .int x2] h1 (.inl (some (.int z8))) h7 ∧ kH h7 r1 = 1 ∧ vp_in 3396 (lH h7 r1) ∧ vp_in 3395 (lH h7 r1) ∧ V G mX10_writes d 35 [.ref r0, .ref r1, .int x2, .int 0] [] (h7.1, (upI (upI h7.2 r1 3396 ((h1.2 r1 3396) + z8)) r1 3395 (((upI h7.2 r1 3396 ((h1.2 r1 3396) + z8)) r1 3395) + 1))) o h') ∧ (z2 = 0 → (o = .inl (some (.int 0)) ∧ h' = h1)))) : VM G mX10_writes d [.ref r0, .ref r1, .int x2] h o h' := by
  refine V.toM rfl rfl (le_l rfl) (cat_all rfl) ?_
  show V G mX10_writes d 0 [.ref r0, .ref r1, .int x2, uV] [] h o h'
  have hdd : d - 1 + 1 ≤ d := by omega
  refine v_aload_n (pc' := 1) dX10_writes_0 rfl rfl ?_
  refine v_iload_n (pc' := 2) dX10_writes_1 rfl rfl ?_
  obtain ⟨z2, h1, k3, T⟩ := T
  refine v_callS (pc' := 5) (M1 := mX10_isDirty) (as := [.ref r1, .int x2]) (rest := []) dX10_writes_2 rfl ko_X10_208 kc_X10_isDirty kt_X10_isDirty (by decide) hdd rfl rfl (le_l rfl) k3 ?_
  refine v_if_ne (tgt := 10) (pc' := 8) dX10_writes_5 (by decide) rfl ⟨fun c4 => ?_, fun c4 => ?_⟩
  · have T := T.1 c4
    refine v_aload_n (pc' := 11) dX10_writes_10 rfl rfl ?_
    refine v_sipush (pc' := 14) (v := 3396) dX10_writes_11 rfl kS_3396 ?_
    refine v_dup2 (pc' := 15) dX10_writes_14 rfl rfl rfl ?_
    obtain ⟨q5, T⟩ := T
    obtain ⟨q6, T⟩ := T
    refine v_iald (pc' := 16) dX10_writes_15 rfl kN_3396 q5 q6 ?_
    refine v_aload_n (pc' := 17) dX10_writes_16 rfl rfl ?_
    refine v_aload_n (pc' := 18) dX10_writes_17 rfl rfl ?_
    refine v_iload_n (pc' := 19) dX10_writes_18 rfl rfl ?_
    obtain ⟨q10, T⟩ := T
    obtain ⟨z8, h7, k9, T⟩ := T
    refine v_callV (pc' := 22) (M1 := mX10_copiesBlock) (as := [.ref r1, .int x2]) (r := r0) (rest := [.int (h1.2 r1 3396), .int 3396, .ref r1]) 8 dX10_writes_19 rfl ko_X10_258 kc_X10_copiesBlock ki_X10_copiesBlock ks_X10_copiesBlock (by decide) (by decide) hdd rfl rfl (le_l rfl) q10 k9 ?_
    refine v_iadd (pc' := 23) dX10_writes_22 rfl ?_
    obtain ⟨q11, T⟩ := T
    obtain ⟨q12, T⟩ := T
    refine v_iast (pc' := 24) dX10_writes_23 rfl kN_3396 q11 q12 ?_
    refine v_aload_n (pc' := 25) dX10_writes_24 rfl rfl ?_
    refine v_sipush (pc' := 28) (v := 3395) dX10_writes_25 rfl kS_3395 ?_
    refine v_dup2 (pc' := 29) dX10_writes_28 rfl rfl rfl ?_
    obtain ⟨q13, T⟩ := T
    refine v_iald (pc' := 30) dX10_writes_29 rfl kN_3395 q11 q13 ?_
    refine v_iconst (pc' := 31) (v := 1) dX10_writes_30 rfl kI_1 ?_
    refine v_iadd (pc' := 32) dX10_writes_31 rfl ?_
    refine v_iast (pc' := 33) dX10_writes_32 rfl kN_3395 q11 q13 ?_
    refine v_iconst (pc' := 34) (v := 0) dX10_writes_33 rfl kI_0 ?_
    refine v_istore_n (pc' := 35) (loc' := [.ref r0, .ref r1, .int x2, .int 0]) dX10_writes_34 rfl (lt_l rfl) rfl ?_
    exact T
  · have T := T.2 c4
    refine v_iconst (pc' := 9) (v := 0) dX10_writes_8 rfl kI_0 ?_
    exact v_zret dX10_writes_9 rfl (Or.inl rfl) T
theorem bX10_writes_35 {G : GG} {d : Nat} {h : Hp} {o : OU} {h' : Hp} (r0 : Nat) (r1 : Nat) (x2 : Int32) (x3 : Int32) (hd : 1 ≤ d) (T : ((16 ≤ x3 → kH h r0 = 18 ∧ ∃ h2, VM G mX10_leavesOut (d - 1) [.ref r0, .ref r1] h (.inl none) h2 ∧ kH h2 r0 = 18 ∧ ∃ h5, VM G mX10_doesLater (d - 1) [.ref r0, .ref r1] h2 (.inl none) h5 ∧ (o = .inl (some (.int 1)) ∧ h' = h5)) ∧ (¬ 16 ≤ x3 → kH h r0 = 18 ∧ kH h (rH h r0 28) = 1 ∧ vp_in x3 (lH h (rH h r0 28)) ∧ kH h r1 = 1 ∧ vp_in ((256 + (16 * x2)) + x3) (lH h r1) ∧ V G mX10_writes d 35 [.ref r0, .ref r1, .int x2, .int (x3 + 1)] [] (h.1, (upI h.2 r1 ((256 + (16 * x2)) + x3).toNatClampNeg (h.2 (rH h r0 28) x3.toNatClampNeg))) o h'))) : V G mX10_writes d 35 [.ref r0, .ref r1, .int x2, .int x3] [] h o h' := by
  have hdd : d - 1 + 1 ≤ d := by omega
  refine v_iload_n (pc' := 36) dX10_writes_35 rfl rfl ?_
  refine v_bipush (pc' := 38) (v := 16) dX10_writes_36 rfl kB_16 ?_
  refine v_icmp_ge (tgt := 65) (pc' := 41) dX10_writes_38 (by decide) rfl ⟨fun c1 => ?_, fun c1 => ?_⟩
  · have T := T.1 c1
    refine v_aload_n (pc' := 66) dX10_writes_65 rfl rfl ?_
    refine v_aload_n (pc' := 67) dX10_writes_66 rfl rfl ?_
    obtain ⟨q4, T⟩ := T
    obtain ⟨h2, k3, T⟩ := T
    refine v_callV (pc' := 70) (M1 := mX10_leavesOut) (as := [.ref r1]) (r := r0) (rest := []) 8 dX10_writes_67 rfl ko_X10_261 kc_X10_leavesOut ki_X10_leavesOut ks_X10_leavesOut (by decide) (by decide) hdd rfl rfl (le_l rfl) q4 k3 ?_
    refine v_aload_n (pc' := 71) dX10_writes_70 rfl rfl ?_
    refine v_aload_n (pc' := 72) dX10_writes_71 rfl rfl ?_
    obtain ⟨q7, T⟩ := T
    obtain ⟨h5, k6, T⟩ := T
    refine v_callV (pc' := 75) (M1 := mX10_doesLater) (as := [.ref r1]) (r := r0) (rest := []) 8 dX10_writes_72 rfl ko_X10_264 kc_X10_doesLater ki_X10_doesLater ks_X10_doesLater (by decide) (by decide) hdd rfl rfl (le_l rfl) q7 k6 ?_
    refine v_iconst (pc' := 76) (v := 1) dX10_writes_75 rfl kI_1 ?_
    exact v_zret dX10_writes_76 rfl (Or.inr rfl) T
  · have T := T.2 c1
    refine v_aload_n (pc' := 42) dX10_writes_41 rfl rfl ?_
    refine v_sipush (pc' := 45) (v := 256) dX10_writes_42 rfl kS_256 ?_
    refine v_bipush (pc' := 47) (v := 16) dX10_writes_45 rfl kB_16 ?_
    refine v_iload_n (pc' := 48) dX10_writes_47 rfl rfl ?_
    refine v_imul (pc' := 49) dX10_writes_48 rfl ?_
    refine v_iadd (pc' := 50) dX10_writes_49 rfl ?_
    refine v_iload_n (pc' := 51) dX10_writes_50 rfl rfl ?_
    refine v_iadd (pc' := 52) dX10_writes_51 rfl ?_
    refine v_aload_n (pc' := 53) dX10_writes_52 rfl rfl ?_
    obtain ⟨q8, T⟩ := T
    refine v_getR (pc' := 56) 8 28 dX10_writes_53 rfl (by decide) (by decide) rfl kf_X10_51 q8 ?_
    refine v_iload_n (pc' := 57) dX10_writes_56 rfl rfl ?_
    obtain ⟨q9, T⟩ := T
    obtain ⟨q10, T⟩ := T
    refine v_iald (pc' := 58) dX10_writes_57 rfl rfl q9 q10 ?_
    obtain ⟨q11, T⟩ := T
    obtain ⟨q12, T⟩ := T
    refine v_iast (pc' := 59) dX10_writes_58 rfl rfl q11 q12 ?_
    refine v_iinc (pc' := 62) (loc' := [.ref r0, .ref r1, .int x2, .int (x3 + 1)]) dX10_writes_59 rfl rfl (kX_1 _) rfl ?_
    refine v_goto (pc' := 35) dX10_writes_62 (by decide) ?_
    exact T
theorem eX10_syncs {G : GG} {d : Nat} {h : Hp} {o : OU} {h' : Hp} (r0 : Nat) (r1 : Nat) (T : V G mX10_syncs d 4 [.ref r0, .ref r1, .int 0, .int 0] [] h o h') : VM G mX10_syncs d [.ref r0, .ref r1] h o h' := by
  refine V.toM rfl rfl (le_l rfl) (cat_all rfl) ?_
  show V G mX10_syncs d 0 [.ref r0, .ref r1, uV, uV] [] h o h'
  refine v_iconst (pc' := 1) (v := 0) dX10_syncs_0 rfl kI_0 ?_
  refine v_istore_n (pc' := 2) (loc' := [.ref r0, .ref r1, .int 0, uV]) dX10_syncs_1 rfl (lt_l rfl) rfl ?_
  refine v_iconst (pc' := 3) (v := 0) dX10_syncs_2 rfl kI_0 ?_
  refine v_istore_n (pc' := 4) (loc' := [.ref r0, .ref r1, .int 0, .int 0]) dX10_syncs_3 rfl (lt_l rfl) rfl ?_
  exact T
theorem bX10_syncs_4 {G : GG} {d : Nat} {h : Hp} {o : OU} {h' : Hp} (r0 : Nat) (r1 : Nat) (x2 : Int32) (x3 : Int32) (hd : 1 ≤ d) (T : kH h r0 = 18 ∧ (((h.2 r0 11) ≤ x3 → (x2 = 0 ∨ x2 = 1) ∧ (o = .inl (some (.int x2)) ∧ h' = h)) ∧ (¬ (h.2 r0 11) ≤ x3 → ∃ z5 h4, VM G mX10_writes (d - 1) [.ref r0, .ref r1, .int x3] h (.inl (some (.int z5))) h4 ∧ V G mX10_syncs d 4 [.ref r0, .ref r1, .int (x2 ||| z5), .int (x3 + 1)] [] h4 o h'))) : V G mX10_syncs d 4 [.ref r0, .ref r1, .int x2, .int x3] [] h o h' := by
  have hdd : d - 1 + 1 ≤ d := by omega
  refine v_iload_n (pc' := 5) dX10_syncs_4 rfl rfl ?_
  refine v_aload_n (pc' := 6) dX10_syncs_5 rfl rfl ?_
  obtain ⟨q1, T⟩ := T
  refine v_getI (pc' := 9) 8 11 dX10_syncs_6 rfl (by decide) (by decide) rfl kf_X10_168 q1 ?_
  refine v_icmp_ge (tgt := 27) (pc' := 12) dX10_syncs_9 (by decide) rfl ⟨fun c2 => ?_, fun c2 => ?_⟩
  · have T := T.1 c2
    refine v_iload_n (pc' := 28) dX10_syncs_27 rfl rfl ?_
    obtain ⟨q3, T⟩ := T
    exact v_zret dX10_syncs_28 rfl q3 T
  · have T := T.2 c2
    refine v_iload_n (pc' := 13) dX10_syncs_12 rfl rfl ?_
    refine v_aload_n (pc' := 14) dX10_syncs_13 rfl rfl ?_
    refine v_aload_n (pc' := 15) dX10_syncs_14 rfl rfl ?_
    refine v_iload_n (pc' := 16) dX10_syncs_15 rfl rfl ?_
    obtain ⟨z5, h4, k6, T⟩ := T
    refine v_callV (pc' := 19) (M1 := mX10_writes) (as := [.ref r1, .int x3]) (r := r0) (rest := [.int x2]) 8 dX10_syncs_16 rfl ko_X10_267 kc_X10_writes ki_X10_writes ks_X10_writes (by decide) (by decide) hdd rfl rfl (le_l rfl) q1 k6 ?_
    refine v_ior (pc' := 20) dX10_syncs_19 rfl ?_
    refine v_istore_n (pc' := 21) (loc' := [.ref r0, .ref r1, .int (x2 ||| z5), .int x3]) dX10_syncs_20 rfl (lt_l rfl) rfl ?_
    refine v_iinc (pc' := 24) (loc' := [.ref r0, .ref r1, .int (x2 ||| z5), .int (x3 + 1)]) dX10_syncs_21 rfl rfl (kX_1 _) rfl ?_
    refine v_goto (pc' := 4) dX10_syncs_24 (by decide) ?_
    exact T
theorem eX10_isKind {G : GG} {d : Nat} {h : Hp} {o : OU} {h' : Hp} (r0 : Nat) (x1 : Int32) (x2 : Int32) (x3 : Int32) (hd : 1 ≤ d) (T : ∃ z2 h1, VM G mX10_fieldOf (d - 1) [.ref r0, .int x1, .int x2, .int 0] h (.inl (some (.int z2))) h1 ∧ ((z2 ≤ 0 → (o = .inl (some (.int 0)) ∧ h' = h1)) ∧ (¬ z2 ≤ 0 → ∃ z6 h5, VM G mX10_fieldOf (d - 1) [.ref r0, .int x1, .int x2, .int 1] h1 (.inl (some (.int z6))) h5 ∧ ((¬ z6 = x3 → (o = .inl (some (.int 0)) ∧ h' = h5)) ∧ (z6 = x3 → (o = .inl (some (.int 1)) ∧ h' = h5)))))) : VM G mX10_isKind d [.ref r0, .int x1, .int x2, .int x3] h o h' := by
  refine V.toM rfl rfl (le_l rfl) (cat_all rfl) ?_
  show V G mX10_isKind d 0 [.ref r0, .int x1, .int x2, .int x3] [] h o h'
  have hdd : d - 1 + 1 ≤ d := by omega
  refine v_aload_n (pc' := 1) dX10_isKind_0 rfl rfl ?_
  refine v_iload_n (pc' := 2) dX10_isKind_1 rfl rfl ?_
  refine v_iload_n (pc' := 3) dX10_isKind_2 rfl rfl ?_
  refine v_iconst (pc' := 4) (v := 0) dX10_isKind_3 rfl kI_0 ?_
  obtain ⟨z2, h1, k3, T⟩ := T
  refine v_callS (pc' := 7) (M1 := mX10_fieldOf) (as := [.ref r0, .int x1, .int x2, .int 0]) (rest := []) dX10_isKind_4 rfl ko_X10_233 kc_X10_fieldOf kt_X10_fieldOf (by decide) hdd rfl rfl (le_l rfl) k3 ?_
  refine v_if_le (tgt := 25) (pc' := 10) dX10_isKind_7 (by decide) rfl ⟨fun c4 => ?_, fun c4 => ?_⟩
  · have T := T.1 c4
    refine v_iconst (pc' := 26) (v := 0) dX10_isKind_25 rfl kI_0 ?_
    exact v_zret dX10_isKind_26 rfl (Or.inl rfl) T
  · have T := T.2 c4
    refine v_aload_n (pc' := 11) dX10_isKind_10 rfl rfl ?_
    refine v_iload_n (pc' := 12) dX10_isKind_11 rfl rfl ?_
    refine v_iload_n (pc' := 13) dX10_isKind_12 rfl rfl ?_
    refine v_iconst (pc' := 14) (v := 1) dX10_isKind_13 rfl kI_1 ?_
    obtain ⟨z6, h5, k7, T⟩ := T
    refine v_callS (pc' := 17) (M1 := mX10_fieldOf) (as := [.ref r0, .int x1, .int x2, .int 1]) (rest := []) dX10_isKind_14 rfl ko_X10_233 kc_X10_fieldOf kt_X10_fieldOf (by decide) hdd rfl rfl (le_l rfl) k7 ?_
    refine v_iload_n (pc' := 18) dX10_isKind_17 rfl rfl ?_
    refine v_icmp_ne (tgt := 25) (pc' := 21) dX10_isKind_18 (by decide) rfl ⟨fun c8 => ?_, fun c8 => ?_⟩
    · have T := T.1 c8
      refine v_iconst (pc' := 26) (v := 0) dX10_isKind_25 rfl kI_0 ?_
      exact v_zret dX10_isKind_26 rfl (Or.inl rfl) T
    · have T := T.2 c8
      refine v_iconst (pc' := 22) (v := 1) dX10_isKind_21 rfl kI_1 ?_
      refine v_goto (pc' := 26) dX10_isKind_22 (by decide) ?_
      exact v_zret dX10_isKind_26 rfl (Or.inr rfl) T
theorem eX10_entryOf {G : GG} {d : Nat} {h : Hp} {o : OU} {h' : Hp} (r0 : Nat) (x1 : Int32) (x2 : Int32) (x3 : Int32) (hd : 1 ≤ d) (T : ∃ z2 h1, VM G mX10_fieldOf (d - 1) [.ref r0, .int x1, .int x2, .int 2] h (.inl (some (.int z2))) h1 ∧ ∃ z5 h4, VM G mX10_fieldOf (d - 1) [.ref r0, .int x1, .int x2, .int 3] h1 (.inl (some (.int z5))) h4 ∧ ((¬ z2 = 0 → V G mX10_entryOf d 29 [uV, uV, uV, .int x3, .int z2, .int z5, uV, uV] [.int 8] h4 o h') ∧ (z2 = 0 → V G mX10_entryOf d 29 [uV, uV, uV, .int x3, .int z2, .int z5, uV, uV] [.int 0] h4 o h'))) : VM G mX10_entryOf d [.ref r0, .int x1, .int x2, .int x3] h o h' := by
  refine V.toM rfl rfl (le_l rfl) (cat_all rfl) ?_
  show V G mX10_entryOf d 0 [.ref r0, .int x1, .int x2, .int x3, uV, uV, uV, uV] [] h o h'
  have hdd : d - 1 + 1 ≤ d := by omega
  refine v_aload_n (pc' := 1) dX10_entryOf_0 rfl rfl ?_
  refine v_iload_n (pc' := 2) dX10_entryOf_1 rfl rfl ?_
  refine v_iload_n (pc' := 3) dX10_entryOf_2 rfl rfl ?_
  refine v_iconst (pc' := 4) (v := 2) dX10_entryOf_3 rfl kI_2 ?_
  obtain ⟨z2, h1, k3, T⟩ := T
  refine v_callS (pc' := 7) (M1 := mX10_fieldOf) (as := [.ref r0, .int x1, .int x2, .int 2]) (rest := []) dX10_entryOf_4 rfl ko_X10_233 kc_X10_fieldOf kt_X10_fieldOf (by decide) hdd rfl rfl (le_l rfl) k3 ?_
  refine v_istore (pc' := 9) (loc' := [.ref r0, .int x1, .int x2, .int x3, .int z2, uV, uV, uV]) dX10_entryOf_7 rfl (lt_l rfl) rfl ?_
  refine v_aload_n (pc' := 10) dX10_entryOf_9 rfl rfl ?_
  refine v_iload_n (pc' := 11) dX10_entryOf_10 rfl rfl ?_
  refine v_iload_n (pc' := 12) dX10_entryOf_11 rfl rfl ?_
  refine v_iconst (pc' := 13) (v := 3) dX10_entryOf_12 rfl kI_3 ?_
  obtain ⟨z5, h4, k6, T⟩ := T
  refine v_callS (pc' := 16) (M1 := mX10_fieldOf) (as := [.ref r0, .int x1, .int x2, .int 3]) (rest := []) dX10_entryOf_13 rfl ko_X10_233 kc_X10_fieldOf kt_X10_fieldOf (by decide) hdd rfl rfl (le_l rfl) k6 ?_
  refine v_istore (pc' := 18) (loc' := [.ref r0, .int x1, .int x2, .int x3, .int z2, .int z5, uV, uV]) dX10_entryOf_16 rfl (lt_l rfl) rfl ?_
  refine v_iload (pc' := 20) dX10_entryOf_18 rfl rfl ?_
  refine v_if_ne (tgt := 27) (pc' := 23) dX10_entryOf_20 (by decide) rfl ⟨fun c7 => ?_, fun c7 => ?_⟩
  · have T := T.1 c7
    refine v_bipush (pc' := 29) (v := 8) dX10_entryOf_27 rfl kB_8 ?_
    exact V.drop (llp_u (llp_u (llp_u (llp_r (llp_r (llp_r (llp_r (llp_r llp_nil)))))))) T
  · have T := T.2 c7
    refine v_iconst (pc' := 24) (v := 0) dX10_entryOf_23 rfl kI_0 ?_
    refine v_goto (pc' := 29) dX10_entryOf_24 (by decide) ?_
    exact V.drop (llp_u (llp_u (llp_u (llp_r (llp_r (llp_r (llp_r (llp_r llp_nil)))))))) T
theorem bX10_entryOf_29 {G : GG} {d : Nat} {h : Hp} {o : OU} {h' : Hp} (x3 : Int32) (x4 : Int32) (x5 : Int32) (s0 : Int32) (T : ((¬ x5 = 0 → V G mX10_entryOf d 40 [uV, uV, uV, .int x3, .int x4, .int x5, uV, uV] [.int 8, .int s0] h o h') ∧ (x5 = 0 → V G mX10_entryOf d 40 [uV, uV, uV, .int x3, .int x4, .int x5, uV, uV] [.int 0, .int s0] h o h'))) : V G mX10_entryOf d 29 [uV, uV, uV, .int x3, .int x4, .int x5, uV, uV] [.int s0] h o h' := by
  refine v_iload (pc' := 31) dX10_entryOf_29 rfl rfl ?_
  refine v_if_ne (tgt := 38) (pc' := 34) dX10_entryOf_31 (by decide) rfl ⟨fun c1 => ?_, fun c1 => ?_⟩
  · have T := T.1 c1
    refine v_bipush (pc' := 40) (v := 8) dX10_entryOf_38 rfl kB_8 ?_
    exact T
  · have T := T.2 c1
    refine v_iconst (pc' := 35) (v := 0) dX10_entryOf_34 rfl kI_0 ?_
    refine v_goto (pc' := 40) dX10_entryOf_35 (by decide) ?_
    exact T
theorem bX10_entryOf_40 {G : GG} {d : Nat} {h : Hp} {o : OU} {h' : Hp} (x3 : Int32) (x4 : Int32) (x5 : Int32) (s0 : Int32) (s1 : Int32) (T : ((x3 < (s1 + s0) → ((8 ≤ x3 → (o = .inl (some (.int ((16 * x5) + (2 * (x3 - x3 / 8 * 8))))) ∧ h' = h)) ∧ (¬ 8 ≤ x3 → ((x4 = 0 → (o = .inl (some (.int ((16 * x5) + (2 * (x3 - x3 / 8 * 8))))) ∧ h' = h)) ∧ (¬ x4 = 0 → (o = .inl (some (.int ((16 * x4) + (2 * (x3 - x3 / 8 * 8))))) ∧ h' = h)))))) ∧ (¬ x3 < (s1 + s0) → (o = .inl (some (.int (-1))) ∧ h' = h)))) : V G mX10_entryOf d 40 [uV, uV, uV, .int x3, .int x4, .int x5, uV, uV] [.int s0, .int s1] h o h' := by
  refine v_iadd (pc' := 41) dX10_entryOf_40 rfl ?_
  refine v_istore (pc' := 43) (loc' := [uV, uV, uV, .int x3, .int x4, .int x5, .int (s1 + s0), uV]) dX10_entryOf_41 rfl (lt_l rfl) rfl ?_
  refine v_iload_n (pc' := 44) dX10_entryOf_43 rfl rfl ?_
  refine v_iload (pc' := 46) dX10_entryOf_44 rfl rfl ?_
  refine v_icmp_lt (tgt := 51) (pc' := 49) dX10_entryOf_46 (by decide) rfl ⟨fun c1 => ?_, fun c1 => ?_⟩
  · have T := T.1 c1
    refine v_iload_n (pc' := 52) dX10_entryOf_51 rfl rfl ?_
    refine v_bipush (pc' := 54) (v := 8) dX10_entryOf_52 rfl kB_8 ?_
    refine v_icmp_ge (tgt := 67) (pc' := 57) dX10_entryOf_54 (by decide) rfl ⟨fun c2 => ?_, fun c2 => ?_⟩
    · have T := T.1 c2
      refine v_iload (pc' := 69) dX10_entryOf_67 rfl rfl ?_
      refine v_istore (pc' := 71) (loc' := [uV, uV, uV, .int x3, .int x4, .int x5, .int (s1 + s0), .int x5]) dX10_entryOf_69 rfl (lt_l rfl) rfl ?_
      refine v_bipush (pc' := 73) (v := 16) dX10_entryOf_71 rfl kB_16 ?_
      refine v_iload (pc' := 75) dX10_entryOf_73 rfl rfl ?_
      refine v_imul (pc' := 76) dX10_entryOf_75 rfl ?_
      refine v_iconst (pc' := 77) (v := 2) dX10_entryOf_76 rfl kI_2 ?_
      refine v_iload_n (pc' := 78) dX10_entryOf_77 rfl rfl ?_
      refine v_bipush (pc' := 80) (v := 8) dX10_entryOf_78 rfl kB_8 ?_
      refine v_irem (pc' := 81) dX10_entryOf_80 rfl (by decide) ?_
      refine v_imul (pc' := 82) dX10_entryOf_81 rfl ?_
      refine v_iadd (pc' := 83) dX10_entryOf_82 rfl ?_
      exact v_iret dX10_entryOf_83 rfl T
    · have T := T.2 c2
      refine v_iload (pc' := 59) dX10_entryOf_57 rfl rfl ?_
      refine v_if_eq (tgt := 67) (pc' := 62) dX10_entryOf_59 (by decide) rfl ⟨fun c3 => ?_, fun c3 => ?_⟩
      · have T := T.1 c3
        refine v_iload (pc' := 69) dX10_entryOf_67 rfl rfl ?_
        refine v_istore (pc' := 71) (loc' := [uV, uV, uV, .int x3, .int x4, .int x5, .int (s1 + s0), .int x5]) dX10_entryOf_69 rfl (lt_l rfl) rfl ?_
        refine v_bipush (pc' := 73) (v := 16) dX10_entryOf_71 rfl kB_16 ?_
        refine v_iload (pc' := 75) dX10_entryOf_73 rfl rfl ?_
        refine v_imul (pc' := 76) dX10_entryOf_75 rfl ?_
        refine v_iconst (pc' := 77) (v := 2) dX10_entryOf_76 rfl kI_2 ?_
        refine v_iload_n (pc' := 78) dX10_entryOf_77 rfl rfl ?_
        refine v_bipush (pc' := 80) (v := 8) dX10_entryOf_78 rfl kB_8 ?_
        refine v_irem (pc' := 81) dX10_entryOf_80 rfl (by decide) ?_
        refine v_imul (pc' := 82) dX10_entryOf_81 rfl ?_
        refine v_iadd (pc' := 83) dX10_entryOf_82 rfl ?_
        exact v_iret dX10_entryOf_83 rfl T
      · have T := T.2 c3
        refine v_iload (pc' := 64) dX10_entryOf_62 rfl rfl ?_
        refine v_goto (pc' := 69) dX10_entryOf_64 (by decide) ?_
        refine v_istore (pc' := 71) (loc' := [uV, uV, uV, .int x3, .int x4, .int x5, .int (s1 + s0), .int x4]) dX10_entryOf_69 rfl (lt_l rfl) rfl ?_
        refine v_bipush (pc' := 73) (v := 16) dX10_entryOf_71 rfl kB_16 ?_
        refine v_iload (pc' := 75) dX10_entryOf_73 rfl rfl ?_
        refine v_imul (pc' := 76) dX10_entryOf_75 rfl ?_
        refine v_iconst (pc' := 77) (v := 2) dX10_entryOf_76 rfl kI_2 ?_
        refine v_iload_n (pc' := 78) dX10_entryOf_77 rfl rfl ?_
        refine v_bipush (pc' := 80) (v := 8) dX10_entryOf_78 rfl kB_8 ?_
        refine v_irem (pc' := 81) dX10_entryOf_80 rfl (by decide) ?_
        refine v_imul (pc' := 82) dX10_entryOf_81 rfl ?_
        refine v_iadd (pc' := 83) dX10_entryOf_82 rfl ?_
        exact v_iret dX10_entryOf_83 rfl T
  · have T := T.2 c1
    refine v_iconst (pc' := 50) (v := (-1)) dX10_entryOf_49 rfl kI_m1 ?_
    exact v_iret dX10_entryOf_50 rfl T
theorem eX10_entry {G : GG} {d : Nat} {h : Hp} {o : OU} {h' : Hp} (r0 : Nat) (x1 : Int32) (x2 : Int32) (x3 : Int32) (T : V G mX10_entry d 3 [.ref r0, .int x1, .int x2, .int x3, .int 0] [] h o h') : VM G mX10_entry d [.ref r0, .int x1, .int x2, .int x3] h o h' := by
  refine V.toM rfl rfl (le_l rfl) (cat_all rfl) ?_
  show V G mX10_entry d 0 [.ref r0, .int x1, .int x2, .int x3, uV] [] h o h'
  refine v_iconst (pc' := 1) (v := 0) dX10_entry_0 rfl kI_0 ?_
  refine v_istore (pc' := 3) (loc' := [.ref r0, .int x1, .int x2, .int x3, .int 0]) dX10_entry_1 rfl (lt_l rfl) rfl ?_
  exact T
theorem bX10_entry_3 {G : GG} {d : Nat} {h : Hp} {o : OU} {h' : Hp} (r0 : Nat) (x1 : Int32) (x2 : Int32) (x3 : Int32) (x4 : Int32) (hd : 1 ≤ d) (T : ∃ z2 h1, VM G mX10_entryOf (d - 1) [.ref r0, .int x1, .int x2, .int x4] h (.inl (some (.int z2))) h1 ∧ ((z2 = (-1) → (o = .inl (some (.int (-1))) ∧ h' = h1)) ∧ (¬ z2 = (-1) → ∃ z6 h5, VM G mX10_entryOf (d - 1) [.ref r0, .int x1, .int x2, .int x4] h1 (.inl (some (.int z6))) h5 ∧ kH h5 r0 = 1 ∧ vp_in (x1 + z6) (lH h5 r0) ∧ ((¬ (h5.2 r0 (x1 + z6).toNatClampNeg) = x3 → V G mX10_entry d 3 [.ref r0, .int x1, .int x2, .int x3, .int (x4 + 1)] [] h5 o h') ∧ ((h5.2 r0 (x1 + z6).toNatClampNeg) = x3 → ∃ z12 h11, VM G mX10_entryOf (d - 1) [.ref r0, .int x1, .int x2, .int x4] h5 (.inl (some (.int z12))) h11 ∧ (o = .inl (some (.int z12)) ∧ h' = h11)))))) : V G mX10_entry d 3 [.ref r0, .int x1, .int x2, .int x3, .int x4] [] h o h' := by
  have hdd : d - 1 + 1 ≤ d := by omega
  refine v_aload_n (pc' := 4) dX10_entry_3 rfl rfl ?_
  refine v_iload_n (pc' := 5) dX10_entry_4 rfl rfl ?_
  refine v_iload_n (pc' := 6) dX10_entry_5 rfl rfl ?_
  refine v_iload (pc' := 8) dX10_entry_6 rfl rfl ?_
  obtain ⟨z2, h1, k3, T⟩ := T
  refine v_callS (pc' := 11) (M1 := mX10_entryOf) (as := [.ref r0, .int x1, .int x2, .int x4]) (rest := []) dX10_entry_8 rfl ko_X10_270 kc_X10_entryOf kt_X10_entryOf (by decide) hdd rfl rfl (le_l rfl) k3 ?_
  refine v_iconst (pc' := 12) (v := (-1)) dX10_entry_11 rfl kI_m1 ?_
  refine v_icmp_eq (tgt := 46) (pc' := 15) dX10_entry_12 (by decide) rfl ⟨fun c4 => ?_, fun c4 => ?_⟩
  · have T := T.1 c4
    refine v_iconst (pc' := 47) (v := (-1)) dX10_entry_46 rfl kI_m1 ?_
    exact v_iret dX10_entry_47 rfl T
  · have T := T.2 c4
    refine v_aload_n (pc' := 16) dX10_entry_15 rfl rfl ?_
    refine v_iload_n (pc' := 17) dX10_entry_16 rfl rfl ?_
    refine v_aload_n (pc' := 18) dX10_entry_17 rfl rfl ?_
    refine v_iload_n (pc' := 19) dX10_entry_18 rfl rfl ?_
    refine v_iload_n (pc' := 20) dX10_entry_19 rfl rfl ?_
    refine v_iload (pc' := 22) dX10_entry_20 rfl rfl ?_
    obtain ⟨z6, h5, k7, T⟩ := T
    refine v_callS (pc' := 25) (M1 := mX10_entryOf) (as := [.ref r0, .int x1, .int x2, .int x4]) (rest := [.int x1, .ref r0]) dX10_entry_22 rfl ko_X10_270 kc_X10_entryOf kt_X10_entryOf (by decide) hdd rfl rfl (le_l rfl) k7 ?_
    refine v_iadd (pc' := 26) dX10_entry_25 rfl ?_
    obtain ⟨q8, T⟩ := T
    obtain ⟨q9, T⟩ := T
    refine v_iald (pc' := 27) dX10_entry_26 rfl rfl q8 q9 ?_
    refine v_iload_n (pc' := 28) dX10_entry_27 rfl rfl ?_
    refine v_icmp_ne (tgt := 40) (pc' := 31) dX10_entry_28 (by decide) rfl ⟨fun c10 => ?_, fun c10 => ?_⟩
    · have T := T.1 c10
      refine v_iinc (pc' := 43) (loc' := [.ref r0, .int x1, .int x2, .int x3, .int (x4 + 1)]) dX10_entry_40 rfl rfl (kX_1 _) rfl ?_
      refine v_goto (pc' := 3) dX10_entry_43 (by decide) ?_
      exact T
    · have T := T.2 c10
      refine v_aload_n (pc' := 32) dX10_entry_31 rfl rfl ?_
      refine v_iload_n (pc' := 33) dX10_entry_32 rfl rfl ?_
      refine v_iload_n (pc' := 34) dX10_entry_33 rfl rfl ?_
      refine v_iload (pc' := 36) dX10_entry_34 rfl rfl ?_
      obtain ⟨z12, h11, k13, T⟩ := T
      refine v_callS (pc' := 39) (M1 := mX10_entryOf) (as := [.ref r0, .int x1, .int x2, .int x4]) (rest := []) dX10_entry_36 rfl ko_X10_270 kc_X10_entryOf kt_X10_entryOf (by decide) hdd rfl rfl (le_l rfl) k13 ?_
      exact v_iret dX10_entry_39 rfl T
theorem eX10_isNewName {G : GG} {d : Nat} {h : Hp} {o : OU} {h' : Hp} (r0 : Nat) (r1 : Nat) (x2 : Int32) (x3 : Int32) (hd : 1 ≤ d) (T : ∃ z2 h1, VM G mX10_isKind (d - 1) [.ref r1, .int 0, .int x2, .int 2] h (.inl (some (.int z2))) h1 ∧ ((z2 = 0 → (o = .inl (some (.int 0)) ∧ h' = h1)) ∧ (¬ z2 = 0 → ∃ z6 h5, VM G mX10_reached (d - 1) [.ref r1, .int 0] h1 (.inl (some (.int z6))) h5 ∧ ∃ z9 h8, VM G mX10_has (d - 1) [.int z6, .int x2] h5 (.inl (some (.int z9))) h8 ∧ ((z9 = 0 → (o = .inl (some (.int 0)) ∧ h' = h8)) ∧ (¬ z9 = 0 → ∃ z13 h12, VM G mX10_entry (d - 1) [.ref r1, .int 0, .int x2, .int x3] h8 (.inl (some (.int z13))) h12 ∧ ((¬ z13 = (-1) → (o = .inl (some (.int 0)) ∧ h' = h12)) ∧ (z13 = (-1) → ∃ z17 h16, VM G mX10_entry (d - 1) [.ref r1, .int 0, .int x2, .int 0] h12 (.inl (some (.int z17))) h16 ∧ ((z17 = (-1) → (o = .inl (some (.int 0)) ∧ h' = h16)) ∧ (¬ z17 = (-1) → (o = .inl (some (.int 1)) ∧ h' = h16)))))))))) : VM G mX10_isNewName d [.ref r0, .ref r1, .int x2, .int x3] h o h' := by
  refine V.toM rfl rfl (le_l rfl) (cat_all rfl) ?_
  show V G mX10_isNewName d 0 [.ref r0, .ref r1, .int x2, .int x3] [] h o h'
  have hdd : d - 1 + 1 ≤ d := by omega
  refine v_aload_n (pc' := 1) dX10_isNewName_0 rfl rfl ?_
  refine v_iconst (pc' := 2) (v := 0) dX10_isNewName_1 rfl kI_0 ?_
  refine v_iload_n (pc' := 3) dX10_isNewName_2 rfl rfl ?_
  refine v_iconst (pc' := 4) (v := 2) dX10_isNewName_3 rfl kI_2 ?_
  obtain ⟨z2, h1, k3, T⟩ := T
  refine v_callS (pc' := 7) (M1 := mX10_isKind) (as := [.ref r1, .int 0, .int x2, .int 2]) (rest := []) dX10_isNewName_4 rfl ko_X10_273 kc_X10_isKind kt_X10_isKind (by decide) hdd rfl rfl (le_l rfl) k3 ?_
  refine v_if_eq (tgt := 48) (pc' := 10) dX10_isNewName_7 (by decide) rfl ⟨fun c4 => ?_, fun c4 => ?_⟩
  · have T := T.1 c4
    refine v_iconst (pc' := 49) (v := 0) dX10_isNewName_48 rfl kI_0 ?_
    exact v_zret dX10_isNewName_49 rfl (Or.inl rfl) T
  · have T := T.2 c4
    refine v_aload_n (pc' := 11) dX10_isNewName_10 rfl rfl ?_
    refine v_iconst (pc' := 12) (v := 0) dX10_isNewName_11 rfl kI_0 ?_
    obtain ⟨z6, h5, k7, T⟩ := T
    refine v_callS (pc' := 15) (M1 := mX10_reached) (as := [.ref r1, .int 0]) (rest := []) dX10_isNewName_12 rfl ko_X10_276 kc_X10_reached kt_X10_reached (by decide) hdd rfl rfl (le_l rfl) k7 ?_
    refine v_iload_n (pc' := 16) dX10_isNewName_15 rfl rfl ?_
    obtain ⟨z9, h8, k10, T⟩ := T
    refine v_callS (pc' := 19) (M1 := mX10_has) (as := [.int z6, .int x2]) (rest := []) dX10_isNewName_16 rfl ko_X10_193 kc_X10_has kt_X10_has (by decide) hdd rfl rfl (le_l rfl) k10 ?_
    refine v_if_eq (tgt := 48) (pc' := 22) dX10_isNewName_19 (by decide) rfl ⟨fun c11 => ?_, fun c11 => ?_⟩
    · have T := T.1 c11
      refine v_iconst (pc' := 49) (v := 0) dX10_isNewName_48 rfl kI_0 ?_
      exact v_zret dX10_isNewName_49 rfl (Or.inl rfl) T
    · have T := T.2 c11
      refine v_aload_n (pc' := 23) dX10_isNewName_22 rfl rfl ?_
      refine v_iconst (pc' := 24) (v := 0) dX10_isNewName_23 rfl kI_0 ?_
      refine v_iload_n (pc' := 25) dX10_isNewName_24 rfl rfl ?_
      refine v_iload_n (pc' := 26) dX10_isNewName_25 rfl rfl ?_
      obtain ⟨z13, h12, k14, T⟩ := T
      refine v_callS (pc' := 29) (M1 := mX10_entry) (as := [.ref r1, .int 0, .int x2, .int x3]) (rest := []) dX10_isNewName_26 rfl ko_X10_279 kc_X10_entry kt_X10_entry (by decide) hdd rfl rfl (le_l rfl) k14 ?_
      refine v_iconst (pc' := 30) (v := (-1)) dX10_isNewName_29 rfl kI_m1 ?_
      refine v_icmp_ne (tgt := 48) (pc' := 33) dX10_isNewName_30 (by decide) rfl ⟨fun c15 => ?_, fun c15 => ?_⟩
      · have T := T.1 c15
        refine v_iconst (pc' := 49) (v := 0) dX10_isNewName_48 rfl kI_0 ?_
        exact v_zret dX10_isNewName_49 rfl (Or.inl rfl) T
      · have T := T.2 c15
        refine v_aload_n (pc' := 34) dX10_isNewName_33 rfl rfl ?_
        refine v_iconst (pc' := 35) (v := 0) dX10_isNewName_34 rfl kI_0 ?_
        refine v_iload_n (pc' := 36) dX10_isNewName_35 rfl rfl ?_
        refine v_iconst (pc' := 37) (v := 0) dX10_isNewName_36 rfl kI_0 ?_
        obtain ⟨z17, h16, k18, T⟩ := T
        refine v_callS (pc' := 40) (M1 := mX10_entry) (as := [.ref r1, .int 0, .int x2, .int 0]) (rest := []) dX10_isNewName_37 rfl ko_X10_279 kc_X10_entry kt_X10_entry (by decide) hdd rfl rfl (le_l rfl) k18 ?_
        refine v_iconst (pc' := 41) (v := (-1)) dX10_isNewName_40 rfl kI_m1 ?_
        refine v_icmp_eq (tgt := 48) (pc' := 44) dX10_isNewName_41 (by decide) rfl ⟨fun c19 => ?_, fun c19 => ?_⟩
        · have T := T.1 c19
          refine v_iconst (pc' := 49) (v := 0) dX10_isNewName_48 rfl kI_0 ?_
          exact v_zret dX10_isNewName_49 rfl (Or.inl rfl) T
        · have T := T.2 c19
          refine v_iconst (pc' := 45) (v := 1) dX10_isNewName_44 rfl kI_1 ?_
          refine v_goto (pc' := 49) dX10_isNewName_45 (by decide) ?_
          exact v_zret dX10_isNewName_49 rfl (Or.inr rfl) T
theorem eX10_isFull {G : GG} {d : Nat} {h : Hp} {o : OU} {h' : Hp} (r0 : Nat) (T : kH h r0 = 1 ∧ vp_in 3392 (lH h r0) ∧ ((60 ≤ (h.2 r0 3392) → (o = .inl (some (.int 1)) ∧ h' = h)) ∧ (¬ 60 ≤ (h.2 r0 3392) → vp_in 3393 (lH h r0) ∧ (((h.2 r0 3393) < 30 → (o = .inl (some (.int 0)) ∧ h' = h)) ∧ (¬ (h.2 r0 3393) < 30 → (o = .inl (some (.int 1)) ∧ h' = h)))))) : VM G mX10_isFull d [.ref r0] h o h' := by
  refine V.toM rfl rfl (le_l rfl) (cat_all rfl) ?_
  show V G mX10_isFull d 0 [.ref r0] [] h o h'
  refine v_aload_n (pc' := 1) dX10_isFull_0 rfl rfl ?_
  refine v_sipush (pc' := 4) (v := 3392) dX10_isFull_1 rfl kS_3392 ?_
  obtain ⟨q1, T⟩ := T
  obtain ⟨q2, T⟩ := T
  refine v_iald (pc' := 5) dX10_isFull_4 rfl kN_3392 q1 q2 ?_
  refine v_bipush (pc' := 7) (v := 60) dX10_isFull_5 rfl kB_60 ?_
  refine v_icmp_ge (tgt := 20) (pc' := 10) dX10_isFull_7 (by decide) rfl ⟨fun c3 => ?_, fun c3 => ?_⟩
  · have T := T.1 c3
    refine v_iconst (pc' := 21) (v := 1) dX10_isFull_20 rfl kI_1 ?_
    refine v_goto (pc' := 25) dX10_isFull_21 (by decide) ?_
    exact v_zret dX10_isFull_25 rfl (Or.inr rfl) T
  · have T := T.2 c3
    refine v_aload_n (pc' := 11) dX10_isFull_10 rfl rfl ?_
    refine v_sipush (pc' := 14) (v := 3393) dX10_isFull_11 rfl kS_3393 ?_
    obtain ⟨q4, T⟩ := T
    refine v_iald (pc' := 15) dX10_isFull_14 rfl kN_3393 q1 q4 ?_
    refine v_bipush (pc' := 17) (v := 30) dX10_isFull_15 rfl kB_30 ?_
    refine v_icmp_lt (tgt := 24) (pc' := 20) dX10_isFull_17 (by decide) rfl ⟨fun c5 => ?_, fun c5 => ?_⟩
    · have T := T.1 c5
      refine v_iconst (pc' := 25) (v := 0) dX10_isFull_24 rfl kI_0 ?_
      exact v_zret dX10_isFull_25 rfl (Or.inl rfl) T
    · have T := T.2 c5
      refine v_iconst (pc' := 21) (v := 1) dX10_isFull_20 rfl kI_1 ?_
      refine v_goto (pc' := 25) dX10_isFull_21 (by decide) ?_
      exact v_zret dX10_isFull_25 rfl (Or.inr rfl) T
theorem eX10_freeNode {G : GG} {d : Nat} {h : Hp} {o : OU} {h' : Hp} (r0 : Nat) (T : V G mX10_freeNode d 2 [.ref r0, .int 0] [] h o h') : VM G mX10_freeNode d [.ref r0] h o h' := by
  refine V.toM rfl rfl (le_l rfl) (cat_all rfl) ?_
  show V G mX10_freeNode d 0 [.ref r0, uV] [] h o h'
  refine v_iconst (pc' := 1) (v := 0) dX10_freeNode_0 rfl kI_0 ?_
  refine v_istore_n (pc' := 2) (loc' := [.ref r0, .int 0]) dX10_freeNode_1 rfl (lt_l rfl) rfl ?_
  exact T
theorem bX10_freeNode_2 {G : GG} {d : Nat} {h : Hp} {o : OU} {h' : Hp} (r0 : Nat) (x1 : Int32) (hd : 1 ≤ d) (T : ((12 ≤ x1 → (o = .inl (some (.int (-1))) ∧ h' = h)) ∧ (¬ 12 ≤ x1 → ∃ z3 h2, VM G mX10_fieldOf (d - 1) [.ref r0, .int 0, .int x1, .int 0] h (.inl (some (.int z3))) h2 ∧ ((¬ z3 = 0 → V G mX10_freeNode d 2 [.ref r0, .int (x1 + 1)] [] h2 o h') ∧ (z3 = 0 → ∃ z7 h6, VM G mX10_fieldOf (d - 1) [.ref r0, .int 0, .int x1, .int 1] h2 (.inl (some (.int z7))) h6 ∧ ((¬ z7 = 0 → V G mX10_freeNode d 2 [.ref r0, .int (x1 + 1)] [] h6 o h') ∧ (z7 = 0 → (o = .inl (some (.int x1)) ∧ h' = h6)))))))) : V G mX10_freeNode d 2 [.ref r0, .int x1] [] h o h' := by
  have hdd : d - 1 + 1 ≤ d := by omega
  refine v_iload_n (pc' := 3) dX10_freeNode_2 rfl rfl ?_
  refine v_bipush (pc' := 5) (v := 12) dX10_freeNode_3 rfl kB_12 ?_
  refine v_icmp_ge (tgt := 36) (pc' := 8) dX10_freeNode_5 (by decide) rfl ⟨fun c1 => ?_, fun c1 => ?_⟩
  · have T := T.1 c1
    refine v_iconst (pc' := 37) (v := (-1)) dX10_freeNode_36 rfl kI_m1 ?_
    exact v_iret dX10_freeNode_37 rfl T
  · have T := T.2 c1
    refine v_aload_n (pc' := 9) dX10_freeNode_8 rfl rfl ?_
    refine v_iconst (pc' := 10) (v := 0) dX10_freeNode_9 rfl kI_0 ?_
    refine v_iload_n (pc' := 11) dX10_freeNode_10 rfl rfl ?_
    refine v_iconst (pc' := 12) (v := 0) dX10_freeNode_11 rfl kI_0 ?_
    obtain ⟨z3, h2, k4, T⟩ := T
    refine v_callS (pc' := 15) (M1 := mX10_fieldOf) (as := [.ref r0, .int 0, .int x1, .int 0]) (rest := []) dX10_freeNode_12 rfl ko_X10_233 kc_X10_fieldOf kt_X10_fieldOf (by decide) hdd rfl rfl (le_l rfl) k4 ?_
    refine v_if_ne (tgt := 30) (pc' := 18) dX10_freeNode_15 (by decide) rfl ⟨fun c5 => ?_, fun c5 => ?_⟩
    · have T := T.1 c5
      refine v_iinc (pc' := 33) (loc' := [.ref r0, .int (x1 + 1)]) dX10_freeNode_30 rfl rfl (kX_1 _) rfl ?_
      refine v_goto (pc' := 2) dX10_freeNode_33 (by decide) ?_
      exact T
    · have T := T.2 c5
      refine v_aload_n (pc' := 19) dX10_freeNode_18 rfl rfl ?_
      refine v_iconst (pc' := 20) (v := 0) dX10_freeNode_19 rfl kI_0 ?_
      refine v_iload_n (pc' := 21) dX10_freeNode_20 rfl rfl ?_
      refine v_iconst (pc' := 22) (v := 1) dX10_freeNode_21 rfl kI_1 ?_
      obtain ⟨z7, h6, k8, T⟩ := T
      refine v_callS (pc' := 25) (M1 := mX10_fieldOf) (as := [.ref r0, .int 0, .int x1, .int 1]) (rest := []) dX10_freeNode_22 rfl ko_X10_233 kc_X10_fieldOf kt_X10_fieldOf (by decide) hdd rfl rfl (le_l rfl) k8 ?_
      refine v_if_ne (tgt := 30) (pc' := 28) dX10_freeNode_25 (by decide) rfl ⟨fun c9 => ?_, fun c9 => ?_⟩
      · have T := T.1 c9
        refine v_iinc (pc' := 33) (loc' := [.ref r0, .int (x1 + 1)]) dX10_freeNode_30 rfl rfl (kX_1 _) rfl ?_
        refine v_goto (pc' := 2) dX10_freeNode_33 (by decide) ?_
        exact T
      · have T := T.2 c9
        refine v_iload_n (pc' := 29) dX10_freeNode_28 rfl rfl ?_
        exact v_iret dX10_freeNode_29 rfl T
theorem eX10_freeBlock {G : GG} {d : Nat} {h : Hp} {o : OU} {h' : Hp} (r0 : Nat) (r1 : Nat) (T : V G mX10_freeBlock d 2 [.ref r0, .ref r1, .int 4] [] h o h') : VM G mX10_freeBlock d [.ref r0, .ref r1] h o h' := by
  refine V.toM rfl rfl (le_l rfl) (cat_all rfl) ?_
  show V G mX10_freeBlock d 0 [.ref r0, .ref r1, uV] [] h o h'
  refine v_iconst (pc' := 1) (v := 4) dX10_freeBlock_0 rfl kI_4 ?_
  refine v_istore_n (pc' := 2) (loc' := [.ref r0, .ref r1, .int 4]) dX10_freeBlock_1 rfl (lt_l rfl) rfl ?_
  exact T
theorem bX10_freeBlock_2 {G : GG} {d : Nat} {h : Hp} {o : OU} {h' : Hp} (r0 : Nat) (r1 : Nat) (x2 : Int32) (T : kH h r0 = 18 ∧ (((h.2 r0 11) ≤ x2 → (o = .inl (some (.int (-1))) ∧ h' = h)) ∧ (¬ (h.2 r0 11) ≤ x2 → kH h r1 = 1 ∧ vp_in (0 + x2) (lH h r1) ∧ ((¬ (h.2 r1 (0 + x2).toNatClampNeg) = 0 → V G mX10_freeBlock d 2 [.ref r0, .ref r1, .int (x2 + 1)] [] h o h') ∧ ((h.2 r1 (0 + x2).toNatClampNeg) = 0 → (o = .inl (some (.int x2)) ∧ h' = h)))))) : V G mX10_freeBlock d 2 [.ref r0, .ref r1, .int x2] [] h o h' := by
  refine v_iload_n (pc' := 3) dX10_freeBlock_2 rfl rfl ?_
  refine v_aload_n (pc' := 4) dX10_freeBlock_3 rfl rfl ?_
  obtain ⟨q1, T⟩ := T
  refine v_getI (pc' := 7) 8 11 dX10_freeBlock_4 rfl (by decide) (by decide) rfl kf_X10_168 q1 ?_
  refine v_icmp_ge (tgt := 26) (pc' := 10) dX10_freeBlock_7 (by decide) rfl ⟨fun c2 => ?_, fun c2 => ?_⟩
  · have T := T.1 c2
    refine v_iconst (pc' := 27) (v := (-1)) dX10_freeBlock_26 rfl kI_m1 ?_
    exact v_iret dX10_freeBlock_27 rfl T
  · have T := T.2 c2
    refine v_aload_n (pc' := 11) dX10_freeBlock_10 rfl rfl ?_
    refine v_iconst (pc' := 12) (v := 0) dX10_freeBlock_11 rfl kI_0 ?_
    refine v_iload_n (pc' := 13) dX10_freeBlock_12 rfl rfl ?_
    refine v_iadd (pc' := 14) dX10_freeBlock_13 rfl ?_
    obtain ⟨q3, T⟩ := T
    obtain ⟨q4, T⟩ := T
    refine v_iald (pc' := 15) dX10_freeBlock_14 rfl rfl q3 q4 ?_
    refine v_if_ne (tgt := 20) (pc' := 18) dX10_freeBlock_15 (by decide) rfl ⟨fun c5 => ?_, fun c5 => ?_⟩
    · have T := T.1 c5
      refine v_iinc (pc' := 23) (loc' := [.ref r0, .ref r1, .int (x2 + 1)]) dX10_freeBlock_20 rfl rfl (kX_1 _) rfl ?_
      refine v_goto (pc' := 2) dX10_freeBlock_23 (by decide) ?_
      exact T
    · have T := T.2 c5
      refine v_iload_n (pc' := 19) dX10_freeBlock_18 rfl rfl ?_
      exact v_iret dX10_freeBlock_19 rfl T
theorem eX10_latest {G : GG} {d : Nat} {h : Hp} {o : OU} {h' : Hp} (r0 : Nat) (x1 : Int32) (x2 : Int32) (T : V G mX10_latest d 5 [.ref r0, .int x1, .int x2, .int 0, .int 0] [] h o h') : VM G mX10_latest d [.ref r0, .int x1, .int x2] h o h' := by
  refine V.toM rfl rfl (le_l rfl) (cat_all rfl) ?_
  show V G mX10_latest d 0 [.ref r0, .int x1, .int x2, uV, uV] [] h o h'
  refine v_iconst (pc' := 1) (v := 0) dX10_latest_0 rfl kI_0 ?_
  refine v_istore_n (pc' := 2) (loc' := [.ref r0, .int x1, .int x2, .int 0, uV]) dX10_latest_1 rfl (lt_l rfl) rfl ?_
  refine v_iconst (pc' := 3) (v := 0) dX10_latest_2 rfl kI_0 ?_
  refine v_istore (pc' := 5) (loc' := [.ref r0, .int x1, .int x2, .int 0, .int 0]) dX10_latest_3 rfl (lt_l rfl) rfl ?_
  exact T
theorem bX10_latest_5 {G : GG} {d : Nat} {h : Hp} {o : OU} {h' : Hp} (r0 : Nat) (x1 : Int32) (x2 : Int32) (x3 : Int32) (x4 : Int32) (hd : 1 ≤ d) (T : kH h r0 = 1 ∧ vp_in 3392 (lH h r0) ∧ (((h.2 r0 3392) ≤ x4 → (o = .inl (some (.int x3)) ∧ h' = h)) ∧ (¬ (h.2 r0 3392) ≤ x4 → ∃ z5 h4, VM G mX10_cell (d - 1) [.int x4] h (.inl (some (.int z5))) h4 ∧ kH h4 r0 = 1 ∧ vp_in (z5 + 1) (lH h4 r0) ∧ ((¬ (h4.2 r0 (z5 + 1).toNatClampNeg) = x1 → V G mX10_latest d 5 [.ref r0, .int x1, .int x2, .int x3, .int (x4 + 1)] [] h4 o h') ∧ ((h4.2 r0 (z5 + 1).toNatClampNeg) = x1 → ∃ z11 h10, VM G mX10_cell (d - 1) [.int x4] h4 (.inl (some (.int z11))) h10 ∧ kH h10 r0 = 1 ∧ vp_in (z11 + 2) (lH h10 r0) ∧ ((¬ (h10.2 r0 (z11 + 2).toNatClampNeg) = x2 → V G mX10_latest d 5 [.ref r0, .int x1, .int x2, .int x3, .int (x4 + 1)] [] h10 o h') ∧ ((h10.2 r0 (z11 + 2).toNatClampNeg) = x2 → ∃ z17 h16, VM G mX10_cell (d - 1) [.int x4] h10 (.inl (some (.int z17))) h16 ∧ kH h16 r0 = 1 ∧ vp_in z17 (lH h16 r0) ∧ V G mX10_latest d 5 [.ref r0, .int x1, .int x2, .int (h16.2 r0 z17.toNatClampNeg), .int (x4 + 1)] [] h16 o h'))))))) : V G mX10_latest d 5 [.ref r0, .int x1, .int x2, .int x3, .int x4] [] h o h' := by
  have hdd : d - 1 + 1 ≤ d := by omega
  refine v_iload (pc' := 7) dX10_latest_5 rfl rfl ?_
  refine v_aload_n (pc' := 8) dX10_latest_7 rfl rfl ?_
  refine v_sipush (pc' := 11) (v := 3392) dX10_latest_8 rfl kS_3392 ?_
  obtain ⟨q1, T⟩ := T
  obtain ⟨q2, T⟩ := T
  refine v_iald (pc' := 12) dX10_latest_11 rfl kN_3392 q1 q2 ?_
  refine v_icmp_ge (tgt := 59) (pc' := 15) dX10_latest_12 (by decide) rfl ⟨fun c3 => ?_, fun c3 => ?_⟩
  · have T := T.1 c3
    refine v_iload_n (pc' := 60) dX10_latest_59 rfl rfl ?_
    exact v_iret dX10_latest_60 rfl T
  · have T := T.2 c3
    refine v_aload_n (pc' := 16) dX10_latest_15 rfl rfl ?_
    refine v_iload (pc' := 18) dX10_latest_16 rfl rfl ?_
    obtain ⟨z5, h4, k6, T⟩ := T
    refine v_callS (pc' := 21) (M1 := mX10_cell) (as := [.int x4]) (rest := [.ref r0]) dX10_latest_18 rfl ko_X10_201 kc_X10_cell kt_X10_cell (by decide) hdd rfl rfl (le_l rfl) k6 ?_
    refine v_iconst (pc' := 22) (v := 1) dX10_latest_21 rfl kI_1 ?_
    refine v_iadd (pc' := 23) dX10_latest_22 rfl ?_
    obtain ⟨q7, T⟩ := T
    obtain ⟨q8, T⟩ := T
    refine v_iald (pc' := 24) dX10_latest_23 rfl rfl q7 q8 ?_
    refine v_iload_n (pc' := 25) dX10_latest_24 rfl rfl ?_
    refine v_icmp_ne (tgt := 51) (pc' := 28) dX10_latest_25 (by decide) rfl ⟨fun c9 => ?_, fun c9 => ?_⟩
    · have T := T.1 c9
      refine v_iload_n (pc' := 52) dX10_latest_51 rfl rfl ?_
      refine v_istore_n (pc' := 53) (loc' := [.ref r0, .int x1, .int x2, .int x3, .int x4]) dX10_latest_52 rfl (lt_l rfl) rfl ?_
      refine v_iinc (pc' := 56) (loc' := [.ref r0, .int x1, .int x2, .int x3, .int (x4 + 1)]) dX10_latest_53 rfl rfl (kX_1 _) rfl ?_
      refine v_goto (pc' := 5) dX10_latest_56 (by decide) ?_
      exact T
    · have T := T.2 c9
      refine v_aload_n (pc' := 29) dX10_latest_28 rfl rfl ?_
      refine v_iload (pc' := 31) dX10_latest_29 rfl rfl ?_
      obtain ⟨z11, h10, k12, T⟩ := T
      refine v_callS (pc' := 34) (M1 := mX10_cell) (as := [.int x4]) (rest := [.ref r0]) dX10_latest_31 rfl ko_X10_201 kc_X10_cell kt_X10_cell (by decide) hdd rfl rfl (le_l rfl) k12 ?_
      refine v_iconst (pc' := 35) (v := 2) dX10_latest_34 rfl kI_2 ?_
      refine v_iadd (pc' := 36) dX10_latest_35 rfl ?_
      obtain ⟨q13, T⟩ := T
      obtain ⟨q14, T⟩ := T
      refine v_iald (pc' := 37) dX10_latest_36 rfl rfl q13 q14 ?_
      refine v_iload_n (pc' := 38) dX10_latest_37 rfl rfl ?_
      refine v_icmp_ne (tgt := 51) (pc' := 41) dX10_latest_38 (by decide) rfl ⟨fun c15 => ?_, fun c15 => ?_⟩
      · have T := T.1 c15
        refine v_iload_n (pc' := 52) dX10_latest_51 rfl rfl ?_
        refine v_istore_n (pc' := 53) (loc' := [.ref r0, .int x1, .int x2, .int x3, .int x4]) dX10_latest_52 rfl (lt_l rfl) rfl ?_
        refine v_iinc (pc' := 56) (loc' := [.ref r0, .int x1, .int x2, .int x3, .int (x4 + 1)]) dX10_latest_53 rfl rfl (kX_1 _) rfl ?_
        refine v_goto (pc' := 5) dX10_latest_56 (by decide) ?_
        exact T
      · have T := T.2 c15
        refine v_aload_n (pc' := 42) dX10_latest_41 rfl rfl ?_
        refine v_iload (pc' := 44) dX10_latest_42 rfl rfl ?_
        obtain ⟨z17, h16, k18, T⟩ := T
        refine v_callS (pc' := 47) (M1 := mX10_cell) (as := [.int x4]) (rest := [.ref r0]) dX10_latest_44 rfl ko_X10_201 kc_X10_cell kt_X10_cell (by decide) hdd rfl rfl (le_l rfl) k18 ?_
        obtain ⟨q19, T⟩ := T
        obtain ⟨q20, T⟩ := T
        refine v_iald (pc' := 48) dX10_latest_47 rfl rfl q19 q20 ?_
        refine v_goto (pc' := 52) dX10_latest_48 (by decide) ?_
        refine v_istore_n (pc' := 53) (loc' := [.ref r0, .int x1, .int x2, .int (h16.2 r0 z17.toNatClampNeg), .int x4]) dX10_latest_52 rfl (lt_l rfl) rfl ?_
        refine v_iinc (pc' := 56) (loc' := [.ref r0, .int x1, .int x2, .int (h16.2 r0 z17.toNatClampNeg), .int (x4 + 1)]) dX10_latest_53 rfl rfl (kX_1 _) rfl ?_
        refine v_goto (pc' := 5) dX10_latest_56 (by decide) ?_
        exact T
theorem eX10_names {G : GG} {d : Nat} {h : Hp} {o : OU} {h' : Hp} (r0 : Nat) (x1 : Int32) (x2 : Int32) (x3 : Int32) (x4 : Int32) (x5 : Int32) (x6 : Int32) (hd : 1 ≤ d) (T : ∃ z2 h1, VM G mX10_latest (d - 1) [.ref r0, .int (x1 / 16), .int (x1 - x1 / 16 * 16)] h (.inl (some (.int z2))) h1 ∧ ∃ z5 h4, VM G mX10_makes (d - 1) [.ref r0, .int (x1 / 16), .int ((x1 - x1 / 16 * 16) + 1), .int x3, .int z2, .int 0, .int 0, .int 0] h1 (.inl (some (.int z5))) h4 ∧ ∃ z8 h7, VM G mX10_makes (d - 1) [.ref r0, .int (x1 / 16), .int (x1 - x1 / 16 * 16), .int x2, .int x4, .int x5, .int x6, .int z5] h4 (.inl (some (.int z8))) h7 ∧ (o = .inl none ∧ h' = h7)) : VM G mX10_names d [.ref r0, .int x1, .int x2, .int x3, .int x4, .int x5, .int x6] h o h' := by
  refine V.toM rfl rfl (le_l rfl) (cat_all rfl) ?_
  show V G mX10_names d 0 [.ref r0, .int x1, .int x2, .int x3, .int x4, .int x5, .int x6, uV, uV, uV] [] h o h'
  have hdd : d - 1 + 1 ≤ d := by omega
  refine v_iload_n (pc' := 1) dX10_names_0 rfl rfl ?_
  refine v_bipush (pc' := 3) (v := 16) dX10_names_1 rfl kB_16 ?_
  refine v_idiv (pc' := 4) dX10_names_3 rfl (by decide) ?_
  refine v_istore (pc' := 6) (loc' := [.ref r0, .int x1, .int x2, .int x3, .int x4, .int x5, .int x6, .int (x1 / 16), uV, uV]) dX10_names_4 rfl (lt_l rfl) rfl ?_
  refine v_iload_n (pc' := 7) dX10_names_6 rfl rfl ?_
  refine v_bipush (pc' := 9) (v := 16) dX10_names_7 rfl kB_16 ?_
  refine v_irem (pc' := 10) dX10_names_9 rfl (by decide) ?_
  refine v_istore (pc' := 12) (loc' := [.ref r0, .int x1, .int x2, .int x3, .int x4, .int x5, .int x6, .int (x1 / 16), .int (x1 - x1 / 16 * 16), uV]) dX10_names_10 rfl (lt_l rfl) rfl ?_
  refine v_aload_n (pc' := 13) dX10_names_12 rfl rfl ?_
  refine v_iload (pc' := 15) dX10_names_13 rfl rfl ?_
  refine v_iload (pc' := 17) dX10_names_15 rfl rfl ?_
  refine v_iconst (pc' := 18) (v := 1) dX10_names_17 rfl kI_1 ?_
  refine v_iadd (pc' := 19) dX10_names_18 rfl ?_
  refine v_iload_n (pc' := 20) dX10_names_19 rfl rfl ?_
  refine v_aload_n (pc' := 21) dX10_names_20 rfl rfl ?_
  refine v_iload (pc' := 23) dX10_names_21 rfl rfl ?_
  refine v_iload (pc' := 25) dX10_names_23 rfl rfl ?_
  obtain ⟨z2, h1, k3, T⟩ := T
  refine v_callS (pc' := 28) (M1 := mX10_latest) (as := [.ref r0, .int (x1 / 16), .int (x1 - x1 / 16 * 16)]) (rest := [.int x3, .int ((x1 - x1 / 16 * 16) + 1), .int (x1 / 16), .ref r0]) dX10_names_25 rfl ko_X10_282 kc_X10_latest kt_X10_latest (by decide) hdd rfl rfl (le_l rfl) k3 ?_
  refine v_iconst (pc' := 29) (v := 0) dX10_names_28 rfl kI_0 ?_
  refine v_iconst (pc' := 30) (v := 0) dX10_names_29 rfl kI_0 ?_
  refine v_iconst (pc' := 31) (v := 0) dX10_names_30 rfl kI_0 ?_
  obtain ⟨z5, h4, k6, T⟩ := T
  refine v_callS (pc' := 34) (M1 := mX10_makes) (as := [.ref r0, .int (x1 / 16), .int ((x1 - x1 / 16 * 16) + 1), .int x3, .int z2, .int 0, .int 0, .int 0]) (rest := []) dX10_names_31 rfl ko_X10_204 kc_X10_makes kt_X10_makes (by decide) hdd rfl rfl (le_l rfl) k6 ?_
  refine v_istore (pc' := 36) (loc' := [.ref r0, .int x1, .int x2, .int x3, .int x4, .int x5, .int x6, .int (x1 / 16), .int (x1 - x1 / 16 * 16), .int z5]) dX10_names_34 rfl (lt_l rfl) rfl ?_
  refine v_aload_n (pc' := 37) dX10_names_36 rfl rfl ?_
  refine v_iload (pc' := 39) dX10_names_37 rfl rfl ?_
  refine v_iload (pc' := 41) dX10_names_39 rfl rfl ?_
  refine v_iload_n (pc' := 42) dX10_names_41 rfl rfl ?_
  refine v_iload (pc' := 44) dX10_names_42 rfl rfl ?_
  refine v_iload (pc' := 46) dX10_names_44 rfl rfl ?_
  refine v_iload (pc' := 48) dX10_names_46 rfl rfl ?_
  refine v_iload (pc' := 50) dX10_names_48 rfl rfl ?_
  obtain ⟨z8, h7, k9, T⟩ := T
  refine v_callS (pc' := 53) (M1 := mX10_makes) (as := [.ref r0, .int (x1 / 16), .int (x1 - x1 / 16 * 16), .int x2, .int x4, .int x5, .int x6, .int z5]) (rest := []) dX10_names_50 rfl ko_X10_204 kc_X10_makes kt_X10_makes (by decide) hdd rfl rfl (le_l rfl) k9 ?_
  refine v_pop (pc' := 54) dX10_names_53 rfl rfl ?_
  exact v_vret dX10_names_54 rfl T
theorem eX10_begins {G : GG} {d : Nat} {h : Hp} {o : OU} {h' : Hp} (r0 : Nat) (r1 : Nat) (x2 : Int32) (x3 : Int32) (x4 : Int32) (hd : 1 ≤ d) (T : ∃ z2 h1, VM G mX10_freeNode (d - 1) [.ref r1] h (.inl (some (.int z2))) h1 ∧ kH h1 r0 = 18 ∧ ∃ z5 h4, VM G mX10_freeBlock (d - 1) [.ref r0, .ref r1] h1 (.inl (some (.int z5))) h4 ∧ kH h4 r0 = 18 ∧ ∃ z9 h8, VM G mX10_isNewName (d - 1) [.ref r0, .ref r1, .int x2, .int x3] h4 (.inl (some (.int z9))) h8 ∧ ((z9 = 0 → (o = .inl (some (.int 0)) ∧ h' = h8)) ∧ (¬ z9 = 0 → ((z2 = (-1) → (o = .inl (some (.int 0)) ∧ h' = h8)) ∧ (¬ z2 = (-1) → ((¬ x4 = 2 → V G mX10_begins d 43 [uV, .ref r1, .int x2, .int x3, .int x4, .int z2, .int z5, uV, uV, uV, uV] [] h8 o h') ∧ (x4 = 2 → ((¬ z5 = (-1) → V G mX10_begins d 43 [uV, .ref r1, .int x2, .int x3, .int x4, .int z2, .int z5, uV, uV, uV, uV] [] h8 o h') ∧ (z5 = (-1) → (o = .inl (some (.int 0)) ∧ h' = h8)))))))))) : VM G mX10_begins d [.ref r0, .ref r1, .int x2, .int x3, .int x4] h o h' := by
  refine V.toM rfl rfl (le_l rfl) (cat_all rfl) ?_
  show V G mX10_begins d 0 [.ref r0, .ref r1, .int x2, .int x3, .int x4, uV, uV, uV, uV, uV, uV] [] h o h'
  have hdd : d - 1 + 1 ≤ d := by omega
  refine v_aload_n (pc' := 1) dX10_begins_0 rfl rfl ?_
  obtain ⟨z2, h1, k3, T⟩ := T
  refine v_callS (pc' := 4) (M1 := mX10_freeNode) (as := [.ref r1]) (rest := []) dX10_begins_1 rfl ko_X10_285 kc_X10_freeNode kt_X10_freeNode (by decide) hdd rfl rfl (le_l rfl) k3 ?_
  refine v_istore (pc' := 6) (loc' := [.ref r0, .ref r1, .int x2, .int x3, .int x4, .int z2, uV, uV, uV, uV, uV]) dX10_begins_4 rfl (lt_l rfl) rfl ?_
  refine v_aload_n (pc' := 7) dX10_begins_6 rfl rfl ?_
  refine v_aload_n (pc' := 8) dX10_begins_7 rfl rfl ?_
  obtain ⟨q7, T⟩ := T
  obtain ⟨z5, h4, k6, T⟩ := T
  refine v_callV (pc' := 11) (M1 := mX10_freeBlock) (as := [.ref r1]) (r := r0) (rest := []) 8 dX10_begins_8 rfl ko_X10_289 kc_X10_freeBlock ki_X10_freeBlock ks_X10_freeBlock (by decide) (by decide) hdd rfl rfl (le_l rfl) q7 k6 ?_
  refine v_istore (pc' := 13) (loc' := [.ref r0, .ref r1, .int x2, .int x3, .int x4, .int z2, .int z5, uV, uV, uV, uV]) dX10_begins_11 rfl (lt_l rfl) rfl ?_
  refine v_aload_n (pc' := 14) dX10_begins_13 rfl rfl ?_
  refine v_aload_n (pc' := 15) dX10_begins_14 rfl rfl ?_
  refine v_iload_n (pc' := 16) dX10_begins_15 rfl rfl ?_
  refine v_iload_n (pc' := 17) dX10_begins_16 rfl rfl ?_
  obtain ⟨q11, T⟩ := T
  obtain ⟨z9, h8, k10, T⟩ := T
  refine v_callV (pc' := 20) (M1 := mX10_isNewName) (as := [.ref r1, .int x2, .int x3]) (r := r0) (rest := []) 8 dX10_begins_17 rfl ko_X10_292 kc_X10_isNewName ki_X10_isNewName ks_X10_isNewName (by decide) (by decide) hdd rfl rfl (le_l rfl) q11 k10 ?_
  refine v_if_eq (tgt := 41) (pc' := 23) dX10_begins_20 (by decide) rfl ⟨fun c12 => ?_, fun c12 => ?_⟩
  · have T := T.1 c12
    refine v_iconst (pc' := 42) (v := 0) dX10_begins_41 rfl kI_0 ?_
    exact v_zret dX10_begins_42 rfl (Or.inl rfl) T
  · have T := T.2 c12
    refine v_iload (pc' := 25) dX10_begins_23 rfl rfl ?_
    refine v_iconst (pc' := 26) (v := (-1)) dX10_begins_25 rfl kI_m1 ?_
    refine v_icmp_eq (tgt := 41) (pc' := 29) dX10_begins_26 (by decide) rfl ⟨fun c13 => ?_, fun c13 => ?_⟩
    · have T := T.1 c13
      refine v_iconst (pc' := 42) (v := 0) dX10_begins_41 rfl kI_0 ?_
      exact v_zret dX10_begins_42 rfl (Or.inl rfl) T
    · have T := T.2 c13
      refine v_iload (pc' := 31) dX10_begins_29 rfl rfl ?_
      refine v_iconst (pc' := 32) (v := 2) dX10_begins_31 rfl kI_2 ?_
      refine v_icmp_ne (tgt := 43) (pc' := 35) dX10_begins_32 (by decide) rfl ⟨fun c14 => ?_, fun c14 => ?_⟩
      · have T := T.1 c14
        exact V.drop (llp_u (llp_r (llp_r (llp_r (llp_r (llp_r (llp_r (llp_r (llp_r (llp_r (llp_r llp_nil))))))))))) T
      · have T := T.2 c14
        refine v_iload (pc' := 37) dX10_begins_35 rfl rfl ?_
        refine v_iconst (pc' := 38) (v := (-1)) dX10_begins_37 rfl kI_m1 ?_
        refine v_icmp_ne (tgt := 43) (pc' := 41) dX10_begins_38 (by decide) rfl ⟨fun c15 => ?_, fun c15 => ?_⟩
        · have T := T.1 c15
          exact V.drop (llp_u (llp_r (llp_r (llp_r (llp_r (llp_r (llp_r (llp_r (llp_r (llp_r (llp_r llp_nil))))))))))) T
        · have T := T.2 c15
          refine v_iconst (pc' := 42) (v := 0) dX10_begins_41 rfl kI_0 ?_
          exact v_zret dX10_begins_42 rfl (Or.inl rfl) T
theorem bX10_begins_43 {G : GG} {d : Nat} {h : Hp} {o : OU} {h' : Hp} (r1 : Nat) (x2 : Int32) (x3 : Int32) (x4 : Int32) (x5 : Int32) (x6 : Int32) (hd : 1 ≤ d) (T : ∃ z2 h1, VM G mX10_entry (d - 1) [.ref r1, .int 0, .int x2, .int 0] h (.inl (some (.int z2))) h1 ∧ ∃ z5 h4, VM G mX10_field (d - 1) [.ref r1, .int x5, .int 0, .int 1, .int 0, .int 0] h1 (.inl (some (.int z5))) h4 ∧ ∃ z8 h7, VM G mX10_field (d - 1) [.ref r1, .int x5, .int 1, .int x4, .int 0, .int 0] h4 (.inl (some (.int z8))) h7 ∧ ((¬ x4 = 2 → ∃ h11, VM G mX10_names (d - 1) [.ref r1, .int z2, .int x3, .int x5, .int z5, .int z8, .int 0] h7 (.inl none) h11 ∧ (o = .inl (some (.int 1)) ∧ h' = h11)) ∧ (x4 = 2 → ∃ z14 h13, VM G mX10_gets (d - 1) [.ref r1, .int x5, .int x6, .int 2, .int 0] h7 (.inl (some (.int z14))) h13 ∧ ∃ h16, VM G mX10_names (d - 1) [.ref r1, .int z2, .int x3, .int x5, .int z5, .int z8, .int z14] h13 (.inl none) h16 ∧ (o = .inl (some (.int 1)) ∧ h' = h16)))) : V G mX10_begins d 43 [uV, .ref r1, .int x2, .int x3, .int x4, .int x5, .int x6, uV, uV, uV, uV] [] h o h' := by
  have hdd : d - 1 + 1 ≤ d := by omega
  refine v_aload_n (pc' := 44) dX10_begins_43 rfl rfl ?_
  refine v_iconst (pc' := 45) (v := 0) dX10_begins_44 rfl kI_0 ?_
  refine v_iload_n (pc' := 46) dX10_begins_45 rfl rfl ?_
  refine v_iconst (pc' := 47) (v := 0) dX10_begins_46 rfl kI_0 ?_
  obtain ⟨z2, h1, k3, T⟩ := T
  refine v_callS (pc' := 50) (M1 := mX10_entry) (as := [.ref r1, .int 0, .int x2, .int 0]) (rest := []) dX10_begins_47 rfl ko_X10_279 kc_X10_entry kt_X10_entry (by decide) hdd rfl rfl (le_l rfl) k3 ?_
  refine v_istore (pc' := 52) (loc' := [uV, .ref r1, .int x2, .int x3, .int x4, .int x5, .int x6, .int z2, uV, uV, uV]) dX10_begins_50 rfl (lt_l rfl) rfl ?_
  refine v_aload_n (pc' := 53) dX10_begins_52 rfl rfl ?_
  refine v_iload (pc' := 55) dX10_begins_53 rfl rfl ?_
  refine v_iconst (pc' := 56) (v := 0) dX10_begins_55 rfl kI_0 ?_
  refine v_iconst (pc' := 57) (v := 1) dX10_begins_56 rfl kI_1 ?_
  refine v_iconst (pc' := 58) (v := 0) dX10_begins_57 rfl kI_0 ?_
  refine v_iconst (pc' := 59) (v := 0) dX10_begins_58 rfl kI_0 ?_
  obtain ⟨z5, h4, k6, T⟩ := T
  refine v_callS (pc' := 62) (M1 := mX10_field) (as := [.ref r1, .int x5, .int 0, .int 1, .int 0, .int 0]) (rest := []) dX10_begins_59 rfl ko_X10_237 kc_X10_field kt_X10_field (by decide) hdd rfl rfl (le_l rfl) k6 ?_
  refine v_istore (pc' := 64) (loc' := [uV, .ref r1, .int x2, .int x3, .int x4, .int x5, .int x6, .int z2, .int z5, uV, uV]) dX10_begins_62 rfl (lt_l rfl) rfl ?_
  refine v_aload_n (pc' := 65) dX10_begins_64 rfl rfl ?_
  refine v_iload (pc' := 67) dX10_begins_65 rfl rfl ?_
  refine v_iconst (pc' := 68) (v := 1) dX10_begins_67 rfl kI_1 ?_
  refine v_iload (pc' := 70) dX10_begins_68 rfl rfl ?_
  refine v_iconst (pc' := 71) (v := 0) dX10_begins_70 rfl kI_0 ?_
  refine v_iconst (pc' := 72) (v := 0) dX10_begins_71 rfl kI_0 ?_
  obtain ⟨z8, h7, k9, T⟩ := T
  refine v_callS (pc' := 75) (M1 := mX10_field) (as := [.ref r1, .int x5, .int 1, .int x4, .int 0, .int 0]) (rest := []) dX10_begins_72 rfl ko_X10_237 kc_X10_field kt_X10_field (by decide) hdd rfl rfl (le_l rfl) k9 ?_
  refine v_istore (pc' := 77) (loc' := [uV, .ref r1, .int x2, .int x3, .int x4, .int x5, .int x6, .int z2, .int z5, .int z8, uV]) dX10_begins_75 rfl (lt_l rfl) rfl ?_
  refine v_iload (pc' := 79) dX10_begins_77 rfl rfl ?_
  refine v_iconst (pc' := 80) (v := 2) dX10_begins_79 rfl kI_2 ?_
  refine v_icmp_ne (tgt := 96) (pc' := 83) dX10_begins_80 (by decide) rfl ⟨fun c10 => ?_, fun c10 => ?_⟩
  · have T := T.1 c10
    refine v_iconst (pc' := 97) (v := 0) dX10_begins_96 rfl kI_0 ?_
    refine v_istore (pc' := 99) (loc' := [uV, .ref r1, .int x2, .int x3, .int x4, .int x5, .int x6, .int z2, .int z5, .int z8, .int 0]) dX10_begins_97 rfl (lt_l rfl) rfl ?_
    refine v_aload_n (pc' := 100) dX10_begins_99 rfl rfl ?_
    refine v_iload (pc' := 102) dX10_begins_100 rfl rfl ?_
    refine v_iload_n (pc' := 103) dX10_begins_102 rfl rfl ?_
    refine v_iload (pc' := 105) dX10_begins_103 rfl rfl ?_
    refine v_iload (pc' := 107) dX10_begins_105 rfl rfl ?_
    refine v_iload (pc' := 109) dX10_begins_107 rfl rfl ?_
    refine v_iload (pc' := 111) dX10_begins_109 rfl rfl ?_
    obtain ⟨h11, k12, T⟩ := T
    refine v_callS (pc' := 114) (M1 := mX10_names) (as := [.ref r1, .int z2, .int x3, .int x5, .int z5, .int z8, .int 0]) (rest := []) dX10_begins_111 rfl ko_X10_299 kc_X10_names kt_X10_names (by decide) hdd rfl rfl (le_l rfl) k12 ?_
    refine v_iconst (pc' := 115) (v := 1) dX10_begins_114 rfl kI_1 ?_
    exact v_zret dX10_begins_115 rfl (Or.inr rfl) T
  · have T := T.2 c10
    refine v_aload_n (pc' := 84) dX10_begins_83 rfl rfl ?_
    refine v_iload (pc' := 86) dX10_begins_84 rfl rfl ?_
    refine v_iload (pc' := 88) dX10_begins_86 rfl rfl ?_
    refine v_iconst (pc' := 89) (v := 2) dX10_begins_88 rfl kI_2 ?_
    refine v_iconst (pc' := 90) (v := 0) dX10_begins_89 rfl kI_0 ?_
    obtain ⟨z14, h13, k15, T⟩ := T
    refine v_callS (pc' := 93) (M1 := mX10_gets) (as := [.ref r1, .int x5, .int x6, .int 2, .int 0]) (rest := []) dX10_begins_90 rfl ko_X10_295 kc_X10_gets kt_X10_gets (by decide) hdd rfl rfl (le_l rfl) k15 ?_
    refine v_goto (pc' := 97) dX10_begins_93 (by decide) ?_
    refine v_istore (pc' := 99) (loc' := [uV, .ref r1, .int x2, .int x3, .int x4, .int x5, .int x6, .int z2, .int z5, .int z8, .int z14]) dX10_begins_97 rfl (lt_l rfl) rfl ?_
    refine v_aload_n (pc' := 100) dX10_begins_99 rfl rfl ?_
    refine v_iload (pc' := 102) dX10_begins_100 rfl rfl ?_
    refine v_iload_n (pc' := 103) dX10_begins_102 rfl rfl ?_
    refine v_iload (pc' := 105) dX10_begins_103 rfl rfl ?_
    refine v_iload (pc' := 107) dX10_begins_105 rfl rfl ?_
    refine v_iload (pc' := 109) dX10_begins_107 rfl rfl ?_
    refine v_iload (pc' := 111) dX10_begins_109 rfl rfl ?_
    obtain ⟨h16, k17, T⟩ := T
    refine v_callS (pc' := 114) (M1 := mX10_names) (as := [.ref r1, .int z2, .int x3, .int x5, .int z5, .int z8, .int z14]) (rest := []) dX10_begins_111 rfl ko_X10_299 kc_X10_names kt_X10_names (by decide) hdd rfl rfl (le_l rfl) k17 ?_
    refine v_iconst (pc' := 115) (v := 1) dX10_begins_114 rfl kI_1 ?_
    exact v_zret dX10_begins_115 rfl (Or.inr rfl) T
theorem eX10_gets {G : GG} {d : Nat} {h : Hp} {o : OU} {h' : Hp} (r0 : Nat) (x1 : Int32) (x2 : Int32) (x3 : Int32) (x4 : Int32) (hd : 1 ≤ d) (T : ∃ z2 h1, VM G mX10_bare (d - 1) [.ref r0, .int 0, .int x2, .int 1] h (.inl (some (.int z2))) h1 ∧ ∃ z5 h4, VM G mX10_bare (d - 1) [.ref r0, .int x2, .int 16, .int x4] h1 (.inl (some (.int z5))) h4 ∧ ((¬ z5 = 0 → ∃ z9 h8, VM G mX10_field (d - 1) [.ref r0, .int x1, .int x3, .int x2, .int z2, .int z5] h4 (.inl (some (.int z9))) h8 ∧ (o = .inl (some (.int z9)) ∧ h' = h8)) ∧ (z5 = 0 → ∃ z12 h11, VM G mX10_field (d - 1) [.ref r0, .int x1, .int x3, .int x2, .int z2, .int (-x2)] h4 (.inl (some (.int z12))) h11 ∧ (o = .inl (some (.int z12)) ∧ h' = h11)))) : VM G mX10_gets d [.ref r0, .int x1, .int x2, .int x3, .int x4] h o h' := by
  refine V.toM rfl rfl (le_l rfl) (cat_all rfl) ?_
  show V G mX10_gets d 0 [.ref r0, .int x1, .int x2, .int x3, .int x4, uV, uV] [] h o h'
  have hdd : d - 1 + 1 ≤ d := by omega
  refine v_aload_n (pc' := 1) dX10_gets_0 rfl rfl ?_
  refine v_iconst (pc' := 2) (v := 0) dX10_gets_1 rfl kI_0 ?_
  refine v_iload_n (pc' := 3) dX10_gets_2 rfl rfl ?_
  refine v_iconst (pc' := 4) (v := 1) dX10_gets_3 rfl kI_1 ?_
  obtain ⟨z2, h1, k3, T⟩ := T
  refine v_callS (pc' := 7) (M1 := mX10_bare) (as := [.ref r0, .int 0, .int x2, .int 1]) (rest := []) dX10_gets_4 rfl ko_X10_252 kc_X10_bare kt_X10_bare (by decide) hdd rfl rfl (le_l rfl) k3 ?_
  refine v_istore (pc' := 9) (loc' := [.ref r0, .int x1, .int x2, .int x3, .int x4, .int z2, uV]) dX10_gets_7 rfl (lt_l rfl) rfl ?_
  refine v_aload_n (pc' := 10) dX10_gets_9 rfl rfl ?_
  refine v_iload_n (pc' := 11) dX10_gets_10 rfl rfl ?_
  refine v_bipush (pc' := 13) (v := 16) dX10_gets_11 rfl kB_16 ?_
  refine v_iload (pc' := 15) dX10_gets_13 rfl rfl ?_
  obtain ⟨z5, h4, k6, T⟩ := T
  refine v_callS (pc' := 18) (M1 := mX10_bare) (as := [.ref r0, .int x2, .int 16, .int x4]) (rest := []) dX10_gets_15 rfl ko_X10_252 kc_X10_bare kt_X10_bare (by decide) hdd rfl rfl (le_l rfl) k6 ?_
  refine v_istore (pc' := 20) (loc' := [.ref r0, .int x1, .int x2, .int x3, .int x4, .int z2, .int z5]) dX10_gets_18 rfl (lt_l rfl) rfl ?_
  refine v_aload_n (pc' := 21) dX10_gets_20 rfl rfl ?_
  refine v_iload_n (pc' := 22) dX10_gets_21 rfl rfl ?_
  refine v_iload_n (pc' := 23) dX10_gets_22 rfl rfl ?_
  refine v_iload_n (pc' := 24) dX10_gets_23 rfl rfl ?_
  refine v_iload (pc' := 26) dX10_gets_24 rfl rfl ?_
  refine v_iload (pc' := 28) dX10_gets_26 rfl rfl ?_
  refine v_if_ne (tgt := 36) (pc' := 31) dX10_gets_28 (by decide) rfl ⟨fun c7 => ?_, fun c7 => ?_⟩
  · have T := T.1 c7
    refine v_iload (pc' := 38) dX10_gets_36 rfl rfl ?_
    obtain ⟨z9, h8, k10, T⟩ := T
    refine v_callS (pc' := 41) (M1 := mX10_field) (as := [.ref r0, .int x1, .int x3, .int x2, .int z2, .int z5]) (rest := []) dX10_gets_38 rfl ko_X10_237 kc_X10_field kt_X10_field (by decide) hdd rfl rfl (le_l rfl) k10 ?_
    exact v_iret dX10_gets_41 rfl T
  · have T := T.2 c7
    refine v_iload_n (pc' := 32) dX10_gets_31 rfl rfl ?_
    refine v_ineg (pc' := 33) dX10_gets_32 rfl ?_
    refine v_goto (pc' := 38) dX10_gets_33 (by decide) ?_
    obtain ⟨z12, h11, k13, T⟩ := T
    refine v_callS (pc' := 41) (M1 := mX10_field) (as := [.ref r0, .int x1, .int x3, .int x2, .int z2, .int (-x2)]) (rest := []) dX10_gets_38 rfl ko_X10_237 kc_X10_field kt_X10_field (by decide) hdd rfl rfl (le_l rfl) k13 ?_
    exact v_iret dX10_gets_41 rfl T
theorem eX10_links {G : GG} {d : Nat} {h : Hp} {o : OU} {h' : Hp} (r0 : Nat) (r1 : Nat) (x2 : Int32) (x3 : Int32) (x4 : Int32) (hd : 1 ≤ d) (T : ∃ z2 h1, VM G mX10_fieldOf (d - 1) [.ref r1, .int 0, .int x4, .int 0] h (.inl (some (.int z2))) h1 ∧ ∃ z5 h4, VM G mX10_isKind (d - 1) [.ref r1, .int 0, .int x4, .int 1] h1 (.inl (some (.int z5))) h4 ∧ ((z5 = 0 → (o = .inl (some (.int 0)) ∧ h' = h4)) ∧ (¬ z5 = 0 → ((8 < z2 → (o = .inl (some (.int 0)) ∧ h' = h4)) ∧ (¬ 8 < z2 → kH h4 r0 = 18 ∧ ∃ z10 h9, VM G mX10_isNewName (d - 1) [.ref r0, .ref r1, .int x2, .int x3] h4 (.inl (some (.int z10))) h9 ∧ ((¬ z10 = 0 → ∃ z15 h14, VM G mX10_entry (d - 1) [.ref r1, .int 0, .int x2, .int 0] h9 (.inl (some (.int z15))) h14 ∧ ∃ z18 h17, VM G mX10_field (d - 1) [.ref r1, .int x4, .int 0, .int (z2 + 1), .int 0, .int 0] h14 (.inl (some (.int z18))) h17 ∧ ∃ h20, VM G mX10_names (d - 1) [.ref r1, .int z15, .int x3, .int x4, .int z18, .int 0, .int 0] h17 (.inl none) h20 ∧ (o = .inl (some (.int 1)) ∧ h' = h20)) ∧ (z10 = 0 → (o = .inl (some (.int 0)) ∧ h' = h9)))))))) : VM G mX10_links d [.ref r0, .ref r1, .int x2, .int x3, .int x4] h o h' := by
  refine V.toM rfl rfl (le_l rfl) (cat_all rfl) ?_
  show V G mX10_links d 0 [.ref r0, .ref r1, .int x2, .int x3, .int x4, uV, uV, uV] [] h o h'
  have hdd : d - 1 + 1 ≤ d := by omega
  refine v_aload_n (pc' := 1) dX10_links_0 rfl rfl ?_
  refine v_iconst (pc' := 2) (v := 0) dX10_links_1 rfl kI_0 ?_
  refine v_iload (pc' := 4) dX10_links_2 rfl rfl ?_
  refine v_iconst (pc' := 5) (v := 0) dX10_links_4 rfl kI_0 ?_
  obtain ⟨z2, h1, k3, T⟩ := T
  refine v_callS (pc' := 8) (M1 := mX10_fieldOf) (as := [.ref r1, .int 0, .int x4, .int 0]) (rest := []) dX10_links_5 rfl ko_X10_233 kc_X10_fieldOf kt_X10_fieldOf (by decide) hdd rfl rfl (le_l rfl) k3 ?_
  refine v_istore (pc' := 10) (loc' := [.ref r0, .ref r1, .int x2, .int x3, .int x4, .int z2, uV, uV]) dX10_links_8 rfl (lt_l rfl) rfl ?_
  refine v_aload_n (pc' := 11) dX10_links_10 rfl rfl ?_
  refine v_iconst (pc' := 12) (v := 0) dX10_links_11 rfl kI_0 ?_
  refine v_iload (pc' := 14) dX10_links_12 rfl rfl ?_
  refine v_iconst (pc' := 15) (v := 1) dX10_links_14 rfl kI_1 ?_
  obtain ⟨z5, h4, k6, T⟩ := T
  refine v_callS (pc' := 18) (M1 := mX10_isKind) (as := [.ref r1, .int 0, .int x4, .int 1]) (rest := []) dX10_links_15 rfl ko_X10_273 kc_X10_isKind kt_X10_isKind (by decide) hdd rfl rfl (le_l rfl) k6 ?_
  refine v_if_eq (tgt := 38) (pc' := 21) dX10_links_18 (by decide) rfl ⟨fun c7 => ?_, fun c7 => ?_⟩
  · have T := T.1 c7
    refine v_iconst (pc' := 39) (v := 0) dX10_links_38 rfl kI_0 ?_
    exact v_zret dX10_links_39 rfl (Or.inl rfl) T
  · have T := T.2 c7
    refine v_iload (pc' := 23) dX10_links_21 rfl rfl ?_
    refine v_bipush (pc' := 25) (v := 8) dX10_links_23 rfl kB_8 ?_
    refine v_icmp_gt (tgt := 38) (pc' := 28) dX10_links_25 (by decide) rfl ⟨fun c8 => ?_, fun c8 => ?_⟩
    · have T := T.1 c8
      refine v_iconst (pc' := 39) (v := 0) dX10_links_38 rfl kI_0 ?_
      exact v_zret dX10_links_39 rfl (Or.inl rfl) T
    · have T := T.2 c8
      refine v_aload_n (pc' := 29) dX10_links_28 rfl rfl ?_
      refine v_aload_n (pc' := 30) dX10_links_29 rfl rfl ?_
      refine v_iload_n (pc' := 31) dX10_links_30 rfl rfl ?_
      refine v_iload_n (pc' := 32) dX10_links_31 rfl rfl ?_
      obtain ⟨q12, T⟩ := T
      obtain ⟨z10, h9, k11, T⟩ := T
      refine v_callV (pc' := 35) (M1 := mX10_isNewName) (as := [.ref r1, .int x2, .int x3]) (r := r0) (rest := []) 8 dX10_links_32 rfl ko_X10_292 kc_X10_isNewName ki_X10_isNewName ks_X10_isNewName (by decide) (by decide) hdd rfl rfl (le_l rfl) q12 k11 ?_
      refine v_if_ne (tgt := 40) (pc' := 38) dX10_links_35 (by decide) rfl ⟨fun c13 => ?_, fun c13 => ?_⟩
      · have T := T.1 c13
        refine v_aload_n (pc' := 41) dX10_links_40 rfl rfl ?_
        refine v_iconst (pc' := 42) (v := 0) dX10_links_41 rfl kI_0 ?_
        refine v_iload_n (pc' := 43) dX10_links_42 rfl rfl ?_
        refine v_iconst (pc' := 44) (v := 0) dX10_links_43 rfl kI_0 ?_
        obtain ⟨z15, h14, k16, T⟩ := T
        refine v_callS (pc' := 47) (M1 := mX10_entry) (as := [.ref r1, .int 0, .int x2, .int 0]) (rest := []) dX10_links_44 rfl ko_X10_279 kc_X10_entry kt_X10_entry (by decide) hdd rfl rfl (le_l rfl) k16 ?_
        refine v_istore (pc' := 49) (loc' := [.ref r0, .ref r1, .int x2, .int x3, .int x4, .int z2, .int z15, uV]) dX10_links_47 rfl (lt_l rfl) rfl ?_
        refine v_aload_n (pc' := 50) dX10_links_49 rfl rfl ?_
        refine v_iload (pc' := 52) dX10_links_50 rfl rfl ?_
        refine v_iconst (pc' := 53) (v := 0) dX10_links_52 rfl kI_0 ?_
        refine v_iload (pc' := 55) dX10_links_53 rfl rfl ?_
        refine v_iconst (pc' := 56) (v := 1) dX10_links_55 rfl kI_1 ?_
        refine v_iadd (pc' := 57) dX10_links_56 rfl ?_
        refine v_iconst (pc' := 58) (v := 0) dX10_links_57 rfl kI_0 ?_
        refine v_iconst (pc' := 59) (v := 0) dX10_links_58 rfl kI_0 ?_
        obtain ⟨z18, h17, k19, T⟩ := T
        refine v_callS (pc' := 62) (M1 := mX10_field) (as := [.ref r1, .int x4, .int 0, .int (z2 + 1), .int 0, .int 0]) (rest := []) dX10_links_59 rfl ko_X10_237 kc_X10_field kt_X10_field (by decide) hdd rfl rfl (le_l rfl) k19 ?_
        refine v_istore (pc' := 64) (loc' := [.ref r0, .ref r1, .int x2, .int x3, .int x4, .int z2, .int z15, .int z18]) dX10_links_62 rfl (lt_l rfl) rfl ?_
        refine v_aload_n (pc' := 65) dX10_links_64 rfl rfl ?_
        refine v_iload (pc' := 67) dX10_links_65 rfl rfl ?_
        refine v_iload_n (pc' := 68) dX10_links_67 rfl rfl ?_
        refine v_iload (pc' := 70) dX10_links_68 rfl rfl ?_
        refine v_iload (pc' := 72) dX10_links_70 rfl rfl ?_
        refine v_iconst (pc' := 73) (v := 0) dX10_links_72 rfl kI_0 ?_
        refine v_iconst (pc' := 74) (v := 0) dX10_links_73 rfl kI_0 ?_
        obtain ⟨h20, k21, T⟩ := T
        refine v_callS (pc' := 77) (M1 := mX10_names) (as := [.ref r1, .int z15, .int x3, .int x4, .int z18, .int 0, .int 0]) (rest := []) dX10_links_74 rfl ko_X10_299 kc_X10_names kt_X10_names (by decide) hdd rfl rfl (le_l rfl) k21 ?_
        refine v_iconst (pc' := 78) (v := 1) dX10_links_77 rfl kI_1 ?_
        exact v_zret dX10_links_78 rfl (Or.inr rfl) T
      · have T := T.2 c13
        refine v_iconst (pc' := 39) (v := 0) dX10_links_38 rfl kI_0 ?_
        exact v_zret dX10_links_39 rfl (Or.inl rfl) T
theorem eX10_grows {G : GG} {d : Nat} {h : Hp} {o : OU} {h' : Hp} (r0 : Nat) (r1 : Nat) (x2 : Int32) (x3 : Int32) (hd : 1 ≤ d) (T : kH h r0 = 18 ∧ ∃ z2 h1, VM G mX10_freeBlock (d - 1) [.ref r0, .ref r1] h (.inl (some (.int z2))) h1 ∧ ∃ z6 h5, VM G mX10_fieldOf (d - 1) [.ref r1, .int 0, .int x2, .int 2] h1 (.inl (some (.int z6))) h5 ∧ ∃ z9 h8, VM G mX10_fieldOf (d - 1) [.ref r1, .int 0, .int x2, .int 0] h5 (.inl (some (.int z9))) h8 ∧ ((z9 = 0 → (o = .inl (some (.int 0)) ∧ h' = h8)) ∧ (¬ z9 = 0 → ((z2 = (-1) → (o = .inl (some (.int 0)) ∧ h' = h8)) ∧ (¬ z2 = (-1) → ((z6 = 0 → V G mX10_grows d 49 [uV, .ref r1, .int x2, .int x3, .int z2, .int z6] [] h8 o h') ∧ (¬ z6 = 0 → ∃ z15 h14, VM G mX10_fieldOf (d - 1) [.ref r1, .int 0, .int x2, .int 3] h8 (.inl (some (.int z15))) h14 ∧ ((z15 = 0 → V G mX10_grows d 49 [uV, .ref r1, .int x2, .int x3, .int z2, .int z6] [] h14 o h') ∧ (¬ z15 = 0 → (o = .inl (some (.int 0)) ∧ h' = h14)))))))))) : VM G mX10_grows d [.ref r0, .ref r1, .int x2, .int x3] h o h' := by
  refine V.toM rfl rfl (le_l rfl) (cat_all rfl) ?_
  show V G mX10_grows d 0 [.ref r0, .ref r1, .int x2, .int x3, uV, uV] [] h o h'
  have hdd : d - 1 + 1 ≤ d := by omega
  refine v_aload_n (pc' := 1) dX10_grows_0 rfl rfl ?_
  refine v_aload_n (pc' := 2) dX10_grows_1 rfl rfl ?_
  obtain ⟨q4, T⟩ := T
  obtain ⟨z2, h1, k3, T⟩ := T
  refine v_callV (pc' := 5) (M1 := mX10_freeBlock) (as := [.ref r1]) (r := r0) (rest := []) 8 dX10_grows_2 rfl ko_X10_289 kc_X10_freeBlock ki_X10_freeBlock ks_X10_freeBlock (by decide) (by decide) hdd rfl rfl (le_l rfl) q4 k3 ?_
  refine v_istore (pc' := 7) (loc' := [.ref r0, .ref r1, .int x2, .int x3, .int z2, uV]) dX10_grows_5 rfl (lt_l rfl) rfl ?_
  refine v_aload_n (pc' := 8) dX10_grows_7 rfl rfl ?_
  refine v_iconst (pc' := 9) (v := 0) dX10_grows_8 rfl kI_0 ?_
  refine v_iload_n (pc' := 10) dX10_grows_9 rfl rfl ?_
  refine v_iconst (pc' := 11) (v := 2) dX10_grows_10 rfl kI_2 ?_
  obtain ⟨z6, h5, k7, T⟩ := T
  refine v_callS (pc' := 14) (M1 := mX10_fieldOf) (as := [.ref r1, .int 0, .int x2, .int 2]) (rest := []) dX10_grows_11 rfl ko_X10_233 kc_X10_fieldOf kt_X10_fieldOf (by decide) hdd rfl rfl (le_l rfl) k7 ?_
  refine v_istore (pc' := 16) (loc' := [.ref r0, .ref r1, .int x2, .int x3, .int z2, .int z6]) dX10_grows_14 rfl (lt_l rfl) rfl ?_
  refine v_aload_n (pc' := 17) dX10_grows_16 rfl rfl ?_
  refine v_iconst (pc' := 18) (v := 0) dX10_grows_17 rfl kI_0 ?_
  refine v_iload_n (pc' := 19) dX10_grows_18 rfl rfl ?_
  refine v_iconst (pc' := 20) (v := 0) dX10_grows_19 rfl kI_0 ?_
  obtain ⟨z9, h8, k10, T⟩ := T
  refine v_callS (pc' := 23) (M1 := mX10_fieldOf) (as := [.ref r1, .int 0, .int x2, .int 0]) (rest := []) dX10_grows_20 rfl ko_X10_233 kc_X10_fieldOf kt_X10_fieldOf (by decide) hdd rfl rfl (le_l rfl) k10 ?_
  refine v_if_eq (tgt := 47) (pc' := 26) dX10_grows_23 (by decide) rfl ⟨fun c11 => ?_, fun c11 => ?_⟩
  · have T := T.1 c11
    refine v_iconst (pc' := 48) (v := 0) dX10_grows_47 rfl kI_0 ?_
    exact v_zret dX10_grows_48 rfl (Or.inl rfl) T
  · have T := T.2 c11
    refine v_iload (pc' := 28) dX10_grows_26 rfl rfl ?_
    refine v_iconst (pc' := 29) (v := (-1)) dX10_grows_28 rfl kI_m1 ?_
    refine v_icmp_eq (tgt := 47) (pc' := 32) dX10_grows_29 (by decide) rfl ⟨fun c12 => ?_, fun c12 => ?_⟩
    · have T := T.1 c12
      refine v_iconst (pc' := 48) (v := 0) dX10_grows_47 rfl kI_0 ?_
      exact v_zret dX10_grows_48 rfl (Or.inl rfl) T
    · have T := T.2 c12
      refine v_iload (pc' := 34) dX10_grows_32 rfl rfl ?_
      refine v_if_eq (tgt := 49) (pc' := 37) dX10_grows_34 (by decide) rfl ⟨fun c13 => ?_, fun c13 => ?_⟩
      · have T := T.1 c13
        exact V.drop (llp_u (llp_r (llp_r (llp_r (llp_r (llp_r llp_nil)))))) T
      · have T := T.2 c13
        refine v_aload_n (pc' := 38) dX10_grows_37 rfl rfl ?_
        refine v_iconst (pc' := 39) (v := 0) dX10_grows_38 rfl kI_0 ?_
        refine v_iload_n (pc' := 40) dX10_grows_39 rfl rfl ?_
        refine v_iconst (pc' := 41) (v := 3) dX10_grows_40 rfl kI_3 ?_
        obtain ⟨z15, h14, k16, T⟩ := T
        refine v_callS (pc' := 44) (M1 := mX10_fieldOf) (as := [.ref r1, .int 0, .int x2, .int 3]) (rest := []) dX10_grows_41 rfl ko_X10_233 kc_X10_fieldOf kt_X10_fieldOf (by decide) hdd rfl rfl (le_l rfl) k16 ?_
        refine v_if_eq (tgt := 49) (pc' := 47) dX10_grows_44 (by decide) rfl ⟨fun c17 => ?_, fun c17 => ?_⟩
        · have T := T.1 c17
          exact V.drop (llp_u (llp_r (llp_r (llp_r (llp_r (llp_r llp_nil)))))) T
        · have T := T.2 c17
          refine v_iconst (pc' := 48) (v := 0) dX10_grows_47 rfl kI_0 ?_
          exact v_zret dX10_grows_48 rfl (Or.inl rfl) T
theorem bX10_grows_49 {G : GG} {d : Nat} {h : Hp} {o : OU} {h' : Hp} (r1 : Nat) (x2 : Int32) (x3 : Int32) (x4 : Int32) (x5 : Int32) (hd : 1 ≤ d) (T : ((¬ x5 = 0 → ∃ z3 h2, VM G mX10_fieldOf (d - 1) [.ref r1, .int 0, .int x2, .int 1] h (.inl (some (.int z3))) h2 ∧ ((¬ z3 = 2 → ∃ z7 h6, VM G mX10_gets (d - 1) [.ref r1, .int x2, .int x4, .int 3, .int x3] h2 (.inl (some (.int z7))) h6 ∧ (o = .inl (some (.int 1)) ∧ h' = h6)) ∧ (z3 = 2 → ∃ z10 h9, VM G mX10_gets (d - 1) [.ref r1, .int x2, .int x4, .int 3, .int 0] h2 (.inl (some (.int z10))) h9 ∧ (o = .inl (some (.int 1)) ∧ h' = h9)))) ∧ (x5 = 0 → ∃ z13 h12, VM G mX10_fieldOf (d - 1) [.ref r1, .int 0, .int x2, .int 1] h (.inl (some (.int z13))) h12 ∧ ((¬ z13 = 2 → ∃ z17 h16, VM G mX10_gets (d - 1) [.ref r1, .int x2, .int x4, .int 2, .int x3] h12 (.inl (some (.int z17))) h16 ∧ (o = .inl (some (.int 1)) ∧ h' = h16)) ∧ (z13 = 2 → ∃ z20 h19, VM G mX10_gets (d - 1) [.ref r1, .int x2, .int x4, .int 2, .int 0] h12 (.inl (some (.int z20))) h19 ∧ (o = .inl (some (.int 1)) ∧ h' = h19)))))) : V G mX10_grows d 49 [uV, .ref r1, .int x2, .int x3, .int x4, .int x5] [] h o h' := by
  have hdd : d - 1 + 1 ≤ d := by omega
  refine v_aload_n (pc' := 50) dX10_grows_49 rfl rfl ?_
  refine v_iload_n (pc' := 51) dX10_grows_50 rfl rfl ?_
  refine v_iload (pc' := 53) dX10_grows_51 rfl rfl ?_
  refine v_iload (pc' := 55) dX10_grows_53 rfl rfl ?_
  refine v_if_ne (tgt := 62) (pc' := 58) dX10_grows_55 (by decide) rfl ⟨fun c1 => ?_, fun c1 => ?_⟩
  · have T := T.1 c1
    refine v_iconst (pc' := 63) (v := 3) dX10_grows_62 rfl kI_3 ?_
    refine v_aload_n (pc' := 64) dX10_grows_63 rfl rfl ?_
    refine v_iconst (pc' := 65) (v := 0) dX10_grows_64 rfl kI_0 ?_
    refine v_iload_n (pc' := 66) dX10_grows_65 rfl rfl ?_
    refine v_iconst (pc' := 67) (v := 1) dX10_grows_66 rfl kI_1 ?_
    obtain ⟨z3, h2, k4, T⟩ := T
    refine v_callS (pc' := 70) (M1 := mX10_fieldOf) (as := [.ref r1, .int 0, .int x2, .int 1]) (rest := [.int 3, .int x4, .int x2, .ref r1]) dX10_grows_67 rfl ko_X10_233 kc_X10_fieldOf kt_X10_fieldOf (by decide) hdd rfl rfl (le_l rfl) k4 ?_
    refine v_iconst (pc' := 71) (v := 2) dX10_grows_70 rfl kI_2 ?_
    refine v_icmp_ne (tgt := 78) (pc' := 74) dX10_grows_71 (by decide) rfl ⟨fun c5 => ?_, fun c5 => ?_⟩
    · have T := T.1 c5
      refine v_iload_n (pc' := 79) dX10_grows_78 rfl rfl ?_
      obtain ⟨z7, h6, k8, T⟩ := T
      refine v_callS (pc' := 82) (M1 := mX10_gets) (as := [.ref r1, .int x2, .int x4, .int 3, .int x3]) (rest := []) dX10_grows_79 rfl ko_X10_295 kc_X10_gets kt_X10_gets (by decide) hdd rfl rfl (le_l rfl) k8 ?_
      refine v_pop (pc' := 83) dX10_grows_82 rfl rfl ?_
      refine v_iconst (pc' := 84) (v := 1) dX10_grows_83 rfl kI_1 ?_
      exact v_zret dX10_grows_84 rfl (Or.inr rfl) T
    · have T := T.2 c5
      refine v_iconst (pc' := 75) (v := 0) dX10_grows_74 rfl kI_0 ?_
      refine v_goto (pc' := 79) dX10_grows_75 (by decide) ?_
      obtain ⟨z10, h9, k11, T⟩ := T
      refine v_callS (pc' := 82) (M1 := mX10_gets) (as := [.ref r1, .int x2, .int x4, .int 3, .int 0]) (rest := []) dX10_grows_79 rfl ko_X10_295 kc_X10_gets kt_X10_gets (by decide) hdd rfl rfl (le_l rfl) k11 ?_
      refine v_pop (pc' := 83) dX10_grows_82 rfl rfl ?_
      refine v_iconst (pc' := 84) (v := 1) dX10_grows_83 rfl kI_1 ?_
      exact v_zret dX10_grows_84 rfl (Or.inr rfl) T
  · have T := T.2 c1
    refine v_iconst (pc' := 59) (v := 2) dX10_grows_58 rfl kI_2 ?_
    refine v_goto (pc' := 63) dX10_grows_59 (by decide) ?_
    refine v_aload_n (pc' := 64) dX10_grows_63 rfl rfl ?_
    refine v_iconst (pc' := 65) (v := 0) dX10_grows_64 rfl kI_0 ?_
    refine v_iload_n (pc' := 66) dX10_grows_65 rfl rfl ?_
    refine v_iconst (pc' := 67) (v := 1) dX10_grows_66 rfl kI_1 ?_
    obtain ⟨z13, h12, k14, T⟩ := T
    refine v_callS (pc' := 70) (M1 := mX10_fieldOf) (as := [.ref r1, .int 0, .int x2, .int 1]) (rest := [.int 2, .int x4, .int x2, .ref r1]) dX10_grows_67 rfl ko_X10_233 kc_X10_fieldOf kt_X10_fieldOf (by decide) hdd rfl rfl (le_l rfl) k14 ?_
    refine v_iconst (pc' := 71) (v := 2) dX10_grows_70 rfl kI_2 ?_
    refine v_icmp_ne (tgt := 78) (pc' := 74) dX10_grows_71 (by decide) rfl ⟨fun c15 => ?_, fun c15 => ?_⟩
    · have T := T.1 c15
      refine v_iload_n (pc' := 79) dX10_grows_78 rfl rfl ?_
      obtain ⟨z17, h16, k18, T⟩ := T
      refine v_callS (pc' := 82) (M1 := mX10_gets) (as := [.ref r1, .int x2, .int x4, .int 2, .int x3]) (rest := []) dX10_grows_79 rfl ko_X10_295 kc_X10_gets kt_X10_gets (by decide) hdd rfl rfl (le_l rfl) k18 ?_
      refine v_pop (pc' := 83) dX10_grows_82 rfl rfl ?_
      refine v_iconst (pc' := 84) (v := 1) dX10_grows_83 rfl kI_1 ?_
      exact v_zret dX10_grows_84 rfl (Or.inr rfl) T
    · have T := T.2 c15
      refine v_iconst (pc' := 75) (v := 0) dX10_grows_74 rfl kI_0 ?_
      refine v_goto (pc' := 79) dX10_grows_75 (by decide) ?_
      obtain ⟨z20, h19, k21, T⟩ := T
      refine v_callS (pc' := 82) (M1 := mX10_gets) (as := [.ref r1, .int x2, .int x4, .int 2, .int 0]) (rest := []) dX10_grows_79 rfl ko_X10_295 kc_X10_gets kt_X10_gets (by decide) hdd rfl rfl (le_l rfl) k21 ?_
      refine v_pop (pc' := 83) dX10_grows_82 rfl rfl ?_
      refine v_iconst (pc' := 84) (v := 1) dX10_grows_83 rfl kI_1 ?_
      exact v_zret dX10_grows_84 rfl (Or.inr rfl) T
theorem eX10_setsByte {G : GG} {d : Nat} {h : Hp} {o : OU} {h' : Hp} (r0 : Nat) (x1 : Int32) (x2 : Int32) (x3 : Int32) (hd : 1 ≤ d) (T : ((16 ≤ x2 → ∃ z3 h2, VM G mX10_fieldOf (d - 1) [.ref r0, .int 0, .int x1, .int 3] h (.inl (some (.int z3))) h2 ∧ ∃ z6 h5, VM G mX10_isKind (d - 1) [.ref r0, .int 0, .int x1, .int 1] h2 (.inl (some (.int z6))) h5 ∧ ((z6 = 0 → (o = .inl (some (.int 0)) ∧ h' = h5)) ∧ (¬ z6 = 0 → ((z3 = 0 → (o = .inl (some (.int 0)) ∧ h' = h5)) ∧ (¬ z3 = 0 → ∃ z11 h10, VM G mX10_bare (d - 1) [.ref r0, .int z3, .int (x2 - x2 / 16 * 16), .int x3] h5 (.inl (some (.int z11))) h10 ∧ ((z11 = 0 → (o = .inl (some (.int 0)) ∧ h' = h10)) ∧ (¬ z11 = 0 → (o = .inl (some (.int 1)) ∧ h' = h10)))))))) ∧ (¬ 16 ≤ x2 → ∃ z15 h14, VM G mX10_fieldOf (d - 1) [.ref r0, .int 0, .int x1, .int 2] h (.inl (some (.int z15))) h14 ∧ ∃ z18 h17, VM G mX10_isKind (d - 1) [.ref r0, .int 0, .int x1, .int 1] h14 (.inl (some (.int z18))) h17 ∧ ((z18 = 0 → (o = .inl (some (.int 0)) ∧ h' = h17)) ∧ (¬ z18 = 0 → ((z15 = 0 → (o = .inl (some (.int 0)) ∧ h' = h17)) ∧ (¬ z15 = 0 → ∃ z23 h22, VM G mX10_bare (d - 1) [.ref r0, .int z15, .int (x2 - x2 / 16 * 16), .int x3] h17 (.inl (some (.int z23))) h22 ∧ ((z23 = 0 → (o = .inl (some (.int 0)) ∧ h' = h22)) ∧ (¬ z23 = 0 → (o = .inl (some (.int 1)) ∧ h' = h22)))))))))) : VM G mX10_setsByte d [.ref r0, .int x1, .int x2, .int x3] h o h' := by
  refine V.toM rfl rfl (le_l rfl) (cat_all rfl) ?_
  show V G mX10_setsByte d 0 [.ref r0, .int x1, .int x2, .int x3, uV] [] h o h'
  have hdd : d - 1 + 1 ≤ d := by omega
  refine v_aload_n (pc' := 1) dX10_setsByte_0 rfl rfl ?_
  refine v_iconst (pc' := 2) (v := 0) dX10_setsByte_1 rfl kI_0 ?_
  refine v_iload_n (pc' := 3) dX10_setsByte_2 rfl rfl ?_
  refine v_iload_n (pc' := 4) dX10_setsByte_3 rfl rfl ?_
  refine v_bipush (pc' := 6) (v := 16) dX10_setsByte_4 rfl kB_16 ?_
  refine v_icmp_ge (tgt := 13) (pc' := 9) dX10_setsByte_6 (by decide) rfl ⟨fun c1 => ?_, fun c1 => ?_⟩
  · have T := T.1 c1
    refine v_iconst (pc' := 14) (v := 3) dX10_setsByte_13 rfl kI_3 ?_
    obtain ⟨z3, h2, k4, T⟩ := T
    refine v_callS (pc' := 17) (M1 := mX10_fieldOf) (as := [.ref r0, .int 0, .int x1, .int 3]) (rest := []) dX10_setsByte_14 rfl ko_X10_233 kc_X10_fieldOf kt_X10_fieldOf (by decide) hdd rfl rfl (le_l rfl) k4 ?_
    refine v_istore (pc' := 19) (loc' := [.ref r0, .int x1, .int x2, .int x3, .int z3]) dX10_setsByte_17 rfl (lt_l rfl) rfl ?_
    refine v_aload_n (pc' := 20) dX10_setsByte_19 rfl rfl ?_
    refine v_iconst (pc' := 21) (v := 0) dX10_setsByte_20 rfl kI_0 ?_
    refine v_iload_n (pc' := 22) dX10_setsByte_21 rfl rfl ?_
    refine v_iconst (pc' := 23) (v := 1) dX10_setsByte_22 rfl kI_1 ?_
    obtain ⟨z6, h5, k7, T⟩ := T
    refine v_callS (pc' := 26) (M1 := mX10_isKind) (as := [.ref r0, .int 0, .int x1, .int 1]) (rest := []) dX10_setsByte_23 rfl ko_X10_273 kc_X10_isKind kt_X10_isKind (by decide) hdd rfl rfl (le_l rfl) k7 ?_
    refine v_if_eq (tgt := 52) (pc' := 29) dX10_setsByte_26 (by decide) rfl ⟨fun c8 => ?_, fun c8 => ?_⟩
    · have T := T.1 c8
      refine v_iconst (pc' := 53) (v := 0) dX10_setsByte_52 rfl kI_0 ?_
      exact v_zret dX10_setsByte_53 rfl (Or.inl rfl) T
    · have T := T.2 c8
      refine v_iload (pc' := 31) dX10_setsByte_29 rfl rfl ?_
      refine v_if_eq (tgt := 52) (pc' := 34) dX10_setsByte_31 (by decide) rfl ⟨fun c9 => ?_, fun c9 => ?_⟩
      · have T := T.1 c9
        refine v_iconst (pc' := 53) (v := 0) dX10_setsByte_52 rfl kI_0 ?_
        exact v_zret dX10_setsByte_53 rfl (Or.inl rfl) T
      · have T := T.2 c9
        refine v_aload_n (pc' := 35) dX10_setsByte_34 rfl rfl ?_
        refine v_iload (pc' := 37) dX10_setsByte_35 rfl rfl ?_
        refine v_iload_n (pc' := 38) dX10_setsByte_37 rfl rfl ?_
        refine v_bipush (pc' := 40) (v := 16) dX10_setsByte_38 rfl kB_16 ?_
        refine v_irem (pc' := 41) dX10_setsByte_40 rfl (by decide) ?_
        refine v_iload_n (pc' := 42) dX10_setsByte_41 rfl rfl ?_
        obtain ⟨z11, h10, k12, T⟩ := T
        refine v_callS (pc' := 45) (M1 := mX10_bare) (as := [.ref r0, .int z3, .int (x2 - x2 / 16 * 16), .int x3]) (rest := []) dX10_setsByte_42 rfl ko_X10_252 kc_X10_bare kt_X10_bare (by decide) hdd rfl rfl (le_l rfl) k12 ?_
        refine v_if_eq (tgt := 52) (pc' := 48) dX10_setsByte_45 (by decide) rfl ⟨fun c13 => ?_, fun c13 => ?_⟩
        · have T := T.1 c13
          refine v_iconst (pc' := 53) (v := 0) dX10_setsByte_52 rfl kI_0 ?_
          exact v_zret dX10_setsByte_53 rfl (Or.inl rfl) T
        · have T := T.2 c13
          refine v_iconst (pc' := 49) (v := 1) dX10_setsByte_48 rfl kI_1 ?_
          refine v_goto (pc' := 53) dX10_setsByte_49 (by decide) ?_
          exact v_zret dX10_setsByte_53 rfl (Or.inr rfl) T
  · have T := T.2 c1
    refine v_iconst (pc' := 10) (v := 2) dX10_setsByte_9 rfl kI_2 ?_
    refine v_goto (pc' := 14) dX10_setsByte_10 (by decide) ?_
    obtain ⟨z15, h14, k16, T⟩ := T
    refine v_callS (pc' := 17) (M1 := mX10_fieldOf) (as := [.ref r0, .int 0, .int x1, .int 2]) (rest := []) dX10_setsByte_14 rfl ko_X10_233 kc_X10_fieldOf kt_X10_fieldOf (by decide) hdd rfl rfl (le_l rfl) k16 ?_
    refine v_istore (pc' := 19) (loc' := [.ref r0, .int x1, .int x2, .int x3, .int z15]) dX10_setsByte_17 rfl (lt_l rfl) rfl ?_
    refine v_aload_n (pc' := 20) dX10_setsByte_19 rfl rfl ?_
    refine v_iconst (pc' := 21) (v := 0) dX10_setsByte_20 rfl kI_0 ?_
    refine v_iload_n (pc' := 22) dX10_setsByte_21 rfl rfl ?_
    refine v_iconst (pc' := 23) (v := 1) dX10_setsByte_22 rfl kI_1 ?_
    obtain ⟨z18, h17, k19, T⟩ := T
    refine v_callS (pc' := 26) (M1 := mX10_isKind) (as := [.ref r0, .int 0, .int x1, .int 1]) (rest := []) dX10_setsByte_23 rfl ko_X10_273 kc_X10_isKind kt_X10_isKind (by decide) hdd rfl rfl (le_l rfl) k19 ?_
    refine v_if_eq (tgt := 52) (pc' := 29) dX10_setsByte_26 (by decide) rfl ⟨fun c20 => ?_, fun c20 => ?_⟩
    · have T := T.1 c20
      refine v_iconst (pc' := 53) (v := 0) dX10_setsByte_52 rfl kI_0 ?_
      exact v_zret dX10_setsByte_53 rfl (Or.inl rfl) T
    · have T := T.2 c20
      refine v_iload (pc' := 31) dX10_setsByte_29 rfl rfl ?_
      refine v_if_eq (tgt := 52) (pc' := 34) dX10_setsByte_31 (by decide) rfl ⟨fun c21 => ?_, fun c21 => ?_⟩
      · have T := T.1 c21
        refine v_iconst (pc' := 53) (v := 0) dX10_setsByte_52 rfl kI_0 ?_
        exact v_zret dX10_setsByte_53 rfl (Or.inl rfl) T
      · have T := T.2 c21
        refine v_aload_n (pc' := 35) dX10_setsByte_34 rfl rfl ?_
        refine v_iload (pc' := 37) dX10_setsByte_35 rfl rfl ?_
        refine v_iload_n (pc' := 38) dX10_setsByte_37 rfl rfl ?_
        refine v_bipush (pc' := 40) (v := 16) dX10_setsByte_38 rfl kB_16 ?_
        refine v_irem (pc' := 41) dX10_setsByte_40 rfl (by decide) ?_
        refine v_iload_n (pc' := 42) dX10_setsByte_41 rfl rfl ?_
        obtain ⟨z23, h22, k24, T⟩ := T
        refine v_callS (pc' := 45) (M1 := mX10_bare) (as := [.ref r0, .int z15, .int (x2 - x2 / 16 * 16), .int x3]) (rest := []) dX10_setsByte_42 rfl ko_X10_252 kc_X10_bare kt_X10_bare (by decide) hdd rfl rfl (le_l rfl) k24 ?_
        refine v_if_eq (tgt := 52) (pc' := 48) dX10_setsByte_45 (by decide) rfl ⟨fun c25 => ?_, fun c25 => ?_⟩
        · have T := T.1 c25
          refine v_iconst (pc' := 53) (v := 0) dX10_setsByte_52 rfl kI_0 ?_
          exact v_zret dX10_setsByte_53 rfl (Or.inl rfl) T
        · have T := T.2 c25
          refine v_iconst (pc' := 49) (v := 1) dX10_setsByte_48 rfl kI_1 ?_
          refine v_goto (pc' := 53) dX10_setsByte_49 (by decide) ?_
          exact v_zret dX10_setsByte_53 rfl (Or.inr rfl) T
theorem eX10_cuts {G : GG} {d : Nat} {h : Hp} {o : OU} {h' : Hp} (r0 : Nat) (x1 : Int32) (hd : 1 ≤ d) (T : ∃ z2 h1, VM G mX10_fieldOf (d - 1) [.ref r0, .int 0, .int x1, .int 3] h (.inl (some (.int z2))) h1 ∧ ((z2 = 0 → ∃ z6 h5, VM G mX10_fieldOf (d - 1) [.ref r0, .int 0, .int x1, .int 2] h1 (.inl (some (.int z6))) h5 ∧ ∃ z9 h8, VM G mX10_isKind (d - 1) [.ref r0, .int 0, .int x1, .int 1] h5 (.inl (some (.int z9))) h8 ∧ ((z9 = 0 → (o = .inl (some (.int 0)) ∧ h' = h8)) ∧ (¬ z9 = 0 → ((¬ z6 = 0 → ∃ z14 h13, VM G mX10_field (d - 1) [.ref r0, .int x1, .int 2, .int 0, .int 0, .int 0] h8 (.inl (some (.int z14))) h13 ∧ ∃ h16, VM G mX10_putsOff (d - 1) [.ref r0, .int 0, .int z6, .int z14] h13 (.inl none) h16 ∧ (o = .inl (some (.int 1)) ∧ h' = h16)) ∧ (z6 = 0 → (o = .inl (some (.int 0)) ∧ h' = h8)))))) ∧ (¬ z2 = 0 → ∃ z19 h18, VM G mX10_fieldOf (d - 1) [.ref r0, .int 0, .int x1, .int 3] h1 (.inl (some (.int z19))) h18 ∧ ∃ z22 h21, VM G mX10_isKind (d - 1) [.ref r0, .int 0, .int x1, .int 1] h18 (.inl (some (.int z22))) h21 ∧ ((z22 = 0 → (o = .inl (some (.int 0)) ∧ h' = h21)) ∧ (¬ z22 = 0 → ((¬ z19 = 0 → ∃ z27 h26, VM G mX10_field (d - 1) [.ref r0, .int x1, .int 3, .int 0, .int 0, .int 0] h21 (.inl (some (.int z27))) h26 ∧ ∃ h29, VM G mX10_putsOff (d - 1) [.ref r0, .int 0, .int z19, .int z27] h26 (.inl none) h29 ∧ (o = .inl (some (.int 1)) ∧ h' = h29)) ∧ (z19 = 0 → (o = .inl (some (.int 0)) ∧ h' = h21)))))))) : VM G mX10_cuts d [.ref r0, .int x1] h o h' := by
  refine V.toM rfl rfl (le_l rfl) (cat_all rfl) ?_
  show V G mX10_cuts d 0 [.ref r0, .int x1, uV, uV] [] h o h'
  have hdd : d - 1 + 1 ≤ d := by omega
  refine v_aload_n (pc' := 1) dX10_cuts_0 rfl rfl ?_
  refine v_iconst (pc' := 2) (v := 0) dX10_cuts_1 rfl kI_0 ?_
  refine v_iload_n (pc' := 3) dX10_cuts_2 rfl rfl ?_
  refine v_iconst (pc' := 4) (v := 3) dX10_cuts_3 rfl kI_3 ?_
  obtain ⟨z2, h1, k3, T⟩ := T
  refine v_callS (pc' := 7) (M1 := mX10_fieldOf) (as := [.ref r0, .int 0, .int x1, .int 3]) (rest := []) dX10_cuts_4 rfl ko_X10_233 kc_X10_fieldOf kt_X10_fieldOf (by decide) hdd rfl rfl (le_l rfl) k3 ?_
  refine v_if_eq (tgt := 14) (pc' := 10) dX10_cuts_7 (by decide) rfl ⟨fun c4 => ?_, fun c4 => ?_⟩
  · have T := T.1 c4
    refine v_iconst (pc' := 15) (v := 2) dX10_cuts_14 rfl kI_2 ?_
    refine v_istore_n (pc' := 16) (loc' := [.ref r0, .int x1, .int 2, uV]) dX10_cuts_15 rfl (lt_l rfl) rfl ?_
    refine v_aload_n (pc' := 17) dX10_cuts_16 rfl rfl ?_
    refine v_iconst (pc' := 18) (v := 0) dX10_cuts_17 rfl kI_0 ?_
    refine v_iload_n (pc' := 19) dX10_cuts_18 rfl rfl ?_
    refine v_iload_n (pc' := 20) dX10_cuts_19 rfl rfl ?_
    obtain ⟨z6, h5, k7, T⟩ := T
    refine v_callS (pc' := 23) (M1 := mX10_fieldOf) (as := [.ref r0, .int 0, .int x1, .int 2]) (rest := []) dX10_cuts_20 rfl ko_X10_233 kc_X10_fieldOf kt_X10_fieldOf (by decide) hdd rfl rfl (le_l rfl) k7 ?_
    refine v_istore_n (pc' := 24) (loc' := [.ref r0, .int x1, .int 2, .int z6]) dX10_cuts_23 rfl (lt_l rfl) rfl ?_
    refine v_aload_n (pc' := 25) dX10_cuts_24 rfl rfl ?_
    refine v_iconst (pc' := 26) (v := 0) dX10_cuts_25 rfl kI_0 ?_
    refine v_iload_n (pc' := 27) dX10_cuts_26 rfl rfl ?_
    refine v_iconst (pc' := 28) (v := 1) dX10_cuts_27 rfl kI_1 ?_
    obtain ⟨z9, h8, k10, T⟩ := T
    refine v_callS (pc' := 31) (M1 := mX10_isKind) (as := [.ref r0, .int 0, .int x1, .int 1]) (rest := []) dX10_cuts_28 rfl ko_X10_273 kc_X10_isKind kt_X10_isKind (by decide) hdd rfl rfl (le_l rfl) k10 ?_
    refine v_if_eq (tgt := 38) (pc' := 34) dX10_cuts_31 (by decide) rfl ⟨fun c11 => ?_, fun c11 => ?_⟩
    · have T := T.1 c11
      refine v_iconst (pc' := 39) (v := 0) dX10_cuts_38 rfl kI_0 ?_
      exact v_zret dX10_cuts_39 rfl (Or.inl rfl) T
    · have T := T.2 c11
      refine v_iload_n (pc' := 35) dX10_cuts_34 rfl rfl ?_
      refine v_if_ne (tgt := 40) (pc' := 38) dX10_cuts_35 (by decide) rfl ⟨fun c12 => ?_, fun c12 => ?_⟩
      · have T := T.1 c12
        refine v_aload_n (pc' := 41) dX10_cuts_40 rfl rfl ?_
        refine v_iconst (pc' := 42) (v := 0) dX10_cuts_41 rfl kI_0 ?_
        refine v_iload_n (pc' := 43) dX10_cuts_42 rfl rfl ?_
        refine v_aload_n (pc' := 44) dX10_cuts_43 rfl rfl ?_
        refine v_iload_n (pc' := 45) dX10_cuts_44 rfl rfl ?_
        refine v_iload_n (pc' := 46) dX10_cuts_45 rfl rfl ?_
        refine v_iconst (pc' := 47) (v := 0) dX10_cuts_46 rfl kI_0 ?_
        refine v_iconst (pc' := 48) (v := 0) dX10_cuts_47 rfl kI_0 ?_
        refine v_iconst (pc' := 49) (v := 0) dX10_cuts_48 rfl kI_0 ?_
        obtain ⟨z14, h13, k15, T⟩ := T
        refine v_callS (pc' := 52) (M1 := mX10_field) (as := [.ref r0, .int x1, .int 2, .int 0, .int 0, .int 0]) (rest := [.int z6, .int 0, .ref r0]) dX10_cuts_49 rfl ko_X10_237 kc_X10_field kt_X10_field (by decide) hdd rfl rfl (le_l rfl) k15 ?_
        obtain ⟨h16, k17, T⟩ := T
        refine v_callS (pc' := 55) (M1 := mX10_putsOff) (as := [.ref r0, .int 0, .int z6, .int z14]) (rest := []) dX10_cuts_52 rfl ko_X10_245 kc_X10_putsOff kt_X10_putsOff (by decide) hdd rfl rfl (le_l rfl) k17 ?_
        refine v_iconst (pc' := 56) (v := 1) dX10_cuts_55 rfl kI_1 ?_
        exact v_zret dX10_cuts_56 rfl (Or.inr rfl) T
      · have T := T.2 c12
        refine v_iconst (pc' := 39) (v := 0) dX10_cuts_38 rfl kI_0 ?_
        exact v_zret dX10_cuts_39 rfl (Or.inl rfl) T
  · have T := T.2 c4
    refine v_iconst (pc' := 11) (v := 3) dX10_cuts_10 rfl kI_3 ?_
    refine v_goto (pc' := 15) dX10_cuts_11 (by decide) ?_
    refine v_istore_n (pc' := 16) (loc' := [.ref r0, .int x1, .int 3, uV]) dX10_cuts_15 rfl (lt_l rfl) rfl ?_
    refine v_aload_n (pc' := 17) dX10_cuts_16 rfl rfl ?_
    refine v_iconst (pc' := 18) (v := 0) dX10_cuts_17 rfl kI_0 ?_
    refine v_iload_n (pc' := 19) dX10_cuts_18 rfl rfl ?_
    refine v_iload_n (pc' := 20) dX10_cuts_19 rfl rfl ?_
    obtain ⟨z19, h18, k20, T⟩ := T
    refine v_callS (pc' := 23) (M1 := mX10_fieldOf) (as := [.ref r0, .int 0, .int x1, .int 3]) (rest := []) dX10_cuts_20 rfl ko_X10_233 kc_X10_fieldOf kt_X10_fieldOf (by decide) hdd rfl rfl (le_l rfl) k20 ?_
    refine v_istore_n (pc' := 24) (loc' := [.ref r0, .int x1, .int 3, .int z19]) dX10_cuts_23 rfl (lt_l rfl) rfl ?_
    refine v_aload_n (pc' := 25) dX10_cuts_24 rfl rfl ?_
    refine v_iconst (pc' := 26) (v := 0) dX10_cuts_25 rfl kI_0 ?_
    refine v_iload_n (pc' := 27) dX10_cuts_26 rfl rfl ?_
    refine v_iconst (pc' := 28) (v := 1) dX10_cuts_27 rfl kI_1 ?_
    obtain ⟨z22, h21, k23, T⟩ := T
    refine v_callS (pc' := 31) (M1 := mX10_isKind) (as := [.ref r0, .int 0, .int x1, .int 1]) (rest := []) dX10_cuts_28 rfl ko_X10_273 kc_X10_isKind kt_X10_isKind (by decide) hdd rfl rfl (le_l rfl) k23 ?_
    refine v_if_eq (tgt := 38) (pc' := 34) dX10_cuts_31 (by decide) rfl ⟨fun c24 => ?_, fun c24 => ?_⟩
    · have T := T.1 c24
      refine v_iconst (pc' := 39) (v := 0) dX10_cuts_38 rfl kI_0 ?_
      exact v_zret dX10_cuts_39 rfl (Or.inl rfl) T
    · have T := T.2 c24
      refine v_iload_n (pc' := 35) dX10_cuts_34 rfl rfl ?_
      refine v_if_ne (tgt := 40) (pc' := 38) dX10_cuts_35 (by decide) rfl ⟨fun c25 => ?_, fun c25 => ?_⟩
      · have T := T.1 c25
        refine v_aload_n (pc' := 41) dX10_cuts_40 rfl rfl ?_
        refine v_iconst (pc' := 42) (v := 0) dX10_cuts_41 rfl kI_0 ?_
        refine v_iload_n (pc' := 43) dX10_cuts_42 rfl rfl ?_
        refine v_aload_n (pc' := 44) dX10_cuts_43 rfl rfl ?_
        refine v_iload_n (pc' := 45) dX10_cuts_44 rfl rfl ?_
        refine v_iload_n (pc' := 46) dX10_cuts_45 rfl rfl ?_
        refine v_iconst (pc' := 47) (v := 0) dX10_cuts_46 rfl kI_0 ?_
        refine v_iconst (pc' := 48) (v := 0) dX10_cuts_47 rfl kI_0 ?_
        refine v_iconst (pc' := 49) (v := 0) dX10_cuts_48 rfl kI_0 ?_
        obtain ⟨z27, h26, k28, T⟩ := T
        refine v_callS (pc' := 52) (M1 := mX10_field) (as := [.ref r0, .int x1, .int 3, .int 0, .int 0, .int 0]) (rest := [.int z19, .int 0, .ref r0]) dX10_cuts_49 rfl ko_X10_237 kc_X10_field kt_X10_field (by decide) hdd rfl rfl (le_l rfl) k28 ?_
        obtain ⟨h29, k30, T⟩ := T
        refine v_callS (pc' := 55) (M1 := mX10_putsOff) (as := [.ref r0, .int 0, .int z19, .int z27]) (rest := []) dX10_cuts_52 rfl ko_X10_245 kc_X10_putsOff kt_X10_putsOff (by decide) hdd rfl rfl (le_l rfl) k30 ?_
        refine v_iconst (pc' := 56) (v := 1) dX10_cuts_55 rfl kI_1 ?_
        exact v_zret dX10_cuts_56 rfl (Or.inr rfl) T
      · have T := T.2 c25
        refine v_iconst (pc' := 39) (v := 0) dX10_cuts_38 rfl kI_0 ?_
        exact v_zret dX10_cuts_39 rfl (Or.inl rfl) T
theorem eX10_hasNames {G : GG} {d : Nat} {h : Hp} {o : OU} {h' : Hp} (r0 : Nat) (x1 : Int32) (x2 : Int32) (T : V G mX10_hasNames d 2 [.ref r0, .int x1, .int x2, .int 0] [] h o h') : VM G mX10_hasNames d [.ref r0, .int x1, .int x2] h o h' := by
  refine V.toM rfl rfl (le_l rfl) (cat_all rfl) ?_
  show V G mX10_hasNames d 0 [.ref r0, .int x1, .int x2, uV] [] h o h'
  refine v_iconst (pc' := 1) (v := 0) dX10_hasNames_0 rfl kI_0 ?_
  refine v_istore_n (pc' := 2) (loc' := [.ref r0, .int x1, .int x2, .int 0]) dX10_hasNames_1 rfl (lt_l rfl) rfl ?_
  exact T
theorem bX10_hasNames_2 {G : GG} {d : Nat} {h : Hp} {o : OU} {h' : Hp} (r0 : Nat) (x1 : Int32) (x2 : Int32) (x3 : Int32) (hd : 1 ≤ d) (T : ∃ z2 h1, VM G mX10_entryOf (d - 1) [.ref r0, .int x1, .int x2, .int x3] h (.inl (some (.int z2))) h1 ∧ ((z2 = (-1) → (o = .inl (some (.int 0)) ∧ h' = h1)) ∧ (¬ z2 = (-1) → ∃ z6 h5, VM G mX10_entryOf (d - 1) [.ref r0, .int x1, .int x2, .int x3] h1 (.inl (some (.int z6))) h5 ∧ kH h5 r0 = 1 ∧ vp_in (x1 + z6) (lH h5 r0) ∧ (((h5.2 r0 (x1 + z6).toNatClampNeg) = 0 → V G mX10_hasNames d 2 [.ref r0, .int x1, .int x2, .int (x3 + 1)] [] h5 o h') ∧ (¬ (h5.2 r0 (x1 + z6).toNatClampNeg) = 0 → (o = .inl (some (.int 1)) ∧ h' = h5)))))) : V G mX10_hasNames d 2 [.ref r0, .int x1, .int x2, .int x3] [] h o h' := by
  have hdd : d - 1 + 1 ≤ d := by omega
  refine v_aload_n (pc' := 3) dX10_hasNames_2 rfl rfl ?_
  refine v_iload_n (pc' := 4) dX10_hasNames_3 rfl rfl ?_
  refine v_iload_n (pc' := 5) dX10_hasNames_4 rfl rfl ?_
  refine v_iload_n (pc' := 6) dX10_hasNames_5 rfl rfl ?_
  obtain ⟨z2, h1, k3, T⟩ := T
  refine v_callS (pc' := 9) (M1 := mX10_entryOf) (as := [.ref r0, .int x1, .int x2, .int x3]) (rest := []) dX10_hasNames_6 rfl ko_X10_270 kc_X10_entryOf kt_X10_entryOf (by decide) hdd rfl rfl (le_l rfl) k3 ?_
  refine v_iconst (pc' := 10) (v := (-1)) dX10_hasNames_9 rfl kI_m1 ?_
  refine v_icmp_eq (tgt := 35) (pc' := 13) dX10_hasNames_10 (by decide) rfl ⟨fun c4 => ?_, fun c4 => ?_⟩
  · have T := T.1 c4
    refine v_iconst (pc' := 36) (v := 0) dX10_hasNames_35 rfl kI_0 ?_
    exact v_zret dX10_hasNames_36 rfl (Or.inl rfl) T
  · have T := T.2 c4
    refine v_aload_n (pc' := 14) dX10_hasNames_13 rfl rfl ?_
    refine v_iload_n (pc' := 15) dX10_hasNames_14 rfl rfl ?_
    refine v_aload_n (pc' := 16) dX10_hasNames_15 rfl rfl ?_
    refine v_iload_n (pc' := 17) dX10_hasNames_16 rfl rfl ?_
    refine v_iload_n (pc' := 18) dX10_hasNames_17 rfl rfl ?_
    refine v_iload_n (pc' := 19) dX10_hasNames_18 rfl rfl ?_
    obtain ⟨z6, h5, k7, T⟩ := T
    refine v_callS (pc' := 22) (M1 := mX10_entryOf) (as := [.ref r0, .int x1, .int x2, .int x3]) (rest := [.int x1, .ref r0]) dX10_hasNames_19 rfl ko_X10_270 kc_X10_entryOf kt_X10_entryOf (by decide) hdd rfl rfl (le_l rfl) k7 ?_
    refine v_iadd (pc' := 23) dX10_hasNames_22 rfl ?_
    obtain ⟨q8, T⟩ := T
    obtain ⟨q9, T⟩ := T
    refine v_iald (pc' := 24) dX10_hasNames_23 rfl rfl q8 q9 ?_
    refine v_if_eq (tgt := 29) (pc' := 27) dX10_hasNames_24 (by decide) rfl ⟨fun c10 => ?_, fun c10 => ?_⟩
    · have T := T.1 c10
      refine v_iinc (pc' := 32) (loc' := [.ref r0, .int x1, .int x2, .int (x3 + 1)]) dX10_hasNames_29 rfl rfl (kX_1 _) rfl ?_
      refine v_goto (pc' := 2) dX10_hasNames_32 (by decide) ?_
      exact T
    · have T := T.2 c10
      refine v_iconst (pc' := 28) (v := 1) dX10_hasNames_27 rfl kI_1 ?_
      exact v_zret dX10_hasNames_28 rfl (Or.inr rfl) T
theorem eX10_drops {G : GG} {d : Nat} {h : Hp} {o : OU} {h' : Hp} (r0 : Nat) (x1 : Int32) (x2 : Int32) (hd : 1 ≤ d) (T : ∃ z2 h1, VM G mX10_isKind (d - 1) [.ref r0, .int 0, .int x1, .int 2] h (.inl (some (.int z2))) h1 ∧ ((z2 = 0 → (o = .inl (some (.int 0)) ∧ h' = h1)) ∧ (¬ z2 = 0 → ∃ z6 h5, VM G mX10_reached (d - 1) [.ref r0, .int 0] h1 (.inl (some (.int z6))) h5 ∧ ∃ z9 h8, VM G mX10_has (d - 1) [.int z6, .int x1] h5 (.inl (some (.int z9))) h8 ∧ ((z9 = 0 → (o = .inl (some (.int 0)) ∧ h' = h8)) ∧ (¬ z9 = 0 → ∃ z13 h12, VM G mX10_entry (d - 1) [.ref r0, .int 0, .int x1, .int x2] h8 (.inl (some (.int z13))) h12 ∧ ((¬ z13 = (-1) → ∃ z17 h16, VM G mX10_entry (d - 1) [.ref r0, .int 0, .int x1, .int x2] h12 (.inl (some (.int z17))) h16 ∧ kH h16 r0 = 1 ∧ vp_in ((0 + z17) + 1) (lH h16 r0) ∧ ∃ z22 h21, VM G mX10_fieldOf (d - 1) [.ref r0, .int 0, .int (h16.2 r0 ((0 + z17) + 1).toNatClampNeg), .int 1] h16 (.inl (some (.int z22))) h21 ∧ ((¬ z22 = 2 → ∃ z26 h25, VM G mX10_bare (d - 1) [.ref r0, .int (z17 / 16), .int (z17 - z17 / 16 * 16), .int 0] h21 (.inl (some (.int z26))) h25 ∧ ∃ h28, VM G mX10_putsOff (d - 1) [.ref r0, .int 1, .int (h16.2 r0 ((0 + z17) + 1).toNatClampNeg), .int z26] h25 (.inl none) h28 ∧ (o = .inl (some (.int 1)) ∧ h' = h28)) ∧ (z22 = 2 → ∃ z31 h30, VM G mX10_hasNames (d - 1) [.ref r0, .int 0, .int (h16.2 r0 ((0 + z17) + 1).toNatClampNeg)] h21 (.inl (some (.int z31))) h30 ∧ ((z31 = 0 → ∃ z35 h34, VM G mX10_bare (d - 1) [.ref r0, .int (z17 / 16), .int (z17 - z17 / 16 * 16), .int 0] h30 (.inl (some (.int z35))) h34 ∧ ∃ h37, VM G mX10_putsOff (d - 1) [.ref r0, .int 1, .int (h16.2 r0 ((0 + z17) + 1).toNatClampNeg), .int z35] h34 (.inl none) h37 ∧ (o = .inl (some (.int 1)) ∧ h' = h37)) ∧ (¬ z31 = 0 → (o = .inl (some (.int 0)) ∧ h' = h30)))))) ∧ (z13 = (-1) → (o = .inl (some (.int 0)) ∧ h' = h12)))))))) : VM G mX10_drops d [.ref r0, .int x1, .int x2] h o h' := by
  refine V.toM rfl rfl (le_l rfl) (cat_all rfl) ?_
  show V G mX10_drops d 0 [.ref r0, .int x1, .int x2, uV, uV] [] h o h'
  have hdd : d - 1 + 1 ≤ d := by omega
  refine v_aload_n (pc' := 1) dX10_drops_0 rfl rfl ?_
  refine v_iconst (pc' := 2) (v := 0) dX10_drops_1 rfl kI_0 ?_
  refine v_iload_n (pc' := 3) dX10_drops_2 rfl rfl ?_
  refine v_iconst (pc' := 4) (v := 2) dX10_drops_3 rfl kI_2 ?_
  obtain ⟨z2, h1, k3, T⟩ := T
  refine v_callS (pc' := 7) (M1 := mX10_isKind) (as := [.ref r0, .int 0, .int x1, .int 2]) (rest := []) dX10_drops_4 rfl ko_X10_273 kc_X10_isKind kt_X10_isKind (by decide) hdd rfl rfl (le_l rfl) k3 ?_
  refine v_if_eq (tgt := 33) (pc' := 10) dX10_drops_7 (by decide) rfl ⟨fun c4 => ?_, fun c4 => ?_⟩
  · have T := T.1 c4
    refine v_iconst (pc' := 34) (v := 0) dX10_drops_33 rfl kI_0 ?_
    exact v_zret dX10_drops_34 rfl (Or.inl rfl) T
  · have T := T.2 c4
    refine v_aload_n (pc' := 11) dX10_drops_10 rfl rfl ?_
    refine v_iconst (pc' := 12) (v := 0) dX10_drops_11 rfl kI_0 ?_
    obtain ⟨z6, h5, k7, T⟩ := T
    refine v_callS (pc' := 15) (M1 := mX10_reached) (as := [.ref r0, .int 0]) (rest := []) dX10_drops_12 rfl ko_X10_276 kc_X10_reached kt_X10_reached (by decide) hdd rfl rfl (le_l rfl) k7 ?_
    refine v_iload_n (pc' := 16) dX10_drops_15 rfl rfl ?_
    obtain ⟨z9, h8, k10, T⟩ := T
    refine v_callS (pc' := 19) (M1 := mX10_has) (as := [.int z6, .int x1]) (rest := []) dX10_drops_16 rfl ko_X10_193 kc_X10_has kt_X10_has (by decide) hdd rfl rfl (le_l rfl) k10 ?_
    refine v_if_eq (tgt := 33) (pc' := 22) dX10_drops_19 (by decide) rfl ⟨fun c11 => ?_, fun c11 => ?_⟩
    · have T := T.1 c11
      refine v_iconst (pc' := 34) (v := 0) dX10_drops_33 rfl kI_0 ?_
      exact v_zret dX10_drops_34 rfl (Or.inl rfl) T
    · have T := T.2 c11
      refine v_aload_n (pc' := 23) dX10_drops_22 rfl rfl ?_
      refine v_iconst (pc' := 24) (v := 0) dX10_drops_23 rfl kI_0 ?_
      refine v_iload_n (pc' := 25) dX10_drops_24 rfl rfl ?_
      refine v_iload_n (pc' := 26) dX10_drops_25 rfl rfl ?_
      obtain ⟨z13, h12, k14, T⟩ := T
      refine v_callS (pc' := 29) (M1 := mX10_entry) (as := [.ref r0, .int 0, .int x1, .int x2]) (rest := []) dX10_drops_26 rfl ko_X10_279 kc_X10_entry kt_X10_entry (by decide) hdd rfl rfl (le_l rfl) k14 ?_
      refine v_iconst (pc' := 30) (v := (-1)) dX10_drops_29 rfl kI_m1 ?_
      refine v_icmp_ne (tgt := 35) (pc' := 33) dX10_drops_30 (by decide) rfl ⟨fun c15 => ?_, fun c15 => ?_⟩
      · have T := T.1 c15
        refine v_aload_n (pc' := 36) dX10_drops_35 rfl rfl ?_
        refine v_iconst (pc' := 37) (v := 0) dX10_drops_36 rfl kI_0 ?_
        refine v_iload_n (pc' := 38) dX10_drops_37 rfl rfl ?_
        refine v_iload_n (pc' := 39) dX10_drops_38 rfl rfl ?_
        obtain ⟨z17, h16, k18, T⟩ := T
        refine v_callS (pc' := 42) (M1 := mX10_entry) (as := [.ref r0, .int 0, .int x1, .int x2]) (rest := []) dX10_drops_39 rfl ko_X10_279 kc_X10_entry kt_X10_entry (by decide) hdd rfl rfl (le_l rfl) k18 ?_
        refine v_istore_n (pc' := 43) (loc' := [.ref r0, .int x1, .int x2, .int z17, uV]) dX10_drops_42 rfl (lt_l rfl) rfl ?_
        refine v_aload_n (pc' := 44) dX10_drops_43 rfl rfl ?_
        refine v_iconst (pc' := 45) (v := 0) dX10_drops_44 rfl kI_0 ?_
        refine v_iload_n (pc' := 46) dX10_drops_45 rfl rfl ?_
        refine v_iadd (pc' := 47) dX10_drops_46 rfl ?_
        refine v_iconst (pc' := 48) (v := 1) dX10_drops_47 rfl kI_1 ?_
        refine v_iadd (pc' := 49) dX10_drops_48 rfl ?_
        obtain ⟨q19, T⟩ := T
        obtain ⟨q20, T⟩ := T
        refine v_iald (pc' := 50) dX10_drops_49 rfl rfl q19 q20 ?_
        refine v_istore (pc' := 52) (loc' := [.ref r0, .int x1, .int x2, .int z17, .int (h16.2 r0 ((0 + z17) + 1).toNatClampNeg)]) dX10_drops_50 rfl (lt_l rfl) rfl ?_
        refine v_aload_n (pc' := 53) dX10_drops_52 rfl rfl ?_
        refine v_iconst (pc' := 54) (v := 0) dX10_drops_53 rfl kI_0 ?_
        refine v_iload (pc' := 56) dX10_drops_54 rfl rfl ?_
        refine v_iconst (pc' := 57) (v := 1) dX10_drops_56 rfl kI_1 ?_
        obtain ⟨z22, h21, k23, T⟩ := T
        refine v_callS (pc' := 60) (M1 := mX10_fieldOf) (as := [.ref r0, .int 0, .int (h16.2 r0 ((0 + z17) + 1).toNatClampNeg), .int 1]) (rest := []) dX10_drops_57 rfl ko_X10_233 kc_X10_fieldOf kt_X10_fieldOf (by decide) hdd rfl rfl (le_l rfl) k23 ?_
        refine v_iconst (pc' := 61) (v := 2) dX10_drops_60 rfl kI_2 ?_
        refine v_icmp_ne (tgt := 76) (pc' := 64) dX10_drops_61 (by decide) rfl ⟨fun c24 => ?_, fun c24 => ?_⟩
        · have T := T.1 c24
          refine v_aload_n (pc' := 77) dX10_drops_76 rfl rfl ?_
          refine v_iconst (pc' := 78) (v := 1) dX10_drops_77 rfl kI_1 ?_
          refine v_iload (pc' := 80) dX10_drops_78 rfl rfl ?_
          refine v_aload_n (pc' := 81) dX10_drops_80 rfl rfl ?_
          refine v_iload_n (pc' := 82) dX10_drops_81 rfl rfl ?_
          refine v_bipush (pc' := 84) (v := 16) dX10_drops_82 rfl kB_16 ?_
          refine v_idiv (pc' := 85) dX10_drops_84 rfl (by decide) ?_
          refine v_iload_n (pc' := 86) dX10_drops_85 rfl rfl ?_
          refine v_bipush (pc' := 88) (v := 16) dX10_drops_86 rfl kB_16 ?_
          refine v_irem (pc' := 89) dX10_drops_88 rfl (by decide) ?_
          refine v_iconst (pc' := 90) (v := 0) dX10_drops_89 rfl kI_0 ?_
          obtain ⟨z26, h25, k27, T⟩ := T
          refine v_callS (pc' := 93) (M1 := mX10_bare) (as := [.ref r0, .int (z17 / 16), .int (z17 - z17 / 16 * 16), .int 0]) (rest := [.int (h16.2 r0 ((0 + z17) + 1).toNatClampNeg), .int 1, .ref r0]) dX10_drops_90 rfl ko_X10_252 kc_X10_bare kt_X10_bare (by decide) hdd rfl rfl (le_l rfl) k27 ?_
          obtain ⟨h28, k29, T⟩ := T
          refine v_callS (pc' := 96) (M1 := mX10_putsOff) (as := [.ref r0, .int 1, .int (h16.2 r0 ((0 + z17) + 1).toNatClampNeg), .int z26]) (rest := []) dX10_drops_93 rfl ko_X10_245 kc_X10_putsOff kt_X10_putsOff (by decide) hdd rfl rfl (le_l rfl) k29 ?_
          refine v_iconst (pc' := 97) (v := 1) dX10_drops_96 rfl kI_1 ?_
          exact v_zret dX10_drops_97 rfl (Or.inr rfl) T
        · have T := T.2 c24
          refine v_aload_n (pc' := 65) dX10_drops_64 rfl rfl ?_
          refine v_iconst (pc' := 66) (v := 0) dX10_drops_65 rfl kI_0 ?_
          refine v_iload (pc' := 68) dX10_drops_66 rfl rfl ?_
          obtain ⟨z31, h30, k32, T⟩ := T
          refine v_callS (pc' := 71) (M1 := mX10_hasNames) (as := [.ref r0, .int 0, .int (h16.2 r0 ((0 + z17) + 1).toNatClampNeg)]) (rest := []) dX10_drops_68 rfl ko_X10_303 kc_X10_hasNames kt_X10_hasNames (by decide) hdd rfl rfl (le_l rfl) k32 ?_
          refine v_if_eq (tgt := 76) (pc' := 74) dX10_drops_71 (by decide) rfl ⟨fun c33 => ?_, fun c33 => ?_⟩
          · have T := T.1 c33
            refine v_aload_n (pc' := 77) dX10_drops_76 rfl rfl ?_
            refine v_iconst (pc' := 78) (v := 1) dX10_drops_77 rfl kI_1 ?_
            refine v_iload (pc' := 80) dX10_drops_78 rfl rfl ?_
            refine v_aload_n (pc' := 81) dX10_drops_80 rfl rfl ?_
            refine v_iload_n (pc' := 82) dX10_drops_81 rfl rfl ?_
            refine v_bipush (pc' := 84) (v := 16) dX10_drops_82 rfl kB_16 ?_
            refine v_idiv (pc' := 85) dX10_drops_84 rfl (by decide) ?_
            refine v_iload_n (pc' := 86) dX10_drops_85 rfl rfl ?_
            refine v_bipush (pc' := 88) (v := 16) dX10_drops_86 rfl kB_16 ?_
            refine v_irem (pc' := 89) dX10_drops_88 rfl (by decide) ?_
            refine v_iconst (pc' := 90) (v := 0) dX10_drops_89 rfl kI_0 ?_
            obtain ⟨z35, h34, k36, T⟩ := T
            refine v_callS (pc' := 93) (M1 := mX10_bare) (as := [.ref r0, .int (z17 / 16), .int (z17 - z17 / 16 * 16), .int 0]) (rest := [.int (h16.2 r0 ((0 + z17) + 1).toNatClampNeg), .int 1, .ref r0]) dX10_drops_90 rfl ko_X10_252 kc_X10_bare kt_X10_bare (by decide) hdd rfl rfl (le_l rfl) k36 ?_
            obtain ⟨h37, k38, T⟩ := T
            refine v_callS (pc' := 96) (M1 := mX10_putsOff) (as := [.ref r0, .int 1, .int (h16.2 r0 ((0 + z17) + 1).toNatClampNeg), .int z35]) (rest := []) dX10_drops_93 rfl ko_X10_245 kc_X10_putsOff kt_X10_putsOff (by decide) hdd rfl rfl (le_l rfl) k38 ?_
            refine v_iconst (pc' := 97) (v := 1) dX10_drops_96 rfl kI_1 ?_
            exact v_zret dX10_drops_97 rfl (Or.inr rfl) T
          · have T := T.2 c33
            refine v_iconst (pc' := 75) (v := 0) dX10_drops_74 rfl kI_0 ?_
            exact v_zret dX10_drops_75 rfl (Or.inl rfl) T
      · have T := T.2 c15
        refine v_iconst (pc' := 34) (v := 0) dX10_drops_33 rfl kI_0 ?_
        exact v_zret dX10_drops_34 rfl (Or.inl rfl) T
theorem eX10_reached {G : GG} {d : Nat} {h : Hp} {o : OU} {h' : Hp} (r0 : Nat) (x1 : Int32) (T : V G mX10_reached d 4 [.ref r0, .int x1, .int 1, .int 0, uV, uV, uV] [] h o h') : VM G mX10_reached d [.ref r0, .int x1] h o h' := by
  refine V.toM rfl rfl (le_l rfl) (cat_all rfl) ?_
  show V G mX10_reached d 0 [.ref r0, .int x1, uV, uV, uV, uV, uV] [] h o h'
  refine v_iconst (pc' := 1) (v := 1) dX10_reached_0 rfl kI_1 ?_
  refine v_istore_n (pc' := 2) (loc' := [.ref r0, .int x1, .int 1, uV, uV, uV, uV]) dX10_reached_1 rfl (lt_l rfl) rfl ?_
  refine v_iconst (pc' := 3) (v := 0) dX10_reached_2 rfl kI_0 ?_
  refine v_istore_n (pc' := 4) (loc' := [.ref r0, .int x1, .int 1, .int 0, uV, uV, uV]) dX10_reached_3 rfl (lt_l rfl) rfl ?_
  exact T
theorem bX10_reached_4 {G : GG} {d : Nat} {h : Hp} {o : OU} {h' : Hp} (r0 : Nat) (x1 : Int32) (x2 : Int32) (x3 : Int32) (T : ((x2 = x3 → (o = .inl (some (.int x2)) ∧ h' = h)) ∧ (¬ x2 = x3 → V G mX10_reached d 14 [.ref r0, .int x1, .int x2, .int x2, .int 0, uV, uV] [] h o h'))) : V G mX10_reached d 4 [.ref r0, .int x1, .int x2, .int x3, uV, uV, uV] [] h o h' := by
  refine v_iload_n (pc' := 5) dX10_reached_4 rfl rfl ?_
  refine v_iload_n (pc' := 6) dX10_reached_5 rfl rfl ?_
  refine v_icmp_eq (tgt := 111) (pc' := 9) dX10_reached_6 (by decide) rfl ⟨fun c1 => ?_, fun c1 => ?_⟩
  · have T := T.1 c1
    refine v_iload_n (pc' := 112) dX10_reached_111 rfl rfl ?_
    exact v_iret dX10_reached_112 rfl T
  · have T := T.2 c1
    refine v_iload_n (pc' := 10) dX10_reached_9 rfl rfl ?_
    refine v_istore_n (pc' := 11) (loc' := [.ref r0, .int x1, .int x2, .int x2, uV, uV, uV]) dX10_reached_10 rfl (lt_l rfl) rfl ?_
    refine v_iconst (pc' := 12) (v := 0) dX10_reached_11 rfl kI_0 ?_
    refine v_istore (pc' := 14) (loc' := [.ref r0, .int x1, .int x2, .int x2, .int 0, uV, uV]) dX10_reached_12 rfl (lt_l rfl) rfl ?_
    exact T
theorem bX10_reached_14 {G : GG} {d : Nat} {h : Hp} {o : OU} {h' : Hp} (r0 : Nat) (x1 : Int32) (x2 : Int32) (x3 : Int32) (x4 : Int32) (hd : 1 ≤ d) (T : ((12 ≤ x4 → V G mX10_reached d 4 [.ref r0, .int x1, .int x2, .int x3, uV, uV, uV] [] h o h') ∧ (¬ 12 ≤ x4 → ∃ z3 h2, VM G mX10_has (d - 1) [.int x3, .int x4] h (.inl (some (.int z3))) h2 ∧ ((z3 = 0 → V G mX10_reached d 14 [.ref r0, .int x1, .int x2, .int x3, .int (x4 + 1), uV, uV] [] h2 o h') ∧ (¬ z3 = 0 → ∃ z7 h6, VM G mX10_fieldOf (d - 1) [.ref r0, .int x1, .int x4, .int 1] h2 (.inl (some (.int z7))) h6 ∧ ((z7 = 2 → V G mX10_reached d 48 [.ref r0, .int x1, .int x2, .int x3, .int x4, .int 0, uV] [] h6 o h') ∧ (¬ z7 = 2 → V G mX10_reached d 14 [.ref r0, .int x1, .int x2, .int x3, .int (x4 + 1), uV, uV] [] h6 o h'))))))) : V G mX10_reached d 14 [.ref r0, .int x1, .int x2, .int x3, .int x4, uV, uV] [] h o h' := by
  have hdd : d - 1 + 1 ≤ d := by omega
  refine v_iload (pc' := 16) dX10_reached_14 rfl rfl ?_
  refine v_bipush (pc' := 18) (v := 12) dX10_reached_16 rfl kB_12 ?_
  refine v_icmp_ge (tgt := 108) (pc' := 21) dX10_reached_18 (by decide) rfl ⟨fun c1 => ?_, fun c1 => ?_⟩
  · have T := T.1 c1
    refine v_goto (pc' := 4) dX10_reached_108 (by decide) ?_
    exact V.drop (llp_r (llp_r (llp_r (llp_r (llp_u (llp_r (llp_r llp_nil))))))) T
  · have T := T.2 c1
    refine v_iload_n (pc' := 22) dX10_reached_21 rfl rfl ?_
    refine v_iload (pc' := 24) dX10_reached_22 rfl rfl ?_
    obtain ⟨z3, h2, k4, T⟩ := T
    refine v_callS (pc' := 27) (M1 := mX10_has) (as := [.int x3, .int x4]) (rest := []) dX10_reached_24 rfl ko_X10_193 kc_X10_has kt_X10_has (by decide) hdd rfl rfl (le_l rfl) k4 ?_
    refine v_if_eq (tgt := 102) (pc' := 30) dX10_reached_27 (by decide) rfl ⟨fun c5 => ?_, fun c5 => ?_⟩
    · have T := T.1 c5
      refine v_iinc (pc' := 105) (loc' := [.ref r0, .int x1, .int x2, .int x3, .int (x4 + 1), uV, uV]) dX10_reached_102 rfl rfl (kX_1 _) rfl ?_
      refine v_goto (pc' := 14) dX10_reached_105 (by decide) ?_
      exact T
    · have T := T.2 c5
      refine v_aload_n (pc' := 31) dX10_reached_30 rfl rfl ?_
      refine v_iload_n (pc' := 32) dX10_reached_31 rfl rfl ?_
      refine v_iload (pc' := 34) dX10_reached_32 rfl rfl ?_
      refine v_iconst (pc' := 35) (v := 1) dX10_reached_34 rfl kI_1 ?_
      obtain ⟨z7, h6, k8, T⟩ := T
      refine v_callS (pc' := 38) (M1 := mX10_fieldOf) (as := [.ref r0, .int x1, .int x4, .int 1]) (rest := []) dX10_reached_35 rfl ko_X10_233 kc_X10_fieldOf kt_X10_fieldOf (by decide) hdd rfl rfl (le_l rfl) k8 ?_
      refine v_iconst (pc' := 39) (v := 2) dX10_reached_38 rfl kI_2 ?_
      refine v_icmp_eq (tgt := 45) (pc' := 42) dX10_reached_39 (by decide) rfl ⟨fun c9 => ?_, fun c9 => ?_⟩
      · have T := T.1 c9
        refine v_iconst (pc' := 46) (v := 0) dX10_reached_45 rfl kI_0 ?_
        refine v_istore (pc' := 48) (loc' := [.ref r0, .int x1, .int x2, .int x3, .int x4, .int 0, uV]) dX10_reached_46 rfl (lt_l rfl) rfl ?_
        exact T
      · have T := T.2 c9
        refine v_goto (pc' := 102) dX10_reached_42 (by decide) ?_
        refine v_iinc (pc' := 105) (loc' := [.ref r0, .int x1, .int x2, .int x3, .int (x4 + 1), uV, uV]) dX10_reached_102 rfl rfl (kX_1 _) rfl ?_
        refine v_goto (pc' := 14) dX10_reached_105 (by decide) ?_
        exact T
theorem bX10_reached_48 {G : GG} {d : Nat} {h : Hp} {o : OU} {h' : Hp} (r0 : Nat) (x1 : Int32) (x2 : Int32) (x3 : Int32) (x4 : Int32) (x5 : Int32) (hd : 1 ≤ d) (T : ∃ z2 h1, VM G mX10_entryOf (d - 1) [.ref r0, .int x1, .int x4, .int x5] h (.inl (some (.int z2))) h1 ∧ ((z2 = (-1) → V G mX10_reached d 14 [.ref r0, .int x1, .int x2, .int x3, .int (x4 + 1), uV, uV] [] h1 o h') ∧ (¬ z2 = (-1) → ∃ z6 h5, VM G mX10_entryOf (d - 1) [.ref r0, .int x1, .int x4, .int x5] h1 (.inl (some (.int z6))) h5 ∧ kH h5 r0 = 1 ∧ vp_in (x1 + z6) (lH h5 r0) ∧ ((¬ (h5.2 r0 (x1 + z6).toNatClampNeg) = 0 → vp_in ((x1 + z6) + 1) (lH h5 r0) ∧ V G mX10_reached d 48 [.ref r0, .int x1, .int (x2 ||| (1 <<< ((h5.2 r0 ((x1 + z6) + 1).toNatClampNeg) &&& 31))), .int x3, .int x4, .int (x5 + 1), uV] [] h5 o h') ∧ ((h5.2 r0 (x1 + z6).toNatClampNeg) = 0 → V G mX10_reached d 48 [.ref r0, .int x1, .int (x2 ||| 0), .int x3, .int x4, .int (x5 + 1), uV] [] h5 o h'))))) : V G mX10_reached d 48 [.ref r0, .int x1, .int x2, .int x3, .int x4, .int x5, uV] [] h o h' := by
  have hdd : d - 1 + 1 ≤ d := by omega
  refine v_aload_n (pc' := 49) dX10_reached_48 rfl rfl ?_
  refine v_iload_n (pc' := 50) dX10_reached_49 rfl rfl ?_
  refine v_iload (pc' := 52) dX10_reached_50 rfl rfl ?_
  refine v_iload (pc' := 54) dX10_reached_52 rfl rfl ?_
  obtain ⟨z2, h1, k3, T⟩ := T
  refine v_callS (pc' := 57) (M1 := mX10_entryOf) (as := [.ref r0, .int x1, .int x4, .int x5]) (rest := []) dX10_reached_54 rfl ko_X10_270 kc_X10_entryOf kt_X10_entryOf (by decide) hdd rfl rfl (le_l rfl) k3 ?_
  refine v_iconst (pc' := 58) (v := (-1)) dX10_reached_57 rfl kI_m1 ?_
  refine v_icmp_eq (tgt := 102) (pc' := 61) dX10_reached_58 (by decide) rfl ⟨fun c4 => ?_, fun c4 => ?_⟩
  · have T := T.1 c4
    refine v_iinc (pc' := 105) (loc' := [.ref r0, .int x1, .int x2, .int x3, .int (x4 + 1), .int x5, uV]) dX10_reached_102 rfl rfl (kX_1 _) rfl ?_
    refine v_goto (pc' := 14) dX10_reached_105 (by decide) ?_
    exact V.drop (llp_r (llp_r (llp_r (llp_r (llp_r (llp_u (llp_r llp_nil))))))) T
  · have T := T.2 c4
    refine v_iload_n (pc' := 62) dX10_reached_61 rfl rfl ?_
    refine v_aload_n (pc' := 63) dX10_reached_62 rfl rfl ?_
    refine v_iload_n (pc' := 64) dX10_reached_63 rfl rfl ?_
    refine v_iload (pc' := 66) dX10_reached_64 rfl rfl ?_
    refine v_iload (pc' := 68) dX10_reached_66 rfl rfl ?_
    obtain ⟨z6, h5, k7, T⟩ := T
    refine v_callS (pc' := 71) (M1 := mX10_entryOf) (as := [.ref r0, .int x1, .int x4, .int x5]) (rest := [.int x1]) dX10_reached_68 rfl ko_X10_270 kc_X10_entryOf kt_X10_entryOf (by decide) hdd rfl rfl (le_l rfl) k7 ?_
    refine v_iadd (pc' := 72) dX10_reached_71 rfl ?_
    refine v_istore (pc' := 74) (loc' := [.ref r0, .int x1, .int x2, .int x3, .int x4, .int x5, .int (x1 + z6)]) dX10_reached_72 rfl (lt_l rfl) rfl ?_
    refine v_iload_n (pc' := 75) dX10_reached_74 rfl rfl ?_
    refine v_aload_n (pc' := 76) dX10_reached_75 rfl rfl ?_
    refine v_iload (pc' := 78) dX10_reached_76 rfl rfl ?_
    obtain ⟨q8, T⟩ := T
    obtain ⟨q9, T⟩ := T
    refine v_iald (pc' := 79) dX10_reached_78 rfl rfl q8 q9 ?_
    refine v_if_ne (tgt := 86) (pc' := 82) dX10_reached_79 (by decide) rfl ⟨fun c10 => ?_, fun c10 => ?_⟩
    · have T := T.1 c10
      refine v_iconst (pc' := 87) (v := 1) dX10_reached_86 rfl kI_1 ?_
      refine v_aload_n (pc' := 88) dX10_reached_87 rfl rfl ?_
      refine v_iload (pc' := 90) dX10_reached_88 rfl rfl ?_
      refine v_iconst (pc' := 91) (v := 1) dX10_reached_90 rfl kI_1 ?_
      refine v_iadd (pc' := 92) dX10_reached_91 rfl ?_
      obtain ⟨q11, T⟩ := T
      refine v_iald (pc' := 93) dX10_reached_92 rfl rfl q8 q11 ?_
      refine v_ishl (pc' := 94) dX10_reached_93 rfl ?_
      refine v_ior (pc' := 95) dX10_reached_94 rfl ?_
      refine v_istore_n (pc' := 96) (loc' := [.ref r0, .int x1, .int (x2 ||| (1 <<< ((h5.2 r0 ((x1 + z6) + 1).toNatClampNeg) &&& 31))), .int x3, .int x4, .int x5, .int (x1 + z6)]) dX10_reached_95 rfl (lt_l rfl) rfl ?_
      refine v_iinc (pc' := 99) (loc' := [.ref r0, .int x1, .int (x2 ||| (1 <<< ((h5.2 r0 ((x1 + z6) + 1).toNatClampNeg) &&& 31))), .int x3, .int x4, .int (x5 + 1), .int (x1 + z6)]) dX10_reached_96 rfl rfl (kX_1 _) rfl ?_
      refine v_goto (pc' := 48) dX10_reached_99 (by decide) ?_
      exact V.drop (llp_r (llp_r (llp_r (llp_r (llp_r (llp_r (llp_u llp_nil))))))) T
    · have T := T.2 c10
      refine v_iconst (pc' := 83) (v := 0) dX10_reached_82 rfl kI_0 ?_
      refine v_goto (pc' := 94) dX10_reached_83 (by decide) ?_
      refine v_ior (pc' := 95) dX10_reached_94 rfl ?_
      refine v_istore_n (pc' := 96) (loc' := [.ref r0, .int x1, .int (x2 ||| 0), .int x3, .int x4, .int x5, .int (x1 + z6)]) dX10_reached_95 rfl (lt_l rfl) rfl ?_
      refine v_iinc (pc' := 99) (loc' := [.ref r0, .int x1, .int (x2 ||| 0), .int x3, .int x4, .int (x5 + 1), .int (x1 + z6)]) dX10_reached_96 rfl rfl (kX_1 _) rfl ?_
      refine v_goto (pc' := 48) dX10_reached_99 (by decide) ?_
      exact V.drop (llp_r (llp_r (llp_r (llp_r (llp_r (llp_r (llp_u llp_nil))))))) T
theorem eX10_named {G : GG} {d : Nat} {h : Hp} {o : OU} {h' : Hp} (r0 : Nat) (x1 : Int32) (x2 : Int32) (hd : 1 ≤ d) (T : ∃ z2 h1, VM G mX10_reached (d - 1) [.ref r0, .int x1] h (.inl (some (.int z2))) h1 ∧ V G mX10_named d 12 [.ref r0, .int x1, .int x2, .int 0, .int z2, .int 0, uV, uV] [] h1 o h') : VM G mX10_named d [.ref r0, .int x1, .int x2] h o h' := by
  refine V.toM rfl rfl (le_l rfl) (cat_all rfl) ?_
  show V G mX10_named d 0 [.ref r0, .int x1, .int x2, uV, uV, uV, uV, uV] [] h o h'
  have hdd : d - 1 + 1 ≤ d := by omega
  refine v_iconst (pc' := 1) (v := 0) dX10_named_0 rfl kI_0 ?_
  refine v_istore_n (pc' := 2) (loc' := [.ref r0, .int x1, .int x2, .int 0, uV, uV, uV, uV]) dX10_named_1 rfl (lt_l rfl) rfl ?_
  refine v_aload_n (pc' := 3) dX10_named_2 rfl rfl ?_
  refine v_iload_n (pc' := 4) dX10_named_3 rfl rfl ?_
  obtain ⟨z2, h1, k3, T⟩ := T
  refine v_callS (pc' := 7) (M1 := mX10_reached) (as := [.ref r0, .int x1]) (rest := []) dX10_named_4 rfl ko_X10_276 kc_X10_reached kt_X10_reached (by decide) hdd rfl rfl (le_l rfl) k3 ?_
  refine v_istore (pc' := 9) (loc' := [.ref r0, .int x1, .int x2, .int 0, .int z2, uV, uV, uV]) dX10_named_7 rfl (lt_l rfl) rfl ?_
  refine v_iconst (pc' := 10) (v := 0) dX10_named_9 rfl kI_0 ?_
  refine v_istore (pc' := 12) (loc' := [.ref r0, .int x1, .int x2, .int 0, .int z2, .int 0, uV, uV]) dX10_named_10 rfl (lt_l rfl) rfl ?_
  exact T
theorem bX10_named_12 {G : GG} {d : Nat} {h : Hp} {o : OU} {h' : Hp} (r0 : Nat) (x1 : Int32) (x2 : Int32) (x3 : Int32) (x4 : Int32) (x5 : Int32) (hd : 1 ≤ d) (T : ((12 ≤ x5 → (o = .inl (some (.int x3)) ∧ h' = h)) ∧ (¬ 12 ≤ x5 → ∃ z3 h2, VM G mX10_has (d - 1) [.int x4, .int x5] h (.inl (some (.int z3))) h2 ∧ ((z3 = 0 → V G mX10_named d 12 [.ref r0, .int x1, .int x2, .int x3, .int x4, .int (x5 + 1), uV, uV] [] h2 o h') ∧ (¬ z3 = 0 → ∃ z7 h6, VM G mX10_fieldOf (d - 1) [.ref r0, .int x1, .int x5, .int 1] h2 (.inl (some (.int z7))) h6 ∧ ((z7 = 2 → V G mX10_named d 47 [.ref r0, .int x1, .int x2, .int x3, .int x4, .int x5, .int 0, uV] [] h6 o h') ∧ (¬ z7 = 2 → V G mX10_named d 12 [.ref r0, .int x1, .int x2, .int x3, .int x4, .int (x5 + 1), uV, uV] [] h6 o h'))))))) : V G mX10_named d 12 [.ref r0, .int x1, .int x2, .int x3, .int x4, .int x5, uV, uV] [] h o h' := by
  have hdd : d - 1 + 1 ≤ d := by omega
  refine v_iload (pc' := 14) dX10_named_12 rfl rfl ?_
  refine v_bipush (pc' := 16) (v := 12) dX10_named_14 rfl kB_12 ?_
  refine v_icmp_ge (tgt := 110) (pc' := 19) dX10_named_16 (by decide) rfl ⟨fun c1 => ?_, fun c1 => ?_⟩
  · have T := T.1 c1
    refine v_iload_n (pc' := 111) dX10_named_110 rfl rfl ?_
    exact v_iret dX10_named_111 rfl T
  · have T := T.2 c1
    refine v_iload (pc' := 21) dX10_named_19 rfl rfl ?_
    refine v_iload (pc' := 23) dX10_named_21 rfl rfl ?_
    obtain ⟨z3, h2, k4, T⟩ := T
    refine v_callS (pc' := 26) (M1 := mX10_has) (as := [.int x4, .int x5]) (rest := []) dX10_named_23 rfl ko_X10_193 kc_X10_has kt_X10_has (by decide) hdd rfl rfl (le_l rfl) k4 ?_
    refine v_if_eq (tgt := 104) (pc' := 29) dX10_named_26 (by decide) rfl ⟨fun c5 => ?_, fun c5 => ?_⟩
    · have T := T.1 c5
      refine v_iinc (pc' := 107) (loc' := [.ref r0, .int x1, .int x2, .int x3, .int x4, .int (x5 + 1), uV, uV]) dX10_named_104 rfl rfl (kX_1 _) rfl ?_
      refine v_goto (pc' := 12) dX10_named_107 (by decide) ?_
      exact T
    · have T := T.2 c5
      refine v_aload_n (pc' := 30) dX10_named_29 rfl rfl ?_
      refine v_iload_n (pc' := 31) dX10_named_30 rfl rfl ?_
      refine v_iload (pc' := 33) dX10_named_31 rfl rfl ?_
      refine v_iconst (pc' := 34) (v := 1) dX10_named_33 rfl kI_1 ?_
      obtain ⟨z7, h6, k8, T⟩ := T
      refine v_callS (pc' := 37) (M1 := mX10_fieldOf) (as := [.ref r0, .int x1, .int x5, .int 1]) (rest := []) dX10_named_34 rfl ko_X10_233 kc_X10_fieldOf kt_X10_fieldOf (by decide) hdd rfl rfl (le_l rfl) k8 ?_
      refine v_iconst (pc' := 38) (v := 2) dX10_named_37 rfl kI_2 ?_
      refine v_icmp_eq (tgt := 44) (pc' := 41) dX10_named_38 (by decide) rfl ⟨fun c9 => ?_, fun c9 => ?_⟩
      · have T := T.1 c9
        refine v_iconst (pc' := 45) (v := 0) dX10_named_44 rfl kI_0 ?_
        refine v_istore (pc' := 47) (loc' := [.ref r0, .int x1, .int x2, .int x3, .int x4, .int x5, .int 0, uV]) dX10_named_45 rfl (lt_l rfl) rfl ?_
        exact T
      · have T := T.2 c9
        refine v_goto (pc' := 104) dX10_named_41 (by decide) ?_
        refine v_iinc (pc' := 107) (loc' := [.ref r0, .int x1, .int x2, .int x3, .int x4, .int (x5 + 1), uV, uV]) dX10_named_104 rfl rfl (kX_1 _) rfl ?_
        refine v_goto (pc' := 12) dX10_named_107 (by decide) ?_
        exact T
theorem bX10_named_47 {G : GG} {d : Nat} {h : Hp} {o : OU} {h' : Hp} (r0 : Nat) (x1 : Int32) (x2 : Int32) (x3 : Int32) (x4 : Int32) (x5 : Int32) (x6 : Int32) (hd : 1 ≤ d) (T : ∃ z2 h1, VM G mX10_entryOf (d - 1) [.ref r0, .int x1, .int x5, .int x6] h (.inl (some (.int z2))) h1 ∧ ((z2 = (-1) → V G mX10_named d 12 [.ref r0, .int x1, .int x2, .int x3, .int x4, .int (x5 + 1), uV, uV] [] h1 o h') ∧ (¬ z2 = (-1) → ∃ z6 h5, VM G mX10_entryOf (d - 1) [.ref r0, .int x1, .int x5, .int x6] h1 (.inl (some (.int z6))) h5 ∧ kH h5 r0 = 1 ∧ vp_in (x1 + z6) (lH h5 r0) ∧ (((h5.2 r0 (x1 + z6).toNatClampNeg) = 0 → V G mX10_named d 47 [.ref r0, .int x1, .int x2, .int (x3 + 0), .int x4, .int x5, .int (x6 + 1), uV] [] h5 o h') ∧ (¬ (h5.2 r0 (x1 + z6).toNatClampNeg) = 0 → vp_in ((x1 + z6) + 1) (lH h5 r0) ∧ ((¬ (h5.2 r0 ((x1 + z6) + 1).toNatClampNeg) = x2 → V G mX10_named d 47 [.ref r0, .int x1, .int x2, .int (x3 + 0), .int x4, .int x5, .int (x6 + 1), uV] [] h5 o h') ∧ ((h5.2 r0 ((x1 + z6) + 1).toNatClampNeg) = x2 → V G mX10_named d 47 [.ref r0, .int x1, .int x2, .int (x3 + 1), .int x4, .int x5, .int (x6 + 1), uV] [] h5 o h'))))))) : V G mX10_named d 47 [.ref r0, .int x1, .int x2, .int x3, .int x4, .int x5, .int x6, uV] [] h o h' := by
  have hdd : d - 1 + 1 ≤ d := by omega
  refine v_aload_n (pc' := 48) dX10_named_47 rfl rfl ?_
  refine v_iload_n (pc' := 49) dX10_named_48 rfl rfl ?_
  refine v_iload (pc' := 51) dX10_named_49 rfl rfl ?_
  refine v_iload (pc' := 53) dX10_named_51 rfl rfl ?_
  obtain ⟨z2, h1, k3, T⟩ := T
  refine v_callS (pc' := 56) (M1 := mX10_entryOf) (as := [.ref r0, .int x1, .int x5, .int x6]) (rest := []) dX10_named_53 rfl ko_X10_270 kc_X10_entryOf kt_X10_entryOf (by decide) hdd rfl rfl (le_l rfl) k3 ?_
  refine v_iconst (pc' := 57) (v := (-1)) dX10_named_56 rfl kI_m1 ?_
  refine v_icmp_eq (tgt := 104) (pc' := 60) dX10_named_57 (by decide) rfl ⟨fun c4 => ?_, fun c4 => ?_⟩
  · have T := T.1 c4
    refine v_iinc (pc' := 107) (loc' := [.ref r0, .int x1, .int x2, .int x3, .int x4, .int (x5 + 1), .int x6, uV]) dX10_named_104 rfl rfl (kX_1 _) rfl ?_
    refine v_goto (pc' := 12) dX10_named_107 (by decide) ?_
    exact V.drop (llp_r (llp_r (llp_r (llp_r (llp_r (llp_r (llp_u (llp_r llp_nil)))))))) T
  · have T := T.2 c4
    refine v_iload_n (pc' := 61) dX10_named_60 rfl rfl ?_
    refine v_aload_n (pc' := 62) dX10_named_61 rfl rfl ?_
    refine v_iload_n (pc' := 63) dX10_named_62 rfl rfl ?_
    refine v_iload (pc' := 65) dX10_named_63 rfl rfl ?_
    refine v_iload (pc' := 67) dX10_named_65 rfl rfl ?_
    obtain ⟨z6, h5, k7, T⟩ := T
    refine v_callS (pc' := 70) (M1 := mX10_entryOf) (as := [.ref r0, .int x1, .int x5, .int x6]) (rest := [.int x1]) dX10_named_67 rfl ko_X10_270 kc_X10_entryOf kt_X10_entryOf (by decide) hdd rfl rfl (le_l rfl) k7 ?_
    refine v_iadd (pc' := 71) dX10_named_70 rfl ?_
    refine v_istore (pc' := 73) (loc' := [.ref r0, .int x1, .int x2, .int x3, .int x4, .int x5, .int x6, .int (x1 + z6)]) dX10_named_71 rfl (lt_l rfl) rfl ?_
    refine v_iload_n (pc' := 74) dX10_named_73 rfl rfl ?_
    refine v_aload_n (pc' := 75) dX10_named_74 rfl rfl ?_
    refine v_iload (pc' := 77) dX10_named_75 rfl rfl ?_
    obtain ⟨q8, T⟩ := T
    obtain ⟨q9, T⟩ := T
    refine v_iald (pc' := 78) dX10_named_77 rfl rfl q8 q9 ?_
    refine v_if_eq (tgt := 95) (pc' := 81) dX10_named_78 (by decide) rfl ⟨fun c10 => ?_, fun c10 => ?_⟩
    · have T := T.1 c10
      refine v_iconst (pc' := 96) (v := 0) dX10_named_95 rfl kI_0 ?_
      refine v_iadd (pc' := 97) dX10_named_96 rfl ?_
      refine v_istore_n (pc' := 98) (loc' := [.ref r0, .int x1, .int x2, .int (x3 + 0), .int x4, .int x5, .int x6, .int (x1 + z6)]) dX10_named_97 rfl (lt_l rfl) rfl ?_
      refine v_iinc (pc' := 101) (loc' := [.ref r0, .int x1, .int x2, .int (x3 + 0), .int x4, .int x5, .int (x6 + 1), .int (x1 + z6)]) dX10_named_98 rfl rfl (kX_1 _) rfl ?_
      refine v_goto (pc' := 47) dX10_named_101 (by decide) ?_
      exact V.drop (llp_r (llp_r (llp_r (llp_r (llp_r (llp_r (llp_r (llp_u llp_nil)))))))) T
    · have T := T.2 c10
      refine v_aload_n (pc' := 82) dX10_named_81 rfl rfl ?_
      refine v_iload (pc' := 84) dX10_named_82 rfl rfl ?_
      refine v_iconst (pc' := 85) (v := 1) dX10_named_84 rfl kI_1 ?_
      refine v_iadd (pc' := 86) dX10_named_85 rfl ?_
      obtain ⟨q11, T⟩ := T
      refine v_iald (pc' := 87) dX10_named_86 rfl rfl q8 q11 ?_
      refine v_iload_n (pc' := 88) dX10_named_87 rfl rfl ?_
      refine v_icmp_ne (tgt := 95) (pc' := 91) dX10_named_88 (by decide) rfl ⟨fun c12 => ?_, fun c12 => ?_⟩
      · have T := T.1 c12
        refine v_iconst (pc' := 96) (v := 0) dX10_named_95 rfl kI_0 ?_
        refine v_iadd (pc' := 97) dX10_named_96 rfl ?_
        refine v_istore_n (pc' := 98) (loc' := [.ref r0, .int x1, .int x2, .int (x3 + 0), .int x4, .int x5, .int x6, .int (x1 + z6)]) dX10_named_97 rfl (lt_l rfl) rfl ?_
        refine v_iinc (pc' := 101) (loc' := [.ref r0, .int x1, .int x2, .int (x3 + 0), .int x4, .int x5, .int (x6 + 1), .int (x1 + z6)]) dX10_named_98 rfl rfl (kX_1 _) rfl ?_
        refine v_goto (pc' := 47) dX10_named_101 (by decide) ?_
        exact V.drop (llp_r (llp_r (llp_r (llp_r (llp_r (llp_r (llp_r (llp_u llp_nil)))))))) T
      · have T := T.2 c12
        refine v_iconst (pc' := 92) (v := 1) dX10_named_91 rfl kI_1 ?_
        refine v_goto (pc' := 96) dX10_named_92 (by decide) ?_
        refine v_iadd (pc' := 97) dX10_named_96 rfl ?_
        refine v_istore_n (pc' := 98) (loc' := [.ref r0, .int x1, .int x2, .int (x3 + 1), .int x4, .int x5, .int x6, .int (x1 + z6)]) dX10_named_97 rfl (lt_l rfl) rfl ?_
        refine v_iinc (pc' := 101) (loc' := [.ref r0, .int x1, .int x2, .int (x3 + 1), .int x4, .int x5, .int (x6 + 1), .int (x1 + z6)]) dX10_named_98 rfl rfl (kX_1 _) rfl ?_
        refine v_goto (pc' := 47) dX10_named_101 (by decide) ?_
        exact V.drop (llp_r (llp_r (llp_r (llp_r (llp_r (llp_r (llp_r (llp_u llp_nil)))))))) T
theorem eX10_later {G : GG} {d : Nat} {h : Hp} {o : OU} {h' : Hp} (r0 : Nat) (x1 : Int32) (x2 : Int32) (T : V G mX10_later d 5 [.ref r0, .int x1, .int x2, .int 0, .int 0] [] h o h') : VM G mX10_later d [.ref r0, .int x1, .int x2] h o h' := by
  refine V.toM rfl rfl (le_l rfl) (cat_all rfl) ?_
  show V G mX10_later d 0 [.ref r0, .int x1, .int x2, uV, uV] [] h o h'
  refine v_iconst (pc' := 1) (v := 0) dX10_later_0 rfl kI_0 ?_
  refine v_istore_n (pc' := 2) (loc' := [.ref r0, .int x1, .int x2, .int 0, uV]) dX10_later_1 rfl (lt_l rfl) rfl ?_
  refine v_iconst (pc' := 3) (v := 0) dX10_later_2 rfl kI_0 ?_
  refine v_istore (pc' := 5) (loc' := [.ref r0, .int x1, .int x2, .int 0, .int 0]) dX10_later_3 rfl (lt_l rfl) rfl ?_
  exact T
theorem bX10_later_5 {G : GG} {d : Nat} {h : Hp} {o : OU} {h' : Hp} (r0 : Nat) (x1 : Int32) (x2 : Int32) (x3 : Int32) (x4 : Int32) (T : kH h r0 = 1 ∧ vp_in 3393 (lH h r0) ∧ (((h.2 r0 3393) ≤ x4 → (o = .inl (some (.int x3)) ∧ h' = h)) ∧ (¬ (h.2 r0 3393) ≤ x4 → vp_in (2912 + (3 * x4)) (lH h r0) ∧ ((¬ (h.2 r0 (2912 + (3 * x4)).toNatClampNeg) = x1 → V G mX10_later d 5 [.ref r0, .int x1, .int x2, .int (x3 + 0), .int (x4 + 1)] [] h o h') ∧ ((h.2 r0 (2912 + (3 * x4)).toNatClampNeg) = x1 → vp_in ((2912 + (3 * x4)) + 1) (lH h r0) ∧ ((¬ (h.2 r0 ((2912 + (3 * x4)) + 1).toNatClampNeg) = x2 → V G mX10_later d 5 [.ref r0, .int x1, .int x2, .int (x3 + 0), .int (x4 + 1)] [] h o h') ∧ ((h.2 r0 ((2912 + (3 * x4)) + 1).toNatClampNeg) = x2 → V G mX10_later d 5 [.ref r0, .int x1, .int x2, .int (x3 + 1), .int (x4 + 1)] [] h o h'))))))) : V G mX10_later d 5 [.ref r0, .int x1, .int x2, .int x3, .int x4] [] h o h' := by
  refine v_iload (pc' := 7) dX10_later_5 rfl rfl ?_
  refine v_aload_n (pc' := 8) dX10_later_7 rfl rfl ?_
  refine v_sipush (pc' := 11) (v := 3393) dX10_later_8 rfl kS_3393 ?_
  obtain ⟨q1, T⟩ := T
  obtain ⟨q2, T⟩ := T
  refine v_iald (pc' := 12) dX10_later_11 rfl kN_3393 q1 q2 ?_
  refine v_icmp_ge (tgt := 59) (pc' := 15) dX10_later_12 (by decide) rfl ⟨fun c3 => ?_, fun c3 => ?_⟩
  · have T := T.1 c3
    refine v_iload_n (pc' := 60) dX10_later_59 rfl rfl ?_
    exact v_iret dX10_later_60 rfl T
  · have T := T.2 c3
    refine v_iload_n (pc' := 16) dX10_later_15 rfl rfl ?_
    refine v_aload_n (pc' := 17) dX10_later_16 rfl rfl ?_
    refine v_sipush (pc' := 20) (v := 2912) dX10_later_17 rfl kS_2912 ?_
    refine v_iconst (pc' := 21) (v := 3) dX10_later_20 rfl kI_3 ?_
    refine v_iload (pc' := 23) dX10_later_21 rfl rfl ?_
    refine v_imul (pc' := 24) dX10_later_23 rfl ?_
    refine v_iadd (pc' := 25) dX10_later_24 rfl ?_
    obtain ⟨q4, T⟩ := T
    refine v_iald (pc' := 26) dX10_later_25 rfl rfl q1 q4 ?_
    refine v_iload_n (pc' := 27) dX10_later_26 rfl rfl ?_
    refine v_icmp_ne (tgt := 50) (pc' := 30) dX10_later_27 (by decide) rfl ⟨fun c5 => ?_, fun c5 => ?_⟩
    · have T := T.1 c5
      refine v_iconst (pc' := 51) (v := 0) dX10_later_50 rfl kI_0 ?_
      refine v_iadd (pc' := 52) dX10_later_51 rfl ?_
      refine v_istore_n (pc' := 53) (loc' := [.ref r0, .int x1, .int x2, .int (x3 + 0), .int x4]) dX10_later_52 rfl (lt_l rfl) rfl ?_
      refine v_iinc (pc' := 56) (loc' := [.ref r0, .int x1, .int x2, .int (x3 + 0), .int (x4 + 1)]) dX10_later_53 rfl rfl (kX_1 _) rfl ?_
      refine v_goto (pc' := 5) dX10_later_56 (by decide) ?_
      exact T
    · have T := T.2 c5
      refine v_aload_n (pc' := 31) dX10_later_30 rfl rfl ?_
      refine v_sipush (pc' := 34) (v := 2912) dX10_later_31 rfl kS_2912 ?_
      refine v_iconst (pc' := 35) (v := 3) dX10_later_34 rfl kI_3 ?_
      refine v_iload (pc' := 37) dX10_later_35 rfl rfl ?_
      refine v_imul (pc' := 38) dX10_later_37 rfl ?_
      refine v_iadd (pc' := 39) dX10_later_38 rfl ?_
      refine v_iconst (pc' := 40) (v := 1) dX10_later_39 rfl kI_1 ?_
      refine v_iadd (pc' := 41) dX10_later_40 rfl ?_
      obtain ⟨q6, T⟩ := T
      refine v_iald (pc' := 42) dX10_later_41 rfl rfl q1 q6 ?_
      refine v_iload_n (pc' := 43) dX10_later_42 rfl rfl ?_
      refine v_icmp_ne (tgt := 50) (pc' := 46) dX10_later_43 (by decide) rfl ⟨fun c7 => ?_, fun c7 => ?_⟩
      · have T := T.1 c7
        refine v_iconst (pc' := 51) (v := 0) dX10_later_50 rfl kI_0 ?_
        refine v_iadd (pc' := 52) dX10_later_51 rfl ?_
        refine v_istore_n (pc' := 53) (loc' := [.ref r0, .int x1, .int x2, .int (x3 + 0), .int x4]) dX10_later_52 rfl (lt_l rfl) rfl ?_
        refine v_iinc (pc' := 56) (loc' := [.ref r0, .int x1, .int x2, .int (x3 + 0), .int (x4 + 1)]) dX10_later_53 rfl rfl (kX_1 _) rfl ?_
        refine v_goto (pc' := 5) dX10_later_56 (by decide) ?_
        exact T
      · have T := T.2 c7
        refine v_iconst (pc' := 47) (v := 1) dX10_later_46 rfl kI_1 ?_
        refine v_goto (pc' := 51) dX10_later_47 (by decide) ?_
        refine v_iadd (pc' := 52) dX10_later_51 rfl ?_
        refine v_istore_n (pc' := 53) (loc' := [.ref r0, .int x1, .int x2, .int (x3 + 1), .int x4]) dX10_later_52 rfl (lt_l rfl) rfl ?_
        refine v_iinc (pc' := 56) (loc' := [.ref r0, .int x1, .int x2, .int (x3 + 1), .int (x4 + 1)]) dX10_later_53 rfl rfl (kX_1 _) rfl ?_
        refine v_goto (pc' := 5) dX10_later_56 (by decide) ?_
        exact T
theorem eX10_pointer {G : GG} {d : Nat} {h : Hp} {o : OU} {h' : Hp} (r0 : Nat) (x1 : Int32) (x2 : Int32) (x3 : Int32) (T : V G mX10_pointer d 3 [.ref r0, .int x1, .int x2, .int x3, .int 0] [] h o h') : VM G mX10_pointer d [.ref r0, .int x1, .int x2, .int x3] h o h' := by
  refine V.toM rfl rfl (le_l rfl) (cat_all rfl) ?_
  show V G mX10_pointer d 0 [.ref r0, .int x1, .int x2, .int x3, uV] [] h o h'
  refine v_iconst (pc' := 1) (v := 0) dX10_pointer_0 rfl kI_0 ?_
  refine v_istore (pc' := 3) (loc' := [.ref r0, .int x1, .int x2, .int x3, .int 0]) dX10_pointer_1 rfl (lt_l rfl) rfl ?_
  exact T
theorem bX10_pointer_3 {G : GG} {d : Nat} {h : Hp} {o : OU} {h' : Hp} (r0 : Nat) (x1 : Int32) (x2 : Int32) (x3 : Int32) (x4 : Int32) (hd : 1 ≤ d) (T : ((12 ≤ x4 → (o = .inl (some (.int (-1))) ∧ h' = h)) ∧ (¬ 12 ≤ x4 → ∃ z3 h2, VM G mX10_has (d - 1) [.int x2, .int x4] h (.inl (some (.int z3))) h2 ∧ ((z3 = 0 → V G mX10_pointer d 3 [.ref r0, .int x1, .int x2, .int x3, .int (x4 + 1)] [] h2 o h') ∧ (¬ z3 = 0 → ∃ z7 h6, VM G mX10_fieldOf (d - 1) [.ref r0, .int x1, .int x4, .int 2] h2 (.inl (some (.int z7))) h6 ∧ ((z7 = x3 → (o = .inl (some (.int x4)) ∧ h' = h6)) ∧ (¬ z7 = x3 → ∃ z11 h10, VM G mX10_fieldOf (d - 1) [.ref r0, .int x1, .int x4, .int 3] h6 (.inl (some (.int z11))) h10 ∧ ((¬ z11 = x3 → V G mX10_pointer d 3 [.ref r0, .int x1, .int x2, .int x3, .int (x4 + 1)] [] h10 o h') ∧ (z11 = x3 → (o = .inl (some (.int x4)) ∧ h' = h10)))))))))) : V G mX10_pointer d 3 [.ref r0, .int x1, .int x2, .int x3, .int x4] [] h o h' := by
  have hdd : d - 1 + 1 ≤ d := by omega
  refine v_iload (pc' := 5) dX10_pointer_3 rfl rfl ?_
  refine v_bipush (pc' := 7) (v := 12) dX10_pointer_5 rfl kB_12 ?_
  refine v_icmp_ge (tgt := 52) (pc' := 10) dX10_pointer_7 (by decide) rfl ⟨fun c1 => ?_, fun c1 => ?_⟩
  · have T := T.1 c1
    refine v_iconst (pc' := 53) (v := (-1)) dX10_pointer_52 rfl kI_m1 ?_
    exact v_iret dX10_pointer_53 rfl T
  · have T := T.2 c1
    refine v_iload_n (pc' := 11) dX10_pointer_10 rfl rfl ?_
    refine v_iload (pc' := 13) dX10_pointer_11 rfl rfl ?_
    obtain ⟨z3, h2, k4, T⟩ := T
    refine v_callS (pc' := 16) (M1 := mX10_has) (as := [.int x2, .int x4]) (rest := []) dX10_pointer_13 rfl ko_X10_193 kc_X10_has kt_X10_has (by decide) hdd rfl rfl (le_l rfl) k4 ?_
    refine v_if_eq (tgt := 46) (pc' := 19) dX10_pointer_16 (by decide) rfl ⟨fun c5 => ?_, fun c5 => ?_⟩
    · have T := T.1 c5
      refine v_iinc (pc' := 49) (loc' := [.ref r0, .int x1, .int x2, .int x3, .int (x4 + 1)]) dX10_pointer_46 rfl rfl (kX_1 _) rfl ?_
      refine v_goto (pc' := 3) dX10_pointer_49 (by decide) ?_
      exact T
    · have T := T.2 c5
      refine v_aload_n (pc' := 20) dX10_pointer_19 rfl rfl ?_
      refine v_iload_n (pc' := 21) dX10_pointer_20 rfl rfl ?_
      refine v_iload (pc' := 23) dX10_pointer_21 rfl rfl ?_
      refine v_iconst (pc' := 24) (v := 2) dX10_pointer_23 rfl kI_2 ?_
      obtain ⟨z7, h6, k8, T⟩ := T
      refine v_callS (pc' := 27) (M1 := mX10_fieldOf) (as := [.ref r0, .int x1, .int x4, .int 2]) (rest := []) dX10_pointer_24 rfl ko_X10_233 kc_X10_fieldOf kt_X10_fieldOf (by decide) hdd rfl rfl (le_l rfl) k8 ?_
      refine v_iload_n (pc' := 28) dX10_pointer_27 rfl rfl ?_
      refine v_icmp_eq (tgt := 43) (pc' := 31) dX10_pointer_28 (by decide) rfl ⟨fun c9 => ?_, fun c9 => ?_⟩
      · have T := T.1 c9
        refine v_iload (pc' := 45) dX10_pointer_43 rfl rfl ?_
        exact v_iret dX10_pointer_45 rfl T
      · have T := T.2 c9
        refine v_aload_n (pc' := 32) dX10_pointer_31 rfl rfl ?_
        refine v_iload_n (pc' := 33) dX10_pointer_32 rfl rfl ?_
        refine v_iload (pc' := 35) dX10_pointer_33 rfl rfl ?_
        refine v_iconst (pc' := 36) (v := 3) dX10_pointer_35 rfl kI_3 ?_
        obtain ⟨z11, h10, k12, T⟩ := T
        refine v_callS (pc' := 39) (M1 := mX10_fieldOf) (as := [.ref r0, .int x1, .int x4, .int 3]) (rest := []) dX10_pointer_36 rfl ko_X10_233 kc_X10_fieldOf kt_X10_fieldOf (by decide) hdd rfl rfl (le_l rfl) k12 ?_
        refine v_iload_n (pc' := 40) dX10_pointer_39 rfl rfl ?_
        refine v_icmp_ne (tgt := 46) (pc' := 43) dX10_pointer_40 (by decide) rfl ⟨fun c13 => ?_, fun c13 => ?_⟩
        · have T := T.1 c13
          refine v_iinc (pc' := 49) (loc' := [.ref r0, .int x1, .int x2, .int x3, .int (x4 + 1)]) dX10_pointer_46 rfl rfl (kX_1 _) rfl ?_
          refine v_goto (pc' := 3) dX10_pointer_49 (by decide) ?_
          exact T
        · have T := T.2 c13
          refine v_iload (pc' := 45) dX10_pointer_43 rfl rfl ?_
          exact v_iret dX10_pointer_45 rfl T
theorem eX10_linked {G : GG} {d : Nat} {h : Hp} {o : OU} {h' : Hp} (r0 : Nat) (x1 : Int32) (T : V G mX10_linked d 4 [.ref r0, .int x1, .int 0, .int 0] [] h o h') : VM G mX10_linked d [.ref r0, .int x1] h o h' := by
  refine V.toM rfl rfl (le_l rfl) (cat_all rfl) ?_
  show V G mX10_linked d 0 [.ref r0, .int x1, uV, uV] [] h o h'
  refine v_iconst (pc' := 1) (v := 0) dX10_linked_0 rfl kI_0 ?_
  refine v_istore_n (pc' := 2) (loc' := [.ref r0, .int x1, .int 0, uV]) dX10_linked_1 rfl (lt_l rfl) rfl ?_
  refine v_iconst (pc' := 3) (v := 0) dX10_linked_2 rfl kI_0 ?_
  refine v_istore_n (pc' := 4) (loc' := [.ref r0, .int x1, .int 0, .int 0]) dX10_linked_3 rfl (lt_l rfl) rfl ?_
  exact T
theorem bX10_linked_4 {G : GG} {d : Nat} {h : Hp} {o : OU} {h' : Hp} (r0 : Nat) (x1 : Int32) (x2 : Int32) (x3 : Int32) (hd : 1 ≤ d) (T : ((12 ≤ x3 → (o = .inl (some (.int x2)) ∧ h' = h)) ∧ (¬ 12 ≤ x3 → ∃ z3 h2, VM G mX10_fieldOf (d - 1) [.ref r0, .int x1, .int x3, .int 0] h (.inl (some (.int z3))) h2 ∧ ((z3 ≤ 0 → V G mX10_linked d 4 [.ref r0, .int x1, .int (x2 ||| 0), .int (x3 + 1)] [] h2 o h') ∧ (¬ z3 ≤ 0 → V G mX10_linked d 4 [.ref r0, .int x1, .int (x2 ||| (1 <<< (x3 &&& 31))), .int (x3 + 1)] [] h2 o h'))))) : V G mX10_linked d 4 [.ref r0, .int x1, .int x2, .int x3] [] h o h' := by
  have hdd : d - 1 + 1 ≤ d := by omega
  refine v_iload_n (pc' := 5) dX10_linked_4 rfl rfl ?_
  refine v_bipush (pc' := 7) (v := 12) dX10_linked_5 rfl kB_12 ?_
  refine v_icmp_ge (tgt := 36) (pc' := 10) dX10_linked_7 (by decide) rfl ⟨fun c1 => ?_, fun c1 => ?_⟩
  · have T := T.1 c1
    refine v_iload_n (pc' := 37) dX10_linked_36 rfl rfl ?_
    exact v_iret dX10_linked_37 rfl T
  · have T := T.2 c1
    refine v_iload_n (pc' := 11) dX10_linked_10 rfl rfl ?_
    refine v_aload_n (pc' := 12) dX10_linked_11 rfl rfl ?_
    refine v_iload_n (pc' := 13) dX10_linked_12 rfl rfl ?_
    refine v_iload_n (pc' := 14) dX10_linked_13 rfl rfl ?_
    refine v_iconst (pc' := 15) (v := 0) dX10_linked_14 rfl kI_0 ?_
    obtain ⟨z3, h2, k4, T⟩ := T
    refine v_callS (pc' := 18) (M1 := mX10_fieldOf) (as := [.ref r0, .int x1, .int x3, .int 0]) (rest := [.int x2]) dX10_linked_15 rfl ko_X10_233 kc_X10_fieldOf kt_X10_fieldOf (by decide) hdd rfl rfl (le_l rfl) k4 ?_
    refine v_if_le (tgt := 27) (pc' := 21) dX10_linked_18 (by decide) rfl ⟨fun c5 => ?_, fun c5 => ?_⟩
    · have T := T.1 c5
      refine v_iconst (pc' := 28) (v := 0) dX10_linked_27 rfl kI_0 ?_
      refine v_ior (pc' := 29) dX10_linked_28 rfl ?_
      refine v_istore_n (pc' := 30) (loc' := [.ref r0, .int x1, .int (x2 ||| 0), .int x3]) dX10_linked_29 rfl (lt_l rfl) rfl ?_
      refine v_iinc (pc' := 33) (loc' := [.ref r0, .int x1, .int (x2 ||| 0), .int (x3 + 1)]) dX10_linked_30 rfl rfl (kX_1 _) rfl ?_
      refine v_goto (pc' := 4) dX10_linked_33 (by decide) ?_
      exact T
    · have T := T.2 c5
      refine v_iconst (pc' := 22) (v := 1) dX10_linked_21 rfl kI_1 ?_
      refine v_iload_n (pc' := 23) dX10_linked_22 rfl rfl ?_
      refine v_ishl (pc' := 24) dX10_linked_23 rfl ?_
      refine v_goto (pc' := 28) dX10_linked_24 (by decide) ?_
      refine v_ior (pc' := 29) dX10_linked_28 rfl ?_
      refine v_istore_n (pc' := 30) (loc' := [.ref r0, .int x1, .int (x2 ||| (1 <<< (x3 &&& 31))), .int x3]) dX10_linked_29 rfl (lt_l rfl) rfl ?_
      refine v_iinc (pc' := 33) (loc' := [.ref r0, .int x1, .int (x2 ||| (1 <<< (x3 &&& 31))), .int (x3 + 1)]) dX10_linked_30 rfl rfl (kX_1 _) rfl ?_
      refine v_goto (pc' := 4) dX10_linked_33 (by decide) ?_
      exact T
theorem eX10_leaking {G : GG} {d : Nat} {h : Hp} {o : OU} {h' : Hp} (r0 : Nat) (r1 : Nat) (x2 : Int32) (hd : 1 ≤ d) (T : ∃ z2 h1, VM G mX10_reached (d - 1) [.ref r1, .int x2] h (.inl (some (.int z2))) h1 ∧ V G mX10_leaking d 12 [.ref r0, .ref r1, .int x2, .int 0, .int z2, .int 4] [] h1 o h') : VM G mX10_leaking d [.ref r0, .ref r1, .int x2] h o h' := by
  refine V.toM rfl rfl (le_l rfl) (cat_all rfl) ?_
  show V G mX10_leaking d 0 [.ref r0, .ref r1, .int x2, uV, uV, uV] [] h o h'
  have hdd : d - 1 + 1 ≤ d := by omega
  refine v_iconst (pc' := 1) (v := 0) dX10_leaking_0 rfl kI_0 ?_
  refine v_istore_n (pc' := 2) (loc' := [.ref r0, .ref r1, .int x2, .int 0, uV, uV]) dX10_leaking_1 rfl (lt_l rfl) rfl ?_
  refine v_aload_n (pc' := 3) dX10_leaking_2 rfl rfl ?_
  refine v_iload_n (pc' := 4) dX10_leaking_3 rfl rfl ?_
  obtain ⟨z2, h1, k3, T⟩ := T
  refine v_callS (pc' := 7) (M1 := mX10_reached) (as := [.ref r1, .int x2]) (rest := []) dX10_leaking_4 rfl ko_X10_276 kc_X10_reached kt_X10_reached (by decide) hdd rfl rfl (le_l rfl) k3 ?_
  refine v_istore (pc' := 9) (loc' := [.ref r0, .ref r1, .int x2, .int 0, .int z2, uV]) dX10_leaking_7 rfl (lt_l rfl) rfl ?_
  refine v_iconst (pc' := 10) (v := 4) dX10_leaking_9 rfl kI_4 ?_
  refine v_istore (pc' := 12) (loc' := [.ref r0, .ref r1, .int x2, .int 0, .int z2, .int 4]) dX10_leaking_10 rfl (lt_l rfl) rfl ?_
  exact T
theorem bX10_leaking_12 {G : GG} {d : Nat} {h : Hp} {o : OU} {h' : Hp} (r0 : Nat) (r1 : Nat) (x2 : Int32) (x3 : Int32) (x4 : Int32) (x5 : Int32) (hd : 1 ≤ d) (T : kH h r0 = 18 ∧ (((h.2 r0 11) ≤ x5 → (o = .inl (some (.int x3)) ∧ h' = h)) ∧ (¬ (h.2 r0 11) ≤ x5 → kH h r1 = 1 ∧ vp_in (x2 + x5) (lH h r1) ∧ (((h.2 r1 (x2 + x5).toNatClampNeg) = 0 → V G mX10_leaking d 12 [.ref r0, .ref r1, .int x2, .int (x3 ||| 0), .int x4, .int (x5 + 1)] [] h o h') ∧ (¬ (h.2 r1 (x2 + x5).toNatClampNeg) = 0 → ∃ z7 h6, VM G mX10_pointer (d - 1) [.ref r1, .int x2, .int x4, .int x5] h (.inl (some (.int z7))) h6 ∧ ((¬ z7 = (-1) → V G mX10_leaking d 12 [.ref r0, .ref r1, .int x2, .int (x3 ||| 0), .int x4, .int (x5 + 1)] [] h6 o h') ∧ (z7 = (-1) → V G mX10_leaking d 12 [.ref r0, .ref r1, .int x2, .int (x3 ||| (1 <<< (x5 &&& 31))), .int x4, .int (x5 + 1)] [] h6 o h'))))))) : V G mX10_leaking d 12 [.ref r0, .ref r1, .int x2, .int x3, .int x4, .int x5] [] h o h' := by
  have hdd : d - 1 + 1 ≤ d := by omega
  refine v_iload (pc' := 14) dX10_leaking_12 rfl rfl ?_
  refine v_aload_n (pc' := 15) dX10_leaking_14 rfl rfl ?_
  obtain ⟨q1, T⟩ := T
  refine v_getI (pc' := 18) 8 11 dX10_leaking_15 rfl (by decide) (by decide) rfl kf_X10_168 q1 ?_
  refine v_icmp_ge (tgt := 60) (pc' := 21) dX10_leaking_18 (by decide) rfl ⟨fun c2 => ?_, fun c2 => ?_⟩
  · have T := T.1 c2
    refine v_iload_n (pc' := 61) dX10_leaking_60 rfl rfl ?_
    exact v_iret dX10_leaking_61 rfl T
  · have T := T.2 c2
    refine v_iload_n (pc' := 22) dX10_leaking_21 rfl rfl ?_
    refine v_aload_n (pc' := 23) dX10_leaking_22 rfl rfl ?_
    refine v_iload_n (pc' := 24) dX10_leaking_23 rfl rfl ?_
    refine v_iload (pc' := 26) dX10_leaking_24 rfl rfl ?_
    refine v_iadd (pc' := 27) dX10_leaking_26 rfl ?_
    obtain ⟨q3, T⟩ := T
    obtain ⟨q4, T⟩ := T
    refine v_iald (pc' := 28) dX10_leaking_27 rfl rfl q3 q4 ?_
    refine v_if_eq (tgt := 51) (pc' := 31) dX10_leaking_28 (by decide) rfl ⟨fun c5 => ?_, fun c5 => ?_⟩
    · have T := T.1 c5
      refine v_iconst (pc' := 52) (v := 0) dX10_leaking_51 rfl kI_0 ?_
      refine v_ior (pc' := 53) dX10_leaking_52 rfl ?_
      refine v_istore_n (pc' := 54) (loc' := [.ref r0, .ref r1, .int x2, .int (x3 ||| 0), .int x4, .int x5]) dX10_leaking_53 rfl (lt_l rfl) rfl ?_
      refine v_iinc (pc' := 57) (loc' := [.ref r0, .ref r1, .int x2, .int (x3 ||| 0), .int x4, .int (x5 + 1)]) dX10_leaking_54 rfl rfl (kX_1 _) rfl ?_
      refine v_goto (pc' := 12) dX10_leaking_57 (by decide) ?_
      exact T
    · have T := T.2 c5
      refine v_aload_n (pc' := 32) dX10_leaking_31 rfl rfl ?_
      refine v_iload_n (pc' := 33) dX10_leaking_32 rfl rfl ?_
      refine v_iload (pc' := 35) dX10_leaking_33 rfl rfl ?_
      refine v_iload (pc' := 37) dX10_leaking_35 rfl rfl ?_
      obtain ⟨z7, h6, k8, T⟩ := T
      refine v_callS (pc' := 40) (M1 := mX10_pointer) (as := [.ref r1, .int x2, .int x4, .int x5]) (rest := [.int x3]) dX10_leaking_37 rfl ko_X10_306 kc_X10_pointer kt_X10_pointer (by decide) hdd rfl rfl (le_l rfl) k8 ?_
      refine v_iconst (pc' := 41) (v := (-1)) dX10_leaking_40 rfl kI_m1 ?_
      refine v_icmp_ne (tgt := 51) (pc' := 44) dX10_leaking_41 (by decide) rfl ⟨fun c9 => ?_, fun c9 => ?_⟩
      · have T := T.1 c9
        refine v_iconst (pc' := 52) (v := 0) dX10_leaking_51 rfl kI_0 ?_
        refine v_ior (pc' := 53) dX10_leaking_52 rfl ?_
        refine v_istore_n (pc' := 54) (loc' := [.ref r0, .ref r1, .int x2, .int (x3 ||| 0), .int x4, .int x5]) dX10_leaking_53 rfl (lt_l rfl) rfl ?_
        refine v_iinc (pc' := 57) (loc' := [.ref r0, .ref r1, .int x2, .int (x3 ||| 0), .int x4, .int (x5 + 1)]) dX10_leaking_54 rfl rfl (kX_1 _) rfl ?_
        refine v_goto (pc' := 12) dX10_leaking_57 (by decide) ?_
        exact T
      · have T := T.2 c9
        refine v_iconst (pc' := 45) (v := 1) dX10_leaking_44 rfl kI_1 ?_
        refine v_iload (pc' := 47) dX10_leaking_45 rfl rfl ?_
        refine v_ishl (pc' := 48) dX10_leaking_47 rfl ?_
        refine v_goto (pc' := 52) dX10_leaking_48 (by decide) ?_
        refine v_ior (pc' := 53) dX10_leaking_52 rfl ?_
        refine v_istore_n (pc' := 54) (loc' := [.ref r0, .ref r1, .int x2, .int (x3 ||| (1 <<< (x5 &&& 31))), .int x4, .int x5]) dX10_leaking_53 rfl (lt_l rfl) rfl ?_
        refine v_iinc (pc' := 57) (loc' := [.ref r0, .ref r1, .int x2, .int (x3 ||| (1 <<< (x5 &&& 31))), .int x4, .int (x5 + 1)]) dX10_leaking_54 rfl rfl (kX_1 _) rfl ?_
        refine v_goto (pc' := 12) dX10_leaking_57 (by decide) ?_
        exact T
theorem eX10_ones {G : GG} {d : Nat} {h : Hp} {o : OU} {h' : Hp} (x0 : Int32) (T : V G mX10_ones d 4 [.int x0, .int 0, .int 0] [] h o h') : VM G mX10_ones d [.int x0] h o h' := by
  refine V.toM rfl rfl (le_l rfl) (cat_all rfl) ?_
  show V G mX10_ones d 0 [.int x0, uV, uV] [] h o h'
  refine v_iconst (pc' := 1) (v := 0) dX10_ones_0 rfl kI_0 ?_
  refine v_istore_n (pc' := 2) (loc' := [.int x0, .int 0, uV]) dX10_ones_1 rfl (lt_l rfl) rfl ?_
  refine v_iconst (pc' := 3) (v := 0) dX10_ones_2 rfl kI_0 ?_
  refine v_istore_n (pc' := 4) (loc' := [.int x0, .int 0, .int 0]) dX10_ones_3 rfl (lt_l rfl) rfl ?_
  exact T
theorem bX10_ones_4 {G : GG} {d : Nat} {h : Hp} {o : OU} {h' : Hp} (x0 : Int32) (x1 : Int32) (x2 : Int32) (T : ((16 ≤ x2 → (o = .inl (some (.int x1)) ∧ h' = h)) ∧ (¬ 16 ≤ x2 → V G mX10_ones d 4 [.int x0, .int (x1 + ((x0 >>> (x2 &&& 31)) &&& 1)), .int (x2 + 1)] [] h o h'))) : V G mX10_ones d 4 [.int x0, .int x1, .int x2] [] h o h' := by
  refine v_iload_n (pc' := 5) dX10_ones_4 rfl rfl ?_
  refine v_bipush (pc' := 7) (v := 16) dX10_ones_5 rfl kB_16 ?_
  refine v_icmp_ge (tgt := 24) (pc' := 10) dX10_ones_7 (by decide) rfl ⟨fun c1 => ?_, fun c1 => ?_⟩
  · have T := T.1 c1
    refine v_iload_n (pc' := 25) dX10_ones_24 rfl rfl ?_
    exact v_iret dX10_ones_25 rfl T
  · have T := T.2 c1
    refine v_iload_n (pc' := 11) dX10_ones_10 rfl rfl ?_
    refine v_iload_n (pc' := 12) dX10_ones_11 rfl rfl ?_
    refine v_iload_n (pc' := 13) dX10_ones_12 rfl rfl ?_
    refine v_ishr (pc' := 14) dX10_ones_13 rfl ?_
    refine v_iconst (pc' := 15) (v := 1) dX10_ones_14 rfl kI_1 ?_
    refine v_iand (pc' := 16) dX10_ones_15 rfl ?_
    refine v_iadd (pc' := 17) dX10_ones_16 rfl ?_
    refine v_istore_n (pc' := 18) (loc' := [.int x0, .int (x1 + ((x0 >>> (x2 &&& 31)) &&& 1)), .int x2]) dX10_ones_17 rfl (lt_l rfl) rfl ?_
    refine v_iinc (pc' := 21) (loc' := [.int x0, .int (x1 + ((x0 >>> (x2 &&& 31)) &&& 1)), .int (x2 + 1)]) dX10_ones_18 rfl rfl (kX_1 _) rfl ?_
    refine v_goto (pc' := 4) dX10_ones_21 (by decide) ?_
    exact T
