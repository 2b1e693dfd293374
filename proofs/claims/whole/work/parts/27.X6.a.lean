theorem dX6_init_0 : decode cX6_init 0 = .ok (.aload_n 0, 1) := by decide +kernel
theorem dX6_init_1 : decode cX6_init 1 = .ok (.invokespecial 3, 3) := by decide +kernel
theorem dX6_init_4 : decode cX6_init 4 = .ok (.aload_n 0, 1) := by decide +kernel
theorem dX6_init_5 : decode cX6_init 5 = .ok (.new 9, 3) := by decide +kernel
theorem dX6_init_8 : decode cX6_init 8 = .ok (.dup, 1) := by decide +kernel
theorem dX6_init_9 : decode cX6_init 9 = .ok (.invokespecial 11, 3) := by decide +kernel
theorem dX6_init_12 : decode cX6_init 12 = .ok (.putfield 12, 3) := by decide +kernel
theorem dX6_init_15 : decode cX6_init 15 = .ok (.return_, 1) := by decide +kernel
theorem dX6_take_0 : decode cX6_take 0 = .ok (.iload_n 2, 1) := by decide +kernel
theorem dX6_take_1 : decode cX6_take 1 = .ok (.bipush 7, 2) := by decide +kernel
theorem dX6_take_3 : decode cX6_take 3 = .ok (.if_icmp .gt 23, 3) := by decide +kernel
theorem dX6_take_6 : decode cX6_take 6 = .ok (.aload_n 1, 1) := by decide +kernel
theorem dX6_take_7 : decode cX6_take 7 = .ok (.getfield 18, 3) := by decide +kernel
theorem dX6_take_10 : decode cX6_take 10 = .ok (.bipush 60, 2) := by decide +kernel
theorem dX6_take_12 : decode cX6_take 12 = .ok (.if_icmp .ge 12, 3) := by decide +kernel
theorem dX6_take_15 : decode cX6_take 15 = .ok (.aload_n 1, 1) := by decide +kernel
theorem dX6_take_16 : decode cX6_take 16 = .ok (.getfield 24, 3) := by decide +kernel
theorem dX6_take_19 : decode cX6_take 19 = .ok (.bipush 30, 2) := by decide +kernel
theorem dX6_take_21 : decode cX6_take 21 = .ok (.if_icmp .lt 5, 3) := by decide +kernel
theorem dX6_take_24 : decode cX6_take 24 = .ok (.iconst 0, 1) := by decide +kernel
theorem dX6_take_25 : decode cX6_take 25 = .ok (.ireturn, 1) := by decide +kernel
theorem dX6_take_26 : decode cX6_take 26 = .ok (.iload_n 2, 1) := by decide +kernel
theorem dX6_take_27 : decode cX6_take 27 = .ok (.tableswitch 161 0 10 #[57, 66, 75, 86, 95, 106, 113, 122, 128, 138, 155], 57) := by decide +kernel
theorem dX6_take_84 : decode cX6_take 84 = .ok (.aload_n 0, 1) := by decide +kernel
theorem dX6_take_85 : decode cX6_take 85 = .ok (.aload_n 1, 1) := by decide +kernel
theorem dX6_take_86 : decode cX6_take 86 = .ok (.iload_n 3, 1) := by decide +kernel
theorem dX6_take_87 : decode cX6_take 87 = .ok (.iload 4, 2) := by decide +kernel
theorem dX6_take_89 : decode cX6_take 89 = .ok (.invokevirtual 27, 3) := by decide +kernel
theorem dX6_take_92 : decode cX6_take 92 = .ok (.ireturn, 1) := by decide +kernel
theorem dX6_take_93 : decode cX6_take 93 = .ok (.aload_n 0, 1) := by decide +kernel
theorem dX6_take_94 : decode cX6_take 94 = .ok (.aload_n 1, 1) := by decide +kernel
theorem dX6_take_95 : decode cX6_take 95 = .ok (.iload_n 3, 1) := by decide +kernel
theorem dX6_take_96 : decode cX6_take 96 = .ok (.iload 4, 2) := by decide +kernel
theorem dX6_take_98 : decode cX6_take 98 = .ok (.invokevirtual 31, 3) := by decide +kernel
theorem dX6_take_101 : decode cX6_take 101 = .ok (.ireturn, 1) := by decide +kernel
theorem dX6_take_102 : decode cX6_take 102 = .ok (.aload_n 0, 1) := by decide +kernel
theorem dX6_take_103 : decode cX6_take 103 = .ok (.aload_n 1, 1) := by decide +kernel
theorem dX6_take_104 : decode cX6_take 104 = .ok (.iload_n 3, 1) := by decide +kernel
theorem dX6_take_105 : decode cX6_take 105 = .ok (.iload 4, 2) := by decide +kernel
theorem dX6_take_107 : decode cX6_take 107 = .ok (.iload 5, 2) := by decide +kernel
theorem dX6_take_109 : decode cX6_take 109 = .ok (.invokevirtual 34, 3) := by decide +kernel
theorem dX6_take_112 : decode cX6_take 112 = .ok (.ireturn, 1) := by decide +kernel
theorem dX6_take_113 : decode cX6_take 113 = .ok (.aload_n 0, 1) := by decide +kernel
theorem dX6_take_114 : decode cX6_take 114 = .ok (.aload_n 1, 1) := by decide +kernel
theorem dX6_take_115 : decode cX6_take 115 = .ok (.iload_n 3, 1) := by decide +kernel
theorem dX6_take_116 : decode cX6_take 116 = .ok (.iload 4, 2) := by decide +kernel
theorem dX6_take_118 : decode cX6_take 118 = .ok (.invokevirtual 38, 3) := by decide +kernel
theorem dX6_take_121 : decode cX6_take 121 = .ok (.ireturn, 1) := by decide +kernel
theorem dX6_take_122 : decode cX6_take 122 = .ok (.aload_n 0, 1) := by decide +kernel
theorem dX6_take_123 : decode cX6_take 123 = .ok (.aload_n 1, 1) := by decide +kernel
theorem dX6_take_124 : decode cX6_take 124 = .ok (.iload_n 3, 1) := by decide +kernel
theorem dX6_take_125 : decode cX6_take 125 = .ok (.iload 4, 2) := by decide +kernel
theorem dX6_take_127 : decode cX6_take 127 = .ok (.iload 5, 2) := by decide +kernel
theorem dX6_take_129 : decode cX6_take 129 = .ok (.invokevirtual 41, 3) := by decide +kernel
theorem dX6_take_132 : decode cX6_take 132 = .ok (.ireturn, 1) := by decide +kernel
theorem dX6_take_133 : decode cX6_take 133 = .ok (.aload_n 0, 1) := by decide +kernel
theorem dX6_take_134 : decode cX6_take 134 = .ok (.aload_n 1, 1) := by decide +kernel
theorem dX6_take_135 : decode cX6_take 135 = .ok (.iload_n 3, 1) := by decide +kernel
theorem dX6_take_136 : decode cX6_take 136 = .ok (.invokevirtual 44, 3) := by decide +kernel
theorem dX6_take_139 : decode cX6_take 139 = .ok (.ireturn, 1) := by decide +kernel
theorem dX6_take_140 : decode cX6_take 140 = .ok (.aload_n 0, 1) := by decide +kernel
theorem dX6_take_141 : decode cX6_take 141 = .ok (.aload_n 1, 1) := by decide +kernel
theorem dX6_take_142 : decode cX6_take 142 = .ok (.iload_n 3, 1) := by decide +kernel
theorem dX6_take_143 : decode cX6_take 143 = .ok (.iload 4, 2) := by decide +kernel
theorem dX6_take_145 : decode cX6_take 145 = .ok (.invokevirtual 48, 3) := by decide +kernel
theorem dX6_take_148 : decode cX6_take 148 = .ok (.ireturn, 1) := by decide +kernel
theorem dX6_take_149 : decode cX6_take 149 = .ok (.aload_n 0, 1) := by decide +kernel
theorem dX6_take_150 : decode cX6_take 150 = .ok (.aload_n 1, 1) := by decide +kernel
theorem dX6_take_151 : decode cX6_take 151 = .ok (.invokevirtual 51, 3) := by decide +kernel
theorem dX6_take_154 : decode cX6_take 154 = .ok (.ireturn, 1) := by decide +kernel
theorem dX6_take_155 : decode cX6_take 155 = .ok (.aload_n 0, 1) := by decide +kernel
theorem dX6_take_156 : decode cX6_take 156 = .ok (.getfield 12, 3) := by decide +kernel
theorem dX6_take_159 : decode cX6_take 159 = .ok (.aload_n 1, 1) := by decide +kernel
theorem dX6_take_160 : decode cX6_take 160 = .ok (.iload_n 3, 1) := by decide +kernel
theorem dX6_take_161 : decode cX6_take 161 = .ok (.invokevirtual 55, 3) := by decide +kernel
theorem dX6_take_164 : decode cX6_take 164 = .ok (.ireturn, 1) := by decide +kernel
theorem dX6_take_165 : decode cX6_take 165 = .ok (.aload_n 0, 1) := by decide +kernel
theorem dX6_take_166 : decode cX6_take 166 = .ok (.getfield 12, 3) := by decide +kernel
theorem dX6_take_169 : decode cX6_take 169 = .ok (.aload_n 1, 1) := by decide +kernel
theorem dX6_take_170 : decode cX6_take 170 = .ok (.invokevirtual 58, 3) := by decide +kernel
theorem dX6_take_173 : decode cX6_take 173 = .ok (.ifCond .le 7, 3) := by decide +kernel
theorem dX6_take_176 : decode cX6_take 176 = .ok (.iconst 1, 1) := by decide +kernel
theorem dX6_take_177 : decode cX6_take 177 = .ok (.goto 4, 3) := by decide +kernel
theorem dX6_take_180 : decode cX6_take 180 = .ok (.iconst 0, 1) := by decide +kernel
theorem dX6_take_181 : decode cX6_take 181 = .ok (.ireturn, 1) := by decide +kernel
theorem dX6_take_182 : decode cX6_take 182 = .ok (.aload_n 1, 1) := by decide +kernel
theorem dX6_take_183 : decode cX6_take 183 = .ok (.invokevirtual 62, 3) := by decide +kernel
theorem dX6_take_186 : decode cX6_take 186 = .ok (.iconst 1, 1) := by decide +kernel
theorem dX6_take_187 : decode cX6_take 187 = .ok (.ireturn, 1) := by decide +kernel
theorem dX6_take_188 : decode cX6_take 188 = .ok (.iconst 0, 1) := by decide +kernel
theorem dX6_take_189 : decode cX6_take 189 = .ok (.ireturn, 1) := by decide +kernel
theorem dX6_makeFile_0 : decode cX6_makeFile 0 = .ok (.aload_n 0, 1) := by decide +kernel
theorem dX6_makeFile_1 : decode cX6_makeFile 1 = .ok (.aload_n 1, 1) := by decide +kernel
theorem dX6_makeFile_2 : decode cX6_makeFile 2 = .ok (.iload_n 2, 1) := by decide +kernel
theorem dX6_makeFile_3 : decode cX6_makeFile 3 = .ok (.iload_n 3, 1) := by decide +kernel
theorem dX6_makeFile_4 : decode cX6_makeFile 4 = .ok (.invokevirtual 65, 3) := by decide +kernel
theorem dX6_makeFile_7 : decode cX6_makeFile 7 = .ok (.istore 4, 2) := by decide +kernel
theorem dX6_makeFile_9 : decode cX6_makeFile 9 = .ok (.aload_n 0, 1) := by decide +kernel
theorem dX6_makeFile_10 : decode cX6_makeFile 10 = .ok (.aload_n 1, 1) := by decide +kernel
theorem dX6_makeFile_11 : decode cX6_makeFile 11 = .ok (.invokevirtual 69, 3) := by decide +kernel
theorem dX6_makeFile_14 : decode cX6_makeFile 14 = .ok (.istore 5, 2) := by decide +kernel
theorem dX6_makeFile_16 : decode cX6_makeFile 16 = .ok (.iload 4, 2) := by decide +kernel
theorem dX6_makeFile_18 : decode cX6_makeFile 18 = .ok (.iconst (-1), 1) := by decide +kernel
theorem dX6_makeFile_19 : decode cX6_makeFile 19 = .ok (.if_icmp .eq 9, 3) := by decide +kernel
theorem dX6_makeFile_22 : decode cX6_makeFile 22 = .ok (.iload 5, 2) := by decide +kernel
theorem dX6_makeFile_24 : decode cX6_makeFile 24 = .ok (.iconst (-1), 1) := by decide +kernel
theorem dX6_makeFile_25 : decode cX6_makeFile 25 = .ok (.if_icmp .ne 5, 3) := by decide +kernel
theorem dX6_makeFile_28 : decode cX6_makeFile 28 = .ok (.iconst 0, 1) := by decide +kernel
theorem dX6_makeFile_29 : decode cX6_makeFile 29 = .ok (.ireturn, 1) := by decide +kernel
theorem dX6_makeFile_30 : decode cX6_makeFile 30 = .ok (.aload_n 1, 1) := by decide +kernel
theorem dX6_makeFile_31 : decode cX6_makeFile 31 = .ok (.iload 5, 2) := by decide +kernel
theorem dX6_makeFile_33 : decode cX6_makeFile 33 = .ok (.iconst 0, 1) := by decide +kernel
theorem dX6_makeFile_34 : decode cX6_makeFile 34 = .ok (.iconst 1, 1) := by decide +kernel
theorem dX6_makeFile_35 : decode cX6_makeFile 35 = .ok (.invokevirtual 72, 3) := by decide +kernel
theorem dX6_makeFile_38 : decode cX6_makeFile 38 = .ok (.istore 6, 2) := by decide +kernel
theorem dX6_makeFile_40 : decode cX6_makeFile 40 = .ok (.aload_n 1, 1) := by decide +kernel
theorem dX6_makeFile_41 : decode cX6_makeFile 41 = .ok (.iload 5, 2) := by decide +kernel
theorem dX6_makeFile_43 : decode cX6_makeFile 43 = .ok (.iconst 1, 1) := by decide +kernel
theorem dX6_makeFile_44 : decode cX6_makeFile 44 = .ok (.iconst 1, 1) := by decide +kernel
theorem dX6_makeFile_45 : decode cX6_makeFile 45 = .ok (.invokevirtual 72, 3) := by decide +kernel
theorem dX6_makeFile_48 : decode cX6_makeFile 48 = .ok (.istore 7, 2) := by decide +kernel
theorem dX6_makeFile_50 : decode cX6_makeFile 50 = .ok (.aload_n 0, 1) := by decide +kernel
theorem dX6_makeFile_51 : decode cX6_makeFile 51 = .ok (.aload_n 1, 1) := by decide +kernel
theorem dX6_makeFile_52 : decode cX6_makeFile 52 = .ok (.iload 4, 2) := by decide +kernel
theorem dX6_makeFile_54 : decode cX6_makeFile 54 = .ok (.iload 5, 2) := by decide +kernel
theorem dX6_makeFile_56 : decode cX6_makeFile 56 = .ok (.iload_n 3, 1) := by decide +kernel
theorem dX6_makeFile_57 : decode cX6_makeFile 57 = .ok (.invokevirtual 76, 3) := by decide +kernel
theorem dX6_makeFile_60 : decode cX6_makeFile 60 = .ok (.istore 8, 2) := by decide +kernel
theorem dX6_makeFile_62 : decode cX6_makeFile 62 = .ok (.aload_n 1, 1) := by decide +kernel
theorem dX6_makeFile_63 : decode cX6_makeFile 63 = .ok (.iload 8, 2) := by decide +kernel
theorem dX6_makeFile_65 : decode cX6_makeFile 65 = .ok (.iload 6, 2) := by decide +kernel
theorem dX6_makeFile_67 : decode cX6_makeFile 67 = .ok (.invokevirtual 80, 3) := by decide +kernel
theorem dX6_makeFile_70 : decode cX6_makeFile 70 = .ok (.aload_n 1, 1) := by decide +kernel
theorem dX6_makeFile_71 : decode cX6_makeFile 71 = .ok (.iload 8, 2) := by decide +kernel
theorem dX6_makeFile_73 : decode cX6_makeFile 73 = .ok (.iload 7, 2) := by decide +kernel
theorem dX6_makeFile_75 : decode cX6_makeFile 75 = .ok (.invokevirtual 80, 3) := by decide +kernel
theorem dX6_makeFile_78 : decode cX6_makeFile 78 = .ok (.iconst 1, 1) := by decide +kernel
theorem dX6_makeFile_79 : decode cX6_makeFile 79 = .ok (.ireturn, 1) := by decide +kernel
theorem dX6_makeDirectory_0 : decode cX6_makeDirectory 0 = .ok (.aload_n 0, 1) := by decide +kernel
theorem dX6_makeDirectory_1 : decode cX6_makeDirectory 1 = .ok (.aload_n 1, 1) := by decide +kernel
theorem dX6_makeDirectory_2 : decode cX6_makeDirectory 2 = .ok (.iload_n 2, 1) := by decide +kernel
theorem dX6_makeDirectory_3 : decode cX6_makeDirectory 3 = .ok (.iload_n 3, 1) := by decide +kernel
theorem dX6_makeDirectory_4 : decode cX6_makeDirectory 4 = .ok (.invokevirtual 65, 3) := by decide +kernel
theorem dX6_makeDirectory_7 : decode cX6_makeDirectory 7 = .ok (.istore 4, 2) := by decide +kernel
theorem dX6_makeDirectory_9 : decode cX6_makeDirectory 9 = .ok (.aload_n 0, 1) := by decide +kernel
theorem dX6_makeDirectory_10 : decode cX6_makeDirectory 10 = .ok (.aload_n 1, 1) := by decide +kernel
theorem dX6_makeDirectory_11 : decode cX6_makeDirectory 11 = .ok (.invokevirtual 69, 3) := by decide +kernel
theorem dX6_makeDirectory_14 : decode cX6_makeDirectory 14 = .ok (.istore 5, 2) := by decide +kernel
theorem dX6_makeDirectory_16 : decode cX6_makeDirectory 16 = .ok (.aload_n 0, 1) := by decide +kernel
theorem dX6_makeDirectory_17 : decode cX6_makeDirectory 17 = .ok (.aload_n 1, 1) := by decide +kernel
theorem dX6_makeDirectory_18 : decode cX6_makeDirectory 18 = .ok (.invokevirtual 84, 3) := by decide +kernel
theorem dX6_makeDirectory_21 : decode cX6_makeDirectory 21 = .ok (.istore 6, 2) := by decide +kernel
theorem dX6_makeDirectory_23 : decode cX6_makeDirectory 23 = .ok (.iload 4, 2) := by decide +kernel
theorem dX6_makeDirectory_25 : decode cX6_makeDirectory 25 = .ok (.iconst (-1), 1) := by decide +kernel
theorem dX6_makeDirectory_26 : decode cX6_makeDirectory 26 = .ok (.if_icmp .eq 15, 3) := by decide +kernel
theorem dX6_makeDirectory_29 : decode cX6_makeDirectory 29 = .ok (.iload 5, 2) := by decide +kernel
theorem dX6_makeDirectory_31 : decode cX6_makeDirectory 31 = .ok (.iconst (-1), 1) := by decide +kernel
theorem dX6_makeDirectory_32 : decode cX6_makeDirectory 32 = .ok (.if_icmp .eq 9, 3) := by decide +kernel
theorem dX6_makeDirectory_35 : decode cX6_makeDirectory 35 = .ok (.iload 6, 2) := by decide +kernel
theorem dX6_makeDirectory_37 : decode cX6_makeDirectory 37 = .ok (.iconst (-1), 1) := by decide +kernel
theorem dX6_makeDirectory_38 : decode cX6_makeDirectory 38 = .ok (.if_icmp .ne 5, 3) := by decide +kernel
theorem dX6_makeDirectory_41 : decode cX6_makeDirectory 41 = .ok (.iconst 0, 1) := by decide +kernel
theorem dX6_makeDirectory_42 : decode cX6_makeDirectory 42 = .ok (.ireturn, 1) := by decide +kernel
theorem dX6_makeDirectory_43 : decode cX6_makeDirectory 43 = .ok (.aload_n 1, 1) := by decide +kernel
theorem dX6_makeDirectory_44 : decode cX6_makeDirectory 44 = .ok (.iload 5, 2) := by decide +kernel
theorem dX6_makeDirectory_46 : decode cX6_makeDirectory 46 = .ok (.iconst 0, 1) := by decide +kernel
theorem dX6_makeDirectory_47 : decode cX6_makeDirectory 47 = .ok (.iconst 1, 1) := by decide +kernel
theorem dX6_makeDirectory_48 : decode cX6_makeDirectory 48 = .ok (.invokevirtual 72, 3) := by decide +kernel
theorem dX6_makeDirectory_51 : decode cX6_makeDirectory 51 = .ok (.istore 7, 2) := by decide +kernel
theorem dX6_makeDirectory_53 : decode cX6_makeDirectory 53 = .ok (.aload_n 1, 1) := by decide +kernel
theorem dX6_makeDirectory_54 : decode cX6_makeDirectory 54 = .ok (.iload 5, 2) := by decide +kernel
theorem dX6_makeDirectory_56 : decode cX6_makeDirectory 56 = .ok (.iconst 1, 1) := by decide +kernel
theorem dX6_makeDirectory_57 : decode cX6_makeDirectory 57 = .ok (.iconst 2, 1) := by decide +kernel
theorem dX6_makeDirectory_58 : decode cX6_makeDirectory 58 = .ok (.invokevirtual 72, 3) := by decide +kernel
theorem dX6_makeDirectory_61 : decode cX6_makeDirectory 61 = .ok (.istore 8, 2) := by decide +kernel
theorem dX6_makeDirectory_63 : decode cX6_makeDirectory 63 = .ok (.aload_n 0, 1) := by decide +kernel
theorem dX6_makeDirectory_64 : decode cX6_makeDirectory 64 = .ok (.aload_n 1, 1) := by decide +kernel
theorem dX6_makeDirectory_65 : decode cX6_makeDirectory 65 = .ok (.iload 5, 2) := by decide +kernel
theorem dX6_makeDirectory_67 : decode cX6_makeDirectory 67 = .ok (.iconst 2, 1) := by decide +kernel
theorem dX6_makeDirectory_68 : decode cX6_makeDirectory 68 = .ok (.iload 6, 2) := by decide +kernel
theorem dX6_makeDirectory_70 : decode cX6_makeDirectory 70 = .ok (.iconst 0, 1) := by decide +kernel
theorem dX6_makeDirectory_71 : decode cX6_makeDirectory 71 = .ok (.invokevirtual 87, 3) := by decide +kernel
theorem dX6_makeDirectory_74 : decode cX6_makeDirectory 74 = .ok (.istore 9, 2) := by decide +kernel
theorem dX6_makeDirectory_76 : decode cX6_makeDirectory 76 = .ok (.aload_n 0, 1) := by decide +kernel
theorem dX6_makeDirectory_77 : decode cX6_makeDirectory 77 = .ok (.aload_n 1, 1) := by decide +kernel
theorem dX6_makeDirectory_78 : decode cX6_makeDirectory 78 = .ok (.iload 4, 2) := by decide +kernel
theorem dX6_makeDirectory_80 : decode cX6_makeDirectory 80 = .ok (.iload 5, 2) := by decide +kernel
theorem dX6_makeDirectory_82 : decode cX6_makeDirectory 82 = .ok (.iload_n 3, 1) := by decide +kernel
theorem dX6_makeDirectory_83 : decode cX6_makeDirectory 83 = .ok (.invokevirtual 76, 3) := by decide +kernel
theorem dX6_makeDirectory_86 : decode cX6_makeDirectory 86 = .ok (.istore 10, 2) := by decide +kernel
theorem dX6_makeDirectory_88 : decode cX6_makeDirectory 88 = .ok (.aload_n 1, 1) := by decide +kernel
theorem dX6_makeDirectory_89 : decode cX6_makeDirectory 89 = .ok (.iload 10, 2) := by decide +kernel
theorem dX6_makeDirectory_91 : decode cX6_makeDirectory 91 = .ok (.iload 7, 2) := by decide +kernel
theorem dX6_makeDirectory_93 : decode cX6_makeDirectory 93 = .ok (.invokevirtual 80, 3) := by decide +kernel
theorem dX6_makeDirectory_96 : decode cX6_makeDirectory 96 = .ok (.aload_n 1, 1) := by decide +kernel
theorem dX6_makeDirectory_97 : decode cX6_makeDirectory 97 = .ok (.iload 10, 2) := by decide +kernel
theorem dX6_makeDirectory_99 : decode cX6_makeDirectory 99 = .ok (.iload 8, 2) := by decide +kernel
theorem dX6_makeDirectory_101 : decode cX6_makeDirectory 101 = .ok (.invokevirtual 80, 3) := by decide +kernel
theorem dX6_makeDirectory_104 : decode cX6_makeDirectory 104 = .ok (.aload_n 1, 1) := by decide +kernel
theorem dX6_makeDirectory_105 : decode cX6_makeDirectory 105 = .ok (.iload 10, 2) := by decide +kernel
theorem dX6_makeDirectory_107 : decode cX6_makeDirectory 107 = .ok (.iload 9, 2) := by decide +kernel
theorem dX6_makeDirectory_109 : decode cX6_makeDirectory 109 = .ok (.invokevirtual 80, 3) := by decide +kernel
theorem dX6_makeDirectory_112 : decode cX6_makeDirectory 112 = .ok (.iconst 1, 1) := by decide +kernel
theorem dX6_makeDirectory_113 : decode cX6_makeDirectory 113 = .ok (.ireturn, 1) := by decide +kernel
theorem dX6_linkFile_0 : decode cX6_linkFile 0 = .ok (.aload_n 0, 1) := by decide +kernel
theorem dX6_linkFile_1 : decode cX6_linkFile 1 = .ok (.aload_n 1, 1) := by decide +kernel
theorem dX6_linkFile_2 : decode cX6_linkFile 2 = .ok (.iload_n 2, 1) := by decide +kernel
theorem dX6_linkFile_3 : decode cX6_linkFile 3 = .ok (.iload_n 3, 1) := by decide +kernel
theorem dX6_linkFile_4 : decode cX6_linkFile 4 = .ok (.invokevirtual 65, 3) := by decide +kernel
theorem dX6_linkFile_7 : decode cX6_linkFile 7 = .ok (.istore 5, 2) := by decide +kernel
theorem dX6_linkFile_9 : decode cX6_linkFile 9 = .ok (.aload_n 1, 1) := by decide +kernel
theorem dX6_linkFile_10 : decode cX6_linkFile 10 = .ok (.iconst 0, 1) := by decide +kernel
theorem dX6_linkFile_11 : decode cX6_linkFile 11 = .ok (.iload 4, 2) := by decide +kernel
theorem dX6_linkFile_13 : decode cX6_linkFile 13 = .ok (.iconst 0, 1) := by decide +kernel
theorem dX6_linkFile_14 : decode cX6_linkFile 14 = .ok (.invokevirtual 91, 3) := by decide +kernel
theorem dX6_linkFile_17 : decode cX6_linkFile 17 = .ok (.istore 6, 2) := by decide +kernel
theorem dX6_linkFile_19 : decode cX6_linkFile 19 = .ok (.iload 5, 2) := by decide +kernel
theorem dX6_linkFile_21 : decode cX6_linkFile 21 = .ok (.iconst (-1), 1) := by decide +kernel
theorem dX6_linkFile_22 : decode cX6_linkFile 22 = .ok (.if_icmp .eq 20, 3) := by decide +kernel
theorem dX6_linkFile_25 : decode cX6_linkFile 25 = .ok (.aload_n 0, 1) := by decide +kernel
theorem dX6_linkFile_26 : decode cX6_linkFile 26 = .ok (.aload_n 1, 1) := by decide +kernel
theorem dX6_linkFile_27 : decode cX6_linkFile 27 = .ok (.iload 4, 2) := by decide +kernel
theorem dX6_linkFile_29 : decode cX6_linkFile 29 = .ok (.invokevirtual 94, 3) := by decide +kernel
theorem dX6_linkFile_32 : decode cX6_linkFile 32 = .ok (.ifCond .eq 10, 3) := by decide +kernel
theorem dX6_linkFile_35 : decode cX6_linkFile 35 = .ok (.iload 6, 2) := by decide +kernel
theorem dX6_linkFile_37 : decode cX6_linkFile 37 = .ok (.bipush 8, 2) := by decide +kernel
theorem dX6_linkFile_39 : decode cX6_linkFile 39 = .ok (.if_icmp .le 5, 3) := by decide +kernel
theorem dX6_linkFile_42 : decode cX6_linkFile 42 = .ok (.iconst 0, 1) := by decide +kernel
theorem dX6_linkFile_43 : decode cX6_linkFile 43 = .ok (.ireturn, 1) := by decide +kernel
theorem dX6_linkFile_44 : decode cX6_linkFile 44 = .ok (.aload_n 1, 1) := by decide +kernel
theorem dX6_linkFile_45 : decode cX6_linkFile 45 = .ok (.iload 4, 2) := by decide +kernel
theorem dX6_linkFile_47 : decode cX6_linkFile 47 = .ok (.iconst 0, 1) := by decide +kernel
theorem dX6_linkFile_48 : decode cX6_linkFile 48 = .ok (.iload 6, 2) := by decide +kernel
theorem dX6_linkFile_50 : decode cX6_linkFile 50 = .ok (.iconst 1, 1) := by decide +kernel
theorem dX6_linkFile_51 : decode cX6_linkFile 51 = .ok (.iadd, 1) := by decide +kernel
theorem dX6_linkFile_52 : decode cX6_linkFile 52 = .ok (.invokevirtual 72, 3) := by decide +kernel
theorem dX6_linkFile_55 : decode cX6_linkFile 55 = .ok (.istore 7, 2) := by decide +kernel
theorem dX6_linkFile_57 : decode cX6_linkFile 57 = .ok (.aload_n 1, 1) := by decide +kernel
theorem dX6_linkFile_58 : decode cX6_linkFile 58 = .ok (.aload_n 0, 1) := by decide +kernel
theorem dX6_linkFile_59 : decode cX6_linkFile 59 = .ok (.aload_n 1, 1) := by decide +kernel
theorem dX6_linkFile_60 : decode cX6_linkFile 60 = .ok (.iload 5, 2) := by decide +kernel
theorem dX6_linkFile_62 : decode cX6_linkFile 62 = .ok (.iload 4, 2) := by decide +kernel
theorem dX6_linkFile_64 : decode cX6_linkFile 64 = .ok (.iload_n 3, 1) := by decide +kernel
theorem dX6_linkFile_65 : decode cX6_linkFile 65 = .ok (.invokevirtual 76, 3) := by decide +kernel
theorem dX6_linkFile_68 : decode cX6_linkFile 68 = .ok (.iload 7, 2) := by decide +kernel
theorem dX6_linkFile_70 : decode cX6_linkFile 70 = .ok (.invokevirtual 80, 3) := by decide +kernel
theorem dX6_linkFile_73 : decode cX6_linkFile 73 = .ok (.iconst 1, 1) := by decide +kernel
theorem dX6_linkFile_74 : decode cX6_linkFile 74 = .ok (.ireturn, 1) := by decide +kernel
theorem dX6_entryFor_0 : decode cX6_entryFor 0 = .ok (.aload_n 1, 1) := by decide +kernel
theorem dX6_entryFor_1 : decode cX6_entryFor 1 = .ok (.iconst 0, 1) := by decide +kernel
theorem dX6_entryFor_2 : decode cX6_entryFor 2 = .ok (.iload_n 2, 1) := by decide +kernel
theorem dX6_entryFor_3 : decode cX6_entryFor 3 = .ok (.iload_n 3, 1) := by decide +kernel
theorem dX6_entryFor_4 : decode cX6_entryFor 4 = .ok (.invokestatic 97, 3) := by decide +kernel
theorem dX6_entryFor_7 : decode cX6_entryFor 7 = .ok (.iconst (-1), 1) := by decide +kernel
theorem dX6_entryFor_8 : decode cX6_entryFor 8 = .ok (.if_icmp .ne 15, 3) := by decide +kernel
theorem dX6_entryFor_11 : decode cX6_entryFor 11 = .ok (.aload_n 1, 1) := by decide +kernel
theorem dX6_entryFor_12 : decode cX6_entryFor 12 = .ok (.iconst 0, 1) := by decide +kernel
theorem dX6_entryFor_13 : decode cX6_entryFor 13 = .ok (.invokestatic 102, 3) := by decide +kernel
theorem dX6_entryFor_16 : decode cX6_entryFor 16 = .ok (.iload_n 2, 1) := by decide +kernel
theorem dX6_entryFor_17 : decode cX6_entryFor 17 = .ok (.ishr, 1) := by decide +kernel
theorem dX6_entryFor_18 : decode cX6_entryFor 18 = .ok (.iconst 1, 1) := by decide +kernel
theorem dX6_entryFor_19 : decode cX6_entryFor 19 = .ok (.iand, 1) := by decide +kernel
theorem dX6_entryFor_20 : decode cX6_entryFor 20 = .ok (.ifCond .ne 5, 3) := by decide +kernel
theorem dX6_entryFor_23 : decode cX6_entryFor 23 = .ok (.iconst (-1), 1) := by decide +kernel
theorem dX6_entryFor_24 : decode cX6_entryFor 24 = .ok (.ireturn, 1) := by decide +kernel
theorem dX6_entryFor_25 : decode cX6_entryFor 25 = .ok (.aload_n 1, 1) := by decide +kernel
theorem dX6_entryFor_26 : decode cX6_entryFor 26 = .ok (.iconst 0, 1) := by decide +kernel
theorem dX6_entryFor_27 : decode cX6_entryFor 27 = .ok (.iload_n 2, 1) := by decide +kernel
theorem dX6_entryFor_28 : decode cX6_entryFor 28 = .ok (.iconst 0, 1) := by decide +kernel
theorem dX6_entryFor_29 : decode cX6_entryFor 29 = .ok (.invokestatic 97, 3) := by decide +kernel
theorem dX6_entryFor_32 : decode cX6_entryFor 32 = .ok (.ireturn, 1) := by decide +kernel
theorem dX6_nameEntry_0 : decode cX6_nameEntry 0 = .ok (.iload_n 2, 1) := by decide +kernel
theorem dX6_nameEntry_1 : decode cX6_nameEntry 1 = .ok (.bipush 8, 2) := by decide +kernel
theorem dX6_nameEntry_3 : decode cX6_nameEntry 3 = .ok (.idiv, 1) := by decide +kernel
theorem dX6_nameEntry_4 : decode cX6_nameEntry 4 = .ok (.istore 5, 2) := by decide +kernel
theorem dX6_nameEntry_6 : decode cX6_nameEntry 6 = .ok (.iload_n 2, 1) := by decide +kernel
theorem dX6_nameEntry_7 : decode cX6_nameEntry 7 = .ok (.bipush 8, 2) := by decide +kernel
theorem dX6_nameEntry_9 : decode cX6_nameEntry 9 = .ok (.irem, 1) := by decide +kernel
theorem dX6_nameEntry_10 : decode cX6_nameEntry 10 = .ok (.iconst 2, 1) := by decide +kernel
theorem dX6_nameEntry_11 : decode cX6_nameEntry 11 = .ok (.imul, 1) := by decide +kernel
theorem dX6_nameEntry_12 : decode cX6_nameEntry 12 = .ok (.istore 6, 2) := by decide +kernel
theorem dX6_nameEntry_14 : decode cX6_nameEntry 14 = .ok (.aload_n 1, 1) := by decide +kernel
theorem dX6_nameEntry_15 : decode cX6_nameEntry 15 = .ok (.iload 5, 2) := by decide +kernel
theorem dX6_nameEntry_17 : decode cX6_nameEntry 17 = .ok (.iload 6, 2) := by decide +kernel
theorem dX6_nameEntry_19 : decode cX6_nameEntry 19 = .ok (.invokevirtual 106, 3) := by decide +kernel
theorem dX6_nameEntry_22 : decode cX6_nameEntry 22 = .ok (.istore 7, 2) := by decide +kernel
theorem dX6_nameEntry_24 : decode cX6_nameEntry 24 = .ok (.aload_n 1, 1) := by decide +kernel
theorem dX6_nameEntry_25 : decode cX6_nameEntry 25 = .ok (.iload 5, 2) := by decide +kernel
theorem dX6_nameEntry_27 : decode cX6_nameEntry 27 = .ok (.iload 6, 2) := by decide +kernel
theorem dX6_nameEntry_29 : decode cX6_nameEntry 29 = .ok (.iconst 1, 1) := by decide +kernel
theorem dX6_nameEntry_30 : decode cX6_nameEntry 30 = .ok (.iadd, 1) := by decide +kernel
theorem dX6_nameEntry_31 : decode cX6_nameEntry 31 = .ok (.iload_n 3, 1) := by decide +kernel
theorem dX6_nameEntry_32 : decode cX6_nameEntry 32 = .ok (.invokevirtual 110, 3) := by decide +kernel
theorem dX6_nameEntry_35 : decode cX6_nameEntry 35 = .ok (.istore 8, 2) := by decide +kernel
theorem dX6_nameEntry_37 : decode cX6_nameEntry 37 = .ok (.aload_n 1, 1) := by decide +kernel
theorem dX6_nameEntry_38 : decode cX6_nameEntry 38 = .ok (.iload 8, 2) := by decide +kernel
theorem dX6_nameEntry_40 : decode cX6_nameEntry 40 = .ok (.iload 7, 2) := by decide +kernel
theorem dX6_nameEntry_42 : decode cX6_nameEntry 42 = .ok (.invokevirtual 80, 3) := by decide +kernel
theorem dX6_nameEntry_45 : decode cX6_nameEntry 45 = .ok (.aload_n 1, 1) := by decide +kernel
theorem dX6_nameEntry_46 : decode cX6_nameEntry 46 = .ok (.iload 5, 2) := by decide +kernel
theorem dX6_nameEntry_48 : decode cX6_nameEntry 48 = .ok (.iload 6, 2) := by decide +kernel
theorem dX6_nameEntry_50 : decode cX6_nameEntry 50 = .ok (.iload 4, 2) := by decide +kernel
theorem dX6_nameEntry_52 : decode cX6_nameEntry 52 = .ok (.invokevirtual 110, 3) := by decide +kernel
theorem dX6_nameEntry_55 : decode cX6_nameEntry 55 = .ok (.istore 9, 2) := by decide +kernel
theorem dX6_nameEntry_57 : decode cX6_nameEntry 57 = .ok (.aload_n 1, 1) := by decide +kernel
theorem dX6_nameEntry_58 : decode cX6_nameEntry 58 = .ok (.iload 9, 2) := by decide +kernel
theorem dX6_nameEntry_60 : decode cX6_nameEntry 60 = .ok (.iload 8, 2) := by decide +kernel
theorem dX6_nameEntry_62 : decode cX6_nameEntry 62 = .ok (.invokevirtual 80, 3) := by decide +kernel
theorem dX6_nameEntry_65 : decode cX6_nameEntry 65 = .ok (.iload 9, 2) := by decide +kernel
theorem dX6_nameEntry_67 : decode cX6_nameEntry 67 = .ok (.ireturn, 1) := by decide +kernel
theorem dX6_giveBlock_0 : decode cX6_giveBlock 0 = .ok (.aload_n 1, 1) := by decide +kernel
theorem dX6_giveBlock_1 : decode cX6_giveBlock 1 = .ok (.iconst 0, 1) := by decide +kernel
theorem dX6_giveBlock_2 : decode cX6_giveBlock 2 = .ok (.iload 4, 2) := by decide +kernel
theorem dX6_giveBlock_4 : decode cX6_giveBlock 4 = .ok (.iconst 1, 1) := by decide +kernel
theorem dX6_giveBlock_5 : decode cX6_giveBlock 5 = .ok (.invokevirtual 110, 3) := by decide +kernel
theorem dX6_giveBlock_8 : decode cX6_giveBlock 8 = .ok (.istore 6, 2) := by decide +kernel
theorem dX6_giveBlock_10 : decode cX6_giveBlock 10 = .ok (.aload_n 1, 1) := by decide +kernel
theorem dX6_giveBlock_11 : decode cX6_giveBlock 11 = .ok (.iload 4, 2) := by decide +kernel
theorem dX6_giveBlock_13 : decode cX6_giveBlock 13 = .ok (.bipush 16, 2) := by decide +kernel
theorem dX6_giveBlock_15 : decode cX6_giveBlock 15 = .ok (.iload 5, 2) := by decide +kernel
theorem dX6_giveBlock_17 : decode cX6_giveBlock 17 = .ok (.invokevirtual 110, 3) := by decide +kernel
theorem dX6_giveBlock_20 : decode cX6_giveBlock 20 = .ok (.istore 7, 2) := by decide +kernel
theorem dX6_giveBlock_22 : decode cX6_giveBlock 22 = .ok (.aload_n 1, 1) := by decide +kernel
theorem dX6_giveBlock_23 : decode cX6_giveBlock 23 = .ok (.iload_n 2, 1) := by decide +kernel
theorem dX6_giveBlock_24 : decode cX6_giveBlock 24 = .ok (.iload_n 3, 1) := by decide +kernel
theorem dX6_giveBlock_25 : decode cX6_giveBlock 25 = .ok (.iload 4, 2) := by decide +kernel
theorem dX6_giveBlock_27 : decode cX6_giveBlock 27 = .ok (.invokevirtual 72, 3) := by decide +kernel
theorem dX6_giveBlock_30 : decode cX6_giveBlock 30 = .ok (.istore 8, 2) := by decide +kernel
theorem dX6_giveBlock_32 : decode cX6_giveBlock 32 = .ok (.aload_n 1, 1) := by decide +kernel
theorem dX6_giveBlock_33 : decode cX6_giveBlock 33 = .ok (.iload 8, 2) := by decide +kernel
theorem dX6_giveBlock_35 : decode cX6_giveBlock 35 = .ok (.iload 6, 2) := by decide +kernel
theorem dX6_giveBlock_37 : decode cX6_giveBlock 37 = .ok (.invokevirtual 80, 3) := by decide +kernel
theorem dX6_giveBlock_40 : decode cX6_giveBlock 40 = .ok (.iload 7, 2) := by decide +kernel
theorem dX6_giveBlock_42 : decode cX6_giveBlock 42 = .ok (.iconst (-1), 1) := by decide +kernel
theorem dX6_giveBlock_43 : decode cX6_giveBlock 43 = .ok (.if_icmp .ne 14, 3) := by decide +kernel
theorem dX6_giveBlock_46 : decode cX6_giveBlock 46 = .ok (.aload_n 1, 1) := by decide +kernel
theorem dX6_giveBlock_47 : decode cX6_giveBlock 47 = .ok (.iload 8, 2) := by decide +kernel
theorem dX6_giveBlock_49 : decode cX6_giveBlock 49 = .ok (.iload 4, 2) := by decide +kernel
theorem dX6_giveBlock_51 : decode cX6_giveBlock 51 = .ok (.invokevirtual 113, 3) := by decide +kernel
theorem dX6_giveBlock_54 : decode cX6_giveBlock 54 = .ok (.goto 11, 3) := by decide +kernel
theorem dX6_giveBlock_57 : decode cX6_giveBlock 57 = .ok (.aload_n 1, 1) := by decide +kernel
theorem dX6_giveBlock_58 : decode cX6_giveBlock 58 = .ok (.iload 8, 2) := by decide +kernel
theorem dX6_giveBlock_60 : decode cX6_giveBlock 60 = .ok (.iload 7, 2) := by decide +kernel
theorem dX6_giveBlock_62 : decode cX6_giveBlock 62 = .ok (.invokevirtual 80, 3) := by decide +kernel
theorem dX6_giveBlock_65 : decode cX6_giveBlock 65 = .ok (.iload 8, 2) := by decide +kernel
theorem dX6_giveBlock_67 : decode cX6_giveBlock 67 = .ok (.ireturn, 1) := by decide +kernel
theorem dX6_growNode_0 : decode cX6_growNode 0 = .ok (.aload_n 0, 1) := by decide +kernel
theorem dX6_growNode_1 : decode cX6_growNode 1 = .ok (.aload_n 1, 1) := by decide +kernel
theorem dX6_growNode_2 : decode cX6_growNode 2 = .ok (.invokevirtual 84, 3) := by decide +kernel
theorem dX6_growNode_5 : decode cX6_growNode 5 = .ok (.istore 4, 2) := by decide +kernel
theorem dX6_growNode_7 : decode cX6_growNode 7 = .ok (.aload_n 1, 1) := by decide +kernel
theorem dX6_growNode_8 : decode cX6_growNode 8 = .ok (.iconst 0, 1) := by decide +kernel
theorem dX6_growNode_9 : decode cX6_growNode 9 = .ok (.iload_n 2, 1) := by decide +kernel
theorem dX6_growNode_10 : decode cX6_growNode 10 = .ok (.iconst 2, 1) := by decide +kernel
theorem dX6_growNode_11 : decode cX6_growNode 11 = .ok (.invokevirtual 91, 3) := by decide +kernel
theorem dX6_growNode_14 : decode cX6_growNode 14 = .ok (.istore 5, 2) := by decide +kernel
theorem dX6_growNode_16 : decode cX6_growNode 16 = .ok (.aload_n 1, 1) := by decide +kernel
theorem dX6_growNode_17 : decode cX6_growNode 17 = .ok (.iconst 0, 1) := by decide +kernel
theorem dX6_growNode_18 : decode cX6_growNode 18 = .ok (.iload_n 2, 1) := by decide +kernel
theorem dX6_growNode_19 : decode cX6_growNode 19 = .ok (.iconst 3, 1) := by decide +kernel
theorem dX6_growNode_20 : decode cX6_growNode 20 = .ok (.invokevirtual 91, 3) := by decide +kernel
theorem dX6_growNode_23 : decode cX6_growNode 23 = .ok (.istore 6, 2) := by decide +kernel
theorem dX6_growNode_25 : decode cX6_growNode 25 = .ok (.iload 4, 2) := by decide +kernel
theorem dX6_growNode_27 : decode cX6_growNode 27 = .ok (.iconst (-1), 1) := by decide +kernel
theorem dX6_growNode_28 : decode cX6_growNode 28 = .ok (.if_icmp .eq 23, 3) := by decide +kernel
theorem dX6_growNode_31 : decode cX6_growNode 31 = .ok (.aload_n 1, 1) := by decide +kernel
theorem dX6_growNode_32 : decode cX6_growNode 32 = .ok (.iconst 0, 1) := by decide +kernel
theorem dX6_growNode_33 : decode cX6_growNode 33 = .ok (.iload_n 2, 1) := by decide +kernel
theorem dX6_growNode_34 : decode cX6_growNode 34 = .ok (.iconst 0, 1) := by decide +kernel
theorem dX6_growNode_35 : decode cX6_growNode 35 = .ok (.invokevirtual 91, 3) := by decide +kernel
theorem dX6_growNode_38 : decode cX6_growNode 38 = .ok (.ifCond .eq 13, 3) := by decide +kernel
theorem dX6_growNode_41 : decode cX6_growNode 41 = .ok (.iload 5, 2) := by decide +kernel
theorem dX6_growNode_43 : decode cX6_growNode 43 = .ok (.ifCond .eq 10, 3) := by decide +kernel
theorem dX6_growNode_46 : decode cX6_growNode 46 = .ok (.iload 6, 2) := by decide +kernel
theorem dX6_growNode_48 : decode cX6_growNode 48 = .ok (.ifCond .eq 5, 3) := by decide +kernel
theorem dX6_growNode_51 : decode cX6_growNode 51 = .ok (.iconst 0, 1) := by decide +kernel
theorem dX6_growNode_52 : decode cX6_growNode 52 = .ok (.ireturn, 1) := by decide +kernel
theorem dX6_growNode_53 : decode cX6_growNode 53 = .ok (.aload_n 1, 1) := by decide +kernel
theorem dX6_growNode_54 : decode cX6_growNode 54 = .ok (.iconst 0, 1) := by decide +kernel
theorem dX6_growNode_55 : decode cX6_growNode 55 = .ok (.iload_n 2, 1) := by decide +kernel
theorem dX6_growNode_56 : decode cX6_growNode 56 = .ok (.iconst 1, 1) := by decide +kernel
theorem dX6_growNode_57 : decode cX6_growNode 57 = .ok (.invokevirtual 91, 3) := by decide +kernel
theorem dX6_growNode_60 : decode cX6_growNode 60 = .ok (.iconst 2, 1) := by decide +kernel
theorem dX6_growNode_61 : decode cX6_growNode 61 = .ok (.if_icmp .ne 7, 3) := by decide +kernel
theorem dX6_growNode_64 : decode cX6_growNode 64 = .ok (.iconst 0, 1) := by decide +kernel
theorem dX6_growNode_65 : decode cX6_growNode 65 = .ok (.goto 4, 3) := by decide +kernel
theorem dX6_growNode_68 : decode cX6_growNode 68 = .ok (.iload_n 3, 1) := by decide +kernel
theorem dX6_growNode_69 : decode cX6_growNode 69 = .ok (.istore 7, 2) := by decide +kernel
theorem dX6_growNode_71 : decode cX6_growNode 71 = .ok (.aload_n 0, 1) := by decide +kernel
theorem dX6_growNode_72 : decode cX6_growNode 72 = .ok (.aload_n 1, 1) := by decide +kernel
theorem dX6_growNode_73 : decode cX6_growNode 73 = .ok (.iload_n 2, 1) := by decide +kernel
theorem dX6_growNode_74 : decode cX6_growNode 74 = .ok (.iload 5, 2) := by decide +kernel
theorem dX6_growNode_76 : decode cX6_growNode 76 = .ok (.ifCond .ne 7, 3) := by decide +kernel
theorem dX6_growNode_79 : decode cX6_growNode 79 = .ok (.iconst 2, 1) := by decide +kernel
theorem dX6_growNode_80 : decode cX6_growNode 80 = .ok (.goto 4, 3) := by decide +kernel
theorem dX6_growNode_83 : decode cX6_growNode 83 = .ok (.iconst 3, 1) := by decide +kernel
theorem dX6_growNode_84 : decode cX6_growNode 84 = .ok (.iload 4, 2) := by decide +kernel
theorem dX6_growNode_86 : decode cX6_growNode 86 = .ok (.iload 7, 2) := by decide +kernel
theorem dX6_growNode_88 : decode cX6_growNode 88 = .ok (.invokevirtual 87, 3) := by decide +kernel
theorem dX6_growNode_91 : decode cX6_growNode 91 = .ok (.pop, 1) := by decide +kernel
theorem dX6_growNode_92 : decode cX6_growNode 92 = .ok (.iconst 1, 1) := by decide +kernel
theorem dX6_growNode_93 : decode cX6_growNode 93 = .ok (.ireturn, 1) := by decide +kernel
theorem dX6_putInFile_0 : decode cX6_putInFile 0 = .ok (.aload_n 0, 1) := by decide +kernel
theorem dX6_putInFile_1 : decode cX6_putInFile 1 = .ok (.aload_n 1, 1) := by decide +kernel
theorem dX6_putInFile_2 : decode cX6_putInFile 2 = .ok (.iload_n 2, 1) := by decide +kernel
theorem dX6_putInFile_3 : decode cX6_putInFile 3 = .ok (.invokevirtual 94, 3) := by decide +kernel
theorem dX6_putInFile_6 : decode cX6_putInFile 6 = .ok (.ifCond .ne 5, 3) := by decide +kernel
theorem dX6_putInFile_9 : decode cX6_putInFile 9 = .ok (.iconst 0, 1) := by decide +kernel
theorem dX6_putInFile_10 : decode cX6_putInFile 10 = .ok (.ireturn, 1) := by decide +kernel
theorem dX6_putInFile_11 : decode cX6_putInFile 11 = .ok (.aload_n 1, 1) := by decide +kernel
theorem dX6_putInFile_12 : decode cX6_putInFile 12 = .ok (.iconst 0, 1) := by decide +kernel
theorem dX6_putInFile_13 : decode cX6_putInFile 13 = .ok (.iload_n 2, 1) := by decide +kernel
theorem dX6_putInFile_14 : decode cX6_putInFile 14 = .ok (.iload_n 3, 1) := by decide +kernel
theorem dX6_putInFile_15 : decode cX6_putInFile 15 = .ok (.bipush 16, 2) := by decide +kernel
theorem dX6_putInFile_17 : decode cX6_putInFile 17 = .ok (.if_icmp .ge 7, 3) := by decide +kernel
theorem dX6_putInFile_20 : decode cX6_putInFile 20 = .ok (.iconst 2, 1) := by decide +kernel
theorem dX6_putInFile_21 : decode cX6_putInFile 21 = .ok (.goto 4, 3) := by decide +kernel
theorem dX6_putInFile_24 : decode cX6_putInFile 24 = .ok (.iconst 3, 1) := by decide +kernel
theorem dX6_putInFile_25 : decode cX6_putInFile 25 = .ok (.invokevirtual 91, 3) := by decide +kernel
theorem dX6_putInFile_28 : decode cX6_putInFile 28 = .ok (.istore 5, 2) := by decide +kernel
theorem dX6_putInFile_30 : decode cX6_putInFile 30 = .ok (.iload 5, 2) := by decide +kernel
theorem dX6_putInFile_32 : decode cX6_putInFile 32 = .ok (.ifCond .eq 23, 3) := by decide +kernel
theorem dX6_putInFile_35 : decode cX6_putInFile 35 = .ok (.aload_n 1, 1) := by decide +kernel
theorem dX6_putInFile_36 : decode cX6_putInFile 36 = .ok (.iload 5, 2) := by decide +kernel
theorem dX6_putInFile_38 : decode cX6_putInFile 38 = .ok (.iload_n 3, 1) := by decide +kernel
theorem dX6_putInFile_39 : decode cX6_putInFile 39 = .ok (.bipush 16, 2) := by decide +kernel
theorem dX6_putInFile_41 : decode cX6_putInFile 41 = .ok (.irem, 1) := by decide +kernel
theorem dX6_putInFile_42 : decode cX6_putInFile 42 = .ok (.iload 4, 2) := by decide +kernel
theorem dX6_putInFile_44 : decode cX6_putInFile 44 = .ok (.invokevirtual 110, 3) := by decide +kernel
theorem dX6_putInFile_47 : decode cX6_putInFile 47 = .ok (.iconst (-1), 1) := by decide +kernel
theorem dX6_putInFile_48 : decode cX6_putInFile 48 = .ok (.if_icmp .eq 7, 3) := by decide +kernel
theorem dX6_putInFile_51 : decode cX6_putInFile 51 = .ok (.iconst 1, 1) := by decide +kernel
theorem dX6_putInFile_52 : decode cX6_putInFile 52 = .ok (.goto 4, 3) := by decide +kernel
theorem dX6_putInFile_55 : decode cX6_putInFile 55 = .ok (.iconst 0, 1) := by decide +kernel
theorem dX6_putInFile_56 : decode cX6_putInFile 56 = .ok (.ireturn, 1) := by decide +kernel
theorem dX6_cutFile_0 : decode cX6_cutFile 0 = .ok (.aload_n 0, 1) := by decide +kernel
theorem dX6_cutFile_1 : decode cX6_cutFile 1 = .ok (.aload_n 1, 1) := by decide +kernel
theorem dX6_cutFile_2 : decode cX6_cutFile 2 = .ok (.iload_n 2, 1) := by decide +kernel
theorem dX6_cutFile_3 : decode cX6_cutFile 3 = .ok (.invokevirtual 94, 3) := by decide +kernel
theorem dX6_cutFile_6 : decode cX6_cutFile 6 = .ok (.ifCond .ne 5, 3) := by decide +kernel
theorem dX6_cutFile_9 : decode cX6_cutFile 9 = .ok (.iconst 0, 1) := by decide +kernel
theorem dX6_cutFile_10 : decode cX6_cutFile 10 = .ok (.ireturn, 1) := by decide +kernel
theorem dX6_cutFile_11 : decode cX6_cutFile 11 = .ok (.aload_n 1, 1) := by decide +kernel
theorem dX6_cutFile_12 : decode cX6_cutFile 12 = .ok (.iconst 0, 1) := by decide +kernel
theorem dX6_cutFile_13 : decode cX6_cutFile 13 = .ok (.iload_n 2, 1) := by decide +kernel
theorem dX6_cutFile_14 : decode cX6_cutFile 14 = .ok (.iconst 3, 1) := by decide +kernel
theorem dX6_cutFile_15 : decode cX6_cutFile 15 = .ok (.invokevirtual 91, 3) := by decide +kernel
theorem dX6_cutFile_18 : decode cX6_cutFile 18 = .ok (.ifCond .eq 7, 3) := by decide +kernel
theorem dX6_cutFile_21 : decode cX6_cutFile 21 = .ok (.iconst 3, 1) := by decide +kernel
theorem dX6_cutFile_22 : decode cX6_cutFile 22 = .ok (.goto 4, 3) := by decide +kernel
theorem dX6_cutFile_25 : decode cX6_cutFile 25 = .ok (.iconst 2, 1) := by decide +kernel
theorem dX6_cutFile_26 : decode cX6_cutFile 26 = .ok (.istore_n 3, 1) := by decide +kernel
theorem dX6_cutFile_27 : decode cX6_cutFile 27 = .ok (.aload_n 1, 1) := by decide +kernel
theorem dX6_cutFile_28 : decode cX6_cutFile 28 = .ok (.iconst 0, 1) := by decide +kernel
theorem dX6_cutFile_29 : decode cX6_cutFile 29 = .ok (.iload_n 2, 1) := by decide +kernel
theorem dX6_cutFile_30 : decode cX6_cutFile 30 = .ok (.iload_n 3, 1) := by decide +kernel
theorem dX6_cutFile_31 : decode cX6_cutFile 31 = .ok (.invokevirtual 91, 3) := by decide +kernel
theorem dX6_cutFile_34 : decode cX6_cutFile 34 = .ok (.istore 4, 2) := by decide +kernel
theorem dX6_cutFile_36 : decode cX6_cutFile 36 = .ok (.iload 4, 2) := by decide +kernel
theorem dX6_cutFile_38 : decode cX6_cutFile 38 = .ok (.ifCond .ne 5, 3) := by decide +kernel
theorem dX6_cutFile_41 : decode cX6_cutFile 41 = .ok (.iconst 0, 1) := by decide +kernel
theorem dX6_cutFile_42 : decode cX6_cutFile 42 = .ok (.ireturn, 1) := by decide +kernel
theorem dX6_cutFile_43 : decode cX6_cutFile 43 = .ok (.aload_n 1, 1) := by decide +kernel
theorem dX6_cutFile_44 : decode cX6_cutFile 44 = .ok (.bipush 100, 2) := by decide +kernel
theorem dX6_cutFile_46 : decode cX6_cutFile 46 = .ok (.iload 4, 2) := by decide +kernel
theorem dX6_cutFile_48 : decode cX6_cutFile 48 = .ok (.iadd, 1) := by decide +kernel
theorem dX6_cutFile_49 : decode cX6_cutFile 49 = .ok (.aload_n 1, 1) := by decide +kernel
theorem dX6_cutFile_50 : decode cX6_cutFile 50 = .ok (.iload_n 2, 1) := by decide +kernel
theorem dX6_cutFile_51 : decode cX6_cutFile 51 = .ok (.iload_n 3, 1) := by decide +kernel
theorem dX6_cutFile_52 : decode cX6_cutFile 52 = .ok (.iconst 0, 1) := by decide +kernel
theorem dX6_cutFile_53 : decode cX6_cutFile 53 = .ok (.invokevirtual 72, 3) := by decide +kernel
theorem dX6_cutFile_56 : decode cX6_cutFile 56 = .ok (.invokevirtual 116, 3) := by decide +kernel
theorem dX6_cutFile_59 : decode cX6_cutFile 59 = .ok (.iconst 1, 1) := by decide +kernel
theorem dX6_cutFile_60 : decode cX6_cutFile 60 = .ok (.ireturn, 1) := by decide +kernel
theorem dX6_dropEntry_0 : decode cX6_dropEntry 0 = .ok (.aload_n 1, 1) := by decide +kernel
theorem dX6_dropEntry_1 : decode cX6_dropEntry 1 = .ok (.iconst 0, 1) := by decide +kernel
theorem dX6_dropEntry_2 : decode cX6_dropEntry 2 = .ok (.iload_n 2, 1) := by decide +kernel
theorem dX6_dropEntry_3 : decode cX6_dropEntry 3 = .ok (.iload_n 3, 1) := by decide +kernel
theorem dX6_dropEntry_4 : decode cX6_dropEntry 4 = .ok (.invokestatic 97, 3) := by decide +kernel
theorem dX6_dropEntry_7 : decode cX6_dropEntry 7 = .ok (.istore 4, 2) := by decide +kernel
theorem dX6_dropEntry_9 : decode cX6_dropEntry 9 = .ok (.iload 4, 2) := by decide +kernel
theorem dX6_dropEntry_11 : decode cX6_dropEntry 11 = .ok (.iconst (-1), 1) := by decide +kernel
theorem dX6_dropEntry_12 : decode cX6_dropEntry 12 = .ok (.if_icmp .eq 15, 3) := by decide +kernel
theorem dX6_dropEntry_15 : decode cX6_dropEntry 15 = .ok (.aload_n 1, 1) := by decide +kernel
theorem dX6_dropEntry_16 : decode cX6_dropEntry 16 = .ok (.iconst 0, 1) := by decide +kernel
theorem dX6_dropEntry_17 : decode cX6_dropEntry 17 = .ok (.invokestatic 102, 3) := by decide +kernel
theorem dX6_dropEntry_20 : decode cX6_dropEntry 20 = .ok (.iload_n 2, 1) := by decide +kernel
theorem dX6_dropEntry_21 : decode cX6_dropEntry 21 = .ok (.ishr, 1) := by decide +kernel
theorem dX6_dropEntry_22 : decode cX6_dropEntry 22 = .ok (.iconst 1, 1) := by decide +kernel
theorem dX6_dropEntry_23 : decode cX6_dropEntry 23 = .ok (.iand, 1) := by decide +kernel
theorem dX6_dropEntry_24 : decode cX6_dropEntry 24 = .ok (.ifCond .ne 5, 3) := by decide +kernel
theorem dX6_dropEntry_27 : decode cX6_dropEntry 27 = .ok (.iconst 0, 1) := by decide +kernel
theorem dX6_dropEntry_28 : decode cX6_dropEntry 28 = .ok (.ireturn, 1) := by decide +kernel
theorem dX6_dropEntry_29 : decode cX6_dropEntry 29 = .ok (.aload_n 1, 1) := by decide +kernel
theorem dX6_dropEntry_30 : decode cX6_dropEntry 30 = .ok (.iconst 0, 1) := by decide +kernel
theorem dX6_dropEntry_31 : decode cX6_dropEntry 31 = .ok (.iload 4, 2) := by decide +kernel
theorem dX6_dropEntry_33 : decode cX6_dropEntry 33 = .ok (.invokestatic 119, 3) := by decide +kernel
theorem dX6_dropEntry_36 : decode cX6_dropEntry 36 = .ok (.istore 5, 2) := by decide +kernel
theorem dX6_dropEntry_38 : decode cX6_dropEntry 38 = .ok (.aload_n 1, 1) := by decide +kernel
theorem dX6_dropEntry_39 : decode cX6_dropEntry 39 = .ok (.iconst 0, 1) := by decide +kernel
theorem dX6_dropEntry_40 : decode cX6_dropEntry 40 = .ok (.iload 5, 2) := by decide +kernel
theorem dX6_dropEntry_42 : decode cX6_dropEntry 42 = .ok (.invokestatic 122, 3) := by decide +kernel
theorem dX6_dropEntry_45 : decode cX6_dropEntry 45 = .ok (.ifCond .eq 5, 3) := by decide +kernel
theorem dX6_dropEntry_48 : decode cX6_dropEntry 48 = .ok (.iconst 0, 1) := by decide +kernel
theorem dX6_dropEntry_49 : decode cX6_dropEntry 49 = .ok (.ireturn, 1) := by decide +kernel
theorem dX6_dropEntry_50 : decode cX6_dropEntry 50 = .ok (.aload_n 1, 1) := by decide +kernel
theorem dX6_dropEntry_51 : decode cX6_dropEntry 51 = .ok (.iload 5, 2) := by decide +kernel
theorem dX6_dropEntry_53 : decode cX6_dropEntry 53 = .ok (.aload_n 1, 1) := by decide +kernel
theorem dX6_dropEntry_54 : decode cX6_dropEntry 54 = .ok (.iload 4, 2) := by decide +kernel
theorem dX6_dropEntry_56 : decode cX6_dropEntry 56 = .ok (.bipush 8, 2) := by decide +kernel
theorem dX6_dropEntry_58 : decode cX6_dropEntry 58 = .ok (.idiv, 1) := by decide +kernel
theorem dX6_dropEntry_59 : decode cX6_dropEntry 59 = .ok (.iload 4, 2) := by decide +kernel
theorem dX6_dropEntry_61 : decode cX6_dropEntry 61 = .ok (.bipush 8, 2) := by decide +kernel
theorem dX6_dropEntry_63 : decode cX6_dropEntry 63 = .ok (.irem, 1) := by decide +kernel
theorem dX6_dropEntry_64 : decode cX6_dropEntry 64 = .ok (.iconst 2, 1) := by decide +kernel
theorem dX6_dropEntry_65 : decode cX6_dropEntry 65 = .ok (.imul, 1) := by decide +kernel
theorem dX6_dropEntry_66 : decode cX6_dropEntry 66 = .ok (.iconst 0, 1) := by decide +kernel
theorem dX6_dropEntry_67 : decode cX6_dropEntry 67 = .ok (.invokevirtual 110, 3) := by decide +kernel
theorem dX6_dropEntry_70 : decode cX6_dropEntry 70 = .ok (.invokevirtual 116, 3) := by decide +kernel
theorem dX6_dropEntry_73 : decode cX6_dropEntry 73 = .ok (.iconst 1, 1) := by decide +kernel
theorem dX6_dropEntry_74 : decode cX6_dropEntry 74 = .ok (.ireturn, 1) := by decide +kernel
theorem dX6_sweepOne_0 : decode cX6_sweepOne 0 = .ok (.aload_n 0, 1) := by decide +kernel
theorem dX6_sweepOne_1 : decode cX6_sweepOne 1 = .ok (.aload_n 1, 1) := by decide +kernel
theorem dX6_sweepOne_2 : decode cX6_sweepOne 2 = .ok (.invokevirtual 125, 3) := by decide +kernel
theorem dX6_sweepOne_5 : decode cX6_sweepOne 5 = .ok (.istore_n 2, 1) := by decide +kernel
theorem dX6_sweepOne_6 : decode cX6_sweepOne 6 = .ok (.iload_n 2, 1) := by decide +kernel
theorem dX6_sweepOne_7 : decode cX6_sweepOne 7 = .ok (.iconst (-1), 1) := by decide +kernel
theorem dX6_sweepOne_8 : decode cX6_sweepOne 8 = .ok (.if_icmp .ne 5, 3) := by decide +kernel
theorem dX6_sweepOne_11 : decode cX6_sweepOne 11 = .ok (.iconst 0, 1) := by decide +kernel
theorem dX6_sweepOne_12 : decode cX6_sweepOne 12 = .ok (.ireturn, 1) := by decide +kernel
theorem dX6_sweepOne_13 : decode cX6_sweepOne 13 = .ok (.iload_n 2, 1) := by decide +kernel
theorem dX6_sweepOne_14 : decode cX6_sweepOne 14 = .ok (.bipush 100, 2) := by decide +kernel
theorem dX6_sweepOne_16 : decode cX6_sweepOne 16 = .ok (.if_icmp .lt 17, 3) := by decide +kernel
theorem dX6_sweepOne_19 : decode cX6_sweepOne 19 = .ok (.aload_n 1, 1) := by decide +kernel
theorem dX6_sweepOne_20 : decode cX6_sweepOne 20 = .ok (.iconst 0, 1) := by decide +kernel
theorem dX6_sweepOne_21 : decode cX6_sweepOne 21 = .ok (.iload_n 2, 1) := by decide +kernel
theorem dX6_sweepOne_22 : decode cX6_sweepOne 22 = .ok (.bipush 100, 2) := by decide +kernel
theorem dX6_sweepOne_24 : decode cX6_sweepOne 24 = .ok (.isub, 1) := by decide +kernel
theorem dX6_sweepOne_25 : decode cX6_sweepOne 25 = .ok (.iconst 0, 1) := by decide +kernel
theorem dX6_sweepOne_26 : decode cX6_sweepOne 26 = .ok (.invokevirtual 110, 3) := by decide +kernel
theorem dX6_sweepOne_29 : decode cX6_sweepOne 29 = .ok (.pop, 1) := by decide +kernel
theorem dX6_sweepOne_30 : decode cX6_sweepOne 30 = .ok (.goto 19, 3) := by decide +kernel
theorem dX6_sweepOne_33 : decode cX6_sweepOne 33 = .ok (.aload_n 1, 1) := by decide +kernel
theorem dX6_sweepOne_34 : decode cX6_sweepOne 34 = .ok (.iload_n 2, 1) := by decide +kernel
theorem dX6_sweepOne_35 : decode cX6_sweepOne 35 = .ok (.aload_n 0, 1) := by decide +kernel
theorem dX6_sweepOne_36 : decode cX6_sweepOne 36 = .ok (.aload_n 1, 1) := by decide +kernel
theorem dX6_sweepOne_37 : decode cX6_sweepOne 37 = .ok (.aload_n 1, 1) := by decide +kernel
theorem dX6_sweepOne_38 : decode cX6_sweepOne 38 = .ok (.iconst 0, 1) := by decide +kernel
theorem dX6_sweepOne_39 : decode cX6_sweepOne 39 = .ok (.invokestatic 102, 3) := by decide +kernel
theorem dX6_sweepOne_42 : decode cX6_sweepOne 42 = .ok (.iload_n 2, 1) := by decide +kernel
theorem dX6_sweepOne_43 : decode cX6_sweepOne 43 = .ok (.invokevirtual 128, 3) := by decide +kernel
theorem dX6_sweepOne_46 : decode cX6_sweepOne 46 = .ok (.invokevirtual 131, 3) := by decide +kernel
theorem dX6_sweepOne_49 : decode cX6_sweepOne 49 = .ok (.iconst 1, 1) := by decide +kernel
theorem dX6_sweepOne_50 : decode cX6_sweepOne 50 = .ok (.ireturn, 1) := by decide +kernel
theorem dX6_firstFound_0 : decode cX6_firstFound 0 = .ok (.aload_n 1, 1) := by decide +kernel
theorem dX6_firstFound_1 : decode cX6_firstFound 1 = .ok (.iconst 0, 1) := by decide +kernel
theorem dX6_firstFound_2 : decode cX6_firstFound 2 = .ok (.invokestatic 102, 3) := by decide +kernel
theorem dX6_firstFound_5 : decode cX6_firstFound 5 = .ok (.istore_n 2, 1) := by decide +kernel
theorem dX6_firstFound_6 : decode cX6_firstFound 6 = .ok (.iconst 1, 1) := by decide +kernel
theorem dX6_firstFound_7 : decode cX6_firstFound 7 = .ok (.istore_n 3, 1) := by decide +kernel
theorem dX6_firstFound_8 : decode cX6_firstFound 8 = .ok (.iload_n 3, 1) := by decide +kernel
theorem dX6_firstFound_9 : decode cX6_firstFound 9 = .ok (.bipush 12, 2) := by decide +kernel
theorem dX6_firstFound_11 : decode cX6_firstFound 11 = .ok (.if_icmp .ge 37, 3) := by decide +kernel
theorem dX6_firstFound_14 : decode cX6_firstFound 14 = .ok (.aload_n 1, 1) := by decide +kernel
theorem dX6_firstFound_15 : decode cX6_firstFound 15 = .ok (.iconst 0, 1) := by decide +kernel
theorem dX6_firstFound_16 : decode cX6_firstFound 16 = .ok (.iload_n 3, 1) := by decide +kernel
theorem dX6_firstFound_17 : decode cX6_firstFound 17 = .ok (.iconst 0, 1) := by decide +kernel
theorem dX6_firstFound_18 : decode cX6_firstFound 18 = .ok (.invokevirtual 91, 3) := by decide +kernel
theorem dX6_firstFound_21 : decode cX6_firstFound 21 = .ok (.istore 4, 2) := by decide +kernel
theorem dX6_firstFound_23 : decode cX6_firstFound 23 = .ok (.iload 4, 2) := by decide +kernel
theorem dX6_firstFound_25 : decode cX6_firstFound 25 = .ok (.ifCond .le 17, 3) := by decide +kernel
theorem dX6_firstFound_28 : decode cX6_firstFound 28 = .ok (.iload 4, 2) := by decide +kernel
theorem dX6_firstFound_30 : decode cX6_firstFound 30 = .ok (.aload_n 0, 1) := by decide +kernel
theorem dX6_firstFound_31 : decode cX6_firstFound 31 = .ok (.aload_n 1, 1) := by decide +kernel
theorem dX6_firstFound_32 : decode cX6_firstFound 32 = .ok (.iload_n 2, 1) := by decide +kernel
theorem dX6_firstFound_33 : decode cX6_firstFound 33 = .ok (.iload_n 3, 1) := by decide +kernel
theorem dX6_firstFound_34 : decode cX6_firstFound 34 = .ok (.invokevirtual 128, 3) := by decide +kernel
theorem dX6_firstFound_37 : decode cX6_firstFound 37 = .ok (.if_icmp .le 5, 3) := by decide +kernel
theorem dX6_firstFound_40 : decode cX6_firstFound 40 = .ok (.iload_n 3, 1) := by decide +kernel
theorem dX6_firstFound_41 : decode cX6_firstFound 41 = .ok (.ireturn, 1) := by decide +kernel
theorem dX6_firstFound_42 : decode cX6_firstFound 42 = .ok (.iinc 3 1, 3) := by decide +kernel
theorem dX6_firstFound_45 : decode cX6_firstFound 45 = .ok (.goto (-37), 3) := by decide +kernel
theorem dX6_firstFound_48 : decode cX6_firstFound 48 = .ok (.aload_n 1, 1) := by decide +kernel
theorem dX6_firstFound_49 : decode cX6_firstFound 49 = .ok (.iconst 0, 1) := by decide +kernel
theorem dX6_firstFound_50 : decode cX6_firstFound 50 = .ok (.aload_n 1, 1) := by decide +kernel
theorem dX6_firstFound_51 : decode cX6_firstFound 51 = .ok (.iconst 0, 1) := by decide +kernel
theorem dX6_firstFound_52 : decode cX6_firstFound 52 = .ok (.invokestatic 134, 3) := by decide +kernel
theorem dX6_firstFound_55 : decode cX6_firstFound 55 = .ok (.invokestatic 137, 3) := by decide +kernel
theorem dX6_firstFound_58 : decode cX6_firstFound 58 = .ok (.istore_n 3, 1) := by decide +kernel
theorem dX6_firstFound_59 : decode cX6_firstFound 59 = .ok (.iconst 4, 1) := by decide +kernel
theorem dX6_firstFound_60 : decode cX6_firstFound 60 = .ok (.istore 4, 2) := by decide +kernel
theorem dX6_firstFound_62 : decode cX6_firstFound 62 = .ok (.iload 4, 2) := by decide +kernel
theorem dX6_firstFound_64 : decode cX6_firstFound 64 = .ok (.aload_n 1, 1) := by decide +kernel
theorem dX6_firstFound_65 : decode cX6_firstFound 65 = .ok (.getfield 140, 3) := by decide +kernel
theorem dX6_firstFound_68 : decode cX6_firstFound 68 = .ok (.if_icmp .ge 47, 3) := by decide +kernel
theorem dX6_firstFound_71 : decode cX6_firstFound 71 = .ok (.aload_n 1, 1) := by decide +kernel
theorem dX6_firstFound_72 : decode cX6_firstFound 72 = .ok (.iconst 0, 1) := by decide +kernel
theorem dX6_firstFound_73 : decode cX6_firstFound 73 = .ok (.iconst 0, 1) := by decide +kernel
theorem dX6_firstFound_74 : decode cX6_firstFound 74 = .ok (.iload 4, 2) := by decide +kernel
theorem dX6_firstFound_76 : decode cX6_firstFound 76 = .ok (.invokevirtual 143, 3) := by decide +kernel
theorem dX6_firstFound_79 : decode cX6_firstFound 79 = .ok (.ifCond .eq 30, 3) := by decide +kernel
theorem dX6_firstFound_82 : decode cX6_firstFound 82 = .ok (.iload_n 3, 1) := by decide +kernel
theorem dX6_firstFound_83 : decode cX6_firstFound 83 = .ok (.iload 4, 2) := by decide +kernel
theorem dX6_firstFound_85 : decode cX6_firstFound 85 = .ok (.ishr, 1) := by decide +kernel
theorem dX6_firstFound_86 : decode cX6_firstFound 86 = .ok (.iconst 1, 1) := by decide +kernel
theorem dX6_firstFound_87 : decode cX6_firstFound 87 = .ok (.iand, 1) := by decide +kernel
theorem dX6_firstFound_88 : decode cX6_firstFound 88 = .ok (.ifCond .ne 21, 3) := by decide +kernel
theorem dX6_firstFound_91 : decode cX6_firstFound 91 = .ok (.aload_n 1, 1) := by decide +kernel
theorem dX6_firstFound_92 : decode cX6_firstFound 92 = .ok (.bipush 100, 2) := by decide +kernel
theorem dX6_firstFound_94 : decode cX6_firstFound 94 = .ok (.iload 4, 2) := by decide +kernel
theorem dX6_firstFound_96 : decode cX6_firstFound 96 = .ok (.iadd, 1) := by decide +kernel
theorem dX6_firstFound_97 : decode cX6_firstFound 97 = .ok (.invokevirtual 146, 3) := by decide +kernel
theorem dX6_firstFound_100 : decode cX6_firstFound 100 = .ok (.ifCond .ne 9, 3) := by decide +kernel
theorem dX6_firstFound_103 : decode cX6_firstFound 103 = .ok (.bipush 100, 2) := by decide +kernel
theorem dX6_firstFound_105 : decode cX6_firstFound 105 = .ok (.iload 4, 2) := by decide +kernel
theorem dX6_firstFound_107 : decode cX6_firstFound 107 = .ok (.iadd, 1) := by decide +kernel
theorem dX6_firstFound_108 : decode cX6_firstFound 108 = .ok (.ireturn, 1) := by decide +kernel
theorem dX6_firstFound_109 : decode cX6_firstFound 109 = .ok (.iinc 4 1, 3) := by decide +kernel
theorem dX6_firstFound_112 : decode cX6_firstFound 112 = .ok (.goto (-50), 3) := by decide +kernel
theorem dX6_firstFound_115 : decode cX6_firstFound 115 = .ok (.iconst (-1), 1) := by decide +kernel
theorem dX6_firstFound_116 : decode cX6_firstFound 116 = .ok (.ireturn, 1) := by decide +kernel
theorem dX6_linksDue_0 : decode cX6_linksDue 0 = .ok (.aload_n 1, 1) := by decide +kernel
theorem dX6_linksDue_1 : decode cX6_linksDue 1 = .ok (.iload_n 3, 1) := by decide +kernel
theorem dX6_linksDue_2 : decode cX6_linksDue 2 = .ok (.invokevirtual 146, 3) := by decide +kernel
theorem dX6_linksDue_5 : decode cX6_linksDue 5 = .ok (.istore 4, 2) := by decide +kernel
theorem dX6_linksDue_7 : decode cX6_linksDue 7 = .ok (.iconst 0, 1) := by decide +kernel
theorem dX6_linksDue_8 : decode cX6_linksDue 8 = .ok (.istore 5, 2) := by decide +kernel
theorem dX6_linksDue_10 : decode cX6_linksDue 10 = .ok (.iload 5, 2) := by decide +kernel
theorem dX6_linksDue_12 : decode cX6_linksDue 12 = .ok (.bipush 12, 2) := by decide +kernel
theorem dX6_linksDue_14 : decode cX6_linksDue 14 = .ok (.if_icmp .ge 31, 3) := by decide +kernel
theorem dX6_linksDue_17 : decode cX6_linksDue 17 = .ok (.iload_n 2, 1) := by decide +kernel
theorem dX6_linksDue_18 : decode cX6_linksDue 18 = .ok (.iload 5, 2) := by decide +kernel
theorem dX6_linksDue_20 : decode cX6_linksDue 20 = .ok (.ishr, 1) := by decide +kernel
theorem dX6_linksDue_21 : decode cX6_linksDue 21 = .ok (.iconst 1, 1) := by decide +kernel
theorem dX6_linksDue_22 : decode cX6_linksDue 22 = .ok (.iand, 1) := by decide +kernel
theorem dX6_linksDue_23 : decode cX6_linksDue 23 = .ok (.ifCond .eq 16, 3) := by decide +kernel
theorem dX6_linksDue_26 : decode cX6_linksDue 26 = .ok (.iload 4, 2) := by decide +kernel
theorem dX6_linksDue_28 : decode cX6_linksDue 28 = .ok (.aload_n 1, 1) := by decide +kernel
theorem dX6_linksDue_29 : decode cX6_linksDue 29 = .ok (.iconst 0, 1) := by decide +kernel
theorem dX6_linksDue_30 : decode cX6_linksDue 30 = .ok (.iload 5, 2) := by decide +kernel
theorem dX6_linksDue_32 : decode cX6_linksDue 32 = .ok (.iload_n 3, 1) := by decide +kernel
theorem dX6_linksDue_33 : decode cX6_linksDue 33 = .ok (.invokestatic 150, 3) := by decide +kernel
theorem dX6_linksDue_36 : decode cX6_linksDue 36 = .ok (.iadd, 1) := by decide +kernel
theorem dX6_linksDue_37 : decode cX6_linksDue 37 = .ok (.istore 4, 2) := by decide +kernel
theorem dX6_linksDue_39 : decode cX6_linksDue 39 = .ok (.iinc 5 1, 3) := by decide +kernel
theorem dX6_linksDue_42 : decode cX6_linksDue 42 = .ok (.goto (-32), 3) := by decide +kernel
theorem dX6_linksDue_45 : decode cX6_linksDue 45 = .ok (.iload 4, 2) := by decide +kernel
theorem dX6_linksDue_47 : decode cX6_linksDue 47 = .ok (.ireturn, 1) := by decide +kernel
theorem dX6_isFile_0 : decode cX6_isFile 0 = .ok (.aload_n 1, 1) := by decide +kernel
theorem dX6_isFile_1 : decode cX6_isFile 1 = .ok (.iconst 0, 1) := by decide +kernel
theorem dX6_isFile_2 : decode cX6_isFile 2 = .ok (.iload_n 2, 1) := by decide +kernel
theorem dX6_isFile_3 : decode cX6_isFile 3 = .ok (.iconst 0, 1) := by decide +kernel
theorem dX6_isFile_4 : decode cX6_isFile 4 = .ok (.invokevirtual 91, 3) := by decide +kernel
theorem dX6_isFile_7 : decode cX6_isFile 7 = .ok (.ifCond .eq 18, 3) := by decide +kernel
theorem dX6_isFile_10 : decode cX6_isFile 10 = .ok (.aload_n 1, 1) := by decide +kernel
theorem dX6_isFile_11 : decode cX6_isFile 11 = .ok (.iconst 0, 1) := by decide +kernel
theorem dX6_isFile_12 : decode cX6_isFile 12 = .ok (.iload_n 2, 1) := by decide +kernel
theorem dX6_isFile_13 : decode cX6_isFile 13 = .ok (.iconst 1, 1) := by decide +kernel
theorem dX6_isFile_14 : decode cX6_isFile 14 = .ok (.invokevirtual 91, 3) := by decide +kernel
theorem dX6_isFile_17 : decode cX6_isFile 17 = .ok (.iconst 1, 1) := by decide +kernel
theorem dX6_isFile_18 : decode cX6_isFile 18 = .ok (.if_icmp .ne 7, 3) := by decide +kernel
theorem dX6_isFile_21 : decode cX6_isFile 21 = .ok (.iconst 1, 1) := by decide +kernel
theorem dX6_isFile_22 : decode cX6_isFile 22 = .ok (.goto 4, 3) := by decide +kernel
theorem dX6_isFile_25 : decode cX6_isFile 25 = .ok (.iconst 0, 1) := by decide +kernel
theorem dX6_isFile_26 : decode cX6_isFile 26 = .ok (.ireturn, 1) := by decide +kernel
theorem dX6_freeNode_0 : decode cX6_freeNode 0 = .ok (.iconst 0, 1) := by decide +kernel
theorem dX6_freeNode_1 : decode cX6_freeNode 1 = .ok (.istore_n 2, 1) := by decide +kernel
theorem dX6_freeNode_2 : decode cX6_freeNode 2 = .ok (.iload_n 2, 1) := by decide +kernel
theorem dX6_freeNode_3 : decode cX6_freeNode 3 = .ok (.bipush 12, 2) := by decide +kernel
theorem dX6_freeNode_5 : decode cX6_freeNode 5 = .ok (.if_icmp .ge 31, 3) := by decide +kernel
theorem dX6_freeNode_8 : decode cX6_freeNode 8 = .ok (.aload_n 1, 1) := by decide +kernel
theorem dX6_freeNode_9 : decode cX6_freeNode 9 = .ok (.iconst 0, 1) := by decide +kernel
theorem dX6_freeNode_10 : decode cX6_freeNode 10 = .ok (.iload_n 2, 1) := by decide +kernel
theorem dX6_freeNode_11 : decode cX6_freeNode 11 = .ok (.iconst 0, 1) := by decide +kernel
theorem dX6_freeNode_12 : decode cX6_freeNode 12 = .ok (.invokevirtual 91, 3) := by decide +kernel
theorem dX6_freeNode_15 : decode cX6_freeNode 15 = .ok (.ifCond .ne 15, 3) := by decide +kernel
theorem dX6_freeNode_18 : decode cX6_freeNode 18 = .ok (.aload_n 1, 1) := by decide +kernel
theorem dX6_freeNode_19 : decode cX6_freeNode 19 = .ok (.iconst 0, 1) := by decide +kernel
theorem dX6_freeNode_20 : decode cX6_freeNode 20 = .ok (.iload_n 2, 1) := by decide +kernel
theorem dX6_freeNode_21 : decode cX6_freeNode 21 = .ok (.iconst 1, 1) := by decide +kernel
theorem dX6_freeNode_22 : decode cX6_freeNode 22 = .ok (.invokevirtual 91, 3) := by decide +kernel
theorem dX6_freeNode_25 : decode cX6_freeNode 25 = .ok (.ifCond .ne 5, 3) := by decide +kernel
theorem dX6_freeNode_28 : decode cX6_freeNode 28 = .ok (.iload_n 2, 1) := by decide +kernel
theorem dX6_freeNode_29 : decode cX6_freeNode 29 = .ok (.ireturn, 1) := by decide +kernel
theorem dX6_freeNode_30 : decode cX6_freeNode 30 = .ok (.iinc 2 1, 3) := by decide +kernel
theorem dX6_freeNode_33 : decode cX6_freeNode 33 = .ok (.goto (-31), 3) := by decide +kernel
theorem dX6_freeNode_36 : decode cX6_freeNode 36 = .ok (.iconst (-1), 1) := by decide +kernel
theorem dX6_freeNode_37 : decode cX6_freeNode 37 = .ok (.ireturn, 1) := by decide +kernel
theorem dX6_freeBlock_0 : decode cX6_freeBlock 0 = .ok (.iconst 4, 1) := by decide +kernel
theorem dX6_freeBlock_1 : decode cX6_freeBlock 1 = .ok (.istore_n 2, 1) := by decide +kernel
theorem dX6_freeBlock_2 : decode cX6_freeBlock 2 = .ok (.iload_n 2, 1) := by decide +kernel
theorem dX6_freeBlock_3 : decode cX6_freeBlock 3 = .ok (.aload_n 1, 1) := by decide +kernel
theorem dX6_freeBlock_4 : decode cX6_freeBlock 4 = .ok (.getfield 140, 3) := by decide +kernel
theorem dX6_freeBlock_7 : decode cX6_freeBlock 7 = .ok (.if_icmp .ge 21, 3) := by decide +kernel
theorem dX6_freeBlock_10 : decode cX6_freeBlock 10 = .ok (.aload_n 1, 1) := by decide +kernel
theorem dX6_freeBlock_11 : decode cX6_freeBlock 11 = .ok (.iconst 0, 1) := by decide +kernel
theorem dX6_freeBlock_12 : decode cX6_freeBlock 12 = .ok (.iconst 0, 1) := by decide +kernel
theorem dX6_freeBlock_13 : decode cX6_freeBlock 13 = .ok (.iload_n 2, 1) := by decide +kernel
theorem dX6_freeBlock_14 : decode cX6_freeBlock 14 = .ok (.invokevirtual 143, 3) := by decide +kernel
theorem dX6_freeBlock_17 : decode cX6_freeBlock 17 = .ok (.ifCond .ne 5, 3) := by decide +kernel
theorem dX6_freeBlock_20 : decode cX6_freeBlock 20 = .ok (.iload_n 2, 1) := by decide +kernel
theorem dX6_freeBlock_21 : decode cX6_freeBlock 21 = .ok (.ireturn, 1) := by decide +kernel
theorem dX6_freeBlock_22 : decode cX6_freeBlock 22 = .ok (.iinc 2 1, 3) := by decide +kernel
theorem dX6_freeBlock_25 : decode cX6_freeBlock 25 = .ok (.goto (-23), 3) := by decide +kernel
theorem dX6_freeBlock_28 : decode cX6_freeBlock 28 = .ok (.iconst (-1), 1) := by decide +kernel
theorem dX6_freeBlock_29 : decode cX6_freeBlock 29 = .ok (.ireturn, 1) := by decide +kernel
theorem eX6_init {G : GG} {d : Nat} {h : Hp} {o : OU} {h' : Hp} (r0 : Nat) (hd : 1 ≤ d) (T : r0 ≠ 0 ∧ (∀ h2 : Hp, h2 = (nwH h 12 0 6) → (nH h) ≠ 0 ∧ ∃ h4, VM G mX2_init (d - 1) [.ref (nH h)] h2 (.inl none) h4 ∧ kH h4 r0 = 16 ∧ (∀ h8 : Hp, h8 = (sR h4 r0 0 (nH h)) → (o = .inl none ∧ h' = h8)))) : VM G mX6_init d [.ref r0] h o h' := by
  refine V.toM rfl rfl (le_l rfl) (cat_all rfl) ?_
  show V G mX6_init d 0 [.ref r0] [] h o h'
  have hdd : d - 1 + 1 ≤ d := by omega
  refine v_aload_n (pc' := 1) dX6_init_0 rfl rfl ?_
  obtain ⟨q1, T⟩ := T
  refine v_objInit (pc' := 4) dX6_init_1 rfl km_X6_3 kx_oi kx_oc hd (le_l rfl) q1 ?_
  refine v_aload_n (pc' := 5) dX6_init_4 rfl rfl ?_
  refine v_new (pc' := 8) 2 dX6_init_5 rfl (by decide) kk_X6_9 kb_X2 kn_X2 ?_
  show V G mX6_init d 8 [.ref r0] [.ref (nH h), .ref r0] (nwH h 12 0 6) o h'
  obtain ⟨h2, e3⟩ : ∃ z : Hp, z = (nwH h 12 0 6) := ⟨_, rfl⟩
  rw [← e3]
  have T := T h2 e3
  refine v_dup (pc' := 9) dX6_init_8 rfl rfl ?_
  obtain ⟨q6, T⟩ := T
  obtain ⟨h4, k5, T⟩ := T
  refine v_callN (pc' := 12) (M1 := mX2_init) (as := []) (r := (nH h)) (rest := [.ref (nH h), .ref r0]) RX9 dX6_init_9 rfl rfl rfl (by decide) kn_X2 (by decide +kernel) kc_X2_init ki_X2_init (by decide) hdd rfl rfl (le_l rfl) q6 k5 ?_
  obtain ⟨q7, T⟩ := T
  refine v_putF (pc' := 15) 6 0 dX6_init_12 rfl (by decide) (by decide) rfl rfl rfl rfl kf_X6_12 q7 ?_
  show V G mX6_init d 15 [.ref r0] [] (sR h4 r0 0 (nH h)) o h'
  obtain ⟨h8, e9⟩ : ∃ z : Hp, z = (sR h4 r0 0 (nH h)) := ⟨_, rfl⟩
  rw [← e9]
  have T := T h8 e9
  exact v_vret dX6_init_15 rfl T
theorem eX6_take {G : GG} {d : Nat} {h : Hp} {o : OU} {h' : Hp} (r0 : Nat) (r1 : Nat) (x2 : Int32) (x3 : Int32) (x4 : Int32) (x5 : Int32) (T : ((7 < x2 → V G mX6_take d 26 [.ref r0, .ref r1, .int x2, .int x3, .int x4, .int x5] [] h o h') ∧ (¬ 7 < x2 → kH h r1 = 15 ∧ ((60 ≤ (h.2 r1 2) → (o = .inl (some (.int 0)) ∧ h' = h)) ∧ (¬ 60 ≤ (h.2 r1 2) → (((h.2 r1 9) < 30 → V G mX6_take d 26 [.ref r0, .ref r1, .int x2, .int x3, .int x4, .int x5] [] h o h') ∧ (¬ (h.2 r1 9) < 30 → (o = .inl (some (.int 0)) ∧ h' = h)))))))) : VM G mX6_take d [.ref r0, .ref r1, .int x2, .int x3, .int x4, .int x5] h o h' := by
  refine V.toM rfl rfl (le_l rfl) (cat_all rfl) ?_
  show V G mX6_take d 0 [.ref r0, .ref r1, .int x2, .int x3, .int x4, .int x5] [] h o h'
  refine v_iload_n (pc' := 1) dX6_take_0 rfl rfl ?_
  refine v_bipush (pc' := 3) (v := 7) dX6_take_1 rfl kB_7 ?_
  refine v_icmp_gt (tgt := 26) (pc' := 6) dX6_take_3 (by decide) rfl ⟨fun c1 => ?_, fun c1 => ?_⟩
  · have T := T.1 c1
    exact T
  · have T := T.2 c1
    refine v_aload_n (pc' := 7) dX6_take_6 rfl rfl ?_
    obtain ⟨q2, T⟩ := T
    refine v_getI (pc' := 10) 5 2 dX6_take_7 rfl (by decide) (by decide) rfl kf_X6_18 q2 ?_
    refine v_bipush (pc' := 12) (v := 60) dX6_take_10 rfl kB_60 ?_
    refine v_icmp_ge (tgt := 24) (pc' := 15) dX6_take_12 (by decide) rfl ⟨fun c3 => ?_, fun c3 => ?_⟩
    · have T := T.1 c3
      refine v_iconst (pc' := 25) (v := 0) dX6_take_24 rfl kI_0 ?_
      exact v_zret dX6_take_25 rfl (Or.inl rfl) T
    · have T := T.2 c3
      refine v_aload_n (pc' := 16) dX6_take_15 rfl rfl ?_
      refine v_getI (pc' := 19) 5 9 dX6_take_16 rfl (by decide) (by decide) rfl kf_X6_24 q2 ?_
      refine v_bipush (pc' := 21) (v := 30) dX6_take_19 rfl kB_30 ?_
      refine v_icmp_lt (tgt := 26) (pc' := 24) dX6_take_21 (by decide) rfl ⟨fun c4 => ?_, fun c4 => ?_⟩
      · have T := T.1 c4
        exact T
      · have T := T.2 c4
        refine v_iconst (pc' := 25) (v := 0) dX6_take_24 rfl kI_0 ?_
        exact v_zret dX6_take_25 rfl (Or.inl rfl) T
theorem bX6_take_26 {G : GG} {d : Nat} {h : Hp} {o : OU} {h' : Hp} (r0 : Nat) (r1 : Nat) (x2 : Int32) (x3 : Int32) (x4 : Int32) (x5 : Int32) (hd : 1 ≤ d) (T : ((x2 = 0 → kH h r0 = 16 ∧ ∃ z3 h2, VM G mX6_makeFile (d - 1) [.ref r0, .ref r1, .int x3, .int x4] h (.inl (some (.int z3))) h2 ∧ (z3 = 0 ∨ z3 = 1) ∧ (o = .inl (some (.int z3)) ∧ h' = h2)) ∧ (x2 = 1 → kH h r0 = 16 ∧ ∃ z9 h8, VM G mX6_makeDirectory (d - 1) [.ref r0, .ref r1, .int x3, .int x4] h (.inl (some (.int z9))) h8 ∧ (z9 = 0 ∨ z9 = 1) ∧ (o = .inl (some (.int z9)) ∧ h' = h8)) ∧ (x2 = 2 → kH h r0 = 16 ∧ ∃ z15 h14, VM G mX6_linkFile (d - 1) [.ref r0, .ref r1, .int x3, .int x4, .int x5] h (.inl (some (.int z15))) h14 ∧ (z15 = 0 ∨ z15 = 1) ∧ (o = .inl (some (.int z15)) ∧ h' = h14)) ∧ (x2 = 3 → kH h r0 = 16 ∧ ∃ z21 h20, VM G mX6_growNode (d - 1) [.ref r0, .ref r1, .int x3, .int x4] h (.inl (some (.int z21))) h20 ∧ (z21 = 0 ∨ z21 = 1) ∧ (o = .inl (some (.int z21)) ∧ h' = h20)) ∧ (x2 = 4 → kH h r0 = 16 ∧ ∃ z27 h26, VM G mX6_putInFile (d - 1) [.ref r0, .ref r1, .int x3, .int x4, .int x5] h (.inl (some (.int z27))) h26 ∧ (z27 = 0 ∨ z27 = 1) ∧ (o = .inl (some (.int z27)) ∧ h' = h26)) ∧ (x2 = 5 → kH h r0 = 16 ∧ ∃ z33 h32, VM G mX6_cutFile (d - 1) [.ref r0, .ref r1, .int x3] h (.inl (some (.int z33))) h32 ∧ (z33 = 0 ∨ z33 = 1) ∧ (o = .inl (some (.int z33)) ∧ h' = h32)) ∧ (x2 = 6 → kH h r0 = 16 ∧ ∃ z39 h38, VM G mX6_dropEntry (d - 1) [.ref r0, .ref r1, .int x3, .int x4] h (.inl (some (.int z39))) h38 ∧ (z39 = 0 ∨ z39 = 1) ∧ (o = .inl (some (.int z39)) ∧ h' = h38)) ∧ (x2 = 7 → kH h r0 = 16 ∧ ∃ z45 h44, VM G mX6_sweepOne (d - 1) [.ref r0, .ref r1] h (.inl (some (.int z45))) h44 ∧ (z45 = 0 ∨ z45 = 1) ∧ (o = .inl (some (.int z45)) ∧ h' = h44)) ∧ (x2 = 8 → kH h r0 = 16 ∧ kH h (rH h r0 0) = 12 ∧ ∃ z52 h51, VM G mX2_writeBlock (d - 1) [.ref (rH h r0 0), .ref r1, .int x3] h (.inl (some (.int z52))) h51 ∧ (z52 = 0 ∨ z52 = 1) ∧ (o = .inl (some (.int z52)) ∧ h' = h51)) ∧ (x2 = 9 → kH h r0 = 16 ∧ kH h (rH h r0 0) = 12 ∧ ∃ z59 h58, VM G mX2_syncAll (d - 1) [.ref (rH h r0 0), .ref r1] h (.inl (some (.int z59))) h58 ∧ ((z59 ≤ 0 → (o = .inl (some (.int 0)) ∧ h' = h58)) ∧ (¬ z59 ≤ 0 → (o = .inl (some (.int 1)) ∧ h' = h58)))) ∧ (x2 = 10 → kH h r1 = 15 ∧ ∃ h64, VM G mX5_crash (d - 1) [.ref r1] h (.inl none) h64 ∧ (o = .inl (some (.int 1)) ∧ h' = h64)) ∧ (¬ x2 = 0 → ¬ x2 = 1 → ¬ x2 = 2 → ¬ x2 = 3 → ¬ x2 = 4 → ¬ x2 = 5 → ¬ x2 = 6 → ¬ x2 = 7 → ¬ x2 = 8 → ¬ x2 = 9 → ¬ x2 = 10 → (o = .inl (some (.int 0)) ∧ h' = h)))) : V G mX6_take d 26 [.ref r0, .ref r1, .int x2, .int x3, .int x4, .int x5] [] h o h' := by
  have hdd : d - 1 + 1 ≤ d := by omega
  refine v_iload_n (pc' := 27) dX6_take_26 rfl rfl ?_
  by_cases c1 : x2 = 0
  · have T := T.1 c1
    refine v_switchIn (off := 57) (pc' := 84) dX6_take_27 (by rw [c1]; decide) (by rw [c1]; decide) (by rw [c1]; rfl) (by decide) ?_
    refine v_aload_n (pc' := 85) dX6_take_84 rfl rfl ?_
    refine v_aload_n (pc' := 86) dX6_take_85 rfl rfl ?_
    refine v_iload_n (pc' := 87) dX6_take_86 rfl rfl ?_
    refine v_iload (pc' := 89) dX6_take_87 rfl rfl ?_
    obtain ⟨q5, T⟩ := T
    obtain ⟨z3, h2, k4, T⟩ := T
    refine v_callV (pc' := 92) (M1 := mX6_makeFile) (as := [.ref r1, .int x3, .int x4]) (r := r0) (rest := []) 6 dX6_take_89 rfl ko_X6_27 kc_X6_makeFile ki_X6_makeFile ks_X6_makeFile (by decide) (by decide) hdd rfl rfl (le_l rfl) q5 k4 ?_
    obtain ⟨q6, T⟩ := T
    exact v_zret dX6_take_92 rfl q6 T
  by_cases c7 : x2 = 1
  · have T := T.2.1 c7
    refine v_switchIn (off := 66) (pc' := 93) dX6_take_27 (by rw [c7]; decide) (by rw [c7]; decide) (by rw [c7]; rfl) (by decide) ?_
    refine v_aload_n (pc' := 94) dX6_take_93 rfl rfl ?_
    refine v_aload_n (pc' := 95) dX6_take_94 rfl rfl ?_
    refine v_iload_n (pc' := 96) dX6_take_95 rfl rfl ?_
    refine v_iload (pc' := 98) dX6_take_96 rfl rfl ?_
    obtain ⟨q11, T⟩ := T
    obtain ⟨z9, h8, k10, T⟩ := T
    refine v_callV (pc' := 101) (M1 := mX6_makeDirectory) (as := [.ref r1, .int x3, .int x4]) (r := r0) (rest := []) 6 dX6_take_98 rfl ko_X6_31 kc_X6_makeDirectory ki_X6_makeDirectory ks_X6_makeDirectory (by decide) (by decide) hdd rfl rfl (le_l rfl) q11 k10 ?_
    obtain ⟨q12, T⟩ := T
    exact v_zret dX6_take_101 rfl q12 T
  by_cases c13 : x2 = 2
  · have T := T.2.2.1 c13
    refine v_switchIn (off := 75) (pc' := 102) dX6_take_27 (by rw [c13]; decide) (by rw [c13]; decide) (by rw [c13]; rfl) (by decide) ?_
    refine v_aload_n (pc' := 103) dX6_take_102 rfl rfl ?_
    refine v_aload_n (pc' := 104) dX6_take_103 rfl rfl ?_
    refine v_iload_n (pc' := 105) dX6_take_104 rfl rfl ?_
    refine v_iload (pc' := 107) dX6_take_105 rfl rfl ?_
    refine v_iload (pc' := 109) dX6_take_107 rfl rfl ?_
    obtain ⟨q17, T⟩ := T
    obtain ⟨z15, h14, k16, T⟩ := T
    refine v_callV (pc' := 112) (M1 := mX6_linkFile) (as := [.ref r1, .int x3, .int x4, .int x5]) (r := r0) (rest := []) 6 dX6_take_109 rfl ko_X6_34 kc_X6_linkFile ki_X6_linkFile ks_X6_linkFile (by decide) (by decide) hdd rfl rfl (le_l rfl) q17 k16 ?_
    obtain ⟨q18, T⟩ := T
    exact v_zret dX6_take_112 rfl q18 T
  by_cases c19 : x2 = 3
  · have T := T.2.2.2.1 c19
    refine v_switchIn (off := 86) (pc' := 113) dX6_take_27 (by rw [c19]; decide) (by rw [c19]; decide) (by rw [c19]; rfl) (by decide) ?_
    refine v_aload_n (pc' := 114) dX6_take_113 rfl rfl ?_
    refine v_aload_n (pc' := 115) dX6_take_114 rfl rfl ?_
    refine v_iload_n (pc' := 116) dX6_take_115 rfl rfl ?_
    refine v_iload (pc' := 118) dX6_take_116 rfl rfl ?_
    obtain ⟨q23, T⟩ := T
    obtain ⟨z21, h20, k22, T⟩ := T
    refine v_callV (pc' := 121) (M1 := mX6_growNode) (as := [.ref r1, .int x3, .int x4]) (r := r0) (rest := []) 6 dX6_take_118 rfl ko_X6_38 kc_X6_growNode ki_X6_growNode ks_X6_growNode (by decide) (by decide) hdd rfl rfl (le_l rfl) q23 k22 ?_
    obtain ⟨q24, T⟩ := T
    exact v_zret dX6_take_121 rfl q24 T
  by_cases c25 : x2 = 4
  · have T := T.2.2.2.2.1 c25
    refine v_switchIn (off := 95) (pc' := 122) dX6_take_27 (by rw [c25]; decide) (by rw [c25]; decide) (by rw [c25]; rfl) (by decide) ?_
    refine v_aload_n (pc' := 123) dX6_take_122 rfl rfl ?_
    refine v_aload_n (pc' := 124) dX6_take_123 rfl rfl ?_
    refine v_iload_n (pc' := 125) dX6_take_124 rfl rfl ?_
    refine v_iload (pc' := 127) dX6_take_125 rfl rfl ?_
    refine v_iload (pc' := 129) dX6_take_127 rfl rfl ?_
    obtain ⟨q29, T⟩ := T
    obtain ⟨z27, h26, k28, T⟩ := T
    refine v_callV (pc' := 132) (M1 := mX6_putInFile) (as := [.ref r1, .int x3, .int x4, .int x5]) (r := r0) (rest := []) 6 dX6_take_129 rfl ko_X6_41 kc_X6_putInFile ki_X6_putInFile ks_X6_putInFile (by decide) (by decide) hdd rfl rfl (le_l rfl) q29 k28 ?_
    obtain ⟨q30, T⟩ := T
    exact v_zret dX6_take_132 rfl q30 T
  by_cases c31 : x2 = 5
  · have T := T.2.2.2.2.2.1 c31
    refine v_switchIn (off := 106) (pc' := 133) dX6_take_27 (by rw [c31]; decide) (by rw [c31]; decide) (by rw [c31]; rfl) (by decide) ?_
    refine v_aload_n (pc' := 134) dX6_take_133 rfl rfl ?_
    refine v_aload_n (pc' := 135) dX6_take_134 rfl rfl ?_
    refine v_iload_n (pc' := 136) dX6_take_135 rfl rfl ?_
    obtain ⟨q35, T⟩ := T
    obtain ⟨z33, h32, k34, T⟩ := T
    refine v_callV (pc' := 139) (M1 := mX6_cutFile) (as := [.ref r1, .int x3]) (r := r0) (rest := []) 6 dX6_take_136 rfl ko_X6_44 kc_X6_cutFile ki_X6_cutFile ks_X6_cutFile (by decide) (by decide) hdd rfl rfl (le_l rfl) q35 k34 ?_
    obtain ⟨q36, T⟩ := T
    exact v_zret dX6_take_139 rfl q36 T
  by_cases c37 : x2 = 6
  · have T := T.2.2.2.2.2.2.1 c37
    refine v_switchIn (off := 113) (pc' := 140) dX6_take_27 (by rw [c37]; decide) (by rw [c37]; decide) (by rw [c37]; rfl) (by decide) ?_
    refine v_aload_n (pc' := 141) dX6_take_140 rfl rfl ?_
    refine v_aload_n (pc' := 142) dX6_take_141 rfl rfl ?_
    refine v_iload_n (pc' := 143) dX6_take_142 rfl rfl ?_
    refine v_iload (pc' := 145) dX6_take_143 rfl rfl ?_
    obtain ⟨q41, T⟩ := T
    obtain ⟨z39, h38, k40, T⟩ := T
    refine v_callV (pc' := 148) (M1 := mX6_dropEntry) (as := [.ref r1, .int x3, .int x4]) (r := r0) (rest := []) 6 dX6_take_145 rfl ko_X6_48 kc_X6_dropEntry ki_X6_dropEntry ks_X6_dropEntry (by decide) (by decide) hdd rfl rfl (le_l rfl) q41 k40 ?_
    obtain ⟨q42, T⟩ := T
    exact v_zret dX6_take_148 rfl q42 T
  by_cases c43 : x2 = 7
  · have T := T.2.2.2.2.2.2.2.1 c43
    refine v_switchIn (off := 122) (pc' := 149) dX6_take_27 (by rw [c43]; decide) (by rw [c43]; decide) (by rw [c43]; rfl) (by decide) ?_
    refine v_aload_n (pc' := 150) dX6_take_149 rfl rfl ?_
    refine v_aload_n (pc' := 151) dX6_take_150 rfl rfl ?_
    obtain ⟨q47, T⟩ := T
    obtain ⟨z45, h44, k46, T⟩ := T
    refine v_callV (pc' := 154) (M1 := mX6_sweepOne) (as := [.ref r1]) (r := r0) (rest := []) 6 dX6_take_151 rfl ko_X6_51 kc_X6_sweepOne ki_X6_sweepOne ks_X6_sweepOne (by decide) (by decide) hdd rfl rfl (le_l rfl) q47 k46 ?_
    obtain ⟨q48, T⟩ := T
    exact v_zret dX6_take_154 rfl q48 T
  by_cases c49 : x2 = 8
  · have T := T.2.2.2.2.2.2.2.2.1 c49
    refine v_switchIn (off := 128) (pc' := 155) dX6_take_27 (by rw [c49]; decide) (by rw [c49]; decide) (by rw [c49]; rfl) (by decide) ?_
    refine v_aload_n (pc' := 156) dX6_take_155 rfl rfl ?_
    obtain ⟨q50, T⟩ := T
    refine v_getR (pc' := 159) 6 0 dX6_take_156 rfl (by decide) (by decide) rfl kf_X6_12 q50 ?_
    refine v_aload_n (pc' := 160) dX6_take_159 rfl rfl ?_
    refine v_iload_n (pc' := 161) dX6_take_160 rfl rfl ?_
    obtain ⟨q54, T⟩ := T
    obtain ⟨z52, h51, k53, T⟩ := T
    refine v_callV (pc' := 164) (M1 := mX2_writeBlock) (as := [.ref r1, .int x3]) (r := (rH h r0 0)) (rest := []) 2 dX6_take_161 rfl ko_X6_55 kc_X2_writeBlock ki_X2_writeBlock ks_X2_writeBlock (by decide) (by decide) hdd rfl rfl (le_l rfl) q54 k53 ?_
    obtain ⟨q55, T⟩ := T
    exact v_zret dX6_take_164 rfl q55 T
  by_cases c56 : x2 = 9
  · have T := T.2.2.2.2.2.2.2.2.2.1 c56
    refine v_switchIn (off := 138) (pc' := 165) dX6_take_27 (by rw [c56]; decide) (by rw [c56]; decide) (by rw [c56]; rfl) (by decide) ?_
    refine v_aload_n (pc' := 166) dX6_take_165 rfl rfl ?_
    obtain ⟨q57, T⟩ := T
    refine v_getR (pc' := 169) 6 0 dX6_take_166 rfl (by decide) (by decide) rfl kf_X6_12 q57 ?_
    refine v_aload_n (pc' := 170) dX6_take_169 rfl rfl ?_
    obtain ⟨q61, T⟩ := T
    obtain ⟨z59, h58, k60, T⟩ := T
    refine v_callV (pc' := 173) (M1 := mX2_syncAll) (as := [.ref r1]) (r := (rH h r0 0)) (rest := []) 2 dX6_take_170 rfl ko_X6_58 kc_X2_syncAll ki_X2_syncAll ks_X2_syncAll (by decide) (by decide) hdd rfl rfl (le_l rfl) q61 k60 ?_
    refine v_if_le (tgt := 180) (pc' := 176) dX6_take_173 (by decide) rfl ⟨fun c62 => ?_, fun c62 => ?_⟩
    · have T := T.1 c62
      refine v_iconst (pc' := 181) (v := 0) dX6_take_180 rfl kI_0 ?_
      exact v_zret dX6_take_181 rfl (Or.inl rfl) T
    · have T := T.2 c62
      refine v_iconst (pc' := 177) (v := 1) dX6_take_176 rfl kI_1 ?_
      refine v_goto (pc' := 181) dX6_take_177 (by decide) ?_
      exact v_zret dX6_take_181 rfl (Or.inr rfl) T
  by_cases c63 : x2 = 10
  · have T := T.2.2.2.2.2.2.2.2.2.2.1 c63
    refine v_switchIn (off := 155) (pc' := 182) dX6_take_27 (by rw [c63]; decide) (by rw [c63]; decide) (by rw [c63]; rfl) (by decide) ?_
    refine v_aload_n (pc' := 183) dX6_take_182 rfl rfl ?_
    obtain ⟨q66, T⟩ := T
    obtain ⟨h64, k65, T⟩ := T
    refine v_callV (pc' := 186) (M1 := mX5_crash) (as := []) (r := r1) (rest := []) 5 dX6_take_183 rfl ko_X6_62 kc_X5_crash ki_X5_crash ks_X5_crash (by decide) (by decide) hdd rfl rfl (le_l rfl) q66 k65 ?_
    refine v_iconst (pc' := 187) (v := 1) dX6_take_186 rfl kI_1 ?_
    exact v_zret dX6_take_187 rfl (Or.inr rfl) T
  have T := T.2.2.2.2.2.2.2.2.2.2.2 c1 c7 c13 c19 c25 c31 c37 c43 c49 c56 c63
  refine v_switchOut (pc' := 188) dX6_take_27 (sw_out (n := 10) (by decide) (fun k hk => by rcases (show k = 0 ∨ k = 1 ∨ k = 2 ∨ k = 3 ∨ k = 4 ∨ k = 5 ∨ k = 6 ∨ k = 7 ∨ k = 8 ∨ k = 9 ∨ k = 10 by omega) with rfl | rfl | rfl | rfl | rfl | rfl | rfl | rfl | rfl | rfl | rfl <;> assumption)) (by decide) ?_
  refine v_iconst (pc' := 189) (v := 0) dX6_take_188 rfl kI_0 ?_
  exact v_zret dX6_take_189 rfl (Or.inl rfl) T
theorem eX6_makeFile {G : GG} {d : Nat} {h : Hp} {o : OU} {h' : Hp} (r0 : Nat) (r1 : Nat) (x2 : Int32) (x3 : Int32) (hd : 1 ≤ d) (T : kH h r0 = 16 ∧ ∃ z2 h1, VM G mX6_entryFor (d - 1) [.ref r0, .ref r1, .int x2, .int x3] h (.inl (some (.int z2))) h1 ∧ kH h1 r0 = 16 ∧ ∃ z6 h5, VM G mX6_freeNode (d - 1) [.ref r0, .ref r1] h1 (.inl (some (.int z6))) h5 ∧ ((z2 = (-1) → (o = .inl (some (.int 0)) ∧ h' = h5)) ∧ (¬ z2 = (-1) → ((¬ z6 = (-1) → kH h5 r1 = 15 ∧ ∃ z12 h11, VM G mX5_putField (d - 1) [.ref r1, .int z6, .int 0, .int 1] h5 (.inl (some (.int z12))) h11 ∧ kH h11 r1 = 15 ∧ ∃ z16 h15, VM G mX5_putField (d - 1) [.ref r1, .int z6, .int 1, .int 1] h11 (.inl (some (.int z16))) h15 ∧ kH h15 r0 = 16 ∧ ∃ z20 h19, VM G mX6_nameEntry (d - 1) [.ref r0, .ref r1, .int z2, .int z6, .int x3] h15 (.inl (some (.int z20))) h19 ∧ kH h19 r1 = 15 ∧ ∃ h23, VM G mX5_need (d - 1) [.ref r1, .int z20, .int z12] h19 (.inl none) h23 ∧ kH h23 r1 = 15 ∧ ∃ h26, VM G mX5_need (d - 1) [.ref r1, .int z20, .int z16] h23 (.inl none) h26 ∧ (o = .inl (some (.int 1)) ∧ h' = h26)) ∧ (z6 = (-1) → (o = .inl (some (.int 0)) ∧ h' = h5)))))) : VM G mX6_makeFile d [.ref r0, .ref r1, .int x2, .int x3] h o h' := by
  refine V.toM rfl rfl (le_l rfl) (cat_all rfl) ?_
  show V G mX6_makeFile d 0 [.ref r0, .ref r1, .int x2, .int x3, uV, uV, uV, uV, uV] [] h o h'
  have hdd : d - 1 + 1 ≤ d := by omega
  refine v_aload_n (pc' := 1) dX6_makeFile_0 rfl rfl ?_
  refine v_aload_n (pc' := 2) dX6_makeFile_1 rfl rfl ?_
  refine v_iload_n (pc' := 3) dX6_makeFile_2 rfl rfl ?_
  refine v_iload_n (pc' := 4) dX6_makeFile_3 rfl rfl ?_
  obtain ⟨q4, T⟩ := T
  obtain ⟨z2, h1, k3, T⟩ := T
  refine v_callV (pc' := 7) (M1 := mX6_entryFor) (as := [.ref r1, .int x2, .int x3]) (r := r0) (rest := []) 6 dX6_makeFile_4 rfl ko_X6_65 kc_X6_entryFor ki_X6_entryFor ks_X6_entryFor (by decide) (by decide) hdd rfl rfl (le_l rfl) q4 k3 ?_
  refine v_istore (pc' := 9) (loc' := [.ref r0, .ref r1, .int x2, .int x3, .int z2, uV, uV, uV, uV]) dX6_makeFile_7 rfl (lt_l rfl) rfl ?_
  refine v_aload_n (pc' := 10) dX6_makeFile_9 rfl rfl ?_
  refine v_aload_n (pc' := 11) dX6_makeFile_10 rfl rfl ?_
  obtain ⟨q8, T⟩ := T
  obtain ⟨z6, h5, k7, T⟩ := T
  refine v_callV (pc' := 14) (M1 := mX6_freeNode) (as := [.ref r1]) (r := r0) (rest := []) 6 dX6_makeFile_11 rfl ko_X6_69 kc_X6_freeNode ki_X6_freeNode ks_X6_freeNode (by decide) (by decide) hdd rfl rfl (le_l rfl) q8 k7 ?_
  refine v_istore (pc' := 16) (loc' := [.ref r0, .ref r1, .int x2, .int x3, .int z2, .int z6, uV, uV, uV]) dX6_makeFile_14 rfl (lt_l rfl) rfl ?_
  refine v_iload (pc' := 18) dX6_makeFile_16 rfl rfl ?_
  refine v_iconst (pc' := 19) (v := (-1)) dX6_makeFile_18 rfl kI_m1 ?_
  refine v_icmp_eq (tgt := 28) (pc' := 22) dX6_makeFile_19 (by decide) rfl ⟨fun c9 => ?_, fun c9 => ?_⟩
  · have T := T.1 c9
    refine v_iconst (pc' := 29) (v := 0) dX6_makeFile_28 rfl kI_0 ?_
    exact v_zret dX6_makeFile_29 rfl (Or.inl rfl) T
  · have T := T.2 c9
    refine v_iload (pc' := 24) dX6_makeFile_22 rfl rfl ?_
    refine v_iconst (pc' := 25) (v := (-1)) dX6_makeFile_24 rfl kI_m1 ?_
    refine v_icmp_ne (tgt := 30) (pc' := 28) dX6_makeFile_25 (by decide) rfl ⟨fun c10 => ?_, fun c10 => ?_⟩
    · have T := T.1 c10
      refine v_aload_n (pc' := 31) dX6_makeFile_30 rfl rfl ?_
      refine v_iload (pc' := 33) dX6_makeFile_31 rfl rfl ?_
      refine v_iconst (pc' := 34) (v := 0) dX6_makeFile_33 rfl kI_0 ?_
      refine v_iconst (pc' := 35) (v := 1) dX6_makeFile_34 rfl kI_1 ?_
      obtain ⟨q14, T⟩ := T
      obtain ⟨z12, h11, k13, T⟩ := T
      refine v_callV (pc' := 38) (M1 := mX5_putField) (as := [.int z6, .int 0, .int 1]) (r := r1) (rest := []) 5 dX6_makeFile_35 rfl ko_X6_72 kc_X5_putField ki_X5_putField ks_X5_putField (by decide) (by decide) hdd rfl rfl (le_l rfl) q14 k13 ?_
      refine v_istore (pc' := 40) (loc' := [.ref r0, .ref r1, .int x2, .int x3, .int z2, .int z6, .int z12, uV, uV]) dX6_makeFile_38 rfl (lt_l rfl) rfl ?_
      refine v_aload_n (pc' := 41) dX6_makeFile_40 rfl rfl ?_
      refine v_iload (pc' := 43) dX6_makeFile_41 rfl rfl ?_
      refine v_iconst (pc' := 44) (v := 1) dX6_makeFile_43 rfl kI_1 ?_
      refine v_iconst (pc' := 45) (v := 1) dX6_makeFile_44 rfl kI_1 ?_
      obtain ⟨q18, T⟩ := T
      obtain ⟨z16, h15, k17, T⟩ := T
      refine v_callV (pc' := 48) (M1 := mX5_putField) (as := [.int z6, .int 1, .int 1]) (r := r1) (rest := []) 5 dX6_makeFile_45 rfl ko_X6_72 kc_X5_putField ki_X5_putField ks_X5_putField (by decide) (by decide) hdd rfl rfl (le_l rfl) q18 k17 ?_
      refine v_istore (pc' := 50) (loc' := [.ref r0, .ref r1, .int x2, .int x3, .int z2, .int z6, .int z12, .int z16, uV]) dX6_makeFile_48 rfl (lt_l rfl) rfl ?_
      refine v_aload_n (pc' := 51) dX6_makeFile_50 rfl rfl ?_
      refine v_aload_n (pc' := 52) dX6_makeFile_51 rfl rfl ?_
      refine v_iload (pc' := 54) dX6_makeFile_52 rfl rfl ?_
      refine v_iload (pc' := 56) dX6_makeFile_54 rfl rfl ?_
      refine v_iload_n (pc' := 57) dX6_makeFile_56 rfl rfl ?_
      obtain ⟨q22, T⟩ := T
      obtain ⟨z20, h19, k21, T⟩ := T
      refine v_callV (pc' := 60) (M1 := mX6_nameEntry) (as := [.ref r1, .int z2, .int z6, .int x3]) (r := r0) (rest := []) 6 dX6_makeFile_57 rfl ko_X6_76 kc_X6_nameEntry ki_X6_nameEntry ks_X6_nameEntry (by decide) (by decide) hdd rfl rfl (le_l rfl) q22 k21 ?_
      refine v_istore (pc' := 62) (loc' := [.ref r0, .ref r1, .int x2, .int x3, .int z2, .int z6, .int z12, .int z16, .int z20]) dX6_makeFile_60 rfl (lt_l rfl) rfl ?_
      refine v_aload_n (pc' := 63) dX6_makeFile_62 rfl rfl ?_
      refine v_iload (pc' := 65) dX6_makeFile_63 rfl rfl ?_
      refine v_iload (pc' := 67) dX6_makeFile_65 rfl rfl ?_
      obtain ⟨q25, T⟩ := T
      obtain ⟨h23, k24, T⟩ := T
      refine v_callV (pc' := 70) (M1 := mX5_need) (as := [.int z20, .int z12]) (r := r1) (rest := []) 5 dX6_makeFile_67 rfl ko_X6_80 kc_X5_need ki_X5_need ks_X5_need (by decide) (by decide) hdd rfl rfl (le_l rfl) q25 k24 ?_
      refine v_aload_n (pc' := 71) dX6_makeFile_70 rfl rfl ?_
      refine v_iload (pc' := 73) dX6_makeFile_71 rfl rfl ?_
      refine v_iload (pc' := 75) dX6_makeFile_73 rfl rfl ?_
      obtain ⟨q28, T⟩ := T
      obtain ⟨h26, k27, T⟩ := T
      refine v_callV (pc' := 78) (M1 := mX5_need) (as := [.int z20, .int z16]) (r := r1) (rest := []) 5 dX6_makeFile_75 rfl ko_X6_80 kc_X5_need ki_X5_need ks_X5_need (by decide) (by decide) hdd rfl rfl (le_l rfl) q28 k27 ?_
      refine v_iconst (pc' := 79) (v := 1) dX6_makeFile_78 rfl kI_1 ?_
      exact v_zret dX6_makeFile_79 rfl (Or.inr rfl) T
    · have T := T.2 c10
      refine v_iconst (pc' := 29) (v := 0) dX6_makeFile_28 rfl kI_0 ?_
      exact v_zret dX6_makeFile_29 rfl (Or.inl rfl) T
theorem eX6_makeDirectory {G : GG} {d : Nat} {h : Hp} {o : OU} {h' : Hp} (r0 : Nat) (r1 : Nat) (x2 : Int32) (x3 : Int32) (hd : 1 ≤ d) (T : kH h r0 = 16 ∧ ∃ z2 h1, VM G mX6_entryFor (d - 1) [.ref r0, .ref r1, .int x2, .int x3] h (.inl (some (.int z2))) h1 ∧ kH h1 r0 = 16 ∧ ∃ z6 h5, VM G mX6_freeNode (d - 1) [.ref r0, .ref r1] h1 (.inl (some (.int z6))) h5 ∧ kH h5 r0 = 16 ∧ ∃ z10 h9, VM G mX6_freeBlock (d - 1) [.ref r0, .ref r1] h5 (.inl (some (.int z10))) h9 ∧ ((z2 = (-1) → (o = .inl (some (.int 0)) ∧ h' = h9)) ∧ (¬ z2 = (-1) → ((z6 = (-1) → (o = .inl (some (.int 0)) ∧ h' = h9)) ∧ (¬ z6 = (-1) → ((¬ z10 = (-1) → kH h9 r1 = 15 ∧ ∃ z17 h16, VM G mX5_putField (d - 1) [.ref r1, .int z6, .int 0, .int 1] h9 (.inl (some (.int z17))) h16 ∧ kH h16 r1 = 15 ∧ ∃ z21 h20, VM G mX5_putField (d - 1) [.ref r1, .int z6, .int 1, .int 2] h16 (.inl (some (.int z21))) h20 ∧ kH h20 r0 = 16 ∧ ∃ z25 h24, VM G mX6_giveBlock (d - 1) [.ref r0, .ref r1, .int z6, .int 2, .int z10, .int 0] h20 (.inl (some (.int z25))) h24 ∧ kH h24 r0 = 16 ∧ ∃ z29 h28, VM G mX6_nameEntry (d - 1) [.ref r0, .ref r1, .int z2, .int z6, .int x3] h24 (.inl (some (.int z29))) h28 ∧ kH h28 r1 = 15 ∧ ∃ h32, VM G mX5_need (d - 1) [.ref r1, .int z29, .int z17] h28 (.inl none) h32 ∧ kH h32 r1 = 15 ∧ ∃ h35, VM G mX5_need (d - 1) [.ref r1, .int z29, .int z21] h32 (.inl none) h35 ∧ kH h35 r1 = 15 ∧ ∃ h38, VM G mX5_need (d - 1) [.ref r1, .int z29, .int z25] h35 (.inl none) h38 ∧ (o = .inl (some (.int 1)) ∧ h' = h38)) ∧ (z10 = (-1) → (o = .inl (some (.int 0)) ∧ h' = h9)))))))) : VM G mX6_makeDirectory d [.ref r0, .ref r1, .int x2, .int x3] h o h' := by
  refine V.toM rfl rfl (le_l rfl) (cat_all rfl) ?_
  show V G mX6_makeDirectory d 0 [.ref r0, .ref r1, .int x2, .int x3, uV, uV, uV, uV, uV, uV, uV] [] h o h'
  have hdd : d - 1 + 1 ≤ d := by omega
  refine v_aload_n (pc' := 1) dX6_makeDirectory_0 rfl rfl ?_
  refine v_aload_n (pc' := 2) dX6_makeDirectory_1 rfl rfl ?_
  refine v_iload_n (pc' := 3) dX6_makeDirectory_2 rfl rfl ?_
  refine v_iload_n (pc' := 4) dX6_makeDirectory_3 rfl rfl ?_
  obtain ⟨q4, T⟩ := T
  obtain ⟨z2, h1, k3, T⟩ := T
  refine v_callV (pc' := 7) (M1 := mX6_entryFor) (as := [.ref r1, .int x2, .int x3]) (r := r0) (rest := []) 6 dX6_makeDirectory_4 rfl ko_X6_65 kc_X6_entryFor ki_X6_entryFor ks_X6_entryFor (by decide) (by decide) hdd rfl rfl (le_l rfl) q4 k3 ?_
  refine v_istore (pc' := 9) (loc' := [.ref r0, .ref r1, .int x2, .int x3, .int z2, uV, uV, uV, uV, uV, uV]) dX6_makeDirectory_7 rfl (lt_l rfl) rfl ?_
  refine v_aload_n (pc' := 10) dX6_makeDirectory_9 rfl rfl ?_
  refine v_aload_n (pc' := 11) dX6_makeDirectory_10 rfl rfl ?_
  obtain ⟨q8, T⟩ := T
  obtain ⟨z6, h5, k7, T⟩ := T
  refine v_callV (pc' := 14) (M1 := mX6_freeNode) (as := [.ref r1]) (r := r0) (rest := []) 6 dX6_makeDirectory_11 rfl ko_X6_69 kc_X6_freeNode ki_X6_freeNode ks_X6_freeNode (by decide) (by decide) hdd rfl rfl (le_l rfl) q8 k7 ?_
  refine v_istore (pc' := 16) (loc' := [.ref r0, .ref r1, .int x2, .int x3, .int z2, .int z6, uV, uV, uV, uV, uV]) dX6_makeDirectory_14 rfl (lt_l rfl) rfl ?_
  refine v_aload_n (pc' := 17) dX6_makeDirectory_16 rfl rfl ?_
  refine v_aload_n (pc' := 18) dX6_makeDirectory_17 rfl rfl ?_
  obtain ⟨q12, T⟩ := T
  obtain ⟨z10, h9, k11, T⟩ := T
  refine v_callV (pc' := 21) (M1 := mX6_freeBlock) (as := [.ref r1]) (r := r0) (rest := []) 6 dX6_makeDirectory_18 rfl ko_X6_84 kc_X6_freeBlock ki_X6_freeBlock ks_X6_freeBlock (by decide) (by decide) hdd rfl rfl (le_l rfl) q12 k11 ?_
  refine v_istore (pc' := 23) (loc' := [.ref r0, .ref r1, .int x2, .int x3, .int z2, .int z6, .int z10, uV, uV, uV, uV]) dX6_makeDirectory_21 rfl (lt_l rfl) rfl ?_
  refine v_iload (pc' := 25) dX6_makeDirectory_23 rfl rfl ?_
  refine v_iconst (pc' := 26) (v := (-1)) dX6_makeDirectory_25 rfl kI_m1 ?_
  refine v_icmp_eq (tgt := 41) (pc' := 29) dX6_makeDirectory_26 (by decide) rfl ⟨fun c13 => ?_, fun c13 => ?_⟩
  · have T := T.1 c13
    refine v_iconst (pc' := 42) (v := 0) dX6_makeDirectory_41 rfl kI_0 ?_
    exact v_zret dX6_makeDirectory_42 rfl (Or.inl rfl) T
  · have T := T.2 c13
    refine v_iload (pc' := 31) dX6_makeDirectory_29 rfl rfl ?_
    refine v_iconst (pc' := 32) (v := (-1)) dX6_makeDirectory_31 rfl kI_m1 ?_
    refine v_icmp_eq (tgt := 41) (pc' := 35) dX6_makeDirectory_32 (by decide) rfl ⟨fun c14 => ?_, fun c14 => ?_⟩
    · have T := T.1 c14
      refine v_iconst (pc' := 42) (v := 0) dX6_makeDirectory_41 rfl kI_0 ?_
      exact v_zret dX6_makeDirectory_42 rfl (Or.inl rfl) T
    · have T := T.2 c14
      refine v_iload (pc' := 37) dX6_makeDirectory_35 rfl rfl ?_
      refine v_iconst (pc' := 38) (v := (-1)) dX6_makeDirectory_37 rfl kI_m1 ?_
      refine v_icmp_ne (tgt := 43) (pc' := 41) dX6_makeDirectory_38 (by decide) rfl ⟨fun c15 => ?_, fun c15 => ?_⟩
      · have T := T.1 c15
        refine v_aload_n (pc' := 44) dX6_makeDirectory_43 rfl rfl ?_
        refine v_iload (pc' := 46) dX6_makeDirectory_44 rfl rfl ?_
        refine v_iconst (pc' := 47) (v := 0) dX6_makeDirectory_46 rfl kI_0 ?_
        refine v_iconst (pc' := 48) (v := 1) dX6_makeDirectory_47 rfl kI_1 ?_
        obtain ⟨q19, T⟩ := T
        obtain ⟨z17, h16, k18, T⟩ := T
        refine v_callV (pc' := 51) (M1 := mX5_putField) (as := [.int z6, .int 0, .int 1]) (r := r1) (rest := []) 5 dX6_makeDirectory_48 rfl ko_X6_72 kc_X5_putField ki_X5_putField ks_X5_putField (by decide) (by decide) hdd rfl rfl (le_l rfl) q19 k18 ?_
        refine v_istore (pc' := 53) (loc' := [.ref r0, .ref r1, .int x2, .int x3, .int z2, .int z6, .int z10, .int z17, uV, uV, uV]) dX6_makeDirectory_51 rfl (lt_l rfl) rfl ?_
        refine v_aload_n (pc' := 54) dX6_makeDirectory_53 rfl rfl ?_
        refine v_iload (pc' := 56) dX6_makeDirectory_54 rfl rfl ?_
        refine v_iconst (pc' := 57) (v := 1) dX6_makeDirectory_56 rfl kI_1 ?_
        refine v_iconst (pc' := 58) (v := 2) dX6_makeDirectory_57 rfl kI_2 ?_
        obtain ⟨q23, T⟩ := T
        obtain ⟨z21, h20, k22, T⟩ := T
        refine v_callV (pc' := 61) (M1 := mX5_putField) (as := [.int z6, .int 1, .int 2]) (r := r1) (rest := []) 5 dX6_makeDirectory_58 rfl ko_X6_72 kc_X5_putField ki_X5_putField ks_X5_putField (by decide) (by decide) hdd rfl rfl (le_l rfl) q23 k22 ?_
        refine v_istore (pc' := 63) (loc' := [.ref r0, .ref r1, .int x2, .int x3, .int z2, .int z6, .int z10, .int z17, .int z21, uV, uV]) dX6_makeDirectory_61 rfl (lt_l rfl) rfl ?_
        refine v_aload_n (pc' := 64) dX6_makeDirectory_63 rfl rfl ?_
        refine v_aload_n (pc' := 65) dX6_makeDirectory_64 rfl rfl ?_
        refine v_iload (pc' := 67) dX6_makeDirectory_65 rfl rfl ?_
        refine v_iconst (pc' := 68) (v := 2) dX6_makeDirectory_67 rfl kI_2 ?_
        refine v_iload (pc' := 70) dX6_makeDirectory_68 rfl rfl ?_
        refine v_iconst (pc' := 71) (v := 0) dX6_makeDirectory_70 rfl kI_0 ?_
        obtain ⟨q27, T⟩ := T
        obtain ⟨z25, h24, k26, T⟩ := T
        refine v_callV (pc' := 74) (M1 := mX6_giveBlock) (as := [.ref r1, .int z6, .int 2, .int z10, .int 0]) (r := r0) (rest := []) 6 dX6_makeDirectory_71 rfl ko_X6_87 kc_X6_giveBlock ki_X6_giveBlock ks_X6_giveBlock (by decide) (by decide) hdd rfl rfl (le_l rfl) q27 k26 ?_
        refine v_istore (pc' := 76) (loc' := [.ref r0, .ref r1, .int x2, .int x3, .int z2, .int z6, .int z10, .int z17, .int z21, .int z25, uV]) dX6_makeDirectory_74 rfl (lt_l rfl) rfl ?_
        refine v_aload_n (pc' := 77) dX6_makeDirectory_76 rfl rfl ?_
        refine v_aload_n (pc' := 78) dX6_makeDirectory_77 rfl rfl ?_
        refine v_iload (pc' := 80) dX6_makeDirectory_78 rfl rfl ?_
        refine v_iload (pc' := 82) dX6_makeDirectory_80 rfl rfl ?_
        refine v_iload_n (pc' := 83) dX6_makeDirectory_82 rfl rfl ?_
        obtain ⟨q31, T⟩ := T
        obtain ⟨z29, h28, k30, T⟩ := T
        refine v_callV (pc' := 86) (M1 := mX6_nameEntry) (as := [.ref r1, .int z2, .int z6, .int x3]) (r := r0) (rest := []) 6 dX6_makeDirectory_83 rfl ko_X6_76 kc_X6_nameEntry ki_X6_nameEntry ks_X6_nameEntry (by decide) (by decide) hdd rfl rfl (le_l rfl) q31 k30 ?_
        refine v_istore (pc' := 88) (loc' := [.ref r0, .ref r1, .int x2, .int x3, .int z2, .int z6, .int z10, .int z17, .int z21, .int z25, .int z29]) dX6_makeDirectory_86 rfl (lt_l rfl) rfl ?_
        refine v_aload_n (pc' := 89) dX6_makeDirectory_88 rfl rfl ?_
        refine v_iload (pc' := 91) dX6_makeDirectory_89 rfl rfl ?_
        refine v_iload (pc' := 93) dX6_makeDirectory_91 rfl rfl ?_
        obtain ⟨q34, T⟩ := T
        obtain ⟨h32, k33, T⟩ := T
        refine v_callV (pc' := 96) (M1 := mX5_need) (as := [.int z29, .int z17]) (r := r1) (rest := []) 5 dX6_makeDirectory_93 rfl ko_X6_80 kc_X5_need ki_X5_need ks_X5_need (by decide) (by decide) hdd rfl rfl (le_l rfl) q34 k33 ?_
        refine v_aload_n (pc' := 97) dX6_makeDirectory_96 rfl rfl ?_
        refine v_iload (pc' := 99) dX6_makeDirectory_97 rfl rfl ?_
        refine v_iload (pc' := 101) dX6_makeDirectory_99 rfl rfl ?_
        obtain ⟨q37, T⟩ := T
        obtain ⟨h35, k36, T⟩ := T
        refine v_callV (pc' := 104) (M1 := mX5_need) (as := [.int z29, .int z21]) (r := r1) (rest := []) 5 dX6_makeDirectory_101 rfl ko_X6_80 kc_X5_need ki_X5_need ks_X5_need (by decide) (by decide) hdd rfl rfl (le_l rfl) q37 k36 ?_
        refine v_aload_n (pc' := 105) dX6_makeDirectory_104 rfl rfl ?_
        refine v_iload (pc' := 107) dX6_makeDirectory_105 rfl rfl ?_
        refine v_iload (pc' := 109) dX6_makeDirectory_107 rfl rfl ?_
        obtain ⟨q40, T⟩ := T
        obtain ⟨h38, k39, T⟩ := T
        refine v_callV (pc' := 112) (M1 := mX5_need) (as := [.int z29, .int z25]) (r := r1) (rest := []) 5 dX6_makeDirectory_109 rfl ko_X6_80 kc_X5_need ki_X5_need ks_X5_need (by decide) (by decide) hdd rfl rfl (le_l rfl) q40 k39 ?_
        refine v_iconst (pc' := 113) (v := 1) dX6_makeDirectory_112 rfl kI_1 ?_
        exact v_zret dX6_makeDirectory_113 rfl (Or.inr rfl) T
      · have T := T.2 c15
        refine v_iconst (pc' := 42) (v := 0) dX6_makeDirectory_41 rfl kI_0 ?_
        exact v_zret dX6_makeDirectory_42 rfl (Or.inl rfl) T
theorem eX6_linkFile {G : GG} {d : Nat} {h : Hp} {o : OU} {h' : Hp} (r0 : Nat) (r1 : Nat) (x2 : Int32) (x3 : Int32) (x4 : Int32) (hd : 1 ≤ d) (T : kH h r0 = 16 ∧ ∃ z2 h1, VM G mX6_entryFor (d - 1) [.ref r0, .ref r1, .int x2, .int x3] h (.inl (some (.int z2))) h1 ∧ kH h1 r1 = 15 ∧ ∃ z6 h5, VM G mX5_nodeField (d - 1) [.ref r1, .int 0, .int x4, .int 0] h1 (.inl (some (.int z6))) h5 ∧ ((z2 = (-1) → (o = .inl (some (.int 0)) ∧ h' = h5)) ∧ (¬ z2 = (-1) → kH h5 r0 = 16 ∧ ∃ z11 h10, VM G mX6_isFile (d - 1) [.ref r0, .ref r1, .int x4] h5 (.inl (some (.int z11))) h10 ∧ ((z11 = 0 → (o = .inl (some (.int 0)) ∧ h' = h10)) ∧ (¬ z11 = 0 → ((z6 ≤ 8 → kH h10 r1 = 15 ∧ ∃ z17 h16, VM G mX5_putField (d - 1) [.ref r1, .int x4, .int 0, .int (z6 + 1)] h10 (.inl (some (.int z17))) h16 ∧ kH h16 r0 = 16 ∧ ∃ z21 h20, VM G mX6_nameEntry (d - 1) [.ref r0, .ref r1, .int z2, .int x4, .int x3] h16 (.inl (some (.int z21))) h20 ∧ kH h20 r1 = 15 ∧ ∃ h24, VM G mX5_need (d - 1) [.ref r1, .int z21, .int z17] h20 (.inl none) h24 ∧ (o = .inl (some (.int 1)) ∧ h' = h24)) ∧ (¬ z6 ≤ 8 → (o = .inl (some (.int 0)) ∧ h' = h10)))))))) : VM G mX6_linkFile d [.ref r0, .ref r1, .int x2, .int x3, .int x4] h o h' := by
  refine V.toM rfl rfl (le_l rfl) (cat_all rfl) ?_
  show V G mX6_linkFile d 0 [.ref r0, .ref r1, .int x2, .int x3, .int x4, uV, uV, uV] [] h o h'
  have hdd : d - 1 + 1 ≤ d := by omega
  refine v_aload_n (pc' := 1) dX6_linkFile_0 rfl rfl ?_
  refine v_aload_n (pc' := 2) dX6_linkFile_1 rfl rfl ?_
  refine v_iload_n (pc' := 3) dX6_linkFile_2 rfl rfl ?_
  refine v_iload_n (pc' := 4) dX6_linkFile_3 rfl rfl ?_
  obtain ⟨q4, T⟩ := T
  obtain ⟨z2, h1, k3, T⟩ := T
  refine v_callV (pc' := 7) (M1 := mX6_entryFor) (as := [.ref r1, .int x2, .int x3]) (r := r0) (rest := []) 6 dX6_linkFile_4 rfl ko_X6_65 kc_X6_entryFor ki_X6_entryFor ks_X6_entryFor (by decide) (by decide) hdd rfl rfl (le_l rfl) q4 k3 ?_
  refine v_istore (pc' := 9) (loc' := [.ref r0, .ref r1, .int x2, .int x3, .int x4, .int z2, uV, uV]) dX6_linkFile_7 rfl (lt_l rfl) rfl ?_
  refine v_aload_n (pc' := 10) dX6_linkFile_9 rfl rfl ?_
  refine v_iconst (pc' := 11) (v := 0) dX6_linkFile_10 rfl kI_0 ?_
  refine v_iload (pc' := 13) dX6_linkFile_11 rfl rfl ?_
  refine v_iconst (pc' := 14) (v := 0) dX6_linkFile_13 rfl kI_0 ?_
  obtain ⟨q8, T⟩ := T
  obtain ⟨z6, h5, k7, T⟩ := T
  refine v_callV (pc' := 17) (M1 := mX5_nodeField) (as := [.int 0, .int x4, .int 0]) (r := r1) (rest := []) 5 dX6_linkFile_14 rfl ko_X6_91 kc_X5_nodeField ki_X5_nodeField ks_X5_nodeField (by decide) (by decide) hdd rfl rfl (le_l rfl) q8 k7 ?_
  refine v_istore (pc' := 19) (loc' := [.ref r0, .ref r1, .int x2, .int x3, .int x4, .int z2, .int z6, uV]) dX6_linkFile_17 rfl (lt_l rfl) rfl ?_
  refine v_iload (pc' := 21) dX6_linkFile_19 rfl rfl ?_
  refine v_iconst (pc' := 22) (v := (-1)) dX6_linkFile_21 rfl kI_m1 ?_
  refine v_icmp_eq (tgt := 42) (pc' := 25) dX6_linkFile_22 (by decide) rfl ⟨fun c9 => ?_, fun c9 => ?_⟩
  · have T := T.1 c9
    refine v_iconst (pc' := 43) (v := 0) dX6_linkFile_42 rfl kI_0 ?_
    exact v_zret dX6_linkFile_43 rfl (Or.inl rfl) T
  · have T := T.2 c9
    refine v_aload_n (pc' := 26) dX6_linkFile_25 rfl rfl ?_
    refine v_aload_n (pc' := 27) dX6_linkFile_26 rfl rfl ?_
    refine v_iload (pc' := 29) dX6_linkFile_27 rfl rfl ?_
    obtain ⟨q13, T⟩ := T
    obtain ⟨z11, h10, k12, T⟩ := T
    refine v_callV (pc' := 32) (M1 := mX6_isFile) (as := [.ref r1, .int x4]) (r := r0) (rest := []) 6 dX6_linkFile_29 rfl ko_X6_94 kc_X6_isFile ki_X6_isFile ks_X6_isFile (by decide) (by decide) hdd rfl rfl (le_l rfl) q13 k12 ?_
    refine v_if_eq (tgt := 42) (pc' := 35) dX6_linkFile_32 (by decide) rfl ⟨fun c14 => ?_, fun c14 => ?_⟩
    · have T := T.1 c14
      refine v_iconst (pc' := 43) (v := 0) dX6_linkFile_42 rfl kI_0 ?_
      exact v_zret dX6_linkFile_43 rfl (Or.inl rfl) T
    · have T := T.2 c14
      refine v_iload (pc' := 37) dX6_linkFile_35 rfl rfl ?_
      refine v_bipush (pc' := 39) (v := 8) dX6_linkFile_37 rfl kB_8 ?_
      refine v_icmp_le (tgt := 44) (pc' := 42) dX6_linkFile_39 (by decide) rfl ⟨fun c15 => ?_, fun c15 => ?_⟩
      · have T := T.1 c15
        refine v_aload_n (pc' := 45) dX6_linkFile_44 rfl rfl ?_
        refine v_iload (pc' := 47) dX6_linkFile_45 rfl rfl ?_
        refine v_iconst (pc' := 48) (v := 0) dX6_linkFile_47 rfl kI_0 ?_
        refine v_iload (pc' := 50) dX6_linkFile_48 rfl rfl ?_
        refine v_iconst (pc' := 51) (v := 1) dX6_linkFile_50 rfl kI_1 ?_
        refine v_iadd (pc' := 52) dX6_linkFile_51 rfl ?_
        obtain ⟨q19, T⟩ := T
        obtain ⟨z17, h16, k18, T⟩ := T
        refine v_callV (pc' := 55) (M1 := mX5_putField) (as := [.int x4, .int 0, .int (z6 + 1)]) (r := r1) (rest := []) 5 dX6_linkFile_52 rfl ko_X6_72 kc_X5_putField ki_X5_putField ks_X5_putField (by decide) (by decide) hdd rfl rfl (le_l rfl) q19 k18 ?_
        refine v_istore (pc' := 57) (loc' := [.ref r0, .ref r1, .int x2, .int x3, .int x4, .int z2, .int z6, .int z17]) dX6_linkFile_55 rfl (lt_l rfl) rfl ?_
        refine v_aload_n (pc' := 58) dX6_linkFile_57 rfl rfl ?_
        refine v_aload_n (pc' := 59) dX6_linkFile_58 rfl rfl ?_
        refine v_aload_n (pc' := 60) dX6_linkFile_59 rfl rfl ?_
        refine v_iload (pc' := 62) dX6_linkFile_60 rfl rfl ?_
        refine v_iload (pc' := 64) dX6_linkFile_62 rfl rfl ?_
        refine v_iload_n (pc' := 65) dX6_linkFile_64 rfl rfl ?_
        obtain ⟨q23, T⟩ := T
        obtain ⟨z21, h20, k22, T⟩ := T
        refine v_callV (pc' := 68) (M1 := mX6_nameEntry) (as := [.ref r1, .int z2, .int x4, .int x3]) (r := r0) (rest := [.ref r1]) 6 dX6_linkFile_65 rfl ko_X6_76 kc_X6_nameEntry ki_X6_nameEntry ks_X6_nameEntry (by decide) (by decide) hdd rfl rfl (le_l rfl) q23 k22 ?_
        refine v_iload (pc' := 70) dX6_linkFile_68 rfl rfl ?_
        obtain ⟨q26, T⟩ := T
        obtain ⟨h24, k25, T⟩ := T
        refine v_callV (pc' := 73) (M1 := mX5_need) (as := [.int z21, .int z17]) (r := r1) (rest := []) 5 dX6_linkFile_70 rfl ko_X6_80 kc_X5_need ki_X5_need ks_X5_need (by decide) (by decide) hdd rfl rfl (le_l rfl) q26 k25 ?_
        refine v_iconst (pc' := 74) (v := 1) dX6_linkFile_73 rfl kI_1 ?_
        exact v_zret dX6_linkFile_74 rfl (Or.inr rfl) T
      · have T := T.2 c15
        refine v_iconst (pc' := 43) (v := 0) dX6_linkFile_42 rfl kI_0 ?_
        exact v_zret dX6_linkFile_43 rfl (Or.inl rfl) T
theorem eX6_entryFor {G : GG} {d : Nat} {h : Hp} {o : OU} {h' : Hp} (r0 : Nat) (r1 : Nat) (x2 : Int32) (x3 : Int32) (hd : 1 ≤ d) (T : ∃ z2 h1, VM G mX8_entryNamed (d - 1) [.ref r1, .int 0, .int x2, .int x3] h (.inl (some (.int z2))) h1 ∧ ((¬ z2 = (-1) → (o = .inl (some (.int (-1))) ∧ h' = h1)) ∧ (z2 = (-1) → ∃ z6 h5, VM G mX8_reachedNodes (d - 1) [.ref r1, .int 0] h1 (.inl (some (.int z6))) h5 ∧ ((¬ ((z6 >>> (x2 &&& 31)) &&& 1) = 0 → ∃ z10 h9, VM G mX8_entryNamed (d - 1) [.ref r1, .int 0, .int x2, .int 0] h5 (.inl (some (.int z10))) h9 ∧ (o = .inl (some (.int z10)) ∧ h' = h9)) ∧ (((z6 >>> (x2 &&& 31)) &&& 1) = 0 → (o = .inl (some (.int (-1))) ∧ h' = h5)))))) : VM G mX6_entryFor d [.ref r0, .ref r1, .int x2, .int x3] h o h' := by
  refine V.toM rfl rfl (le_l rfl) (cat_all rfl) ?_
  show V G mX6_entryFor d 0 [.ref r0, .ref r1, .int x2, .int x3] [] h o h'
  have hdd : d - 1 + 1 ≤ d := by omega
  refine v_aload_n (pc' := 1) dX6_entryFor_0 rfl rfl ?_
  refine v_iconst (pc' := 2) (v := 0) dX6_entryFor_1 rfl kI_0 ?_
  refine v_iload_n (pc' := 3) dX6_entryFor_2 rfl rfl ?_
  refine v_iload_n (pc' := 4) dX6_entryFor_3 rfl rfl ?_
  obtain ⟨z2, h1, k3, T⟩ := T
  refine v_callS (pc' := 7) (M1 := mX8_entryNamed) (as := [.ref r1, .int 0, .int x2, .int x3]) (rest := []) dX6_entryFor_4 rfl ko_X6_97 kc_X8_entryNamed kt_X8_entryNamed (by decide) hdd rfl rfl (le_l rfl) k3 ?_
  refine v_iconst (pc' := 8) (v := (-1)) dX6_entryFor_7 rfl kI_m1 ?_
  refine v_icmp_ne (tgt := 23) (pc' := 11) dX6_entryFor_8 (by decide) rfl ⟨fun c4 => ?_, fun c4 => ?_⟩
  · have T := T.1 c4
    refine v_iconst (pc' := 24) (v := (-1)) dX6_entryFor_23 rfl kI_m1 ?_
    exact v_iret dX6_entryFor_24 rfl T
  · have T := T.2 c4
    refine v_aload_n (pc' := 12) dX6_entryFor_11 rfl rfl ?_
    refine v_iconst (pc' := 13) (v := 0) dX6_entryFor_12 rfl kI_0 ?_
    obtain ⟨z6, h5, k7, T⟩ := T
    refine v_callS (pc' := 16) (M1 := mX8_reachedNodes) (as := [.ref r1, .int 0]) (rest := []) dX6_entryFor_13 rfl ko_X6_102 kc_X8_reachedNodes kt_X8_reachedNodes (by decide) hdd rfl rfl (le_l rfl) k7 ?_
    refine v_iload_n (pc' := 17) dX6_entryFor_16 rfl rfl ?_
    refine v_ishr (pc' := 18) dX6_entryFor_17 rfl ?_
    refine v_iconst (pc' := 19) (v := 1) dX6_entryFor_18 rfl kI_1 ?_
    refine v_iand (pc' := 20) dX6_entryFor_19 rfl ?_
    refine v_if_ne (tgt := 25) (pc' := 23) dX6_entryFor_20 (by decide) rfl ⟨fun c8 => ?_, fun c8 => ?_⟩
    · have T := T.1 c8
      refine v_aload_n (pc' := 26) dX6_entryFor_25 rfl rfl ?_
      refine v_iconst (pc' := 27) (v := 0) dX6_entryFor_26 rfl kI_0 ?_
      refine v_iload_n (pc' := 28) dX6_entryFor_27 rfl rfl ?_
      refine v_iconst (pc' := 29) (v := 0) dX6_entryFor_28 rfl kI_0 ?_
      obtain ⟨z10, h9, k11, T⟩ := T
      refine v_callS (pc' := 32) (M1 := mX8_entryNamed) (as := [.ref r1, .int 0, .int x2, .int 0]) (rest := []) dX6_entryFor_29 rfl ko_X6_97 kc_X8_entryNamed kt_X8_entryNamed (by decide) hdd rfl rfl (le_l rfl) k11 ?_
      exact v_iret dX6_entryFor_32 rfl T
    · have T := T.2 c8
      refine v_iconst (pc' := 24) (v := (-1)) dX6_entryFor_23 rfl kI_m1 ?_
      exact v_iret dX6_entryFor_24 rfl T
theorem eX6_nameEntry {G : GG} {d : Nat} {h : Hp} {o : OU} {h' : Hp} (r0 : Nat) (r1 : Nat) (x2 : Int32) (x3 : Int32) (x4 : Int32) (hd : 1 ≤ d) (T : kH h r1 = 15 ∧ ∃ z2 h1, VM G mX5_latestOf (d - 1) [.ref r1, .int (x2 / 8), .int ((x2 - x2 / 8 * 8) * 2)] h (.inl (some (.int z2))) h1 ∧ kH h1 r1 = 15 ∧ ∃ z6 h5, VM G mX5_put (d - 1) [.ref r1, .int (x2 / 8), .int (((x2 - x2 / 8 * 8) * 2) + 1), .int x3] h1 (.inl (some (.int z6))) h5 ∧ kH h5 r1 = 15 ∧ ∃ h9, VM G mX5_need (d - 1) [.ref r1, .int z6, .int z2] h5 (.inl none) h9 ∧ kH h9 r1 = 15 ∧ ∃ z13 h12, VM G mX5_put (d - 1) [.ref r1, .int (x2 / 8), .int ((x2 - x2 / 8 * 8) * 2), .int x4] h9 (.inl (some (.int z13))) h12 ∧ kH h12 r1 = 15 ∧ ∃ h16, VM G mX5_need (d - 1) [.ref r1, .int z13, .int z6] h12 (.inl none) h16 ∧ (o = .inl (some (.int z13)) ∧ h' = h16)) : VM G mX6_nameEntry d [.ref r0, .ref r1, .int x2, .int x3, .int x4] h o h' := by
  refine V.toM rfl rfl (le_l rfl) (cat_all rfl) ?_
  show V G mX6_nameEntry d 0 [.ref r0, .ref r1, .int x2, .int x3, .int x4, uV, uV, uV, uV, uV] [] h o h'
  have hdd : d - 1 + 1 ≤ d := by omega
  refine v_iload_n (pc' := 1) dX6_nameEntry_0 rfl rfl ?_
  refine v_bipush (pc' := 3) (v := 8) dX6_nameEntry_1 rfl kB_8 ?_
  refine v_idiv (pc' := 4) dX6_nameEntry_3 rfl (by decide) ?_
  refine v_istore (pc' := 6) (loc' := [.ref r0, .ref r1, .int x2, .int x3, .int x4, .int (x2 / 8), uV, uV, uV, uV]) dX6_nameEntry_4 rfl (lt_l rfl) rfl ?_
  refine v_iload_n (pc' := 7) dX6_nameEntry_6 rfl rfl ?_
  refine v_bipush (pc' := 9) (v := 8) dX6_nameEntry_7 rfl kB_8 ?_
  refine v_irem (pc' := 10) dX6_nameEntry_9 rfl (by decide) ?_
  refine v_iconst (pc' := 11) (v := 2) dX6_nameEntry_10 rfl kI_2 ?_
  refine v_imul (pc' := 12) dX6_nameEntry_11 rfl ?_
  refine v_istore (pc' := 14) (loc' := [.ref r0, .ref r1, .int x2, .int x3, .int x4, .int (x2 / 8), .int ((x2 - x2 / 8 * 8) * 2), uV, uV, uV]) dX6_nameEntry_12 rfl (lt_l rfl) rfl ?_
  refine v_aload_n (pc' := 15) dX6_nameEntry_14 rfl rfl ?_
  refine v_iload (pc' := 17) dX6_nameEntry_15 rfl rfl ?_
  refine v_iload (pc' := 19) dX6_nameEntry_17 rfl rfl ?_
  obtain ⟨q4, T⟩ := T
  obtain ⟨z2, h1, k3, T⟩ := T
  refine v_callV (pc' := 22) (M1 := mX5_latestOf) (as := [.int (x2 / 8), .int ((x2 - x2 / 8 * 8) * 2)]) (r := r1) (rest := []) 5 dX6_nameEntry_19 rfl ko_X6_106 kc_X5_latestOf ki_X5_latestOf ks_X5_latestOf (by decide) (by decide) hdd rfl rfl (le_l rfl) q4 k3 ?_
  refine v_istore (pc' := 24) (loc' := [.ref r0, .ref r1, .int x2, .int x3, .int x4, .int (x2 / 8), .int ((x2 - x2 / 8 * 8) * 2), .int z2, uV, uV]) dX6_nameEntry_22 rfl (lt_l rfl) rfl ?_
  refine v_aload_n (pc' := 25) dX6_nameEntry_24 rfl rfl ?_
  refine v_iload (pc' := 27) dX6_nameEntry_25 rfl rfl ?_
  refine v_iload (pc' := 29) dX6_nameEntry_27 rfl rfl ?_
  refine v_iconst (pc' := 30) (v := 1) dX6_nameEntry_29 rfl kI_1 ?_
  refine v_iadd (pc' := 31) dX6_nameEntry_30 rfl ?_
  refine v_iload_n (pc' := 32) dX6_nameEntry_31 rfl rfl ?_
  obtain ⟨q8, T⟩ := T
  obtain ⟨z6, h5, k7, T⟩ := T
  refine v_callV (pc' := 35) (M1 := mX5_put) (as := [.int (x2 / 8), .int (((x2 - x2 / 8 * 8) * 2) + 1), .int x3]) (r := r1) (rest := []) 5 dX6_nameEntry_32 rfl ko_X6_110 kc_X5_put ki_X5_put ks_X5_put (by decide) (by decide) hdd rfl rfl (le_l rfl) q8 k7 ?_
  refine v_istore (pc' := 37) (loc' := [.ref r0, .ref r1, .int x2, .int x3, .int x4, .int (x2 / 8), .int ((x2 - x2 / 8 * 8) * 2), .int z2, .int z6, uV]) dX6_nameEntry_35 rfl (lt_l rfl) rfl ?_
  refine v_aload_n (pc' := 38) dX6_nameEntry_37 rfl rfl ?_
  refine v_iload (pc' := 40) dX6_nameEntry_38 rfl rfl ?_
  refine v_iload (pc' := 42) dX6_nameEntry_40 rfl rfl ?_
  obtain ⟨q11, T⟩ := T
  obtain ⟨h9, k10, T⟩ := T
  refine v_callV (pc' := 45) (M1 := mX5_need) (as := [.int z6, .int z2]) (r := r1) (rest := []) 5 dX6_nameEntry_42 rfl ko_X6_80 kc_X5_need ki_X5_need ks_X5_need (by decide) (by decide) hdd rfl rfl (le_l rfl) q11 k10 ?_
  refine v_aload_n (pc' := 46) dX6_nameEntry_45 rfl rfl ?_
  refine v_iload (pc' := 48) dX6_nameEntry_46 rfl rfl ?_
  refine v_iload (pc' := 50) dX6_nameEntry_48 rfl rfl ?_
  refine v_iload (pc' := 52) dX6_nameEntry_50 rfl rfl ?_
  obtain ⟨q15, T⟩ := T
  obtain ⟨z13, h12, k14, T⟩ := T
  refine v_callV (pc' := 55) (M1 := mX5_put) (as := [.int (x2 / 8), .int ((x2 - x2 / 8 * 8) * 2), .int x4]) (r := r1) (rest := []) 5 dX6_nameEntry_52 rfl ko_X6_110 kc_X5_put ki_X5_put ks_X5_put (by decide) (by decide) hdd rfl rfl (le_l rfl) q15 k14 ?_
  refine v_istore (pc' := 57) (loc' := [.ref r0, .ref r1, .int x2, .int x3, .int x4, .int (x2 / 8), .int ((x2 - x2 / 8 * 8) * 2), .int z2, .int z6, .int z13]) dX6_nameEntry_55 rfl (lt_l rfl) rfl ?_
  refine v_aload_n (pc' := 58) dX6_nameEntry_57 rfl rfl ?_
  refine v_iload (pc' := 60) dX6_nameEntry_58 rfl rfl ?_
  refine v_iload (pc' := 62) dX6_nameEntry_60 rfl rfl ?_
  obtain ⟨q18, T⟩ := T
  obtain ⟨h16, k17, T⟩ := T
  refine v_callV (pc' := 65) (M1 := mX5_need) (as := [.int z13, .int z6]) (r := r1) (rest := []) 5 dX6_nameEntry_62 rfl ko_X6_80 kc_X5_need ki_X5_need ks_X5_need (by decide) (by decide) hdd rfl rfl (le_l rfl) q18 k17 ?_
  refine v_iload (pc' := 67) dX6_nameEntry_65 rfl rfl ?_
  exact v_iret dX6_nameEntry_67 rfl T
theorem eX6_giveBlock {G : GG} {d : Nat} {h : Hp} {o : OU} {h' : Hp} (r0 : Nat) (r1 : Nat) (x2 : Int32) (x3 : Int32) (x4 : Int32) (x5 : Int32) (hd : 1 ≤ d) (T : kH h r1 = 15 ∧ ∃ z2 h1, VM G mX5_put (d - 1) [.ref r1, .int 0, .int x4, .int 1] h (.inl (some (.int z2))) h1 ∧ kH h1 r1 = 15 ∧ ∃ z6 h5, VM G mX5_put (d - 1) [.ref r1, .int x4, .int 16, .int x5] h1 (.inl (some (.int z6))) h5 ∧ kH h5 r1 = 15 ∧ ∃ z10 h9, VM G mX5_putField (d - 1) [.ref r1, .int x2, .int x3, .int x4] h5 (.inl (some (.int z10))) h9 ∧ kH h9 r1 = 15 ∧ ∃ h13, VM G mX5_need (d - 1) [.ref r1, .int z10, .int z2] h9 (.inl none) h13 ∧ ((¬ z6 = (-1) → kH h13 r1 = 15 ∧ ∃ h17, VM G mX5_need (d - 1) [.ref r1, .int z10, .int z6] h13 (.inl none) h17 ∧ (o = .inl (some (.int z10)) ∧ h' = h17)) ∧ (z6 = (-1) → kH h13 r1 = 15 ∧ ∃ h20, VM G mX5_needAllOf (d - 1) [.ref r1, .int z10, .int x4] h13 (.inl none) h20 ∧ (o = .inl (some (.int z10)) ∧ h' = h20)))) : VM G mX6_giveBlock d [.ref r0, .ref r1, .int x2, .int x3, .int x4, .int x5] h o h' := by
  refine V.toM rfl rfl (le_l rfl) (cat_all rfl) ?_
  show V G mX6_giveBlock d 0 [.ref r0, .ref r1, .int x2, .int x3, .int x4, .int x5, uV, uV, uV] [] h o h'
  have hdd : d - 1 + 1 ≤ d := by omega
  refine v_aload_n (pc' := 1) dX6_giveBlock_0 rfl rfl ?_
  refine v_iconst (pc' := 2) (v := 0) dX6_giveBlock_1 rfl kI_0 ?_
  refine v_iload (pc' := 4) dX6_giveBlock_2 rfl rfl ?_
  refine v_iconst (pc' := 5) (v := 1) dX6_giveBlock_4 rfl kI_1 ?_
  obtain ⟨q4, T⟩ := T
  obtain ⟨z2, h1, k3, T⟩ := T
  refine v_callV (pc' := 8) (M1 := mX5_put) (as := [.int 0, .int x4, .int 1]) (r := r1) (rest := []) 5 dX6_giveBlock_5 rfl ko_X6_110 kc_X5_put ki_X5_put ks_X5_put (by decide) (by decide) hdd rfl rfl (le_l rfl) q4 k3 ?_
  refine v_istore (pc' := 10) (loc' := [.ref r0, .ref r1, .int x2, .int x3, .int x4, .int x5, .int z2, uV, uV]) dX6_giveBlock_8 rfl (lt_l rfl) rfl ?_
  refine v_aload_n (pc' := 11) dX6_giveBlock_10 rfl rfl ?_
  refine v_iload (pc' := 13) dX6_giveBlock_11 rfl rfl ?_
  refine v_bipush (pc' := 15) (v := 16) dX6_giveBlock_13 rfl kB_16 ?_
  refine v_iload (pc' := 17) dX6_giveBlock_15 rfl rfl ?_
  obtain ⟨q8, T⟩ := T
  obtain ⟨z6, h5, k7, T⟩ := T
  refine v_callV (pc' := 20) (M1 := mX5_put) (as := [.int x4, .int 16, .int x5]) (r := r1) (rest := []) 5 dX6_giveBlock_17 rfl ko_X6_110 kc_X5_put ki_X5_put ks_X5_put (by decide) (by decide) hdd rfl rfl (le_l rfl) q8 k7 ?_
  refine v_istore (pc' := 22) (loc' := [.ref r0, .ref r1, .int x2, .int x3, .int x4, .int x5, .int z2, .int z6, uV]) dX6_giveBlock_20 rfl (lt_l rfl) rfl ?_
  refine v_aload_n (pc' := 23) dX6_giveBlock_22 rfl rfl ?_
  refine v_iload_n (pc' := 24) dX6_giveBlock_23 rfl rfl ?_
  refine v_iload_n (pc' := 25) dX6_giveBlock_24 rfl rfl ?_
  refine v_iload (pc' := 27) dX6_giveBlock_25 rfl rfl ?_
  obtain ⟨q12, T⟩ := T
  obtain ⟨z10, h9, k11, T⟩ := T
  refine v_callV (pc' := 30) (M1 := mX5_putField) (as := [.int x2, .int x3, .int x4]) (r := r1) (rest := []) 5 dX6_giveBlock_27 rfl ko_X6_72 kc_X5_putField ki_X5_putField ks_X5_putField (by decide) (by decide) hdd rfl rfl (le_l rfl) q12 k11 ?_
  refine v_istore (pc' := 32) (loc' := [.ref r0, .ref r1, .int x2, .int x3, .int x4, .int x5, .int z2, .int z6, .int z10]) dX6_giveBlock_30 rfl (lt_l rfl) rfl ?_
  refine v_aload_n (pc' := 33) dX6_giveBlock_32 rfl rfl ?_
  refine v_iload (pc' := 35) dX6_giveBlock_33 rfl rfl ?_
  refine v_iload (pc' := 37) dX6_giveBlock_35 rfl rfl ?_
  obtain ⟨q15, T⟩ := T
  obtain ⟨h13, k14, T⟩ := T
  refine v_callV (pc' := 40) (M1 := mX5_need) (as := [.int z10, .int z2]) (r := r1) (rest := []) 5 dX6_giveBlock_37 rfl ko_X6_80 kc_X5_need ki_X5_need ks_X5_need (by decide) (by decide) hdd rfl rfl (le_l rfl) q15 k14 ?_
  refine v_iload (pc' := 42) dX6_giveBlock_40 rfl rfl ?_
  refine v_iconst (pc' := 43) (v := (-1)) dX6_giveBlock_42 rfl kI_m1 ?_
  refine v_icmp_ne (tgt := 57) (pc' := 46) dX6_giveBlock_43 (by decide) rfl ⟨fun c16 => ?_, fun c16 => ?_⟩
  · have T := T.1 c16
    refine v_aload_n (pc' := 58) dX6_giveBlock_57 rfl rfl ?_
    refine v_iload (pc' := 60) dX6_giveBlock_58 rfl rfl ?_
    refine v_iload (pc' := 62) dX6_giveBlock_60 rfl rfl ?_
    obtain ⟨q19, T⟩ := T
    obtain ⟨h17, k18, T⟩ := T
    refine v_callV (pc' := 65) (M1 := mX5_need) (as := [.int z10, .int z6]) (r := r1) (rest := []) 5 dX6_giveBlock_62 rfl ko_X6_80 kc_X5_need ki_X5_need ks_X5_need (by decide) (by decide) hdd rfl rfl (le_l rfl) q19 k18 ?_
    refine v_iload (pc' := 67) dX6_giveBlock_65 rfl rfl ?_
    exact v_iret dX6_giveBlock_67 rfl T
  · have T := T.2 c16
    refine v_aload_n (pc' := 47) dX6_giveBlock_46 rfl rfl ?_
    refine v_iload (pc' := 49) dX6_giveBlock_47 rfl rfl ?_
    refine v_iload (pc' := 51) dX6_giveBlock_49 rfl rfl ?_
    obtain ⟨q22, T⟩ := T
    obtain ⟨h20, k21, T⟩ := T
    refine v_callV (pc' := 54) (M1 := mX5_needAllOf) (as := [.int z10, .int x4]) (r := r1) (rest := []) 5 dX6_giveBlock_51 rfl ko_X6_113 kc_X5_needAllOf ki_X5_needAllOf ks_X5_needAllOf (by decide) (by decide) hdd rfl rfl (le_l rfl) q22 k21 ?_
    refine v_goto (pc' := 65) dX6_giveBlock_54 (by decide) ?_
    refine v_iload (pc' := 67) dX6_giveBlock_65 rfl rfl ?_
    exact v_iret dX6_giveBlock_67 rfl T
theorem eX6_growNode {G : GG} {d : Nat} {h : Hp} {o : OU} {h' : Hp} (r0 : Nat) (r1 : Nat) (x2 : Int32) (x3 : Int32) (hd : 1 ≤ d) (T : kH h r0 = 16 ∧ ∃ z2 h1, VM G mX6_freeBlock (d - 1) [.ref r0, .ref r1] h (.inl (some (.int z2))) h1 ∧ kH h1 r1 = 15 ∧ ∃ z6 h5, VM G mX5_nodeField (d - 1) [.ref r1, .int 0, .int x2, .int 2] h1 (.inl (some (.int z6))) h5 ∧ kH h5 r1 = 15 ∧ ∃ z10 h9, VM G mX5_nodeField (d - 1) [.ref r1, .int 0, .int x2, .int 3] h5 (.inl (some (.int z10))) h9 ∧ ((z2 = (-1) → (o = .inl (some (.int 0)) ∧ h' = h9)) ∧ (¬ z2 = (-1) → kH h9 r1 = 15 ∧ ∃ z15 h14, VM G mX5_nodeField (d - 1) [.ref r1, .int 0, .int x2, .int 0] h9 (.inl (some (.int z15))) h14 ∧ ((z15 = 0 → (o = .inl (some (.int 0)) ∧ h' = h14)) ∧ (¬ z15 = 0 → ((z6 = 0 → V G mX6_growNode d 53 [.ref r0, .ref r1, .int x2, .int x3, .int z2, .int z6, uV, uV] [] h14 o h') ∧ (¬ z6 = 0 → ((z10 = 0 → V G mX6_growNode d 53 [.ref r0, .ref r1, .int x2, .int x3, .int z2, .int z6, uV, uV] [] h14 o h') ∧ (¬ z10 = 0 → (o = .inl (some (.int 0)) ∧ h' = h14)))))))))) : VM G mX6_growNode d [.ref r0, .ref r1, .int x2, .int x3] h o h' := by
  refine V.toM rfl rfl (le_l rfl) (cat_all rfl) ?_
  show V G mX6_growNode d 0 [.ref r0, .ref r1, .int x2, .int x3, uV, uV, uV, uV] [] h o h'
  have hdd : d - 1 + 1 ≤ d := by omega
  refine v_aload_n (pc' := 1) dX6_growNode_0 rfl rfl ?_
  refine v_aload_n (pc' := 2) dX6_growNode_1 rfl rfl ?_
  obtain ⟨q4, T⟩ := T
  obtain ⟨z2, h1, k3, T⟩ := T
  refine v_callV (pc' := 5) (M1 := mX6_freeBlock) (as := [.ref r1]) (r := r0) (rest := []) 6 dX6_growNode_2 rfl ko_X6_84 kc_X6_freeBlock ki_X6_freeBlock ks_X6_freeBlock (by decide) (by decide) hdd rfl rfl (le_l rfl) q4 k3 ?_
  refine v_istore (pc' := 7) (loc' := [.ref r0, .ref r1, .int x2, .int x3, .int z2, uV, uV, uV]) dX6_growNode_5 rfl (lt_l rfl) rfl ?_
  refine v_aload_n (pc' := 8) dX6_growNode_7 rfl rfl ?_
  refine v_iconst (pc' := 9) (v := 0) dX6_growNode_8 rfl kI_0 ?_
  refine v_iload_n (pc' := 10) dX6_growNode_9 rfl rfl ?_
  refine v_iconst (pc' := 11) (v := 2) dX6_growNode_10 rfl kI_2 ?_
  obtain ⟨q8, T⟩ := T
  obtain ⟨z6, h5, k7, T⟩ := T
  refine v_callV (pc' := 14) (M1 := mX5_nodeField) (as := [.int 0, .int x2, .int 2]) (r := r1) (rest := []) 5 dX6_growNode_11 rfl ko_X6_91 kc_X5_nodeField ki_X5_nodeField ks_X5_nodeField (by decide) (by decide) hdd rfl rfl (le_l rfl) q8 k7 ?_
  refine v_istore (pc' := 16) (loc' := [.ref r0, .ref r1, .int x2, .int x3, .int z2, .int z6, uV, uV]) dX6_growNode_14 rfl (lt_l rfl) rfl ?_
  refine v_aload_n (pc' := 17) dX6_growNode_16 rfl rfl ?_
  refine v_iconst (pc' := 18) (v := 0) dX6_growNode_17 rfl kI_0 ?_
  refine v_iload_n (pc' := 19) dX6_growNode_18 rfl rfl ?_
  refine v_iconst (pc' := 20) (v := 3) dX6_growNode_19 rfl kI_3 ?_
  obtain ⟨q12, T⟩ := T
  obtain ⟨z10, h9, k11, T⟩ := T
  refine v_callV (pc' := 23) (M1 := mX5_nodeField) (as := [.int 0, .int x2, .int 3]) (r := r1) (rest := []) 5 dX6_growNode_20 rfl ko_X6_91 kc_X5_nodeField ki_X5_nodeField ks_X5_nodeField (by decide) (by decide) hdd rfl rfl (le_l rfl) q12 k11 ?_
  refine v_istore (pc' := 25) (loc' := [.ref r0, .ref r1, .int x2, .int x3, .int z2, .int z6, .int z10, uV]) dX6_growNode_23 rfl (lt_l rfl) rfl ?_
  refine v_iload (pc' := 27) dX6_growNode_25 rfl rfl ?_
  refine v_iconst (pc' := 28) (v := (-1)) dX6_growNode_27 rfl kI_m1 ?_
  refine v_icmp_eq (tgt := 51) (pc' := 31) dX6_growNode_28 (by decide) rfl ⟨fun c13 => ?_, fun c13 => ?_⟩
  · have T := T.1 c13
    refine v_iconst (pc' := 52) (v := 0) dX6_growNode_51 rfl kI_0 ?_
    exact v_zret dX6_growNode_52 rfl (Or.inl rfl) T
  · have T := T.2 c13
    refine v_aload_n (pc' := 32) dX6_growNode_31 rfl rfl ?_
    refine v_iconst (pc' := 33) (v := 0) dX6_growNode_32 rfl kI_0 ?_
    refine v_iload_n (pc' := 34) dX6_growNode_33 rfl rfl ?_
    refine v_iconst (pc' := 35) (v := 0) dX6_growNode_34 rfl kI_0 ?_
    obtain ⟨q17, T⟩ := T
    obtain ⟨z15, h14, k16, T⟩ := T
    refine v_callV (pc' := 38) (M1 := mX5_nodeField) (as := [.int 0, .int x2, .int 0]) (r := r1) (rest := []) 5 dX6_growNode_35 rfl ko_X6_91 kc_X5_nodeField ki_X5_nodeField ks_X5_nodeField (by decide) (by decide) hdd rfl rfl (le_l rfl) q17 k16 ?_
    refine v_if_eq (tgt := 51) (pc' := 41) dX6_growNode_38 (by decide) rfl ⟨fun c18 => ?_, fun c18 => ?_⟩
    · have T := T.1 c18
      refine v_iconst (pc' := 52) (v := 0) dX6_growNode_51 rfl kI_0 ?_
      exact v_zret dX6_growNode_52 rfl (Or.inl rfl) T
    · have T := T.2 c18
      refine v_iload (pc' := 43) dX6_growNode_41 rfl rfl ?_
      refine v_if_eq (tgt := 53) (pc' := 46) dX6_growNode_43 (by decide) rfl ⟨fun c19 => ?_, fun c19 => ?_⟩
      · have T := T.1 c19
        exact V.drop (llp_r (llp_r (llp_r (llp_r (llp_r (llp_r (llp_u (llp_r llp_nil)))))))) T
      · have T := T.2 c19
        refine v_iload (pc' := 48) dX6_growNode_46 rfl rfl ?_
        refine v_if_eq (tgt := 53) (pc' := 51) dX6_growNode_48 (by decide) rfl ⟨fun c20 => ?_, fun c20 => ?_⟩
        · have T := T.1 c20
          exact V.drop (llp_r (llp_r (llp_r (llp_r (llp_r (llp_r (llp_u (llp_r llp_nil)))))))) T
        · have T := T.2 c20
          refine v_iconst (pc' := 52) (v := 0) dX6_growNode_51 rfl kI_0 ?_
          exact v_zret dX6_growNode_52 rfl (Or.inl rfl) T
theorem bX6_growNode_53 {G : GG} {d : Nat} {h : Hp} {o : OU} {h' : Hp} (r0 : Nat) (r1 : Nat) (x2 : Int32) (x3 : Int32) (x4 : Int32) (x5 : Int32) (hd : 1 ≤ d) (T : kH h r1 = 15 ∧ ∃ z2 h1, VM G mX5_nodeField (d - 1) [.ref r1, .int 0, .int x2, .int 1] h (.inl (some (.int z2))) h1 ∧ ((¬ z2 = 2 → ((¬ x5 = 0 → kH h1 r0 = 16 ∧ ∃ z8 h7, VM G mX6_giveBlock (d - 1) [.ref r0, .ref r1, .int x2, .int 3, .int x4, .int x3] h1 (.inl (some (.int z8))) h7 ∧ (o = .inl (some (.int 1)) ∧ h' = h7)) ∧ (x5 = 0 → kH h1 r0 = 16 ∧ ∃ z12 h11, VM G mX6_giveBlock (d - 1) [.ref r0, .ref r1, .int x2, .int 2, .int x4, .int x3] h1 (.inl (some (.int z12))) h11 ∧ (o = .inl (some (.int 1)) ∧ h' = h11)))) ∧ (z2 = 2 → ((¬ x5 = 0 → kH h1 r0 = 16 ∧ ∃ z17 h16, VM G mX6_giveBlock (d - 1) [.ref r0, .ref r1, .int x2, .int 3, .int x4, .int 0] h1 (.inl (some (.int z17))) h16 ∧ (o = .inl (some (.int 1)) ∧ h' = h16)) ∧ (x5 = 0 → kH h1 r0 = 16 ∧ ∃ z21 h20, VM G mX6_giveBlock (d - 1) [.ref r0, .ref r1, .int x2, .int 2, .int x4, .int 0] h1 (.inl (some (.int z21))) h20 ∧ (o = .inl (some (.int 1)) ∧ h' = h20)))))) : V G mX6_growNode d 53 [.ref r0, .ref r1, .int x2, .int x3, .int x4, .int x5, uV, uV] [] h o h' := by
  have hdd : d - 1 + 1 ≤ d := by omega
  refine v_aload_n (pc' := 54) dX6_growNode_53 rfl rfl ?_
  refine v_iconst (pc' := 55) (v := 0) dX6_growNode_54 rfl kI_0 ?_
  refine v_iload_n (pc' := 56) dX6_growNode_55 rfl rfl ?_
  refine v_iconst (pc' := 57) (v := 1) dX6_growNode_56 rfl kI_1 ?_
  obtain ⟨q4, T⟩ := T
  obtain ⟨z2, h1, k3, T⟩ := T
  refine v_callV (pc' := 60) (M1 := mX5_nodeField) (as := [.int 0, .int x2, .int 1]) (r := r1) (rest := []) 5 dX6_growNode_57 rfl ko_X6_91 kc_X5_nodeField ki_X5_nodeField ks_X5_nodeField (by decide) (by decide) hdd rfl rfl (le_l rfl) q4 k3 ?_
  refine v_iconst (pc' := 61) (v := 2) dX6_growNode_60 rfl kI_2 ?_
  refine v_icmp_ne (tgt := 68) (pc' := 64) dX6_growNode_61 (by decide) rfl ⟨fun c5 => ?_, fun c5 => ?_⟩
  · have T := T.1 c5
    refine v_iload_n (pc' := 69) dX6_growNode_68 rfl rfl ?_
    refine v_istore (pc' := 71) (loc' := [.ref r0, .ref r1, .int x2, .int x3, .int x4, .int x5, uV, .int x3]) dX6_growNode_69 rfl (lt_l rfl) rfl ?_
    refine v_aload_n (pc' := 72) dX6_growNode_71 rfl rfl ?_
    refine v_aload_n (pc' := 73) dX6_growNode_72 rfl rfl ?_
    refine v_iload_n (pc' := 74) dX6_growNode_73 rfl rfl ?_
    refine v_iload (pc' := 76) dX6_growNode_74 rfl rfl ?_
    refine v_if_ne (tgt := 83) (pc' := 79) dX6_growNode_76 (by decide) rfl ⟨fun c6 => ?_, fun c6 => ?_⟩
    · have T := T.1 c6
      refine v_iconst (pc' := 84) (v := 3) dX6_growNode_83 rfl kI_3 ?_
      refine v_iload (pc' := 86) dX6_growNode_84 rfl rfl ?_
      refine v_iload (pc' := 88) dX6_growNode_86 rfl rfl ?_
      obtain ⟨q10, T⟩ := T
      obtain ⟨z8, h7, k9, T⟩ := T
      refine v_callV (pc' := 91) (M1 := mX6_giveBlock) (as := [.ref r1, .int x2, .int 3, .int x4, .int x3]) (r := r0) (rest := []) 6 dX6_growNode_88 rfl ko_X6_87 kc_X6_giveBlock ki_X6_giveBlock ks_X6_giveBlock (by decide) (by decide) hdd rfl rfl (le_l rfl) q10 k9 ?_
      refine v_pop (pc' := 92) dX6_growNode_91 rfl rfl ?_
      refine v_iconst (pc' := 93) (v := 1) dX6_growNode_92 rfl kI_1 ?_
      exact v_zret dX6_growNode_93 rfl (Or.inr rfl) T
    · have T := T.2 c6
      refine v_iconst (pc' := 80) (v := 2) dX6_growNode_79 rfl kI_2 ?_
      refine v_goto (pc' := 84) dX6_growNode_80 (by decide) ?_
      refine v_iload (pc' := 86) dX6_growNode_84 rfl rfl ?_
      refine v_iload (pc' := 88) dX6_growNode_86 rfl rfl ?_
      obtain ⟨q14, T⟩ := T
      obtain ⟨z12, h11, k13, T⟩ := T
      refine v_callV (pc' := 91) (M1 := mX6_giveBlock) (as := [.ref r1, .int x2, .int 2, .int x4, .int x3]) (r := r0) (rest := []) 6 dX6_growNode_88 rfl ko_X6_87 kc_X6_giveBlock ki_X6_giveBlock ks_X6_giveBlock (by decide) (by decide) hdd rfl rfl (le_l rfl) q14 k13 ?_
      refine v_pop (pc' := 92) dX6_growNode_91 rfl rfl ?_
      refine v_iconst (pc' := 93) (v := 1) dX6_growNode_92 rfl kI_1 ?_
      exact v_zret dX6_growNode_93 rfl (Or.inr rfl) T
  · have T := T.2 c5
    refine v_iconst (pc' := 65) (v := 0) dX6_growNode_64 rfl kI_0 ?_
    refine v_goto (pc' := 69) dX6_growNode_65 (by decide) ?_
    refine v_istore (pc' := 71) (loc' := [.ref r0, .ref r1, .int x2, .int x3, .int x4, .int x5, uV, .int 0]) dX6_growNode_69 rfl (lt_l rfl) rfl ?_
    refine v_aload_n (pc' := 72) dX6_growNode_71 rfl rfl ?_
    refine v_aload_n (pc' := 73) dX6_growNode_72 rfl rfl ?_
    refine v_iload_n (pc' := 74) dX6_growNode_73 rfl rfl ?_
    refine v_iload (pc' := 76) dX6_growNode_74 rfl rfl ?_
    refine v_if_ne (tgt := 83) (pc' := 79) dX6_growNode_76 (by decide) rfl ⟨fun c15 => ?_, fun c15 => ?_⟩
    · have T := T.1 c15
      refine v_iconst (pc' := 84) (v := 3) dX6_growNode_83 rfl kI_3 ?_
      refine v_iload (pc' := 86) dX6_growNode_84 rfl rfl ?_
      refine v_iload (pc' := 88) dX6_growNode_86 rfl rfl ?_
      obtain ⟨q19, T⟩ := T
      obtain ⟨z17, h16, k18, T⟩ := T
      refine v_callV (pc' := 91) (M1 := mX6_giveBlock) (as := [.ref r1, .int x2, .int 3, .int x4, .int 0]) (r := r0) (rest := []) 6 dX6_growNode_88 rfl ko_X6_87 kc_X6_giveBlock ki_X6_giveBlock ks_X6_giveBlock (by decide) (by decide) hdd rfl rfl (le_l rfl) q19 k18 ?_
      refine v_pop (pc' := 92) dX6_growNode_91 rfl rfl ?_
      refine v_iconst (pc' := 93) (v := 1) dX6_growNode_92 rfl kI_1 ?_
      exact v_zret dX6_growNode_93 rfl (Or.inr rfl) T
    · have T := T.2 c15
      refine v_iconst (pc' := 80) (v := 2) dX6_growNode_79 rfl kI_2 ?_
      refine v_goto (pc' := 84) dX6_growNode_80 (by decide) ?_
      refine v_iload (pc' := 86) dX6_growNode_84 rfl rfl ?_
      refine v_iload (pc' := 88) dX6_growNode_86 rfl rfl ?_
      obtain ⟨q23, T⟩ := T
      obtain ⟨z21, h20, k22, T⟩ := T
      refine v_callV (pc' := 91) (M1 := mX6_giveBlock) (as := [.ref r1, .int x2, .int 2, .int x4, .int 0]) (r := r0) (rest := []) 6 dX6_growNode_88 rfl ko_X6_87 kc_X6_giveBlock ki_X6_giveBlock ks_X6_giveBlock (by decide) (by decide) hdd rfl rfl (le_l rfl) q23 k22 ?_
      refine v_pop (pc' := 92) dX6_growNode_91 rfl rfl ?_
      refine v_iconst (pc' := 93) (v := 1) dX6_growNode_92 rfl kI_1 ?_
      exact v_zret dX6_growNode_93 rfl (Or.inr rfl) T
theorem eX6_putInFile {G : GG} {d : Nat} {h : Hp} {o : OU} {h' : Hp} (r0 : Nat) (r1 : Nat) (x2 : Int32) (x3 : Int32) (x4 : Int32) (hd : 1 ≤ d) (T : kH h r0 = 16 ∧ ∃ z2 h1, VM G mX6_isFile (d - 1) [.ref r0, .ref r1, .int x2] h (.inl (some (.int z2))) h1 ∧ ((¬ z2 = 0 → ((16 ≤ x3 → kH h1 r1 = 15 ∧ ∃ z8 h7, VM G mX5_nodeField (d - 1) [.ref r1, .int 0, .int x2, .int 3] h1 (.inl (some (.int z8))) h7 ∧ ((z8 = 0 → (o = .inl (some (.int 0)) ∧ h' = h7)) ∧ (¬ z8 = 0 → kH h7 r1 = 15 ∧ ∃ z13 h12, VM G mX5_put (d - 1) [.ref r1, .int z8, .int (x3 - x3 / 16 * 16), .int x4] h7 (.inl (some (.int z13))) h12 ∧ ((z13 = (-1) → (o = .inl (some (.int 0)) ∧ h' = h12)) ∧ (¬ z13 = (-1) → (o = .inl (some (.int 1)) ∧ h' = h12)))))) ∧ (¬ 16 ≤ x3 → kH h1 r1 = 15 ∧ ∃ z18 h17, VM G mX5_nodeField (d - 1) [.ref r1, .int 0, .int x2, .int 2] h1 (.inl (some (.int z18))) h17 ∧ ((z18 = 0 → (o = .inl (some (.int 0)) ∧ h' = h17)) ∧ (¬ z18 = 0 → kH h17 r1 = 15 ∧ ∃ z23 h22, VM G mX5_put (d - 1) [.ref r1, .int z18, .int (x3 - x3 / 16 * 16), .int x4] h17 (.inl (some (.int z23))) h22 ∧ ((z23 = (-1) → (o = .inl (some (.int 0)) ∧ h' = h22)) ∧ (¬ z23 = (-1) → (o = .inl (some (.int 1)) ∧ h' = h22)))))))) ∧ (z2 = 0 → (o = .inl (some (.int 0)) ∧ h' = h1)))) : VM G mX6_putInFile d [.ref r0, .ref r1, .int x2, .int x3, .int x4] h o h' := by
  refine V.toM rfl rfl (le_l rfl) (cat_all rfl) ?_
  show V G mX6_putInFile d 0 [.ref r0, .ref r1, .int x2, .int x3, .int x4, uV] [] h o h'
  have hdd : d - 1 + 1 ≤ d := by omega
  refine v_aload_n (pc' := 1) dX6_putInFile_0 rfl rfl ?_
  refine v_aload_n (pc' := 2) dX6_putInFile_1 rfl rfl ?_
  refine v_iload_n (pc' := 3) dX6_putInFile_2 rfl rfl ?_
  obtain ⟨q4, T⟩ := T
  obtain ⟨z2, h1, k3, T⟩ := T
  refine v_callV (pc' := 6) (M1 := mX6_isFile) (as := [.ref r1, .int x2]) (r := r0) (rest := []) 6 dX6_putInFile_3 rfl ko_X6_94 kc_X6_isFile ki_X6_isFile ks_X6_isFile (by decide) (by decide) hdd rfl rfl (le_l rfl) q4 k3 ?_
  refine v_if_ne (tgt := 11) (pc' := 9) dX6_putInFile_6 (by decide) rfl ⟨fun c5 => ?_, fun c5 => ?_⟩
  · have T := T.1 c5
    refine v_aload_n (pc' := 12) dX6_putInFile_11 rfl rfl ?_
    refine v_iconst (pc' := 13) (v := 0) dX6_putInFile_12 rfl kI_0 ?_
    refine v_iload_n (pc' := 14) dX6_putInFile_13 rfl rfl ?_
    refine v_iload_n (pc' := 15) dX6_putInFile_14 rfl rfl ?_
    refine v_bipush (pc' := 17) (v := 16) dX6_putInFile_15 rfl kB_16 ?_
    refine v_icmp_ge (tgt := 24) (pc' := 20) dX6_putInFile_17 (by decide) rfl ⟨fun c6 => ?_, fun c6 => ?_⟩
    · have T := T.1 c6
      refine v_iconst (pc' := 25) (v := 3) dX6_putInFile_24 rfl kI_3 ?_
      obtain ⟨q10, T⟩ := T
      obtain ⟨z8, h7, k9, T⟩ := T
      refine v_callV (pc' := 28) (M1 := mX5_nodeField) (as := [.int 0, .int x2, .int 3]) (r := r1) (rest := []) 5 dX6_putInFile_25 rfl ko_X6_91 kc_X5_nodeField ki_X5_nodeField ks_X5_nodeField (by decide) (by decide) hdd rfl rfl (le_l rfl) q10 k9 ?_
      refine v_istore (pc' := 30) (loc' := [.ref r0, .ref r1, .int x2, .int x3, .int x4, .int z8]) dX6_putInFile_28 rfl (lt_l rfl) rfl ?_
      refine v_iload (pc' := 32) dX6_putInFile_30 rfl rfl ?_
      refine v_if_eq (tgt := 55) (pc' := 35) dX6_putInFile_32 (by decide) rfl ⟨fun c11 => ?_, fun c11 => ?_⟩
      · have T := T.1 c11
        refine v_iconst (pc' := 56) (v := 0) dX6_putInFile_55 rfl kI_0 ?_
        exact v_zret dX6_putInFile_56 rfl (Or.inl rfl) T
      · have T := T.2 c11
        refine v_aload_n (pc' := 36) dX6_putInFile_35 rfl rfl ?_
        refine v_iload (pc' := 38) dX6_putInFile_36 rfl rfl ?_
        refine v_iload_n (pc' := 39) dX6_putInFile_38 rfl rfl ?_
        refine v_bipush (pc' := 41) (v := 16) dX6_putInFile_39 rfl kB_16 ?_
        refine v_irem (pc' := 42) dX6_putInFile_41 rfl (by decide) ?_
        refine v_iload (pc' := 44) dX6_putInFile_42 rfl rfl ?_
        obtain ⟨q15, T⟩ := T
        obtain ⟨z13, h12, k14, T⟩ := T
        refine v_callV (pc' := 47) (M1 := mX5_put) (as := [.int z8, .int (x3 - x3 / 16 * 16), .int x4]) (r := r1) (rest := []) 5 dX6_putInFile_44 rfl ko_X6_110 kc_X5_put ki_X5_put ks_X5_put (by decide) (by decide) hdd rfl rfl (le_l rfl) q15 k14 ?_
        refine v_iconst (pc' := 48) (v := (-1)) dX6_putInFile_47 rfl kI_m1 ?_
        refine v_icmp_eq (tgt := 55) (pc' := 51) dX6_putInFile_48 (by decide) rfl ⟨fun c16 => ?_, fun c16 => ?_⟩
        · have T := T.1 c16
          refine v_iconst (pc' := 56) (v := 0) dX6_putInFile_55 rfl kI_0 ?_
          exact v_zret dX6_putInFile_56 rfl (Or.inl rfl) T
        · have T := T.2 c16
          refine v_iconst (pc' := 52) (v := 1) dX6_putInFile_51 rfl kI_1 ?_
          refine v_goto (pc' := 56) dX6_putInFile_52 (by decide) ?_
          exact v_zret dX6_putInFile_56 rfl (Or.inr rfl) T
    · have T := T.2 c6
      refine v_iconst (pc' := 21) (v := 2) dX6_putInFile_20 rfl kI_2 ?_
      refine v_goto (pc' := 25) dX6_putInFile_21 (by decide) ?_
      obtain ⟨q20, T⟩ := T
      obtain ⟨z18, h17, k19, T⟩ := T
      refine v_callV (pc' := 28) (M1 := mX5_nodeField) (as := [.int 0, .int x2, .int 2]) (r := r1) (rest := []) 5 dX6_putInFile_25 rfl ko_X6_91 kc_X5_nodeField ki_X5_nodeField ks_X5_nodeField (by decide) (by decide) hdd rfl rfl (le_l rfl) q20 k19 ?_
      refine v_istore (pc' := 30) (loc' := [.ref r0, .ref r1, .int x2, .int x3, .int x4, .int z18]) dX6_putInFile_28 rfl (lt_l rfl) rfl ?_
      refine v_iload (pc' := 32) dX6_putInFile_30 rfl rfl ?_
      refine v_if_eq (tgt := 55) (pc' := 35) dX6_putInFile_32 (by decide) rfl ⟨fun c21 => ?_, fun c21 => ?_⟩
      · have T := T.1 c21
        refine v_iconst (pc' := 56) (v := 0) dX6_putInFile_55 rfl kI_0 ?_
        exact v_zret dX6_putInFile_56 rfl (Or.inl rfl) T
      · have T := T.2 c21
        refine v_aload_n (pc' := 36) dX6_putInFile_35 rfl rfl ?_
        refine v_iload (pc' := 38) dX6_putInFile_36 rfl rfl ?_
        refine v_iload_n (pc' := 39) dX6_putInFile_38 rfl rfl ?_
        refine v_bipush (pc' := 41) (v := 16) dX6_putInFile_39 rfl kB_16 ?_
        refine v_irem (pc' := 42) dX6_putInFile_41 rfl (by decide) ?_
        refine v_iload (pc' := 44) dX6_putInFile_42 rfl rfl ?_
        obtain ⟨q25, T⟩ := T
        obtain ⟨z23, h22, k24, T⟩ := T
        refine v_callV (pc' := 47) (M1 := mX5_put) (as := [.int z18, .int (x3 - x3 / 16 * 16), .int x4]) (r := r1) (rest := []) 5 dX6_putInFile_44 rfl ko_X6_110 kc_X5_put ki_X5_put ks_X5_put (by decide) (by decide) hdd rfl rfl (le_l rfl) q25 k24 ?_
        refine v_iconst (pc' := 48) (v := (-1)) dX6_putInFile_47 rfl kI_m1 ?_
        refine v_icmp_eq (tgt := 55) (pc' := 51) dX6_putInFile_48 (by decide) rfl ⟨fun c26 => ?_, fun c26 => ?_⟩
        · have T := T.1 c26
          refine v_iconst (pc' := 56) (v := 0) dX6_putInFile_55 rfl kI_0 ?_
          exact v_zret dX6_putInFile_56 rfl (Or.inl rfl) T
        · have T := T.2 c26
          refine v_iconst (pc' := 52) (v := 1) dX6_putInFile_51 rfl kI_1 ?_
          refine v_goto (pc' := 56) dX6_putInFile_52 (by decide) ?_
          exact v_zret dX6_putInFile_56 rfl (Or.inr rfl) T
  · have T := T.2 c5
    refine v_iconst (pc' := 10) (v := 0) dX6_putInFile_9 rfl kI_0 ?_
    exact v_zret dX6_putInFile_10 rfl (Or.inl rfl) T
theorem eX6_cutFile {G : GG} {d : Nat} {h : Hp} {o : OU} {h' : Hp} (r0 : Nat) (r1 : Nat) (x2 : Int32) (hd : 1 ≤ d) (T : kH h r0 = 16 ∧ ∃ z2 h1, VM G mX6_isFile (d - 1) [.ref r0, .ref r1, .int x2] h (.inl (some (.int z2))) h1 ∧ ((¬ z2 = 0 → kH h1 r1 = 15 ∧ ∃ z7 h6, VM G mX5_nodeField (d - 1) [.ref r1, .int 0, .int x2, .int 3] h1 (.inl (some (.int z7))) h6 ∧ ((z7 = 0 → kH h6 r1 = 15 ∧ ∃ z12 h11, VM G mX5_nodeField (d - 1) [.ref r1, .int 0, .int x2, .int 2] h6 (.inl (some (.int z12))) h11 ∧ ((¬ z12 = 0 → kH h11 r1 = 15 ∧ ∃ z17 h16, VM G mX5_putField (d - 1) [.ref r1, .int x2, .int 2, .int 0] h11 (.inl (some (.int z17))) h16 ∧ kH h16 r1 = 15 ∧ ∃ h20, VM G mX5_putOff (d - 1) [.ref r1, .int (100 + z12), .int z17] h16 (.inl none) h20 ∧ (o = .inl (some (.int 1)) ∧ h' = h20)) ∧ (z12 = 0 → (o = .inl (some (.int 0)) ∧ h' = h11)))) ∧ (¬ z7 = 0 → kH h6 r1 = 15 ∧ ∃ z24 h23, VM G mX5_nodeField (d - 1) [.ref r1, .int 0, .int x2, .int 3] h6 (.inl (some (.int z24))) h23 ∧ ((¬ z24 = 0 → kH h23 r1 = 15 ∧ ∃ z29 h28, VM G mX5_putField (d - 1) [.ref r1, .int x2, .int 3, .int 0] h23 (.inl (some (.int z29))) h28 ∧ kH h28 r1 = 15 ∧ ∃ h32, VM G mX5_putOff (d - 1) [.ref r1, .int (100 + z24), .int z29] h28 (.inl none) h32 ∧ (o = .inl (some (.int 1)) ∧ h' = h32)) ∧ (z24 = 0 → (o = .inl (some (.int 0)) ∧ h' = h23)))))) ∧ (z2 = 0 → (o = .inl (some (.int 0)) ∧ h' = h1)))) : VM G mX6_cutFile d [.ref r0, .ref r1, .int x2] h o h' := by
  refine V.toM rfl rfl (le_l rfl) (cat_all rfl) ?_
  show V G mX6_cutFile d 0 [.ref r0, .ref r1, .int x2, uV, uV] [] h o h'
  have hdd : d - 1 + 1 ≤ d := by omega
  refine v_aload_n (pc' := 1) dX6_cutFile_0 rfl rfl ?_
  refine v_aload_n (pc' := 2) dX6_cutFile_1 rfl rfl ?_
  refine v_iload_n (pc' := 3) dX6_cutFile_2 rfl rfl ?_
  obtain ⟨q4, T⟩ := T
  obtain ⟨z2, h1, k3, T⟩ := T
  refine v_callV (pc' := 6) (M1 := mX6_isFile) (as := [.ref r1, .int x2]) (r := r0) (rest := []) 6 dX6_cutFile_3 rfl ko_X6_94 kc_X6_isFile ki_X6_isFile ks_X6_isFile (by decide) (by decide) hdd rfl rfl (le_l rfl) q4 k3 ?_
  refine v_if_ne (tgt := 11) (pc' := 9) dX6_cutFile_6 (by decide) rfl ⟨fun c5 => ?_, fun c5 => ?_⟩
  · have T := T.1 c5
    refine v_aload_n (pc' := 12) dX6_cutFile_11 rfl rfl ?_
    refine v_iconst (pc' := 13) (v := 0) dX6_cutFile_12 rfl kI_0 ?_
    refine v_iload_n (pc' := 14) dX6_cutFile_13 rfl rfl ?_
    refine v_iconst (pc' := 15) (v := 3) dX6_cutFile_14 rfl kI_3 ?_
    obtain ⟨q9, T⟩ := T
    obtain ⟨z7, h6, k8, T⟩ := T
    refine v_callV (pc' := 18) (M1 := mX5_nodeField) (as := [.int 0, .int x2, .int 3]) (r := r1) (rest := []) 5 dX6_cutFile_15 rfl ko_X6_91 kc_X5_nodeField ki_X5_nodeField ks_X5_nodeField (by decide) (by decide) hdd rfl rfl (le_l rfl) q9 k8 ?_
    refine v_if_eq (tgt := 25) (pc' := 21) dX6_cutFile_18 (by decide) rfl ⟨fun c10 => ?_, fun c10 => ?_⟩
    · have T := T.1 c10
      refine v_iconst (pc' := 26) (v := 2) dX6_cutFile_25 rfl kI_2 ?_
      refine v_istore_n (pc' := 27) (loc' := [.ref r0, .ref r1, .int x2, .int 2, uV]) dX6_cutFile_26 rfl (lt_l rfl) rfl ?_
      refine v_aload_n (pc' := 28) dX6_cutFile_27 rfl rfl ?_
      refine v_iconst (pc' := 29) (v := 0) dX6_cutFile_28 rfl kI_0 ?_
      refine v_iload_n (pc' := 30) dX6_cutFile_29 rfl rfl ?_
      refine v_iload_n (pc' := 31) dX6_cutFile_30 rfl rfl ?_
      obtain ⟨q14, T⟩ := T
      obtain ⟨z12, h11, k13, T⟩ := T
      refine v_callV (pc' := 34) (M1 := mX5_nodeField) (as := [.int 0, .int x2, .int 2]) (r := r1) (rest := []) 5 dX6_cutFile_31 rfl ko_X6_91 kc_X5_nodeField ki_X5_nodeField ks_X5_nodeField (by decide) (by decide) hdd rfl rfl (le_l rfl) q14 k13 ?_
      refine v_istore (pc' := 36) (loc' := [.ref r0, .ref r1, .int x2, .int 2, .int z12]) dX6_cutFile_34 rfl (lt_l rfl) rfl ?_
      refine v_iload (pc' := 38) dX6_cutFile_36 rfl rfl ?_
      refine v_if_ne (tgt := 43) (pc' := 41) dX6_cutFile_38 (by decide) rfl ⟨fun c15 => ?_, fun c15 => ?_⟩
      · have T := T.1 c15
        refine v_aload_n (pc' := 44) dX6_cutFile_43 rfl rfl ?_
        refine v_bipush (pc' := 46) (v := 100) dX6_cutFile_44 rfl kB_100 ?_
        refine v_iload (pc' := 48) dX6_cutFile_46 rfl rfl ?_
        refine v_iadd (pc' := 49) dX6_cutFile_48 rfl ?_
        refine v_aload_n (pc' := 50) dX6_cutFile_49 rfl rfl ?_
        refine v_iload_n (pc' := 51) dX6_cutFile_50 rfl rfl ?_
        refine v_iload_n (pc' := 52) dX6_cutFile_51 rfl rfl ?_
        refine v_iconst (pc' := 53) (v := 0) dX6_cutFile_52 rfl kI_0 ?_
        obtain ⟨q19, T⟩ := T
        obtain ⟨z17, h16, k18, T⟩ := T
        refine v_callV (pc' := 56) (M1 := mX5_putField) (as := [.int x2, .int 2, .int 0]) (r := r1) (rest := [.int (100 + z12), .ref r1]) 5 dX6_cutFile_53 rfl ko_X6_72 kc_X5_putField ki_X5_putField ks_X5_putField (by decide) (by decide) hdd rfl rfl (le_l rfl) q19 k18 ?_
        obtain ⟨q22, T⟩ := T
        obtain ⟨h20, k21, T⟩ := T
        refine v_callV (pc' := 59) (M1 := mX5_putOff) (as := [.int (100 + z12), .int z17]) (r := r1) (rest := []) 5 dX6_cutFile_56 rfl ko_X6_116 kc_X5_putOff ki_X5_putOff ks_X5_putOff (by decide) (by decide) hdd rfl rfl (le_l rfl) q22 k21 ?_
        refine v_iconst (pc' := 60) (v := 1) dX6_cutFile_59 rfl kI_1 ?_
        exact v_zret dX6_cutFile_60 rfl (Or.inr rfl) T
      · have T := T.2 c15
        refine v_iconst (pc' := 42) (v := 0) dX6_cutFile_41 rfl kI_0 ?_
        exact v_zret dX6_cutFile_42 rfl (Or.inl rfl) T
    · have T := T.2 c10
      refine v_iconst (pc' := 22) (v := 3) dX6_cutFile_21 rfl kI_3 ?_
      refine v_goto (pc' := 26) dX6_cutFile_22 (by decide) ?_
      refine v_istore_n (pc' := 27) (loc' := [.ref r0, .ref r1, .int x2, .int 3, uV]) dX6_cutFile_26 rfl (lt_l rfl) rfl ?_
      refine v_aload_n (pc' := 28) dX6_cutFile_27 rfl rfl ?_
      refine v_iconst (pc' := 29) (v := 0) dX6_cutFile_28 rfl kI_0 ?_
      refine v_iload_n (pc' := 30) dX6_cutFile_29 rfl rfl ?_
      refine v_iload_n (pc' := 31) dX6_cutFile_30 rfl rfl ?_
      obtain ⟨q26, T⟩ := T
      obtain ⟨z24, h23, k25, T⟩ := T
      refine v_callV (pc' := 34) (M1 := mX5_nodeField) (as := [.int 0, .int x2, .int 3]) (r := r1) (rest := []) 5 dX6_cutFile_31 rfl ko_X6_91 kc_X5_nodeField ki_X5_nodeField ks_X5_nodeField (by decide) (by decide) hdd rfl rfl (le_l rfl) q26 k25 ?_
      refine v_istore (pc' := 36) (loc' := [.ref r0, .ref r1, .int x2, .int 3, .int z24]) dX6_cutFile_34 rfl (lt_l rfl) rfl ?_
      refine v_iload (pc' := 38) dX6_cutFile_36 rfl rfl ?_
      refine v_if_ne (tgt := 43) (pc' := 41) dX6_cutFile_38 (by decide) rfl ⟨fun c27 => ?_, fun c27 => ?_⟩
      · have T := T.1 c27
        refine v_aload_n (pc' := 44) dX6_cutFile_43 rfl rfl ?_
        refine v_bipush (pc' := 46) (v := 100) dX6_cutFile_44 rfl kB_100 ?_
        refine v_iload (pc' := 48) dX6_cutFile_46 rfl rfl ?_
        refine v_iadd (pc' := 49) dX6_cutFile_48 rfl ?_
        refine v_aload_n (pc' := 50) dX6_cutFile_49 rfl rfl ?_
        refine v_iload_n (pc' := 51) dX6_cutFile_50 rfl rfl ?_
        refine v_iload_n (pc' := 52) dX6_cutFile_51 rfl rfl ?_
        refine v_iconst (pc' := 53) (v := 0) dX6_cutFile_52 rfl kI_0 ?_
        obtain ⟨q31, T⟩ := T
        obtain ⟨z29, h28, k30, T⟩ := T
        refine v_callV (pc' := 56) (M1 := mX5_putField) (as := [.int x2, .int 3, .int 0]) (r := r1) (rest := [.int (100 + z24), .ref r1]) 5 dX6_cutFile_53 rfl ko_X6_72 kc_X5_putField ki_X5_putField ks_X5_putField (by decide) (by decide) hdd rfl rfl (le_l rfl) q31 k30 ?_
        obtain ⟨q34, T⟩ := T
        obtain ⟨h32, k33, T⟩ := T
        refine v_callV (pc' := 59) (M1 := mX5_putOff) (as := [.int (100 + z24), .int z29]) (r := r1) (rest := []) 5 dX6_cutFile_56 rfl ko_X6_116 kc_X5_putOff ki_X5_putOff ks_X5_putOff (by decide) (by decide) hdd rfl rfl (le_l rfl) q34 k33 ?_
        refine v_iconst (pc' := 60) (v := 1) dX6_cutFile_59 rfl kI_1 ?_
        exact v_zret dX6_cutFile_60 rfl (Or.inr rfl) T
      · have T := T.2 c27
        refine v_iconst (pc' := 42) (v := 0) dX6_cutFile_41 rfl kI_0 ?_
        exact v_zret dX6_cutFile_42 rfl (Or.inl rfl) T
  · have T := T.2 c5
    refine v_iconst (pc' := 10) (v := 0) dX6_cutFile_9 rfl kI_0 ?_
    exact v_zret dX6_cutFile_10 rfl (Or.inl rfl) T
theorem eX6_dropEntry {G : GG} {d : Nat} {h : Hp} {o : OU} {h' : Hp} (r0 : Nat) (r1 : Nat) (x2 : Int32) (x3 : Int32) (hd : 1 ≤ d) (T : ∃ z2 h1, VM G mX8_entryNamed (d - 1) [.ref r1, .int 0, .int x2, .int x3] h (.inl (some (.int z2))) h1 ∧ ((z2 = (-1) → (o = .inl (some (.int 0)) ∧ h' = h1)) ∧ (¬ z2 = (-1) → ∃ z6 h5, VM G mX8_reachedNodes (d - 1) [.ref r1, .int 0] h1 (.inl (some (.int z6))) h5 ∧ ((¬ ((z6 >>> (x2 &&& 31)) &&& 1) = 0 → ∃ z10 h9, VM G mX8_nodeOfEntry (d - 1) [.ref r1, .int 0, .int z2] h5 (.inl (some (.int z10))) h9 ∧ ∃ z13 h12, VM G mX8_namedNodes (d - 1) [.ref r1, .int 0, .int z10] h9 (.inl (some (.int z13))) h12 ∧ ((z13 = 0 → kH h12 r1 = 15 ∧ ∃ z17 h16, VM G mX5_put (d - 1) [.ref r1, .int (z2 / 8), .int ((z2 - z2 / 8 * 8) * 2), .int 0] h12 (.inl (some (.int z17))) h16 ∧ kH h16 r1 = 15 ∧ ∃ h20, VM G mX5_putOff (d - 1) [.ref r1, .int z10, .int z17] h16 (.inl none) h20 ∧ (o = .inl (some (.int 1)) ∧ h' = h20)) ∧ (¬ z13 = 0 → (o = .inl (some (.int 0)) ∧ h' = h12)))) ∧ (((z6 >>> (x2 &&& 31)) &&& 1) = 0 → (o = .inl (some (.int 0)) ∧ h' = h5)))))) : VM G mX6_dropEntry d [.ref r0, .ref r1, .int x2, .int x3] h o h' := by
  refine V.toM rfl rfl (le_l rfl) (cat_all rfl) ?_
  show V G mX6_dropEntry d 0 [.ref r0, .ref r1, .int x2, .int x3, uV, uV] [] h o h'
  have hdd : d - 1 + 1 ≤ d := by omega
  refine v_aload_n (pc' := 1) dX6_dropEntry_0 rfl rfl ?_
  refine v_iconst (pc' := 2) (v := 0) dX6_dropEntry_1 rfl kI_0 ?_
  refine v_iload_n (pc' := 3) dX6_dropEntry_2 rfl rfl ?_
  refine v_iload_n (pc' := 4) dX6_dropEntry_3 rfl rfl ?_
  obtain ⟨z2, h1, k3, T⟩ := T
  refine v_callS (pc' := 7) (M1 := mX8_entryNamed) (as := [.ref r1, .int 0, .int x2, .int x3]) (rest := []) dX6_dropEntry_4 rfl ko_X6_97 kc_X8_entryNamed kt_X8_entryNamed (by decide) hdd rfl rfl (le_l rfl) k3 ?_
  refine v_istore (pc' := 9) (loc' := [.ref r0, .ref r1, .int x2, .int x3, .int z2, uV]) dX6_dropEntry_7 rfl (lt_l rfl) rfl ?_
  refine v_iload (pc' := 11) dX6_dropEntry_9 rfl rfl ?_
  refine v_iconst (pc' := 12) (v := (-1)) dX6_dropEntry_11 rfl kI_m1 ?_
  refine v_icmp_eq (tgt := 27) (pc' := 15) dX6_dropEntry_12 (by decide) rfl ⟨fun c4 => ?_, fun c4 => ?_⟩
  · have T := T.1 c4
    refine v_iconst (pc' := 28) (v := 0) dX6_dropEntry_27 rfl kI_0 ?_
    exact v_zret dX6_dropEntry_28 rfl (Or.inl rfl) T
  · have T := T.2 c4
    refine v_aload_n (pc' := 16) dX6_dropEntry_15 rfl rfl ?_
    refine v_iconst (pc' := 17) (v := 0) dX6_dropEntry_16 rfl kI_0 ?_
    obtain ⟨z6, h5, k7, T⟩ := T
    refine v_callS (pc' := 20) (M1 := mX8_reachedNodes) (as := [.ref r1, .int 0]) (rest := []) dX6_dropEntry_17 rfl ko_X6_102 kc_X8_reachedNodes kt_X8_reachedNodes (by decide) hdd rfl rfl (le_l rfl) k7 ?_
    refine v_iload_n (pc' := 21) dX6_dropEntry_20 rfl rfl ?_
    refine v_ishr (pc' := 22) dX6_dropEntry_21 rfl ?_
    refine v_iconst (pc' := 23) (v := 1) dX6_dropEntry_22 rfl kI_1 ?_
    refine v_iand (pc' := 24) dX6_dropEntry_23 rfl ?_
    refine v_if_ne (tgt := 29) (pc' := 27) dX6_dropEntry_24 (by decide) rfl ⟨fun c8 => ?_, fun c8 => ?_⟩
    · have T := T.1 c8
      refine v_aload_n (pc' := 30) dX6_dropEntry_29 rfl rfl ?_
      refine v_iconst (pc' := 31) (v := 0) dX6_dropEntry_30 rfl kI_0 ?_
      refine v_iload (pc' := 33) dX6_dropEntry_31 rfl rfl ?_
      obtain ⟨z10, h9, k11, T⟩ := T
      refine v_callS (pc' := 36) (M1 := mX8_nodeOfEntry) (as := [.ref r1, .int 0, .int z2]) (rest := []) dX6_dropEntry_33 rfl ko_X6_119 kc_X8_nodeOfEntry kt_X8_nodeOfEntry (by decide) hdd rfl rfl (le_l rfl) k11 ?_
      refine v_istore (pc' := 38) (loc' := [.ref r0, .ref r1, .int x2, .int x3, .int z2, .int z10]) dX6_dropEntry_36 rfl (lt_l rfl) rfl ?_
      refine v_aload_n (pc' := 39) dX6_dropEntry_38 rfl rfl ?_
      refine v_iconst (pc' := 40) (v := 0) dX6_dropEntry_39 rfl kI_0 ?_
      refine v_iload (pc' := 42) dX6_dropEntry_40 rfl rfl ?_
      obtain ⟨z13, h12, k14, T⟩ := T
      refine v_callS (pc' := 45) (M1 := mX8_namedNodes) (as := [.ref r1, .int 0, .int z10]) (rest := []) dX6_dropEntry_42 rfl ko_X6_122 kc_X8_namedNodes kt_X8_namedNodes (by decide) hdd rfl rfl (le_l rfl) k14 ?_
      refine v_if_eq (tgt := 50) (pc' := 48) dX6_dropEntry_45 (by decide) rfl ⟨fun c15 => ?_, fun c15 => ?_⟩
      · have T := T.1 c15
        refine v_aload_n (pc' := 51) dX6_dropEntry_50 rfl rfl ?_
        refine v_iload (pc' := 53) dX6_dropEntry_51 rfl rfl ?_
        refine v_aload_n (pc' := 54) dX6_dropEntry_53 rfl rfl ?_
        refine v_iload (pc' := 56) dX6_dropEntry_54 rfl rfl ?_
        refine v_bipush (pc' := 58) (v := 8) dX6_dropEntry_56 rfl kB_8 ?_
        refine v_idiv (pc' := 59) dX6_dropEntry_58 rfl (by decide) ?_
        refine v_iload (pc' := 61) dX6_dropEntry_59 rfl rfl ?_
        refine v_bipush (pc' := 63) (v := 8) dX6_dropEntry_61 rfl kB_8 ?_
        refine v_irem (pc' := 64) dX6_dropEntry_63 rfl (by decide) ?_
        refine v_iconst (pc' := 65) (v := 2) dX6_dropEntry_64 rfl kI_2 ?_
        refine v_imul (pc' := 66) dX6_dropEntry_65 rfl ?_
        refine v_iconst (pc' := 67) (v := 0) dX6_dropEntry_66 rfl kI_0 ?_
        obtain ⟨q19, T⟩ := T
        obtain ⟨z17, h16, k18, T⟩ := T
        refine v_callV (pc' := 70) (M1 := mX5_put) (as := [.int (z2 / 8), .int ((z2 - z2 / 8 * 8) * 2), .int 0]) (r := r1) (rest := [.int z10, .ref r1]) 5 dX6_dropEntry_67 rfl ko_X6_110 kc_X5_put ki_X5_put ks_X5_put (by decide) (by decide) hdd rfl rfl (le_l rfl) q19 k18 ?_
        obtain ⟨q22, T⟩ := T
        obtain ⟨h20, k21, T⟩ := T
        refine v_callV (pc' := 73) (M1 := mX5_putOff) (as := [.int z10, .int z17]) (r := r1) (rest := []) 5 dX6_dropEntry_70 rfl ko_X6_116 kc_X5_putOff ki_X5_putOff ks_X5_putOff (by decide) (by decide) hdd rfl rfl (le_l rfl) q22 k21 ?_
        refine v_iconst (pc' := 74) (v := 1) dX6_dropEntry_73 rfl kI_1 ?_
        exact v_zret dX6_dropEntry_74 rfl (Or.inr rfl) T
      · have T := T.2 c15
        refine v_iconst (pc' := 49) (v := 0) dX6_dropEntry_48 rfl kI_0 ?_
        exact v_zret dX6_dropEntry_49 rfl (Or.inl rfl) T
    · have T := T.2 c8
      refine v_iconst (pc' := 28) (v := 0) dX6_dropEntry_27 rfl kI_0 ?_
      exact v_zret dX6_dropEntry_28 rfl (Or.inl rfl) T
theorem eX6_sweepOne {G : GG} {d : Nat} {h : Hp} {o : OU} {h' : Hp} (r0 : Nat) (r1 : Nat) (hd : 1 ≤ d) (T : kH h r0 = 16 ∧ ∃ z2 h1, VM G mX6_firstFound (d - 1) [.ref r0, .ref r1] h (.inl (some (.int z2))) h1 ∧ ((¬ z2 = (-1) → ((z2 < 100 → ∃ z8 h7, VM G mX8_reachedNodes (d - 1) [.ref r1, .int 0] h1 (.inl (some (.int z8))) h7 ∧ kH h7 r0 = 16 ∧ ∃ z11 h10, VM G mX6_linksDue (d - 1) [.ref r0, .ref r1, .int z8, .int z2] h7 (.inl (some (.int z11))) h10 ∧ kH h10 r1 = 15 ∧ ∃ h14, VM G mX5_setLinks (d - 1) [.ref r1, .int z2, .int z11] h10 (.inl none) h14 ∧ (o = .inl (some (.int 1)) ∧ h' = h14)) ∧ (¬ z2 < 100 → kH h1 r1 = 15 ∧ ∃ z18 h17, VM G mX5_put (d - 1) [.ref r1, .int 0, .int (z2 - 100), .int 0] h1 (.inl (some (.int z18))) h17 ∧ (o = .inl (some (.int 1)) ∧ h' = h17)))) ∧ (z2 = (-1) → (o = .inl (some (.int 0)) ∧ h' = h1)))) : VM G mX6_sweepOne d [.ref r0, .ref r1] h o h' := by
  refine V.toM rfl rfl (le_l rfl) (cat_all rfl) ?_
  show V G mX6_sweepOne d 0 [.ref r0, .ref r1, uV] [] h o h'
  have hdd : d - 1 + 1 ≤ d := by omega
  refine v_aload_n (pc' := 1) dX6_sweepOne_0 rfl rfl ?_
  refine v_aload_n (pc' := 2) dX6_sweepOne_1 rfl rfl ?_
  obtain ⟨q4, T⟩ := T
  obtain ⟨z2, h1, k3, T⟩ := T
  refine v_callV (pc' := 5) (M1 := mX6_firstFound) (as := [.ref r1]) (r := r0) (rest := []) 6 dX6_sweepOne_2 rfl ko_X6_125 kc_X6_firstFound ki_X6_firstFound ks_X6_firstFound (by decide) (by decide) hdd rfl rfl (le_l rfl) q4 k3 ?_
  refine v_istore_n (pc' := 6) (loc' := [.ref r0, .ref r1, .int z2]) dX6_sweepOne_5 rfl (lt_l rfl) rfl ?_
  refine v_iload_n (pc' := 7) dX6_sweepOne_6 rfl rfl ?_
  refine v_iconst (pc' := 8) (v := (-1)) dX6_sweepOne_7 rfl kI_m1 ?_
  refine v_icmp_ne (tgt := 13) (pc' := 11) dX6_sweepOne_8 (by decide) rfl ⟨fun c5 => ?_, fun c5 => ?_⟩
  · have T := T.1 c5
    refine v_iload_n (pc' := 14) dX6_sweepOne_13 rfl rfl ?_
    refine v_bipush (pc' := 16) (v := 100) dX6_sweepOne_14 rfl kB_100 ?_
    refine v_icmp_lt (tgt := 33) (pc' := 19) dX6_sweepOne_16 (by decide) rfl ⟨fun c6 => ?_, fun c6 => ?_⟩
    · have T := T.1 c6
      refine v_aload_n (pc' := 34) dX6_sweepOne_33 rfl rfl ?_
      refine v_iload_n (pc' := 35) dX6_sweepOne_34 rfl rfl ?_
      refine v_aload_n (pc' := 36) dX6_sweepOne_35 rfl rfl ?_
      refine v_aload_n (pc' := 37) dX6_sweepOne_36 rfl rfl ?_
      refine v_aload_n (pc' := 38) dX6_sweepOne_37 rfl rfl ?_
      refine v_iconst (pc' := 39) (v := 0) dX6_sweepOne_38 rfl kI_0 ?_
      obtain ⟨z8, h7, k9, T⟩ := T
      refine v_callS (pc' := 42) (M1 := mX8_reachedNodes) (as := [.ref r1, .int 0]) (rest := [.ref r1, .ref r0, .int z2, .ref r1]) dX6_sweepOne_39 rfl ko_X6_102 kc_X8_reachedNodes kt_X8_reachedNodes (by decide) hdd rfl rfl (le_l rfl) k9 ?_
      refine v_iload_n (pc' := 43) dX6_sweepOne_42 rfl rfl ?_
      obtain ⟨q13, T⟩ := T
      obtain ⟨z11, h10, k12, T⟩ := T
      refine v_callV (pc' := 46) (M1 := mX6_linksDue) (as := [.ref r1, .int z8, .int z2]) (r := r0) (rest := [.int z2, .ref r1]) 6 dX6_sweepOne_43 rfl ko_X6_128 kc_X6_linksDue ki_X6_linksDue ks_X6_linksDue (by decide) (by decide) hdd rfl rfl (le_l rfl) q13 k12 ?_
      obtain ⟨q16, T⟩ := T
      obtain ⟨h14, k15, T⟩ := T
      refine v_callV (pc' := 49) (M1 := mX5_setLinks) (as := [.int z2, .int z11]) (r := r1) (rest := []) 5 dX6_sweepOne_46 rfl ko_X6_131 kc_X5_setLinks ki_X5_setLinks ks_X5_setLinks (by decide) (by decide) hdd rfl rfl (le_l rfl) q16 k15 ?_
      refine v_iconst (pc' := 50) (v := 1) dX6_sweepOne_49 rfl kI_1 ?_
      exact v_zret dX6_sweepOne_50 rfl (Or.inr rfl) T
    · have T := T.2 c6
      refine v_aload_n (pc' := 20) dX6_sweepOne_19 rfl rfl ?_
      refine v_iconst (pc' := 21) (v := 0) dX6_sweepOne_20 rfl kI_0 ?_
      refine v_iload_n (pc' := 22) dX6_sweepOne_21 rfl rfl ?_
      refine v_bipush (pc' := 24) (v := 100) dX6_sweepOne_22 rfl kB_100 ?_
      refine v_isub (pc' := 25) dX6_sweepOne_24 rfl ?_
      refine v_iconst (pc' := 26) (v := 0) dX6_sweepOne_25 rfl kI_0 ?_
      obtain ⟨q20, T⟩ := T
      obtain ⟨z18, h17, k19, T⟩ := T
      refine v_callV (pc' := 29) (M1 := mX5_put) (as := [.int 0, .int (z2 - 100), .int 0]) (r := r1) (rest := []) 5 dX6_sweepOne_26 rfl ko_X6_110 kc_X5_put ki_X5_put ks_X5_put (by decide) (by decide) hdd rfl rfl (le_l rfl) q20 k19 ?_
      refine v_pop (pc' := 30) dX6_sweepOne_29 rfl rfl ?_
      refine v_goto (pc' := 49) dX6_sweepOne_30 (by decide) ?_
      refine v_iconst (pc' := 50) (v := 1) dX6_sweepOne_49 rfl kI_1 ?_
      exact v_zret dX6_sweepOne_50 rfl (Or.inr rfl) T
  · have T := T.2 c5
    refine v_iconst (pc' := 12) (v := 0) dX6_sweepOne_11 rfl kI_0 ?_
    exact v_zret dX6_sweepOne_12 rfl (Or.inl rfl) T
theorem eX6_firstFound {G : GG} {d : Nat} {h : Hp} {o : OU} {h' : Hp} (r0 : Nat) (r1 : Nat) (hd : 1 ≤ d) (T : ∃ z2 h1, VM G mX8_reachedNodes (d - 1) [.ref r1, .int 0] h (.inl (some (.int z2))) h1 ∧ V G mX6_firstFound d 8 [.ref r0, .ref r1, .int z2, .int 1, uV] [] h1 o h') : VM G mX6_firstFound d [.ref r0, .ref r1] h o h' := by
  refine V.toM rfl rfl (le_l rfl) (cat_all rfl) ?_
  show V G mX6_firstFound d 0 [.ref r0, .ref r1, uV, uV, uV] [] h o h'
  have hdd : d - 1 + 1 ≤ d := by omega
  refine v_aload_n (pc' := 1) dX6_firstFound_0 rfl rfl ?_
  refine v_iconst (pc' := 2) (v := 0) dX6_firstFound_1 rfl kI_0 ?_
  obtain ⟨z2, h1, k3, T⟩ := T
  refine v_callS (pc' := 5) (M1 := mX8_reachedNodes) (as := [.ref r1, .int 0]) (rest := []) dX6_firstFound_2 rfl ko_X6_102 kc_X8_reachedNodes kt_X8_reachedNodes (by decide) hdd rfl rfl (le_l rfl) k3 ?_
  refine v_istore_n (pc' := 6) (loc' := [.ref r0, .ref r1, .int z2, uV, uV]) dX6_firstFound_5 rfl (lt_l rfl) rfl ?_
  refine v_iconst (pc' := 7) (v := 1) dX6_firstFound_6 rfl kI_1 ?_
  refine v_istore_n (pc' := 8) (loc' := [.ref r0, .ref r1, .int z2, .int 1, uV]) dX6_firstFound_7 rfl (lt_l rfl) rfl ?_
  exact T
theorem bX6_firstFound_8 {G : GG} {d : Nat} {h : Hp} {o : OU} {h' : Hp} (r0 : Nat) (r1 : Nat) (x2 : Int32) (x3 : Int32) (hd : 1 ≤ d) (T : ((12 ≤ x3 → ∃ z3 h2, VM G mX8_linkedNodes (d - 1) [.ref r1, .int 0] h (.inl (some (.int z3))) h2 ∧ ∃ z6 h5, VM G mX8_pointedBlocks (d - 1) [.ref r1, .int 0, .int z3] h2 (.inl (some (.int z6))) h5 ∧ V G mX6_firstFound d 62 [uV, .ref r1, uV, .int z6, .int 4] [] h5 o h') ∧ (¬ 12 ≤ x3 → kH h r1 = 15 ∧ ∃ z9 h8, VM G mX5_nodeField (d - 1) [.ref r1, .int 0, .int x3, .int 0] h (.inl (some (.int z9))) h8 ∧ ((z9 ≤ 0 → V G mX6_firstFound d 8 [.ref r0, .ref r1, .int x2, .int (x3 + 1), uV] [] h8 o h') ∧ (¬ z9 ≤ 0 → kH h8 r0 = 16 ∧ ∃ z14 h13, VM G mX6_linksDue (d - 1) [.ref r0, .ref r1, .int x2, .int x3] h8 (.inl (some (.int z14))) h13 ∧ ((z9 ≤ z14 → V G mX6_firstFound d 8 [.ref r0, .ref r1, .int x2, .int (x3 + 1), uV] [] h13 o h') ∧ (¬ z9 ≤ z14 → (o = .inl (some (.int x3)) ∧ h' = h13)))))))) : V G mX6_firstFound d 8 [.ref r0, .ref r1, .int x2, .int x3, uV] [] h o h' := by
  have hdd : d - 1 + 1 ≤ d := by omega
  refine v_iload_n (pc' := 9) dX6_firstFound_8 rfl rfl ?_
  refine v_bipush (pc' := 11) (v := 12) dX6_firstFound_9 rfl kB_12 ?_
  refine v_icmp_ge (tgt := 48) (pc' := 14) dX6_firstFound_11 (by decide) rfl ⟨fun c1 => ?_, fun c1 => ?_⟩
  · have T := T.1 c1
    refine v_aload_n (pc' := 49) dX6_firstFound_48 rfl rfl ?_
    refine v_iconst (pc' := 50) (v := 0) dX6_firstFound_49 rfl kI_0 ?_
    refine v_aload_n (pc' := 51) dX6_firstFound_50 rfl rfl ?_
    refine v_iconst (pc' := 52) (v := 0) dX6_firstFound_51 rfl kI_0 ?_
    obtain ⟨z3, h2, k4, T⟩ := T
    refine v_callS (pc' := 55) (M1 := mX8_linkedNodes) (as := [.ref r1, .int 0]) (rest := [.int 0, .ref r1]) dX6_firstFound_52 rfl ko_X6_134 kc_X8_linkedNodes kt_X8_linkedNodes (by decide) hdd rfl rfl (le_l rfl) k4 ?_
    obtain ⟨z6, h5, k7, T⟩ := T
    refine v_callS (pc' := 58) (M1 := mX8_pointedBlocks) (as := [.ref r1, .int 0, .int z3]) (rest := []) dX6_firstFound_55 rfl ko_X6_137 kc_X8_pointedBlocks kt_X8_pointedBlocks (by decide) hdd rfl rfl (le_l rfl) k7 ?_
    refine v_istore_n (pc' := 59) (loc' := [.ref r0, .ref r1, .int x2, .int z6, uV]) dX6_firstFound_58 rfl (lt_l rfl) rfl ?_
    refine v_iconst (pc' := 60) (v := 4) dX6_firstFound_59 rfl kI_4 ?_
    refine v_istore (pc' := 62) (loc' := [.ref r0, .ref r1, .int x2, .int z6, .int 4]) dX6_firstFound_60 rfl (lt_l rfl) rfl ?_
    exact V.drop (llp_u (llp_r (llp_u (llp_r (llp_r llp_nil))))) T
  · have T := T.2 c1
    refine v_aload_n (pc' := 15) dX6_firstFound_14 rfl rfl ?_
    refine v_iconst (pc' := 16) (v := 0) dX6_firstFound_15 rfl kI_0 ?_
    refine v_iload_n (pc' := 17) dX6_firstFound_16 rfl rfl ?_
    refine v_iconst (pc' := 18) (v := 0) dX6_firstFound_17 rfl kI_0 ?_
    obtain ⟨q11, T⟩ := T
    obtain ⟨z9, h8, k10, T⟩ := T
    refine v_callV (pc' := 21) (M1 := mX5_nodeField) (as := [.int 0, .int x3, .int 0]) (r := r1) (rest := []) 5 dX6_firstFound_18 rfl ko_X6_91 kc_X5_nodeField ki_X5_nodeField ks_X5_nodeField (by decide) (by decide) hdd rfl rfl (le_l rfl) q11 k10 ?_
    refine v_istore (pc' := 23) (loc' := [.ref r0, .ref r1, .int x2, .int x3, .int z9]) dX6_firstFound_21 rfl (lt_l rfl) rfl ?_
    refine v_iload (pc' := 25) dX6_firstFound_23 rfl rfl ?_
    refine v_if_le (tgt := 42) (pc' := 28) dX6_firstFound_25 (by decide) rfl ⟨fun c12 => ?_, fun c12 => ?_⟩
    · have T := T.1 c12
      refine v_iinc (pc' := 45) (loc' := [.ref r0, .ref r1, .int x2, .int (x3 + 1), .int z9]) dX6_firstFound_42 rfl rfl (kX_1 _) rfl ?_
      refine v_goto (pc' := 8) dX6_firstFound_45 (by decide) ?_
      exact V.drop (llp_r (llp_r (llp_r (llp_r (llp_u llp_nil))))) T
    · have T := T.2 c12
      refine v_iload (pc' := 30) dX6_firstFound_28 rfl rfl ?_
      refine v_aload_n (pc' := 31) dX6_firstFound_30 rfl rfl ?_
      refine v_aload_n (pc' := 32) dX6_firstFound_31 rfl rfl ?_
      refine v_iload_n (pc' := 33) dX6_firstFound_32 rfl rfl ?_
      refine v_iload_n (pc' := 34) dX6_firstFound_33 rfl rfl ?_
      obtain ⟨q16, T⟩ := T
      obtain ⟨z14, h13, k15, T⟩ := T
      refine v_callV (pc' := 37) (M1 := mX6_linksDue) (as := [.ref r1, .int x2, .int x3]) (r := r0) (rest := [.int z9]) 6 dX6_firstFound_34 rfl ko_X6_128 kc_X6_linksDue ki_X6_linksDue ks_X6_linksDue (by decide) (by decide) hdd rfl rfl (le_l rfl) q16 k15 ?_
      refine v_icmp_le (tgt := 42) (pc' := 40) dX6_firstFound_37 (by decide) rfl ⟨fun c17 => ?_, fun c17 => ?_⟩
      · have T := T.1 c17
        refine v_iinc (pc' := 45) (loc' := [.ref r0, .ref r1, .int x2, .int (x3 + 1), .int z9]) dX6_firstFound_42 rfl rfl (kX_1 _) rfl ?_
        refine v_goto (pc' := 8) dX6_firstFound_45 (by decide) ?_
        exact V.drop (llp_r (llp_r (llp_r (llp_r (llp_u llp_nil))))) T
      · have T := T.2 c17
        refine v_iload_n (pc' := 41) dX6_firstFound_40 rfl rfl ?_
        exact v_iret dX6_firstFound_41 rfl T
theorem bX6_firstFound_62 {G : GG} {d : Nat} {h : Hp} {o : OU} {h' : Hp} (r1 : Nat) (x3 : Int32) (x4 : Int32) (hd : 1 ≤ d) (T : kH h r1 = 15 ∧ (((h.2 r1 0) ≤ x4 → (o = .inl (some (.int (-1))) ∧ h' = h)) ∧ (¬ (h.2 r1 0) ≤ x4 → ∃ z4 h3, VM G mX5_at (d - 1) [.ref r1, .int 0, .int 0, .int x4] h (.inl (some (.int z4))) h3 ∧ ((z4 = 0 → V G mX6_firstFound d 62 [uV, .ref r1, uV, .int x3, .int (x4 + 1)] [] h3 o h') ∧ (¬ z4 = 0 → ((¬ ((x3 >>> (x4 &&& 31)) &&& 1) = 0 → V G mX6_firstFound d 62 [uV, .ref r1, uV, .int x3, .int (x4 + 1)] [] h3 o h') ∧ (((x3 >>> (x4 &&& 31)) &&& 1) = 0 → kH h3 r1 = 15 ∧ ∃ z9 h8, VM G mX5_countPutOff (d - 1) [.ref r1, .int (100 + x4)] h3 (.inl (some (.int z9))) h8 ∧ ((¬ z9 = 0 → V G mX6_firstFound d 62 [uV, .ref r1, uV, .int x3, .int (x4 + 1)] [] h8 o h') ∧ (z9 = 0 → (o = .inl (some (.int (100 + x4))) ∧ h' = h8)))))))))) : V G mX6_firstFound d 62 [uV, .ref r1, uV, .int x3, .int x4] [] h o h' := by
  have hdd : d - 1 + 1 ≤ d := by omega
  refine v_iload (pc' := 64) dX6_firstFound_62 rfl rfl ?_
  refine v_aload_n (pc' := 65) dX6_firstFound_64 rfl rfl ?_
  obtain ⟨q1, T⟩ := T
  refine v_getI (pc' := 68) 5 0 dX6_firstFound_65 rfl (by decide) (by decide) rfl kf_X6_140 q1 ?_
  refine v_icmp_ge (tgt := 115) (pc' := 71) dX6_firstFound_68 (by decide) rfl ⟨fun c2 => ?_, fun c2 => ?_⟩
  · have T := T.1 c2
    refine v_iconst (pc' := 116) (v := (-1)) dX6_firstFound_115 rfl kI_m1 ?_
    exact v_iret dX6_firstFound_116 rfl T
  · have T := T.2 c2
    refine v_aload_n (pc' := 72) dX6_firstFound_71 rfl rfl ?_
    refine v_iconst (pc' := 73) (v := 0) dX6_firstFound_72 rfl kI_0 ?_
    refine v_iconst (pc' := 74) (v := 0) dX6_firstFound_73 rfl kI_0 ?_
    refine v_iload (pc' := 76) dX6_firstFound_74 rfl rfl ?_
    obtain ⟨z4, h3, k5, T⟩ := T
    refine v_callV (pc' := 79) (M1 := mX5_at) (as := [.int 0, .int 0, .int x4]) (r := r1) (rest := []) 5 dX6_firstFound_76 rfl ko_X6_143 kc_X5_at ki_X5_at ks_X5_at (by decide) (by decide) hdd rfl rfl (le_l rfl) q1 k5 ?_
    refine v_if_eq (tgt := 109) (pc' := 82) dX6_firstFound_79 (by decide) rfl ⟨fun c6 => ?_, fun c6 => ?_⟩
    · have T := T.1 c6
      refine v_iinc (pc' := 112) (loc' := [uV, .ref r1, uV, .int x3, .int (x4 + 1)]) dX6_firstFound_109 rfl rfl (kX_1 _) rfl ?_
      refine v_goto (pc' := 62) dX6_firstFound_112 (by decide) ?_
      exact T
    · have T := T.2 c6
      refine v_iload_n (pc' := 83) dX6_firstFound_82 rfl rfl ?_
      refine v_iload (pc' := 85) dX6_firstFound_83 rfl rfl ?_
      refine v_ishr (pc' := 86) dX6_firstFound_85 rfl ?_
      refine v_iconst (pc' := 87) (v := 1) dX6_firstFound_86 rfl kI_1 ?_
      refine v_iand (pc' := 88) dX6_firstFound_87 rfl ?_
      refine v_if_ne (tgt := 109) (pc' := 91) dX6_firstFound_88 (by decide) rfl ⟨fun c7 => ?_, fun c7 => ?_⟩
      · have T := T.1 c7
        refine v_iinc (pc' := 112) (loc' := [uV, .ref r1, uV, .int x3, .int (x4 + 1)]) dX6_firstFound_109 rfl rfl (kX_1 _) rfl ?_
        refine v_goto (pc' := 62) dX6_firstFound_112 (by decide) ?_
        exact T
      · have T := T.2 c7
        refine v_aload_n (pc' := 92) dX6_firstFound_91 rfl rfl ?_
        refine v_bipush (pc' := 94) (v := 100) dX6_firstFound_92 rfl kB_100 ?_
        refine v_iload (pc' := 96) dX6_firstFound_94 rfl rfl ?_
        refine v_iadd (pc' := 97) dX6_firstFound_96 rfl ?_
        obtain ⟨q11, T⟩ := T
        obtain ⟨z9, h8, k10, T⟩ := T
        refine v_callV (pc' := 100) (M1 := mX5_countPutOff) (as := [.int (100 + x4)]) (r := r1) (rest := []) 5 dX6_firstFound_97 rfl ko_X6_146 kc_X5_countPutOff ki_X5_countPutOff ks_X5_countPutOff (by decide) (by decide) hdd rfl rfl (le_l rfl) q11 k10 ?_
        refine v_if_ne (tgt := 109) (pc' := 103) dX6_firstFound_100 (by decide) rfl ⟨fun c12 => ?_, fun c12 => ?_⟩
        · have T := T.1 c12
          refine v_iinc (pc' := 112) (loc' := [uV, .ref r1, uV, .int x3, .int (x4 + 1)]) dX6_firstFound_109 rfl rfl (kX_1 _) rfl ?_
          refine v_goto (pc' := 62) dX6_firstFound_112 (by decide) ?_
          exact T
        · have T := T.2 c12
          refine v_bipush (pc' := 105) (v := 100) dX6_firstFound_103 rfl kB_100 ?_
          refine v_iload (pc' := 107) dX6_firstFound_105 rfl rfl ?_
          refine v_iadd (pc' := 108) dX6_firstFound_107 rfl ?_
          exact v_iret dX6_firstFound_108 rfl T
theorem eX6_linksDue {G : GG} {d : Nat} {h : Hp} {o : OU} {h' : Hp} (r0 : Nat) (r1 : Nat) (x2 : Int32) (x3 : Int32) (hd : 1 ≤ d) (T : kH h r1 = 15 ∧ ∃ z2 h1, VM G mX5_countPutOff (d - 1) [.ref r1, .int x3] h (.inl (some (.int z2))) h1 ∧ V G mX6_linksDue d 10 [uV, .ref r1, .int x2, .int x3, .int z2, .int 0] [] h1 o h') : VM G mX6_linksDue d [.ref r0, .ref r1, .int x2, .int x3] h o h' := by
  refine V.toM rfl rfl (le_l rfl) (cat_all rfl) ?_
  show V G mX6_linksDue d 0 [.ref r0, .ref r1, .int x2, .int x3, uV, uV] [] h o h'
  have hdd : d - 1 + 1 ≤ d := by omega
  refine v_aload_n (pc' := 1) dX6_linksDue_0 rfl rfl ?_
  refine v_iload_n (pc' := 2) dX6_linksDue_1 rfl rfl ?_
  obtain ⟨q4, T⟩ := T
  obtain ⟨z2, h1, k3, T⟩ := T
  refine v_callV (pc' := 5) (M1 := mX5_countPutOff) (as := [.int x3]) (r := r1) (rest := []) 5 dX6_linksDue_2 rfl ko_X6_146 kc_X5_countPutOff ki_X5_countPutOff ks_X5_countPutOff (by decide) (by decide) hdd rfl rfl (le_l rfl) q4 k3 ?_
  refine v_istore (pc' := 7) (loc' := [.ref r0, .ref r1, .int x2, .int x3, .int z2, uV]) dX6_linksDue_5 rfl (lt_l rfl) rfl ?_
  refine v_iconst (pc' := 8) (v := 0) dX6_linksDue_7 rfl kI_0 ?_
  refine v_istore (pc' := 10) (loc' := [.ref r0, .ref r1, .int x2, .int x3, .int z2, .int 0]) dX6_linksDue_8 rfl (lt_l rfl) rfl ?_
  exact V.drop (llp_u (llp_r (llp_r (llp_r (llp_r (llp_r llp_nil)))))) T
theorem bX6_linksDue_10 {G : GG} {d : Nat} {h : Hp} {o : OU} {h' : Hp} (r1 : Nat) (x2 : Int32) (x3 : Int32) (x4 : Int32) (x5 : Int32) (hd : 1 ≤ d) (T : ((12 ≤ x5 → (o = .inl (some (.int x4)) ∧ h' = h)) ∧ (¬ 12 ≤ x5 → ((((x2 >>> (x5 &&& 31)) &&& 1) = 0 → V G mX6_linksDue d 10 [uV, .ref r1, .int x2, .int x3, .int x4, .int (x5 + 1)] [] h o h') ∧ (¬ ((x2 >>> (x5 &&& 31)) &&& 1) = 0 → ∃ z4 h3, VM G mX8_timesNamed (d - 1) [.ref r1, .int 0, .int x5, .int x3] h (.inl (some (.int z4))) h3 ∧ V G mX6_linksDue d 10 [uV, .ref r1, .int x2, .int x3, .int (x4 + z4), .int (x5 + 1)] [] h3 o h'))))) : V G mX6_linksDue d 10 [uV, .ref r1, .int x2, .int x3, .int x4, .int x5] [] h o h' := by
  have hdd : d - 1 + 1 ≤ d := by omega
  refine v_iload (pc' := 12) dX6_linksDue_10 rfl rfl ?_
  refine v_bipush (pc' := 14) (v := 12) dX6_linksDue_12 rfl kB_12 ?_
  refine v_icmp_ge (tgt := 45) (pc' := 17) dX6_linksDue_14 (by decide) rfl ⟨fun c1 => ?_, fun c1 => ?_⟩
  · have T := T.1 c1
    refine v_iload (pc' := 47) dX6_linksDue_45 rfl rfl ?_
    exact v_iret dX6_linksDue_47 rfl T
  · have T := T.2 c1
    refine v_iload_n (pc' := 18) dX6_linksDue_17 rfl rfl ?_
    refine v_iload (pc' := 20) dX6_linksDue_18 rfl rfl ?_
    refine v_ishr (pc' := 21) dX6_linksDue_20 rfl ?_
    refine v_iconst (pc' := 22) (v := 1) dX6_linksDue_21 rfl kI_1 ?_
    refine v_iand (pc' := 23) dX6_linksDue_22 rfl ?_
    refine v_if_eq (tgt := 39) (pc' := 26) dX6_linksDue_23 (by decide) rfl ⟨fun c2 => ?_, fun c2 => ?_⟩
    · have T := T.1 c2
      refine v_iinc (pc' := 42) (loc' := [uV, .ref r1, .int x2, .int x3, .int x4, .int (x5 + 1)]) dX6_linksDue_39 rfl rfl (kX_1 _) rfl ?_
      refine v_goto (pc' := 10) dX6_linksDue_42 (by decide) ?_
      exact T
    · have T := T.2 c2
      refine v_iload (pc' := 28) dX6_linksDue_26 rfl rfl ?_
      refine v_aload_n (pc' := 29) dX6_linksDue_28 rfl rfl ?_
      refine v_iconst (pc' := 30) (v := 0) dX6_linksDue_29 rfl kI_0 ?_
      refine v_iload (pc' := 32) dX6_linksDue_30 rfl rfl ?_
      refine v_iload_n (pc' := 33) dX6_linksDue_32 rfl rfl ?_
      obtain ⟨z4, h3, k5, T⟩ := T
      refine v_callS (pc' := 36) (M1 := mX8_timesNamed) (as := [.ref r1, .int 0, .int x5, .int x3]) (rest := [.int x4]) dX6_linksDue_33 rfl ko_X6_150 kc_X8_timesNamed kt_X8_timesNamed (by decide) hdd rfl rfl (le_l rfl) k5 ?_
      refine v_iadd (pc' := 37) dX6_linksDue_36 rfl ?_
      refine v_istore (pc' := 39) (loc' := [uV, .ref r1, .int x2, .int x3, .int (x4 + z4), .int x5]) dX6_linksDue_37 rfl (lt_l rfl) rfl ?_
      refine v_iinc (pc' := 42) (loc' := [uV, .ref r1, .int x2, .int x3, .int (x4 + z4), .int (x5 + 1)]) dX6_linksDue_39 rfl rfl (kX_1 _) rfl ?_
      refine v_goto (pc' := 10) dX6_linksDue_42 (by decide) ?_
      exact T
theorem eX6_isFile {G : GG} {d : Nat} {h : Hp} {o : OU} {h' : Hp} (r0 : Nat) (r1 : Nat) (x2 : Int32) (hd : 1 ≤ d) (T : kH h r1 = 15 ∧ ∃ z2 h1, VM G mX5_nodeField (d - 1) [.ref r1, .int 0, .int x2, .int 0] h (.inl (some (.int z2))) h1 ∧ ((z2 = 0 → (o = .inl (some (.int 0)) ∧ h' = h1)) ∧ (¬ z2 = 0 → kH h1 r1 = 15 ∧ ∃ z7 h6, VM G mX5_nodeField (d - 1) [.ref r1, .int 0, .int x2, .int 1] h1 (.inl (some (.int z7))) h6 ∧ ((¬ z7 = 1 → (o = .inl (some (.int 0)) ∧ h' = h6)) ∧ (z7 = 1 → (o = .inl (some (.int 1)) ∧ h' = h6)))))) : VM G mX6_isFile d [.ref r0, .ref r1, .int x2] h o h' := by
  refine V.toM rfl rfl (le_l rfl) (cat_all rfl) ?_
  show V G mX6_isFile d 0 [.ref r0, .ref r1, .int x2] [] h o h'
  have hdd : d - 1 + 1 ≤ d := by omega
  refine v_aload_n (pc' := 1) dX6_isFile_0 rfl rfl ?_
  refine v_iconst (pc' := 2) (v := 0) dX6_isFile_1 rfl kI_0 ?_
  refine v_iload_n (pc' := 3) dX6_isFile_2 rfl rfl ?_
  refine v_iconst (pc' := 4) (v := 0) dX6_isFile_3 rfl kI_0 ?_
  obtain ⟨q4, T⟩ := T
  obtain ⟨z2, h1, k3, T⟩ := T
  refine v_callV (pc' := 7) (M1 := mX5_nodeField) (as := [.int 0, .int x2, .int 0]) (r := r1) (rest := []) 5 dX6_isFile_4 rfl ko_X6_91 kc_X5_nodeField ki_X5_nodeField ks_X5_nodeField (by decide) (by decide) hdd rfl rfl (le_l rfl) q4 k3 ?_
  refine v_if_eq (tgt := 25) (pc' := 10) dX6_isFile_7 (by decide) rfl ⟨fun c5 => ?_, fun c5 => ?_⟩
  · have T := T.1 c5
    refine v_iconst (pc' := 26) (v := 0) dX6_isFile_25 rfl kI_0 ?_
    exact v_zret dX6_isFile_26 rfl (Or.inl rfl) T
  · have T := T.2 c5
    refine v_aload_n (pc' := 11) dX6_isFile_10 rfl rfl ?_
    refine v_iconst (pc' := 12) (v := 0) dX6_isFile_11 rfl kI_0 ?_
    refine v_iload_n (pc' := 13) dX6_isFile_12 rfl rfl ?_
    refine v_iconst (pc' := 14) (v := 1) dX6_isFile_13 rfl kI_1 ?_
    obtain ⟨q9, T⟩ := T
    obtain ⟨z7, h6, k8, T⟩ := T
    refine v_callV (pc' := 17) (M1 := mX5_nodeField) (as := [.int 0, .int x2, .int 1]) (r := r1) (rest := []) 5 dX6_isFile_14 rfl ko_X6_91 kc_X5_nodeField ki_X5_nodeField ks_X5_nodeField (by decide) (by decide) hdd rfl rfl (le_l rfl) q9 k8 ?_
    refine v_iconst (pc' := 18) (v := 1) dX6_isFile_17 rfl kI_1 ?_
    refine v_icmp_ne (tgt := 25) (pc' := 21) dX6_isFile_18 (by decide) rfl ⟨fun c10 => ?_, fun c10 => ?_⟩
    · have T := T.1 c10
      refine v_iconst (pc' := 26) (v := 0) dX6_isFile_25 rfl kI_0 ?_
      exact v_zret dX6_isFile_26 rfl (Or.inl rfl) T
    · have T := T.2 c10
      refine v_iconst (pc' := 22) (v := 1) dX6_isFile_21 rfl kI_1 ?_
      refine v_goto (pc' := 26) dX6_isFile_22 (by decide) ?_
      exact v_zret dX6_isFile_26 rfl (Or.inr rfl) T
theorem eX6_freeNode {G : GG} {d : Nat} {h : Hp} {o : OU} {h' : Hp} (r0 : Nat) (r1 : Nat) (T : V G mX6_freeNode d 2 [uV, .ref r1, .int 0] [] h o h') : VM G mX6_freeNode d [.ref r0, .ref r1] h o h' := by
  refine V.toM rfl rfl (le_l rfl) (cat_all rfl) ?_
  show V G mX6_freeNode d 0 [.ref r0, .ref r1, uV] [] h o h'
  refine v_iconst (pc' := 1) (v := 0) dX6_freeNode_0 rfl kI_0 ?_
  refine v_istore_n (pc' := 2) (loc' := [.ref r0, .ref r1, .int 0]) dX6_freeNode_1 rfl (lt_l rfl) rfl ?_
  exact V.drop (llp_u (llp_r (llp_r llp_nil))) T
theorem bX6_freeNode_2 {G : GG} {d : Nat} {h : Hp} {o : OU} {h' : Hp} (r1 : Nat) (x2 : Int32) (hd : 1 ≤ d) (T : ((12 ≤ x2 → (o = .inl (some (.int (-1))) ∧ h' = h)) ∧ (¬ 12 ≤ x2 → kH h r1 = 15 ∧ ∃ z3 h2, VM G mX5_nodeField (d - 1) [.ref r1, .int 0, .int x2, .int 0] h (.inl (some (.int z3))) h2 ∧ ((¬ z3 = 0 → V G mX6_freeNode d 2 [uV, .ref r1, .int (x2 + 1)] [] h2 o h') ∧ (z3 = 0 → kH h2 r1 = 15 ∧ ∃ z8 h7, VM G mX5_nodeField (d - 1) [.ref r1, .int 0, .int x2, .int 1] h2 (.inl (some (.int z8))) h7 ∧ ((¬ z8 = 0 → V G mX6_freeNode d 2 [uV, .ref r1, .int (x2 + 1)] [] h7 o h') ∧ (z8 = 0 → (o = .inl (some (.int x2)) ∧ h' = h7)))))))) : V G mX6_freeNode d 2 [uV, .ref r1, .int x2] [] h o h' := by
  have hdd : d - 1 + 1 ≤ d := by omega
  refine v_iload_n (pc' := 3) dX6_freeNode_2 rfl rfl ?_
  refine v_bipush (pc' := 5) (v := 12) dX6_freeNode_3 rfl kB_12 ?_
  refine v_icmp_ge (tgt := 36) (pc' := 8) dX6_freeNode_5 (by decide) rfl ⟨fun c1 => ?_, fun c1 => ?_⟩
  · have T := T.1 c1
    refine v_iconst (pc' := 37) (v := (-1)) dX6_freeNode_36 rfl kI_m1 ?_
    exact v_iret dX6_freeNode_37 rfl T
  · have T := T.2 c1
    refine v_aload_n (pc' := 9) dX6_freeNode_8 rfl rfl ?_
    refine v_iconst (pc' := 10) (v := 0) dX6_freeNode_9 rfl kI_0 ?_
    refine v_iload_n (pc' := 11) dX6_freeNode_10 rfl rfl ?_
    refine v_iconst (pc' := 12) (v := 0) dX6_freeNode_11 rfl kI_0 ?_
    obtain ⟨q5, T⟩ := T
    obtain ⟨z3, h2, k4, T⟩ := T
    refine v_callV (pc' := 15) (M1 := mX5_nodeField) (as := [.int 0, .int x2, .int 0]) (r := r1) (rest := []) 5 dX6_freeNode_12 rfl ko_X6_91 kc_X5_nodeField ki_X5_nodeField ks_X5_nodeField (by decide) (by decide) hdd rfl rfl (le_l rfl) q5 k4 ?_
    refine v_if_ne (tgt := 30) (pc' := 18) dX6_freeNode_15 (by decide) rfl ⟨fun c6 => ?_, fun c6 => ?_⟩
    · have T := T.1 c6
      refine v_iinc (pc' := 33) (loc' := [uV, .ref r1, .int (x2 + 1)]) dX6_freeNode_30 rfl rfl (kX_1 _) rfl ?_
      refine v_goto (pc' := 2) dX6_freeNode_33 (by decide) ?_
      exact T
    · have T := T.2 c6
      refine v_aload_n (pc' := 19) dX6_freeNode_18 rfl rfl ?_
      refine v_iconst (pc' := 20) (v := 0) dX6_freeNode_19 rfl kI_0 ?_
      refine v_iload_n (pc' := 21) dX6_freeNode_20 rfl rfl ?_
      refine v_iconst (pc' := 22) (v := 1) dX6_freeNode_21 rfl kI_1 ?_
      obtain ⟨q10, T⟩ := T
      obtain ⟨z8, h7, k9, T⟩ := T
      refine v_callV (pc' := 25) (M1 := mX5_nodeField) (as := [.int 0, .int x2, .int 1]) (r := r1) (rest := []) 5 dX6_freeNode_22 rfl ko_X6_91 kc_X5_nodeField ki_X5_nodeField ks_X5_nodeField (by decide) (by decide) hdd rfl rfl (le_l rfl) q10 k9 ?_
      refine v_if_ne (tgt := 30) (pc' := 28) dX6_freeNode_25 (by decide) rfl ⟨fun c11 => ?_, fun c11 => ?_⟩
      · have T := T.1 c11
        refine v_iinc (pc' := 33) (loc' := [uV, .ref r1, .int (x2 + 1)]) dX6_freeNode_30 rfl rfl (kX_1 _) rfl ?_
        refine v_goto (pc' := 2) dX6_freeNode_33 (by decide) ?_
        exact T
      · have T := T.2 c11
        refine v_iload_n (pc' := 29) dX6_freeNode_28 rfl rfl ?_
        exact v_iret dX6_freeNode_29 rfl T
theorem eX6_freeBlock {G : GG} {d : Nat} {h : Hp} {o : OU} {h' : Hp} (r0 : Nat) (r1 : Nat) (T : V G mX6_freeBlock d 2 [uV, .ref r1, .int 4] [] h o h') : VM G mX6_freeBlock d [.ref r0, .ref r1] h o h' := by
  refine V.toM rfl rfl (le_l rfl) (cat_all rfl) ?_
  show V G mX6_freeBlock d 0 [.ref r0, .ref r1, uV] [] h o h'
  refine v_iconst (pc' := 1) (v := 4) dX6_freeBlock_0 rfl kI_4 ?_
  refine v_istore_n (pc' := 2) (loc' := [.ref r0, .ref r1, .int 4]) dX6_freeBlock_1 rfl (lt_l rfl) rfl ?_
  exact V.drop (llp_u (llp_r (llp_r llp_nil))) T
theorem bX6_freeBlock_2 {G : GG} {d : Nat} {h : Hp} {o : OU} {h' : Hp} (r1 : Nat) (x2 : Int32) (hd : 1 ≤ d) (T : kH h r1 = 15 ∧ (((h.2 r1 0) ≤ x2 → (o = .inl (some (.int (-1))) ∧ h' = h)) ∧ (¬ (h.2 r1 0) ≤ x2 → ∃ z4 h3, VM G mX5_at (d - 1) [.ref r1, .int 0, .int 0, .int x2] h (.inl (some (.int z4))) h3 ∧ ((¬ z4 = 0 → V G mX6_freeBlock d 2 [uV, .ref r1, .int (x2 + 1)] [] h3 o h') ∧ (z4 = 0 → (o = .inl (some (.int x2)) ∧ h' = h3)))))) : V G mX6_freeBlock d 2 [uV, .ref r1, .int x2] [] h o h' := by
  have hdd : d - 1 + 1 ≤ d := by omega
  refine v_iload_n (pc' := 3) dX6_freeBlock_2 rfl rfl ?_
  refine v_aload_n (pc' := 4) dX6_freeBlock_3 rfl rfl ?_
  obtain ⟨q1, T⟩ := T
  refine v_getI (pc' := 7) 5 0 dX6_freeBlock_4 rfl (by decide) (by decide) rfl kf_X6_140 q1 ?_
  refine v_icmp_ge (tgt := 28) (pc' := 10) dX6_freeBlock_7 (by decide) rfl ⟨fun c2 => ?_, fun c2 => ?_⟩
  · have T := T.1 c2
    refine v_iconst (pc' := 29) (v := (-1)) dX6_freeBlock_28 rfl kI_m1 ?_
    exact v_iret dX6_freeBlock_29 rfl T
  · have T := T.2 c2
    refine v_aload_n (pc' := 11) dX6_freeBlock_10 rfl rfl ?_
    refine v_iconst (pc' := 12) (v := 0) dX6_freeBlock_11 rfl kI_0 ?_
    refine v_iconst (pc' := 13) (v := 0) dX6_freeBlock_12 rfl kI_0 ?_
    refine v_iload_n (pc' := 14) dX6_freeBlock_13 rfl rfl ?_
    obtain ⟨z4, h3, k5, T⟩ := T
    refine v_callV (pc' := 17) (M1 := mX5_at) (as := [.int 0, .int 0, .int x2]) (r := r1) (rest := []) 5 dX6_freeBlock_14 rfl ko_X6_143 kc_X5_at ki_X5_at ks_X5_at (by decide) (by decide) hdd rfl rfl (le_l rfl) q1 k5 ?_
    refine v_if_ne (tgt := 22) (pc' := 20) dX6_freeBlock_17 (by decide) rfl ⟨fun c6 => ?_, fun c6 => ?_⟩
    · have T := T.1 c6
      refine v_iinc (pc' := 25) (loc' := [uV, .ref r1, .int (x2 + 1)]) dX6_freeBlock_22 rfl rfl (kX_1 _) rfl ?_
      refine v_goto (pc' := 2) dX6_freeBlock_25 (by decide) ?_
      exact T
    · have T := T.2 c6
      refine v_iload_n (pc' := 21) dX6_freeBlock_20 rfl rfl ?_
      exact v_iret dX6_freeBlock_21 rfl T
