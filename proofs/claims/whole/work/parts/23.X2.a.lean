theorem dX2_init_0 : decode cX2_init 0 = .ok (.aload_n 0, 1) := by decide +kernel
theorem dX2_init_1 : decode cX2_init 1 = .ok (.invokespecial 3, 3) := by decide +kernel
theorem dX2_init_4 : decode cX2_init 4 = .ok (.aload_n 0, 1) := by decide +kernel
theorem dX2_init_5 : decode cX2_init 5 = .ok (.sipush 256, 3) := by decide +kernel
theorem dX2_init_8 : decode cX2_init 8 = .ok (.newarray .boolean, 2) := by decide +kernel
theorem dX2_init_10 : decode cX2_init 10 = .ok (.putfield 9, 3) := by decide +kernel
theorem dX2_init_13 : decode cX2_init 13 = .ok (.aload_n 0, 1) := by decide +kernel
theorem dX2_init_14 : decode cX2_init 14 = .ok (.sipush 256, 3) := by decide +kernel
theorem dX2_init_17 : decode cX2_init 17 = .ok (.newarray .int, 2) := by decide +kernel
theorem dX2_init_19 : decode cX2_init 19 = .ok (.putfield 15, 3) := by decide +kernel
theorem dX2_init_22 : decode cX2_init 22 = .ok (.aload_n 0, 1) := by decide +kernel
theorem dX2_init_23 : decode cX2_init 23 = .ok (.bipush 16, 2) := by decide +kernel
theorem dX2_init_25 : decode cX2_init 25 = .ok (.newarray .byte, 2) := by decide +kernel
theorem dX2_init_27 : decode cX2_init 27 = .ok (.putfield 19, 3) := by decide +kernel
theorem dX2_init_30 : decode cX2_init 30 = .ok (.aload_n 0, 1) := by decide +kernel
theorem dX2_init_31 : decode cX2_init 31 = .ok (.bipush 64, 2) := by decide +kernel
theorem dX2_init_33 : decode cX2_init 33 = .ok (.newarray .int, 2) := by decide +kernel
theorem dX2_init_35 : decode cX2_init 35 = .ok (.putfield 23, 3) := by decide +kernel
theorem dX2_init_38 : decode cX2_init 38 = .ok (.return_, 1) := by decide +kernel
theorem dX2_weigh_0 : decode cX2_weigh 0 = .ok (.iconst 0, 1) := by decide +kernel
theorem dX2_weigh_1 : decode cX2_weigh 1 = .ok (.istore_n 3, 1) := by decide +kernel
theorem dX2_weigh_2 : decode cX2_weigh 2 = .ok (.aload_n 0, 1) := by decide +kernel
theorem dX2_weigh_3 : decode cX2_weigh 3 = .ok (.iconst 0, 1) := by decide +kernel
theorem dX2_weigh_4 : decode cX2_weigh 4 = .ok (.putfield 26, 3) := by decide +kernel
theorem dX2_weigh_7 : decode cX2_weigh 7 = .ok (.aload_n 0, 1) := by decide +kernel
theorem dX2_weigh_8 : decode cX2_weigh 8 = .ok (.iconst 0, 1) := by decide +kernel
theorem dX2_weigh_9 : decode cX2_weigh 9 = .ok (.putfield 30, 3) := by decide +kernel
theorem dX2_weigh_12 : decode cX2_weigh 12 = .ok (.iconst 0, 1) := by decide +kernel
theorem dX2_weigh_13 : decode cX2_weigh 13 = .ok (.istore 4, 2) := by decide +kernel
theorem dX2_weigh_15 : decode cX2_weigh 15 = .ok (.iload 4, 2) := by decide +kernel
theorem dX2_weigh_17 : decode cX2_weigh 17 = .ok (.aload_n 1, 1) := by decide +kernel
theorem dX2_weigh_18 : decode cX2_weigh 18 = .ok (.getfield 33, 3) := by decide +kernel
theorem dX2_weigh_21 : decode cX2_weigh 21 = .ok (.if_icmp .ge 109, 3) := by decide +kernel
theorem dX2_weigh_24 : decode cX2_weigh 24 = .ok (.aload_n 0, 1) := by decide +kernel
theorem dX2_weigh_25 : decode cX2_weigh 25 = .ok (.getfield 9, 3) := by decide +kernel
theorem dX2_weigh_28 : decode cX2_weigh 28 = .ok (.iload 4, 2) := by decide +kernel
theorem dX2_weigh_30 : decode cX2_weigh 30 = .ok (.iconst 0, 1) := by decide +kernel
theorem dX2_weigh_31 : decode cX2_weigh 31 = .ok (.bastore, 1) := by decide +kernel
theorem dX2_weigh_32 : decode cX2_weigh 32 = .ok (.aload_n 1, 1) := by decide +kernel
theorem dX2_weigh_33 : decode cX2_weigh 33 = .ok (.getfield 38, 3) := by decide +kernel
theorem dX2_weigh_36 : decode cX2_weigh 36 = .ok (.iload 4, 2) := by decide +kernel
theorem dX2_weigh_38 : decode cX2_weigh 38 = .ok (.iaload, 1) := by decide +kernel
theorem dX2_weigh_39 : decode cX2_weigh 39 = .ok (.iload_n 2, 1) := by decide +kernel
theorem dX2_weigh_40 : decode cX2_weigh 40 = .ok (.if_icmp .ne 84, 3) := by decide +kernel
theorem dX2_weigh_43 : decode cX2_weigh 43 = .ok (.aload_n 1, 1) := by decide +kernel
theorem dX2_weigh_44 : decode cX2_weigh 44 = .ok (.getfield 41, 3) := by decide +kernel
theorem dX2_weigh_47 : decode cX2_weigh 47 = .ok (.iload 4, 2) := by decide +kernel
theorem dX2_weigh_49 : decode cX2_weigh 49 = .ok (.iaload, 1) := by decide +kernel
theorem dX2_weigh_50 : decode cX2_weigh 50 = .ok (.bipush 16, 2) := by decide +kernel
theorem dX2_weigh_52 : decode cX2_weigh 52 = .ok (.if_icmp .ne 8, 3) := by decide +kernel
theorem dX2_weigh_55 : decode cX2_weigh 55 = .ok (.ldc 44, 2) := by decide +kernel
theorem dX2_weigh_57 : decode cX2_weigh 57 = .ok (.goto 12, 3) := by decide +kernel
theorem dX2_weigh_60 : decode cX2_weigh 60 = .ok (.iconst 1, 1) := by decide +kernel
theorem dX2_weigh_61 : decode cX2_weigh 61 = .ok (.aload_n 1, 1) := by decide +kernel
theorem dX2_weigh_62 : decode cX2_weigh 62 = .ok (.getfield 41, 3) := by decide +kernel
theorem dX2_weigh_65 : decode cX2_weigh 65 = .ok (.iload 4, 2) := by decide +kernel
theorem dX2_weigh_67 : decode cX2_weigh 67 = .ok (.iaload, 1) := by decide +kernel
theorem dX2_weigh_68 : decode cX2_weigh 68 = .ok (.ishl, 1) := by decide +kernel
theorem dX2_weigh_69 : decode cX2_weigh 69 = .ok (.istore 5, 2) := by decide +kernel
theorem dX2_weigh_71 : decode cX2_weigh 71 = .ok (.iload 5, 2) := by decide +kernel
theorem dX2_weigh_73 : decode cX2_weigh 73 = .ok (.iload_n 3, 1) := by decide +kernel
theorem dX2_weigh_74 : decode cX2_weigh 74 = .ok (.iand, 1) := by decide +kernel
theorem dX2_weigh_75 : decode cX2_weigh 75 = .ok (.ifCond .ne 34, 3) := by decide +kernel
theorem dX2_weigh_78 : decode cX2_weigh 78 = .ok (.aload_n 0, 1) := by decide +kernel
theorem dX2_weigh_79 : decode cX2_weigh 79 = .ok (.aload_n 1, 1) := by decide +kernel
theorem dX2_weigh_80 : decode cX2_weigh 80 = .ok (.iload 4, 2) := by decide +kernel
theorem dX2_weigh_82 : decode cX2_weigh 82 = .ok (.invokevirtual 45, 3) := by decide +kernel
theorem dX2_weigh_85 : decode cX2_weigh 85 = .ok (.ifCond .eq 24, 3) := by decide +kernel
theorem dX2_weigh_88 : decode cX2_weigh 88 = .ok (.aload_n 0, 1) := by decide +kernel
theorem dX2_weigh_89 : decode cX2_weigh 89 = .ok (.getfield 9, 3) := by decide +kernel
theorem dX2_weigh_92 : decode cX2_weigh 92 = .ok (.iload 4, 2) := by decide +kernel
theorem dX2_weigh_94 : decode cX2_weigh 94 = .ok (.iconst 1, 1) := by decide +kernel
theorem dX2_weigh_95 : decode cX2_weigh 95 = .ok (.bastore, 1) := by decide +kernel
theorem dX2_weigh_96 : decode cX2_weigh 96 = .ok (.aload_n 0, 1) := by decide +kernel
theorem dX2_weigh_97 : decode cX2_weigh 97 = .ok (.dup, 1) := by decide +kernel
theorem dX2_weigh_98 : decode cX2_weigh 98 = .ok (.getfield 26, 3) := by decide +kernel
theorem dX2_weigh_101 : decode cX2_weigh 101 = .ok (.iconst 1, 1) := by decide +kernel
theorem dX2_weigh_102 : decode cX2_weigh 102 = .ok (.iadd, 1) := by decide +kernel
theorem dX2_weigh_103 : decode cX2_weigh 103 = .ok (.putfield 26, 3) := by decide +kernel
theorem dX2_weigh_106 : decode cX2_weigh 106 = .ok (.goto 18, 3) := by decide +kernel
theorem dX2_weigh_109 : decode cX2_weigh 109 = .ok (.iload_n 3, 1) := by decide +kernel
theorem dX2_weigh_110 : decode cX2_weigh 110 = .ok (.iload 5, 2) := by decide +kernel
theorem dX2_weigh_112 : decode cX2_weigh 112 = .ok (.ior, 1) := by decide +kernel
theorem dX2_weigh_113 : decode cX2_weigh 113 = .ok (.istore_n 3, 1) := by decide +kernel
theorem dX2_weigh_114 : decode cX2_weigh 114 = .ok (.aload_n 0, 1) := by decide +kernel
theorem dX2_weigh_115 : decode cX2_weigh 115 = .ok (.dup, 1) := by decide +kernel
theorem dX2_weigh_116 : decode cX2_weigh 116 = .ok (.getfield 30, 3) := by decide +kernel
theorem dX2_weigh_119 : decode cX2_weigh 119 = .ok (.iconst 1, 1) := by decide +kernel
theorem dX2_weigh_120 : decode cX2_weigh 120 = .ok (.iadd, 1) := by decide +kernel
theorem dX2_weigh_121 : decode cX2_weigh 121 = .ok (.putfield 30, 3) := by decide +kernel
theorem dX2_weigh_124 : decode cX2_weigh 124 = .ok (.iinc 4 1, 3) := by decide +kernel
theorem dX2_weigh_127 : decode cX2_weigh 127 = .ok (.goto (-112), 3) := by decide +kernel
theorem dX2_weigh_130 : decode cX2_weigh 130 = .ok (.return_, 1) := by decide +kernel
theorem dX2_needsGo_0 : decode cX2_needsGo 0 = .ok (.iload_n 2, 1) := by decide +kernel
theorem dX2_needsGo_1 : decode cX2_needsGo 1 = .ok (.iconst 4, 1) := by decide +kernel
theorem dX2_needsGo_2 : decode cX2_needsGo 2 = .ok (.imul, 1) := by decide +kernel
theorem dX2_needsGo_3 : decode cX2_needsGo 3 = .ok (.istore_n 3, 1) := by decide +kernel
theorem dX2_needsGo_4 : decode cX2_needsGo 4 = .ok (.iload_n 3, 1) := by decide +kernel
theorem dX2_needsGo_5 : decode cX2_needsGo 5 = .ok (.iload_n 2, 1) := by decide +kernel
theorem dX2_needsGo_6 : decode cX2_needsGo 6 = .ok (.iconst 1, 1) := by decide +kernel
theorem dX2_needsGo_7 : decode cX2_needsGo 7 = .ok (.iadd, 1) := by decide +kernel
theorem dX2_needsGo_8 : decode cX2_needsGo 8 = .ok (.iconst 4, 1) := by decide +kernel
theorem dX2_needsGo_9 : decode cX2_needsGo 9 = .ok (.imul, 1) := by decide +kernel
theorem dX2_needsGo_10 : decode cX2_needsGo 10 = .ok (.if_icmp .ge 35, 3) := by decide +kernel
theorem dX2_needsGo_13 : decode cX2_needsGo 13 = .ok (.aload_n 1, 1) := by decide +kernel
theorem dX2_needsGo_14 : decode cX2_needsGo 14 = .ok (.getfield 49, 3) := by decide +kernel
theorem dX2_needsGo_17 : decode cX2_needsGo 17 = .ok (.iload_n 3, 1) := by decide +kernel
theorem dX2_needsGo_18 : decode cX2_needsGo 18 = .ok (.iaload, 1) := by decide +kernel
theorem dX2_needsGo_19 : decode cX2_needsGo 19 = .ok (.istore 4, 2) := by decide +kernel
theorem dX2_needsGo_21 : decode cX2_needsGo 21 = .ok (.iload 4, 2) := by decide +kernel
theorem dX2_needsGo_23 : decode cX2_needsGo 23 = .ok (.iconst (-1), 1) := by decide +kernel
theorem dX2_needsGo_24 : decode cX2_needsGo 24 = .ok (.if_icmp .eq 15, 3) := by decide +kernel
theorem dX2_needsGo_27 : decode cX2_needsGo 27 = .ok (.aload_n 0, 1) := by decide +kernel
theorem dX2_needsGo_28 : decode cX2_needsGo 28 = .ok (.getfield 9, 3) := by decide +kernel
theorem dX2_needsGo_31 : decode cX2_needsGo 31 = .ok (.iload 4, 2) := by decide +kernel
theorem dX2_needsGo_33 : decode cX2_needsGo 33 = .ok (.baload, 1) := by decide +kernel
theorem dX2_needsGo_34 : decode cX2_needsGo 34 = .ok (.ifCond .ne 5, 3) := by decide +kernel
theorem dX2_needsGo_37 : decode cX2_needsGo 37 = .ok (.iconst 0, 1) := by decide +kernel
theorem dX2_needsGo_38 : decode cX2_needsGo 38 = .ok (.ireturn, 1) := by decide +kernel
theorem dX2_needsGo_39 : decode cX2_needsGo 39 = .ok (.iinc 3 1, 3) := by decide +kernel
theorem dX2_needsGo_42 : decode cX2_needsGo 42 = .ok (.goto (-38), 3) := by decide +kernel
theorem dX2_needsGo_45 : decode cX2_needsGo 45 = .ok (.iconst 0, 1) := by decide +kernel
theorem dX2_needsGo_46 : decode cX2_needsGo 46 = .ok (.istore_n 3, 1) := by decide +kernel
theorem dX2_needsGo_47 : decode cX2_needsGo 47 = .ok (.aload_n 1, 1) := by decide +kernel
theorem dX2_needsGo_48 : decode cX2_needsGo 48 = .ok (.getfield 52, 3) := by decide +kernel
theorem dX2_needsGo_51 : decode cX2_needsGo 51 = .ok (.iload_n 2, 1) := by decide +kernel
theorem dX2_needsGo_52 : decode cX2_needsGo 52 = .ok (.iaload, 1) := by decide +kernel
theorem dX2_needsGo_53 : decode cX2_needsGo 53 = .ok (.iconst (-1), 1) := by decide +kernel
theorem dX2_needsGo_54 : decode cX2_needsGo 54 = .ok (.if_icmp .eq 40, 3) := by decide +kernel
theorem dX2_needsGo_57 : decode cX2_needsGo 57 = .ok (.iload_n 3, 1) := by decide +kernel
theorem dX2_needsGo_58 : decode cX2_needsGo 58 = .ok (.iload_n 2, 1) := by decide +kernel
theorem dX2_needsGo_59 : decode cX2_needsGo 59 = .ok (.if_icmp .ge 35, 3) := by decide +kernel
theorem dX2_needsGo_62 : decode cX2_needsGo 62 = .ok (.aload_n 1, 1) := by decide +kernel
theorem dX2_needsGo_63 : decode cX2_needsGo 63 = .ok (.getfield 38, 3) := by decide +kernel
theorem dX2_needsGo_66 : decode cX2_needsGo 66 = .ok (.iload_n 3, 1) := by decide +kernel
theorem dX2_needsGo_67 : decode cX2_needsGo 67 = .ok (.iaload, 1) := by decide +kernel
theorem dX2_needsGo_68 : decode cX2_needsGo 68 = .ok (.aload_n 1, 1) := by decide +kernel
theorem dX2_needsGo_69 : decode cX2_needsGo 69 = .ok (.getfield 52, 3) := by decide +kernel
theorem dX2_needsGo_72 : decode cX2_needsGo 72 = .ok (.iload_n 2, 1) := by decide +kernel
theorem dX2_needsGo_73 : decode cX2_needsGo 73 = .ok (.iaload, 1) := by decide +kernel
theorem dX2_needsGo_74 : decode cX2_needsGo 74 = .ok (.if_icmp .ne 14, 3) := by decide +kernel
theorem dX2_needsGo_77 : decode cX2_needsGo 77 = .ok (.aload_n 0, 1) := by decide +kernel
theorem dX2_needsGo_78 : decode cX2_needsGo 78 = .ok (.getfield 9, 3) := by decide +kernel
theorem dX2_needsGo_81 : decode cX2_needsGo 81 = .ok (.iload_n 3, 1) := by decide +kernel
theorem dX2_needsGo_82 : decode cX2_needsGo 82 = .ok (.baload, 1) := by decide +kernel
theorem dX2_needsGo_83 : decode cX2_needsGo 83 = .ok (.ifCond .ne 5, 3) := by decide +kernel
theorem dX2_needsGo_86 : decode cX2_needsGo 86 = .ok (.iconst 0, 1) := by decide +kernel
theorem dX2_needsGo_87 : decode cX2_needsGo 87 = .ok (.ireturn, 1) := by decide +kernel
theorem dX2_needsGo_88 : decode cX2_needsGo 88 = .ok (.iinc 3 1, 3) := by decide +kernel
theorem dX2_needsGo_91 : decode cX2_needsGo 91 = .ok (.goto (-44), 3) := by decide +kernel
theorem dX2_needsGo_94 : decode cX2_needsGo 94 = .ok (.iconst 1, 1) := by decide +kernel
theorem dX2_needsGo_95 : decode cX2_needsGo 95 = .ok (.ireturn, 1) := by decide +kernel
theorem dX2_draft_0 : decode cX2_draft 0 = .ok (.aload_n 0, 1) := by decide +kernel
theorem dX2_draft_1 : decode cX2_draft 1 = .ok (.aload_n 1, 1) := by decide +kernel
theorem dX2_draft_2 : decode cX2_draft 2 = .ok (.iload_n 2, 1) := by decide +kernel
theorem dX2_draft_3 : decode cX2_draft 3 = .ok (.invokevirtual 55, 3) := by decide +kernel
theorem dX2_draft_6 : decode cX2_draft 6 = .ok (.aload_n 1, 1) := by decide +kernel
theorem dX2_draft_7 : decode cX2_draft 7 = .ok (.getfield 59, 3) := by decide +kernel
theorem dX2_draft_10 : decode cX2_draft 10 = .ok (.iload_n 2, 1) := by decide +kernel
theorem dX2_draft_11 : decode cX2_draft 11 = .ok (.bipush 16, 2) := by decide +kernel
theorem dX2_draft_13 : decode cX2_draft 13 = .ok (.imul, 1) := by decide +kernel
theorem dX2_draft_14 : decode cX2_draft 14 = .ok (.aload_n 0, 1) := by decide +kernel
theorem dX2_draft_15 : decode cX2_draft 15 = .ok (.getfield 19, 3) := by decide +kernel
theorem dX2_draft_18 : decode cX2_draft 18 = .ok (.iconst 0, 1) := by decide +kernel
theorem dX2_draft_19 : decode cX2_draft 19 = .ok (.bipush 16, 2) := by decide +kernel
theorem dX2_draft_21 : decode cX2_draft 21 = .ok (.invokestatic 62, 3) := by decide +kernel
theorem dX2_draft_24 : decode cX2_draft 24 = .ok (.aload_n 1, 1) := by decide +kernel
theorem dX2_draft_25 : decode cX2_draft 25 = .ok (.getfield 33, 3) := by decide +kernel
theorem dX2_draft_28 : decode cX2_draft 28 = .ok (.iconst 1, 1) := by decide +kernel
theorem dX2_draft_29 : decode cX2_draft 29 = .ok (.isub, 1) := by decide +kernel
theorem dX2_draft_30 : decode cX2_draft 30 = .ok (.istore_n 3, 1) := by decide +kernel
theorem dX2_draft_31 : decode cX2_draft 31 = .ok (.aload_n 0, 1) := by decide +kernel
theorem dX2_draft_32 : decode cX2_draft 32 = .ok (.getfield 30, 3) := by decide +kernel
theorem dX2_draft_35 : decode cX2_draft 35 = .ok (.ifCond .le 80, 3) := by decide +kernel
theorem dX2_draft_38 : decode cX2_draft 38 = .ok (.iload_n 3, 1) := by decide +kernel
theorem dX2_draft_39 : decode cX2_draft 39 = .ok (.ifCond .lt 76, 3) := by decide +kernel
theorem dX2_draft_42 : decode cX2_draft 42 = .ok (.aload_n 1, 1) := by decide +kernel
theorem dX2_draft_43 : decode cX2_draft 43 = .ok (.getfield 38, 3) := by decide +kernel
theorem dX2_draft_46 : decode cX2_draft 46 = .ok (.iload_n 3, 1) := by decide +kernel
theorem dX2_draft_47 : decode cX2_draft 47 = .ok (.iaload, 1) := by decide +kernel
theorem dX2_draft_48 : decode cX2_draft 48 = .ok (.iload_n 2, 1) := by decide +kernel
theorem dX2_draft_49 : decode cX2_draft 49 = .ok (.if_icmp .ne 60, 3) := by decide +kernel
theorem dX2_draft_52 : decode cX2_draft 52 = .ok (.aload_n 0, 1) := by decide +kernel
theorem dX2_draft_53 : decode cX2_draft 53 = .ok (.getfield 9, 3) := by decide +kernel
theorem dX2_draft_56 : decode cX2_draft 56 = .ok (.iload_n 3, 1) := by decide +kernel
theorem dX2_draft_57 : decode cX2_draft 57 = .ok (.baload, 1) := by decide +kernel
theorem dX2_draft_58 : decode cX2_draft 58 = .ok (.ifCond .ne 51, 3) := by decide +kernel
theorem dX2_draft_61 : decode cX2_draft 61 = .ok (.aload_n 1, 1) := by decide +kernel
theorem dX2_draft_62 : decode cX2_draft 62 = .ok (.iload_n 3, 1) := by decide +kernel
theorem dX2_draft_63 : decode cX2_draft 63 = .ok (.invokevirtual 68, 3) := by decide +kernel
theorem dX2_draft_66 : decode cX2_draft 66 = .ok (.istore 4, 2) := by decide +kernel
theorem dX2_draft_68 : decode cX2_draft 68 = .ok (.aload_n 1, 1) := by decide +kernel
theorem dX2_draft_69 : decode cX2_draft 69 = .ok (.getfield 41, 3) := by decide +kernel
theorem dX2_draft_72 : decode cX2_draft 72 = .ok (.iload_n 3, 1) := by decide +kernel
theorem dX2_draft_73 : decode cX2_draft 73 = .ok (.iaload, 1) := by decide +kernel
theorem dX2_draft_74 : decode cX2_draft 74 = .ok (.bipush 16, 2) := by decide +kernel
theorem dX2_draft_76 : decode cX2_draft 76 = .ok (.if_icmp .ne 8, 3) := by decide +kernel
theorem dX2_draft_79 : decode cX2_draft 79 = .ok (.bipush 16, 2) := by decide +kernel
theorem dX2_draft_81 : decode cX2_draft 81 = .ok (.goto 4, 3) := by decide +kernel
theorem dX2_draft_84 : decode cX2_draft 84 = .ok (.iconst 1, 1) := by decide +kernel
theorem dX2_draft_85 : decode cX2_draft 85 = .ok (.istore 5, 2) := by decide +kernel
theorem dX2_draft_87 : decode cX2_draft 87 = .ok (.aload_n 1, 1) := by decide +kernel
theorem dX2_draft_88 : decode cX2_draft 88 = .ok (.getfield 72, 3) := by decide +kernel
theorem dX2_draft_91 : decode cX2_draft 91 = .ok (.iload_n 3, 1) := by decide +kernel
theorem dX2_draft_92 : decode cX2_draft 92 = .ok (.bipush 16, 2) := by decide +kernel
theorem dX2_draft_94 : decode cX2_draft 94 = .ok (.imul, 1) := by decide +kernel
theorem dX2_draft_95 : decode cX2_draft 95 = .ok (.iload 4, 2) := by decide +kernel
theorem dX2_draft_97 : decode cX2_draft 97 = .ok (.iadd, 1) := by decide +kernel
theorem dX2_draft_98 : decode cX2_draft 98 = .ok (.aload_n 0, 1) := by decide +kernel
theorem dX2_draft_99 : decode cX2_draft 99 = .ok (.getfield 19, 3) := by decide +kernel
theorem dX2_draft_102 : decode cX2_draft 102 = .ok (.iload 4, 2) := by decide +kernel
theorem dX2_draft_104 : decode cX2_draft 104 = .ok (.iload 5, 2) := by decide +kernel
theorem dX2_draft_106 : decode cX2_draft 106 = .ok (.invokestatic 62, 3) := by decide +kernel
theorem dX2_draft_109 : decode cX2_draft 109 = .ok (.iinc 3 (-1), 3) := by decide +kernel
theorem dX2_draft_112 : decode cX2_draft 112 = .ok (.goto (-81), 3) := by decide +kernel
theorem dX2_draft_115 : decode cX2_draft 115 = .ok (.return_, 1) := by decide +kernel
theorem dX2_writeBlock_0 : decode cX2_writeBlock 0 = .ok (.iload_n 2, 1) := by decide +kernel
theorem dX2_writeBlock_1 : decode cX2_writeBlock 1 = .ok (.ifCond .lt 18, 3) := by decide +kernel
theorem dX2_writeBlock_4 : decode cX2_writeBlock 4 = .ok (.iload_n 2, 1) := by decide +kernel
theorem dX2_writeBlock_5 : decode cX2_writeBlock 5 = .ok (.aload_n 1, 1) := by decide +kernel
theorem dX2_writeBlock_6 : decode cX2_writeBlock 6 = .ok (.getfield 75, 3) := by decide +kernel
theorem dX2_writeBlock_9 : decode cX2_writeBlock 9 = .ok (.if_icmp .ge 10, 3) := by decide +kernel
theorem dX2_writeBlock_12 : decode cX2_writeBlock 12 = .ok (.aload_n 1, 1) := by decide +kernel
theorem dX2_writeBlock_13 : decode cX2_writeBlock 13 = .ok (.getfield 33, 3) := by decide +kernel
theorem dX2_writeBlock_16 : decode cX2_writeBlock 16 = .ok (.ifCond .ne 5, 3) := by decide +kernel
theorem dX2_writeBlock_19 : decode cX2_writeBlock 19 = .ok (.iconst 0, 1) := by decide +kernel
theorem dX2_writeBlock_20 : decode cX2_writeBlock 20 = .ok (.ireturn, 1) := by decide +kernel
theorem dX2_writeBlock_21 : decode cX2_writeBlock 21 = .ok (.aload_n 0, 1) := by decide +kernel
theorem dX2_writeBlock_22 : decode cX2_writeBlock 22 = .ok (.aload_n 1, 1) := by decide +kernel
theorem dX2_writeBlock_23 : decode cX2_writeBlock 23 = .ok (.iload_n 2, 1) := by decide +kernel
theorem dX2_writeBlock_24 : decode cX2_writeBlock 24 = .ok (.invokevirtual 78, 3) := by decide +kernel
theorem dX2_writeBlock_27 : decode cX2_writeBlock 27 = .ok (.aload_n 0, 1) := by decide +kernel
theorem dX2_writeBlock_28 : decode cX2_writeBlock 28 = .ok (.getfield 26, 3) := by decide +kernel
theorem dX2_writeBlock_31 : decode cX2_writeBlock 31 = .ok (.aload_n 0, 1) := by decide +kernel
theorem dX2_writeBlock_32 : decode cX2_writeBlock 32 = .ok (.getfield 30, 3) := by decide +kernel
theorem dX2_writeBlock_35 : decode cX2_writeBlock 35 = .ok (.iadd, 1) := by decide +kernel
theorem dX2_writeBlock_36 : decode cX2_writeBlock 36 = .ok (.ifCond .ne 5, 3) := by decide +kernel
theorem dX2_writeBlock_39 : decode cX2_writeBlock 39 = .ok (.iconst 0, 1) := by decide +kernel
theorem dX2_writeBlock_40 : decode cX2_writeBlock 40 = .ok (.ireturn, 1) := by decide +kernel
theorem dX2_writeBlock_41 : decode cX2_writeBlock 41 = .ok (.aload_n 0, 1) := by decide +kernel
theorem dX2_writeBlock_42 : decode cX2_writeBlock 42 = .ok (.getfield 19, 3) := by decide +kernel
theorem dX2_writeBlock_45 : decode cX2_writeBlock 45 = .ok (.iconst 0, 1) := by decide +kernel
theorem dX2_writeBlock_46 : decode cX2_writeBlock 46 = .ok (.aload_n 1, 1) := by decide +kernel
theorem dX2_writeBlock_47 : decode cX2_writeBlock 47 = .ok (.getfield 59, 3) := by decide +kernel
theorem dX2_writeBlock_50 : decode cX2_writeBlock 50 = .ok (.sipush 256, 3) := by decide +kernel
theorem dX2_writeBlock_53 : decode cX2_writeBlock 53 = .ok (.iload_n 2, 1) := by decide +kernel
theorem dX2_writeBlock_54 : decode cX2_writeBlock 54 = .ok (.bipush 16, 2) := by decide +kernel
theorem dX2_writeBlock_56 : decode cX2_writeBlock 56 = .ok (.imul, 1) := by decide +kernel
theorem dX2_writeBlock_57 : decode cX2_writeBlock 57 = .ok (.iadd, 1) := by decide +kernel
theorem dX2_writeBlock_58 : decode cX2_writeBlock 58 = .ok (.bipush 16, 2) := by decide +kernel
theorem dX2_writeBlock_60 : decode cX2_writeBlock 60 = .ok (.invokestatic 62, 3) := by decide +kernel
theorem dX2_writeBlock_63 : decode cX2_writeBlock 63 = .ok (.aload_n 1, 1) := by decide +kernel
theorem dX2_writeBlock_64 : decode cX2_writeBlock 64 = .ok (.dup, 1) := by decide +kernel
theorem dX2_writeBlock_65 : decode cX2_writeBlock 65 = .ok (.getfield 81, 3) := by decide +kernel
theorem dX2_writeBlock_68 : decode cX2_writeBlock 68 = .ok (.iconst 1, 1) := by decide +kernel
theorem dX2_writeBlock_69 : decode cX2_writeBlock 69 = .ok (.iadd, 1) := by decide +kernel
theorem dX2_writeBlock_70 : decode cX2_writeBlock 70 = .ok (.putfield 81, 3) := by decide +kernel
theorem dX2_writeBlock_73 : decode cX2_writeBlock 73 = .ok (.aload_n 1, 1) := by decide +kernel
theorem dX2_writeBlock_74 : decode cX2_writeBlock 74 = .ok (.dup, 1) := by decide +kernel
theorem dX2_writeBlock_75 : decode cX2_writeBlock 75 = .ok (.getfield 84, 3) := by decide +kernel
theorem dX2_writeBlock_78 : decode cX2_writeBlock 78 = .ok (.aload_n 0, 1) := by decide +kernel
theorem dX2_writeBlock_79 : decode cX2_writeBlock 79 = .ok (.getfield 30, 3) := by decide +kernel
theorem dX2_writeBlock_82 : decode cX2_writeBlock 82 = .ok (.iadd, 1) := by decide +kernel
theorem dX2_writeBlock_83 : decode cX2_writeBlock 83 = .ok (.putfield 84, 3) := by decide +kernel
theorem dX2_writeBlock_86 : decode cX2_writeBlock 86 = .ok (.aload_n 0, 1) := by decide +kernel
theorem dX2_writeBlock_87 : decode cX2_writeBlock 87 = .ok (.getfield 26, 3) := by decide +kernel
theorem dX2_writeBlock_90 : decode cX2_writeBlock 90 = .ok (.ifCond .le 40, 3) := by decide +kernel
theorem dX2_writeBlock_93 : decode cX2_writeBlock 93 = .ok (.aload_n 0, 1) := by decide +kernel
theorem dX2_writeBlock_94 : decode cX2_writeBlock 94 = .ok (.aload_n 1, 1) := by decide +kernel
theorem dX2_writeBlock_95 : decode cX2_writeBlock 95 = .ok (.invokevirtual 87, 3) := by decide +kernel
theorem dX2_writeBlock_98 : decode cX2_writeBlock 98 = .ok (.aload_n 0, 1) := by decide +kernel
theorem dX2_writeBlock_99 : decode cX2_writeBlock 99 = .ok (.aload_n 1, 1) := by decide +kernel
theorem dX2_writeBlock_100 : decode cX2_writeBlock 100 = .ok (.invokevirtual 91, 3) := by decide +kernel
theorem dX2_writeBlock_103 : decode cX2_writeBlock 103 = .ok (.istore_n 3, 1) := by decide +kernel
theorem dX2_writeBlock_104 : decode cX2_writeBlock 104 = .ok (.iconst 0, 1) := by decide +kernel
theorem dX2_writeBlock_105 : decode cX2_writeBlock 105 = .ok (.istore 4, 2) := by decide +kernel
theorem dX2_writeBlock_107 : decode cX2_writeBlock 107 = .ok (.iload 4, 2) := by decide +kernel
theorem dX2_writeBlock_109 : decode cX2_writeBlock 109 = .ok (.iload_n 3, 1) := by decide +kernel
theorem dX2_writeBlock_110 : decode cX2_writeBlock 110 = .ok (.if_icmp .ge 20, 3) := by decide +kernel
theorem dX2_writeBlock_113 : decode cX2_writeBlock 113 = .ok (.aload_n 1, 1) := by decide +kernel
theorem dX2_writeBlock_114 : decode cX2_writeBlock 114 = .ok (.aload_n 0, 1) := by decide +kernel
theorem dX2_writeBlock_115 : decode cX2_writeBlock 115 = .ok (.getfield 23, 3) := by decide +kernel
theorem dX2_writeBlock_118 : decode cX2_writeBlock 118 = .ok (.iload 4, 2) := by decide +kernel
theorem dX2_writeBlock_120 : decode cX2_writeBlock 120 = .ok (.iaload, 1) := by decide +kernel
theorem dX2_writeBlock_121 : decode cX2_writeBlock 121 = .ok (.invokevirtual 95, 3) := by decide +kernel
theorem dX2_writeBlock_124 : decode cX2_writeBlock 124 = .ok (.iinc 4 1, 3) := by decide +kernel
theorem dX2_writeBlock_127 : decode cX2_writeBlock 127 = .ok (.goto (-20), 3) := by decide +kernel
theorem dX2_writeBlock_130 : decode cX2_writeBlock 130 = .ok (.iconst 1, 1) := by decide +kernel
theorem dX2_writeBlock_131 : decode cX2_writeBlock 131 = .ok (.ireturn, 1) := by decide +kernel
theorem dX2_closeRanks_0 : decode cX2_closeRanks 0 = .ok (.iconst 0, 1) := by decide +kernel
theorem dX2_closeRanks_1 : decode cX2_closeRanks 1 = .ok (.istore_n 2, 1) := by decide +kernel
theorem dX2_closeRanks_2 : decode cX2_closeRanks 2 = .ok (.iconst 0, 1) := by decide +kernel
theorem dX2_closeRanks_3 : decode cX2_closeRanks 3 = .ok (.istore_n 3, 1) := by decide +kernel
theorem dX2_closeRanks_4 : decode cX2_closeRanks 4 = .ok (.iload_n 3, 1) := by decide +kernel
theorem dX2_closeRanks_5 : decode cX2_closeRanks 5 = .ok (.aload_n 1, 1) := by decide +kernel
theorem dX2_closeRanks_6 : decode cX2_closeRanks 6 = .ok (.getfield 33, 3) := by decide +kernel
theorem dX2_closeRanks_9 : decode cX2_closeRanks 9 = .ok (.if_icmp .ge 45, 3) := by decide +kernel
theorem dX2_closeRanks_12 : decode cX2_closeRanks 12 = .ok (.aload_n 0, 1) := by decide +kernel
theorem dX2_closeRanks_13 : decode cX2_closeRanks 13 = .ok (.getfield 9, 3) := by decide +kernel
theorem dX2_closeRanks_16 : decode cX2_closeRanks 16 = .ok (.iload_n 3, 1) := by decide +kernel
theorem dX2_closeRanks_17 : decode cX2_closeRanks 17 = .ok (.baload, 1) := by decide +kernel
theorem dX2_closeRanks_18 : decode cX2_closeRanks 18 = .ok (.ifCond .eq 13, 3) := by decide +kernel
theorem dX2_closeRanks_21 : decode cX2_closeRanks 21 = .ok (.aload_n 0, 1) := by decide +kernel
theorem dX2_closeRanks_22 : decode cX2_closeRanks 22 = .ok (.getfield 15, 3) := by decide +kernel
theorem dX2_closeRanks_25 : decode cX2_closeRanks 25 = .ok (.iload_n 3, 1) := by decide +kernel
theorem dX2_closeRanks_26 : decode cX2_closeRanks 26 = .ok (.iconst (-1), 1) := by decide +kernel
theorem dX2_closeRanks_27 : decode cX2_closeRanks 27 = .ok (.iastore, 1) := by decide +kernel
theorem dX2_closeRanks_28 : decode cX2_closeRanks 28 = .ok (.goto 20, 3) := by decide +kernel
theorem dX2_closeRanks_31 : decode cX2_closeRanks 31 = .ok (.aload_n 0, 1) := by decide +kernel
theorem dX2_closeRanks_32 : decode cX2_closeRanks 32 = .ok (.aload_n 1, 1) := by decide +kernel
theorem dX2_closeRanks_33 : decode cX2_closeRanks 33 = .ok (.iload_n 3, 1) := by decide +kernel
theorem dX2_closeRanks_34 : decode cX2_closeRanks 34 = .ok (.iload_n 2, 1) := by decide +kernel
theorem dX2_closeRanks_35 : decode cX2_closeRanks 35 = .ok (.invokevirtual 99, 3) := by decide +kernel
theorem dX2_closeRanks_38 : decode cX2_closeRanks 38 = .ok (.aload_n 0, 1) := by decide +kernel
theorem dX2_closeRanks_39 : decode cX2_closeRanks 39 = .ok (.getfield 15, 3) := by decide +kernel
theorem dX2_closeRanks_42 : decode cX2_closeRanks 42 = .ok (.iload_n 3, 1) := by decide +kernel
theorem dX2_closeRanks_43 : decode cX2_closeRanks 43 = .ok (.iload_n 2, 1) := by decide +kernel
theorem dX2_closeRanks_44 : decode cX2_closeRanks 44 = .ok (.iastore, 1) := by decide +kernel
theorem dX2_closeRanks_45 : decode cX2_closeRanks 45 = .ok (.iinc 2 1, 3) := by decide +kernel
theorem dX2_closeRanks_48 : decode cX2_closeRanks 48 = .ok (.iinc 3 1, 3) := by decide +kernel
theorem dX2_closeRanks_51 : decode cX2_closeRanks 51 = .ok (.goto (-47), 3) := by decide +kernel
theorem dX2_closeRanks_54 : decode cX2_closeRanks 54 = .ok (.aload_n 1, 1) := by decide +kernel
theorem dX2_closeRanks_55 : decode cX2_closeRanks 55 = .ok (.iload_n 2, 1) := by decide +kernel
theorem dX2_closeRanks_56 : decode cX2_closeRanks 56 = .ok (.putfield 33, 3) := by decide +kernel
theorem dX2_closeRanks_59 : decode cX2_closeRanks 59 = .ok (.return_, 1) := by decide +kernel
theorem dX2_moveChange_0 : decode cX2_moveChange 0 = .ok (.aload_n 1, 1) := by decide +kernel
theorem dX2_moveChange_1 : decode cX2_moveChange 1 = .ok (.getfield 38, 3) := by decide +kernel
theorem dX2_moveChange_4 : decode cX2_moveChange 4 = .ok (.iload_n 3, 1) := by decide +kernel
theorem dX2_moveChange_5 : decode cX2_moveChange 5 = .ok (.aload_n 1, 1) := by decide +kernel
theorem dX2_moveChange_6 : decode cX2_moveChange 6 = .ok (.getfield 38, 3) := by decide +kernel
theorem dX2_moveChange_9 : decode cX2_moveChange 9 = .ok (.iload_n 2, 1) := by decide +kernel
theorem dX2_moveChange_10 : decode cX2_moveChange 10 = .ok (.iaload, 1) := by decide +kernel
theorem dX2_moveChange_11 : decode cX2_moveChange 11 = .ok (.iastore, 1) := by decide +kernel
theorem dX2_moveChange_12 : decode cX2_moveChange 12 = .ok (.aload_n 1, 1) := by decide +kernel
theorem dX2_moveChange_13 : decode cX2_moveChange 13 = .ok (.getfield 41, 3) := by decide +kernel
theorem dX2_moveChange_16 : decode cX2_moveChange 16 = .ok (.iload_n 3, 1) := by decide +kernel
theorem dX2_moveChange_17 : decode cX2_moveChange 17 = .ok (.aload_n 1, 1) := by decide +kernel
theorem dX2_moveChange_18 : decode cX2_moveChange 18 = .ok (.getfield 41, 3) := by decide +kernel
theorem dX2_moveChange_21 : decode cX2_moveChange 21 = .ok (.iload_n 2, 1) := by decide +kernel
theorem dX2_moveChange_22 : decode cX2_moveChange 22 = .ok (.iaload, 1) := by decide +kernel
theorem dX2_moveChange_23 : decode cX2_moveChange 23 = .ok (.iastore, 1) := by decide +kernel
theorem dX2_moveChange_24 : decode cX2_moveChange 24 = .ok (.aload_n 1, 1) := by decide +kernel
theorem dX2_moveChange_25 : decode cX2_moveChange 25 = .ok (.getfield 103, 3) := by decide +kernel
theorem dX2_moveChange_28 : decode cX2_moveChange 28 = .ok (.iload_n 3, 1) := by decide +kernel
theorem dX2_moveChange_29 : decode cX2_moveChange 29 = .ok (.aload_n 1, 1) := by decide +kernel
theorem dX2_moveChange_30 : decode cX2_moveChange 30 = .ok (.getfield 103, 3) := by decide +kernel
theorem dX2_moveChange_33 : decode cX2_moveChange 33 = .ok (.iload_n 2, 1) := by decide +kernel
theorem dX2_moveChange_34 : decode cX2_moveChange 34 = .ok (.iaload, 1) := by decide +kernel
theorem dX2_moveChange_35 : decode cX2_moveChange 35 = .ok (.iastore, 1) := by decide +kernel
theorem dX2_moveChange_36 : decode cX2_moveChange 36 = .ok (.aload_n 1, 1) := by decide +kernel
theorem dX2_moveChange_37 : decode cX2_moveChange 37 = .ok (.getfield 52, 3) := by decide +kernel
theorem dX2_moveChange_40 : decode cX2_moveChange 40 = .ok (.iload_n 3, 1) := by decide +kernel
theorem dX2_moveChange_41 : decode cX2_moveChange 41 = .ok (.aload_n 1, 1) := by decide +kernel
theorem dX2_moveChange_42 : decode cX2_moveChange 42 = .ok (.getfield 52, 3) := by decide +kernel
theorem dX2_moveChange_45 : decode cX2_moveChange 45 = .ok (.iload_n 2, 1) := by decide +kernel
theorem dX2_moveChange_46 : decode cX2_moveChange 46 = .ok (.iaload, 1) := by decide +kernel
theorem dX2_moveChange_47 : decode cX2_moveChange 47 = .ok (.iastore, 1) := by decide +kernel
theorem dX2_moveChange_48 : decode cX2_moveChange 48 = .ok (.iconst 0, 1) := by decide +kernel
theorem dX2_moveChange_49 : decode cX2_moveChange 49 = .ok (.istore 4, 2) := by decide +kernel
theorem dX2_moveChange_51 : decode cX2_moveChange 51 = .ok (.iload 4, 2) := by decide +kernel
theorem dX2_moveChange_53 : decode cX2_moveChange 53 = .ok (.iconst 4, 1) := by decide +kernel
theorem dX2_moveChange_54 : decode cX2_moveChange 54 = .ok (.if_icmp .ge 50, 3) := by decide +kernel
theorem dX2_moveChange_57 : decode cX2_moveChange 57 = .ok (.aload_n 1, 1) := by decide +kernel
theorem dX2_moveChange_58 : decode cX2_moveChange 58 = .ok (.getfield 49, 3) := by decide +kernel
theorem dX2_moveChange_61 : decode cX2_moveChange 61 = .ok (.iload_n 2, 1) := by decide +kernel
theorem dX2_moveChange_62 : decode cX2_moveChange 62 = .ok (.iconst 4, 1) := by decide +kernel
theorem dX2_moveChange_63 : decode cX2_moveChange 63 = .ok (.imul, 1) := by decide +kernel
theorem dX2_moveChange_64 : decode cX2_moveChange 64 = .ok (.iload 4, 2) := by decide +kernel
theorem dX2_moveChange_66 : decode cX2_moveChange 66 = .ok (.iadd, 1) := by decide +kernel
theorem dX2_moveChange_67 : decode cX2_moveChange 67 = .ok (.iaload, 1) := by decide +kernel
theorem dX2_moveChange_68 : decode cX2_moveChange 68 = .ok (.istore 5, 2) := by decide +kernel
theorem dX2_moveChange_70 : decode cX2_moveChange 70 = .ok (.aload_n 1, 1) := by decide +kernel
theorem dX2_moveChange_71 : decode cX2_moveChange 71 = .ok (.getfield 49, 3) := by decide +kernel
theorem dX2_moveChange_74 : decode cX2_moveChange 74 = .ok (.iload_n 3, 1) := by decide +kernel
theorem dX2_moveChange_75 : decode cX2_moveChange 75 = .ok (.iconst 4, 1) := by decide +kernel
theorem dX2_moveChange_76 : decode cX2_moveChange 76 = .ok (.imul, 1) := by decide +kernel
theorem dX2_moveChange_77 : decode cX2_moveChange 77 = .ok (.iload 4, 2) := by decide +kernel
theorem dX2_moveChange_79 : decode cX2_moveChange 79 = .ok (.iadd, 1) := by decide +kernel
theorem dX2_moveChange_80 : decode cX2_moveChange 80 = .ok (.iload 5, 2) := by decide +kernel
theorem dX2_moveChange_82 : decode cX2_moveChange 82 = .ok (.iconst (-1), 1) := by decide +kernel
theorem dX2_moveChange_83 : decode cX2_moveChange 83 = .ok (.if_icmp .ne 7, 3) := by decide +kernel
theorem dX2_moveChange_86 : decode cX2_moveChange 86 = .ok (.iconst (-1), 1) := by decide +kernel
theorem dX2_moveChange_87 : decode cX2_moveChange 87 = .ok (.goto 10, 3) := by decide +kernel
theorem dX2_moveChange_90 : decode cX2_moveChange 90 = .ok (.aload_n 0, 1) := by decide +kernel
theorem dX2_moveChange_91 : decode cX2_moveChange 91 = .ok (.getfield 15, 3) := by decide +kernel
theorem dX2_moveChange_94 : decode cX2_moveChange 94 = .ok (.iload 5, 2) := by decide +kernel
theorem dX2_moveChange_96 : decode cX2_moveChange 96 = .ok (.iaload, 1) := by decide +kernel
theorem dX2_moveChange_97 : decode cX2_moveChange 97 = .ok (.iastore, 1) := by decide +kernel
theorem dX2_moveChange_98 : decode cX2_moveChange 98 = .ok (.iinc 4 1, 3) := by decide +kernel
theorem dX2_moveChange_101 : decode cX2_moveChange 101 = .ok (.goto (-50), 3) := by decide +kernel
theorem dX2_moveChange_104 : decode cX2_moveChange 104 = .ok (.iload_n 2, 1) := by decide +kernel
theorem dX2_moveChange_105 : decode cX2_moveChange 105 = .ok (.iload_n 3, 1) := by decide +kernel
theorem dX2_moveChange_106 : decode cX2_moveChange 106 = .ok (.if_icmp .eq 24, 3) := by decide +kernel
theorem dX2_moveChange_109 : decode cX2_moveChange 109 = .ok (.aload_n 1, 1) := by decide +kernel
theorem dX2_moveChange_110 : decode cX2_moveChange 110 = .ok (.getfield 72, 3) := by decide +kernel
theorem dX2_moveChange_113 : decode cX2_moveChange 113 = .ok (.iload_n 2, 1) := by decide +kernel
theorem dX2_moveChange_114 : decode cX2_moveChange 114 = .ok (.bipush 16, 2) := by decide +kernel
theorem dX2_moveChange_116 : decode cX2_moveChange 116 = .ok (.imul, 1) := by decide +kernel
theorem dX2_moveChange_117 : decode cX2_moveChange 117 = .ok (.aload_n 1, 1) := by decide +kernel
theorem dX2_moveChange_118 : decode cX2_moveChange 118 = .ok (.getfield 72, 3) := by decide +kernel
theorem dX2_moveChange_121 : decode cX2_moveChange 121 = .ok (.iload_n 3, 1) := by decide +kernel
theorem dX2_moveChange_122 : decode cX2_moveChange 122 = .ok (.bipush 16, 2) := by decide +kernel
theorem dX2_moveChange_124 : decode cX2_moveChange 124 = .ok (.imul, 1) := by decide +kernel
theorem dX2_moveChange_125 : decode cX2_moveChange 125 = .ok (.bipush 16, 2) := by decide +kernel
theorem dX2_moveChange_127 : decode cX2_moveChange 127 = .ok (.invokestatic 62, 3) := by decide +kernel
theorem dX2_moveChange_130 : decode cX2_moveChange 130 = .ok (.return_, 1) := by decide +kernel
theorem dX2_takeDue_0 : decode cX2_takeDue 0 = .ok (.iconst 0, 1) := by decide +kernel
theorem dX2_takeDue_1 : decode cX2_takeDue 1 = .ok (.istore_n 2, 1) := by decide +kernel
theorem dX2_takeDue_2 : decode cX2_takeDue 2 = .ok (.iconst 0, 1) := by decide +kernel
theorem dX2_takeDue_3 : decode cX2_takeDue 3 = .ok (.istore_n 3, 1) := by decide +kernel
theorem dX2_takeDue_4 : decode cX2_takeDue 4 = .ok (.iconst 0, 1) := by decide +kernel
theorem dX2_takeDue_5 : decode cX2_takeDue 5 = .ok (.istore 4, 2) := by decide +kernel
theorem dX2_takeDue_7 : decode cX2_takeDue 7 = .ok (.iload 4, 2) := by decide +kernel
theorem dX2_takeDue_9 : decode cX2_takeDue 9 = .ok (.aload_n 1, 1) := by decide +kernel
theorem dX2_takeDue_10 : decode cX2_takeDue 10 = .ok (.getfield 106, 3) := by decide +kernel
theorem dX2_takeDue_13 : decode cX2_takeDue 13 = .ok (.if_icmp .ge 72, 3) := by decide +kernel
theorem dX2_takeDue_16 : decode cX2_takeDue 16 = .ok (.aload_n 0, 1) := by decide +kernel
theorem dX2_takeDue_17 : decode cX2_takeDue 17 = .ok (.getfield 15, 3) := by decide +kernel
theorem dX2_takeDue_20 : decode cX2_takeDue 20 = .ok (.aload_n 1, 1) := by decide +kernel
theorem dX2_takeDue_21 : decode cX2_takeDue 21 = .ok (.getfield 109, 3) := by decide +kernel
theorem dX2_takeDue_24 : decode cX2_takeDue 24 = .ok (.iload 4, 2) := by decide +kernel
theorem dX2_takeDue_26 : decode cX2_takeDue 26 = .ok (.iaload, 1) := by decide +kernel
theorem dX2_takeDue_27 : decode cX2_takeDue 27 = .ok (.iaload, 1) := by decide +kernel
theorem dX2_takeDue_28 : decode cX2_takeDue 28 = .ok (.istore 5, 2) := by decide +kernel
theorem dX2_takeDue_30 : decode cX2_takeDue 30 = .ok (.iload 5, 2) := by decide +kernel
theorem dX2_takeDue_32 : decode cX2_takeDue 32 = .ok (.iconst (-1), 1) := by decide +kernel
theorem dX2_takeDue_33 : decode cX2_takeDue 33 = .ok (.if_icmp .ne 22, 3) := by decide +kernel
theorem dX2_takeDue_36 : decode cX2_takeDue 36 = .ok (.aload_n 0, 1) := by decide +kernel
theorem dX2_takeDue_37 : decode cX2_takeDue 37 = .ok (.getfield 23, 3) := by decide +kernel
theorem dX2_takeDue_40 : decode cX2_takeDue 40 = .ok (.iload_n 2, 1) := by decide +kernel
theorem dX2_takeDue_41 : decode cX2_takeDue 41 = .ok (.aload_n 1, 1) := by decide +kernel
theorem dX2_takeDue_42 : decode cX2_takeDue 42 = .ok (.getfield 112, 3) := by decide +kernel
theorem dX2_takeDue_45 : decode cX2_takeDue 45 = .ok (.iload 4, 2) := by decide +kernel
theorem dX2_takeDue_47 : decode cX2_takeDue 47 = .ok (.iaload, 1) := by decide +kernel
theorem dX2_takeDue_48 : decode cX2_takeDue 48 = .ok (.iastore, 1) := by decide +kernel
theorem dX2_takeDue_49 : decode cX2_takeDue 49 = .ok (.iinc 2 1, 3) := by decide +kernel
theorem dX2_takeDue_52 : decode cX2_takeDue 52 = .ok (.goto 27, 3) := by decide +kernel
theorem dX2_takeDue_55 : decode cX2_takeDue 55 = .ok (.aload_n 1, 1) := by decide +kernel
theorem dX2_takeDue_56 : decode cX2_takeDue 56 = .ok (.getfield 112, 3) := by decide +kernel
theorem dX2_takeDue_59 : decode cX2_takeDue 59 = .ok (.iload_n 3, 1) := by decide +kernel
theorem dX2_takeDue_60 : decode cX2_takeDue 60 = .ok (.aload_n 1, 1) := by decide +kernel
theorem dX2_takeDue_61 : decode cX2_takeDue 61 = .ok (.getfield 112, 3) := by decide +kernel
theorem dX2_takeDue_64 : decode cX2_takeDue 64 = .ok (.iload 4, 2) := by decide +kernel
theorem dX2_takeDue_66 : decode cX2_takeDue 66 = .ok (.iaload, 1) := by decide +kernel
theorem dX2_takeDue_67 : decode cX2_takeDue 67 = .ok (.iastore, 1) := by decide +kernel
theorem dX2_takeDue_68 : decode cX2_takeDue 68 = .ok (.aload_n 1, 1) := by decide +kernel
theorem dX2_takeDue_69 : decode cX2_takeDue 69 = .ok (.getfield 109, 3) := by decide +kernel
theorem dX2_takeDue_72 : decode cX2_takeDue 72 = .ok (.iload_n 3, 1) := by decide +kernel
theorem dX2_takeDue_73 : decode cX2_takeDue 73 = .ok (.iload 5, 2) := by decide +kernel
theorem dX2_takeDue_75 : decode cX2_takeDue 75 = .ok (.iastore, 1) := by decide +kernel
theorem dX2_takeDue_76 : decode cX2_takeDue 76 = .ok (.iinc 3 1, 3) := by decide +kernel
theorem dX2_takeDue_79 : decode cX2_takeDue 79 = .ok (.iinc 4 1, 3) := by decide +kernel
theorem dX2_takeDue_82 : decode cX2_takeDue 82 = .ok (.goto (-75), 3) := by decide +kernel
theorem dX2_takeDue_85 : decode cX2_takeDue 85 = .ok (.aload_n 1, 1) := by decide +kernel
theorem dX2_takeDue_86 : decode cX2_takeDue 86 = .ok (.iload_n 3, 1) := by decide +kernel
theorem dX2_takeDue_87 : decode cX2_takeDue 87 = .ok (.putfield 106, 3) := by decide +kernel
theorem dX2_takeDue_90 : decode cX2_takeDue 90 = .ok (.iload_n 2, 1) := by decide +kernel
theorem dX2_takeDue_91 : decode cX2_takeDue 91 = .ok (.ireturn, 1) := by decide +kernel
theorem dX2_syncAll_0 : decode cX2_syncAll 0 = .ok (.iconst 0, 1) := by decide +kernel
theorem dX2_syncAll_1 : decode cX2_syncAll 1 = .ok (.istore_n 2, 1) := by decide +kernel
theorem dX2_syncAll_2 : decode cX2_syncAll 2 = .ok (.iconst 0, 1) := by decide +kernel
theorem dX2_syncAll_3 : decode cX2_syncAll 3 = .ok (.istore_n 3, 1) := by decide +kernel
theorem dX2_syncAll_4 : decode cX2_syncAll 4 = .ok (.iload_n 3, 1) := by decide +kernel
theorem dX2_syncAll_5 : decode cX2_syncAll 5 = .ok (.aload_n 1, 1) := by decide +kernel
theorem dX2_syncAll_6 : decode cX2_syncAll 6 = .ok (.getfield 75, 3) := by decide +kernel
theorem dX2_syncAll_9 : decode cX2_syncAll 9 = .ok (.if_icmp .ge 21, 3) := by decide +kernel
theorem dX2_syncAll_12 : decode cX2_syncAll 12 = .ok (.aload_n 0, 1) := by decide +kernel
theorem dX2_syncAll_13 : decode cX2_syncAll 13 = .ok (.aload_n 1, 1) := by decide +kernel
theorem dX2_syncAll_14 : decode cX2_syncAll 14 = .ok (.iload_n 3, 1) := by decide +kernel
theorem dX2_syncAll_15 : decode cX2_syncAll 15 = .ok (.invokevirtual 115, 3) := by decide +kernel
theorem dX2_syncAll_18 : decode cX2_syncAll 18 = .ok (.ifCond .eq 6, 3) := by decide +kernel
theorem dX2_syncAll_21 : decode cX2_syncAll 21 = .ok (.iinc 2 1, 3) := by decide +kernel
theorem dX2_syncAll_24 : decode cX2_syncAll 24 = .ok (.iinc 3 1, 3) := by decide +kernel
theorem dX2_syncAll_27 : decode cX2_syncAll 27 = .ok (.goto (-23), 3) := by decide +kernel
theorem dX2_syncAll_30 : decode cX2_syncAll 30 = .ok (.iload_n 2, 1) := by decide +kernel
theorem dX2_syncAll_31 : decode cX2_syncAll 31 = .ok (.ireturn, 1) := by decide +kernel
theorem dX2_settleAll_0 : decode cX2_settleAll 0 = .ok (.iconst 0, 1) := by decide +kernel
theorem dX2_settleAll_1 : decode cX2_settleAll 1 = .ok (.istore_n 2, 1) := by decide +kernel
theorem dX2_settleAll_2 : decode cX2_settleAll 2 = .ok (.iconst 0, 1) := by decide +kernel
theorem dX2_settleAll_3 : decode cX2_settleAll 3 = .ok (.istore_n 3, 1) := by decide +kernel
theorem dX2_settleAll_4 : decode cX2_settleAll 4 = .ok (.iload_n 3, 1) := by decide +kernel
theorem dX2_settleAll_5 : decode cX2_settleAll 5 = .ok (.sipush 10000, 3) := by decide +kernel
theorem dX2_settleAll_8 : decode cX2_settleAll 8 = .ok (.if_icmp .ge 24, 3) := by decide +kernel
theorem dX2_settleAll_11 : decode cX2_settleAll 11 = .ok (.aload_n 1, 1) := by decide +kernel
theorem dX2_settleAll_12 : decode cX2_settleAll 12 = .ok (.getfield 33, 3) := by decide +kernel
theorem dX2_settleAll_15 : decode cX2_settleAll 15 = .ok (.ifCond .le 17, 3) := by decide +kernel
theorem dX2_settleAll_18 : decode cX2_settleAll 18 = .ok (.iload_n 2, 1) := by decide +kernel
theorem dX2_settleAll_19 : decode cX2_settleAll 19 = .ok (.aload_n 0, 1) := by decide +kernel
theorem dX2_settleAll_20 : decode cX2_settleAll 20 = .ok (.aload_n 1, 1) := by decide +kernel
theorem dX2_settleAll_21 : decode cX2_settleAll 21 = .ok (.invokevirtual 118, 3) := by decide +kernel
theorem dX2_settleAll_24 : decode cX2_settleAll 24 = .ok (.iadd, 1) := by decide +kernel
theorem dX2_settleAll_25 : decode cX2_settleAll 25 = .ok (.istore_n 2, 1) := by decide +kernel
theorem dX2_settleAll_26 : decode cX2_settleAll 26 = .ok (.iinc 3 1, 3) := by decide +kernel
theorem dX2_settleAll_29 : decode cX2_settleAll 29 = .ok (.goto (-25), 3) := by decide +kernel
theorem dX2_settleAll_32 : decode cX2_settleAll 32 = .ok (.iload_n 2, 1) := by decide +kernel
theorem dX2_settleAll_33 : decode cX2_settleAll 33 = .ok (.ireturn, 1) := by decide +kernel
theorem eX2_init {G : GG} {d : Nat} {h : Hp} {o : OU} {h' : Hp} (r0 : Nat) (hd : 1 ≤ d) (T : r0 ≠ 0 ∧ (∀ h2 : Hp, h2 = (nwH h 3 256 256) → kH h2 r0 = 12 ∧ (∀ h5 : Hp, h5 = (sR h2 r0 0 (nH h)) → (∀ h7 : Hp, h7 = (nwH h5 1 256 256) → kH h7 r0 = 12 ∧ (∀ h10 : Hp, h10 = (sR h7 r0 1 (nH h5)) → (∀ h12 : Hp, h12 = (nwH h10 2 16 16) → kH h12 r0 = 12 ∧ (∀ h15 : Hp, h15 = (sR h12 r0 2 (nH h10)) → (∀ h17 : Hp, h17 = (nwH h15 1 64 64) → kH h17 r0 = 12 ∧ (∀ h20 : Hp, h20 = (sR h17 r0 3 (nH h15)) → (o = .inl none ∧ h' = h20)))))))))) : VM G mX2_init d [.ref r0] h o h' := by
  refine V.toM rfl rfl (le_l rfl) (cat_all rfl) ?_
  show V G mX2_init d 0 [.ref r0] [] h o h'
  have hdd : d - 1 + 1 ≤ d := by omega
  refine v_aload_n (pc' := 1) dX2_init_0 rfl rfl ?_
  obtain ⟨q1, T⟩ := T
  refine v_objInit (pc' := 4) dX2_init_1 rfl km_X2_3 kx_oi kx_oc hd (le_l rfl) q1 ?_
  refine v_aload_n (pc' := 5) dX2_init_4 rfl rfl ?_
  refine v_sipush (pc' := 8) (v := 256) dX2_init_5 rfl kS_256 ?_
  refine v_newa (pc' := 10) 3 (N := 256) dX2_init_8 rfl (by decide) rfl ka_boolean (by decide) (by decide) (by decide) ?_
  show V G mX2_init d 10 [.ref r0] [.ref (nH h), .ref r0] (nwH h 3 256 256) o h'
  obtain ⟨h2, e3⟩ : ∃ z : Hp, z = (nwH h 3 256 256) := ⟨_, rfl⟩
  rw [← e3]
  have T := T h2 e3
  obtain ⟨q4, T⟩ := T
  refine v_putF (pc' := 13) 2 0 dX2_init_10 rfl (by decide) (by decide) rfl rfl rfl rfl kf_X2_9 q4 ?_
  show V G mX2_init d 13 [.ref r0] [] (sR h2 r0 0 (nH h)) o h'
  obtain ⟨h5, e6⟩ : ∃ z : Hp, z = (sR h2 r0 0 (nH h)) := ⟨_, rfl⟩
  rw [← e6]
  have T := T h5 e6
  refine v_aload_n (pc' := 14) dX2_init_13 rfl rfl ?_
  refine v_sipush (pc' := 17) (v := 256) dX2_init_14 rfl kS_256 ?_
  refine v_newa (pc' := 19) 1 (N := 256) dX2_init_17 rfl (by decide) rfl ka_int (by decide) (by decide) (by decide) ?_
  show V G mX2_init d 19 [.ref r0] [.ref (nH h5), .ref r0] (nwH h5 1 256 256) o h'
  obtain ⟨h7, e8⟩ : ∃ z : Hp, z = (nwH h5 1 256 256) := ⟨_, rfl⟩
  rw [← e8]
  have T := T h7 e8
  obtain ⟨q9, T⟩ := T
  refine v_putF (pc' := 22) 2 1 dX2_init_19 rfl (by decide) (by decide) rfl rfl rfl rfl kf_X2_15 q9 ?_
  show V G mX2_init d 22 [.ref r0] [] (sR h7 r0 1 (nH h5)) o h'
  obtain ⟨h10, e11⟩ : ∃ z : Hp, z = (sR h7 r0 1 (nH h5)) := ⟨_, rfl⟩
  rw [← e11]
  have T := T h10 e11
  refine v_aload_n (pc' := 23) dX2_init_22 rfl rfl ?_
  refine v_bipush (pc' := 25) (v := 16) dX2_init_23 rfl kB_16 ?_
  refine v_newa (pc' := 27) 2 (N := 16) dX2_init_25 rfl (by decide) rfl ka_byte (by decide) (by decide) (by decide) ?_
  show V G mX2_init d 27 [.ref r0] [.ref (nH h10), .ref r0] (nwH h10 2 16 16) o h'
  obtain ⟨h12, e13⟩ : ∃ z : Hp, z = (nwH h10 2 16 16) := ⟨_, rfl⟩
  rw [← e13]
  have T := T h12 e13
  obtain ⟨q14, T⟩ := T
  refine v_putF (pc' := 30) 2 2 dX2_init_27 rfl (by decide) (by decide) rfl rfl rfl rfl kf_X2_19 q14 ?_
  show V G mX2_init d 30 [.ref r0] [] (sR h12 r0 2 (nH h10)) o h'
  obtain ⟨h15, e16⟩ : ∃ z : Hp, z = (sR h12 r0 2 (nH h10)) := ⟨_, rfl⟩
  rw [← e16]
  have T := T h15 e16
  refine v_aload_n (pc' := 31) dX2_init_30 rfl rfl ?_
  refine v_bipush (pc' := 33) (v := 64) dX2_init_31 rfl kB_64 ?_
  refine v_newa (pc' := 35) 1 (N := 64) dX2_init_33 rfl (by decide) rfl ka_int (by decide) (by decide) (by decide) ?_
  show V G mX2_init d 35 [.ref r0] [.ref (nH h15), .ref r0] (nwH h15 1 64 64) o h'
  obtain ⟨h17, e18⟩ : ∃ z : Hp, z = (nwH h15 1 64 64) := ⟨_, rfl⟩
  rw [← e18]
  have T := T h17 e18
  obtain ⟨q19, T⟩ := T
  refine v_putF (pc' := 38) 2 3 dX2_init_35 rfl (by decide) (by decide) rfl rfl rfl rfl kf_X2_23 q19 ?_
  show V G mX2_init d 38 [.ref r0] [] (sR h17 r0 3 (nH h15)) o h'
  obtain ⟨h20, e21⟩ : ∃ z : Hp, z = (sR h17 r0 3 (nH h15)) := ⟨_, rfl⟩
  rw [← e21]
  have T := T h20 e21
  exact v_vret dX2_init_38 rfl T
theorem eX2_weigh {G : GG} {d : Nat} {h : Hp} {o : OU} {h' : Hp} (r0 : Nat) (r1 : Nat) (x2 : Int32) (T : kH h r0 = 12 ∧ V G mX2_weigh d 15 [.ref r0, .ref r1, .int x2, .int 0, .int 0, uV] [] (h.1, (upI (upI h.2 r0 4 0) r0 5 0)) o h') : VM G mX2_weigh d [.ref r0, .ref r1, .int x2] h o h' := by
  refine V.toM rfl rfl (le_l rfl) (cat_all rfl) ?_
  show V G mX2_weigh d 0 [.ref r0, .ref r1, .int x2, uV, uV, uV] [] h o h'
  refine v_iconst (pc' := 1) (v := 0) dX2_weigh_0 rfl kI_0 ?_
  refine v_istore_n (pc' := 2) (loc' := [.ref r0, .ref r1, .int x2, .int 0, uV, uV]) dX2_weigh_1 rfl (lt_l rfl) rfl ?_
  refine v_aload_n (pc' := 3) dX2_weigh_2 rfl rfl ?_
  refine v_iconst (pc' := 4) (v := 0) dX2_weigh_3 rfl kI_0 ?_
  obtain ⟨q1, T⟩ := T
  refine v_putI (pc' := 7) 2 4 dX2_weigh_4 rfl (by decide) (by decide) rfl rfl kf_X2_26 q1 ?_
  refine v_aload_n (pc' := 8) dX2_weigh_7 rfl rfl ?_
  refine v_iconst (pc' := 9) (v := 0) dX2_weigh_8 rfl kI_0 ?_
  refine v_putI (pc' := 12) 2 5 dX2_weigh_9 rfl (by decide) (by decide) rfl rfl kf_X2_30 q1 ?_
  refine v_iconst (pc' := 13) (v := 0) dX2_weigh_12 rfl kI_0 ?_
  refine v_istore (pc' := 15) (loc' := [.ref r0, .ref r1, .int x2, .int 0, .int 0, uV]) dX2_weigh_13 rfl (lt_l rfl) rfl ?_
  exact T
theorem bX2_weigh_15 {G : GG} {d : Nat} {h : Hp} {o : OU} {h' : Hp} (r0 : Nat) (r1 : Nat) (x2 : Int32) (x3 : Int32) (x4 : Int32) (T : kH h r1 = 15 ∧ (((h.2 r1 2) ≤ x4 → (o = .inl none ∧ h' = h)) ∧ (¬ (h.2 r1 2) ≤ x4 → kH h r0 = 12 ∧ kH h (rH h r0 0) = 3 ∧ vp_in x4 (lH h (rH h r0 0)) ∧ kH h (rH h r1 3) = 1 ∧ vp_in x4 (lH h (rH h r1 3)) ∧ ((¬ ((upI h.2 (rH h r0 0) x4.toNatClampNeg 0) (rH h r1 3) x4.toNatClampNeg) = x2 → V G mX2_weigh d 15 [.ref r0, .ref r1, .int x2, .int x3, .int (x4 + 1), uV] [] (h.1, (upI h.2 (rH h r0 0) x4.toNatClampNeg 0)) o h') ∧ (((upI h.2 (rH h r0 0) x4.toNatClampNeg 0) (rH h r1 3) x4.toNatClampNeg) = x2 → kH h (rH h r1 4) = 1 ∧ vp_in x4 (lH h (rH h r1 4)) ∧ ((¬ ((upI h.2 (rH h r0 0) x4.toNatClampNeg 0) (rH h r1 4) x4.toNatClampNeg) = 16 → V G mX2_weigh d 69 [.ref r0, .ref r1, .int x2, .int x3, .int x4, uV] [.int (1 <<< (((upI h.2 (rH h r0 0) x4.toNatClampNeg 0) (rH h r1 4) x4.toNatClampNeg) &&& 31))] (h.1, (upI h.2 (rH h r0 0) x4.toNatClampNeg 0)) o h') ∧ (((upI h.2 (rH h r0 0) x4.toNatClampNeg 0) (rH h r1 4) x4.toNatClampNeg) = 16 → V G mX2_weigh d 69 [.ref r0, .ref r1, .int x2, .int x3, .int x4, uV] [.int 65535] (h.1, (upI h.2 (rH h r0 0) x4.toNatClampNeg 0)) o h'))))))) : V G mX2_weigh d 15 [.ref r0, .ref r1, .int x2, .int x3, .int x4, uV] [] h o h' := by
  refine v_iload (pc' := 17) dX2_weigh_15 rfl rfl ?_
  refine v_aload_n (pc' := 18) dX2_weigh_17 rfl rfl ?_
  obtain ⟨q1, T⟩ := T
  refine v_getI (pc' := 21) 5 2 dX2_weigh_18 rfl (by decide) (by decide) rfl kf_X2_33 q1 ?_
  refine v_icmp_ge (tgt := 130) (pc' := 24) dX2_weigh_21 (by decide) rfl ⟨fun c2 => ?_, fun c2 => ?_⟩
  · have T := T.1 c2
    exact v_vret dX2_weigh_130 rfl T
  · have T := T.2 c2
    refine v_aload_n (pc' := 25) dX2_weigh_24 rfl rfl ?_
    obtain ⟨q3, T⟩ := T
    refine v_getR (pc' := 28) 2 0 dX2_weigh_25 rfl (by decide) (by decide) rfl kf_X2_9 q3 ?_
    refine v_iload (pc' := 30) dX2_weigh_28 rfl rfl ?_
    refine v_iconst (pc' := 31) (v := 0) dX2_weigh_30 rfl kI_0 ?_
    obtain ⟨q4, T⟩ := T
    obtain ⟨q5, T⟩ := T
    refine v_zast (pc' := 32) dX2_weigh_31 rfl rfl (Or.inl rfl) q4 q5 ?_
    refine v_aload_n (pc' := 33) dX2_weigh_32 rfl rfl ?_
    refine v_getR (pc' := 36) 5 3 dX2_weigh_33 rfl (by decide) (by decide) rfl kf_X2_38 q1 ?_
    refine v_iload (pc' := 38) dX2_weigh_36 rfl rfl ?_
    obtain ⟨q6, T⟩ := T
    obtain ⟨q7, T⟩ := T
    refine v_iald (pc' := 39) dX2_weigh_38 rfl rfl q6 q7 ?_
    refine v_iload_n (pc' := 40) dX2_weigh_39 rfl rfl ?_
    refine v_icmp_ne (tgt := 124) (pc' := 43) dX2_weigh_40 (by decide) rfl ⟨fun c8 => ?_, fun c8 => ?_⟩
    · have T := T.1 c8
      refine v_iinc (pc' := 127) (loc' := [.ref r0, .ref r1, .int x2, .int x3, .int (x4 + 1), uV]) dX2_weigh_124 rfl rfl (kX_1 _) rfl ?_
      refine v_goto (pc' := 15) dX2_weigh_127 (by decide) ?_
      exact T
    · have T := T.2 c8
      refine v_aload_n (pc' := 44) dX2_weigh_43 rfl rfl ?_
      refine v_getR (pc' := 47) 5 4 dX2_weigh_44 rfl (by decide) (by decide) rfl kf_X2_41 q1 ?_
      refine v_iload (pc' := 49) dX2_weigh_47 rfl rfl ?_
      obtain ⟨q9, T⟩ := T
      obtain ⟨q10, T⟩ := T
      refine v_iald (pc' := 50) dX2_weigh_49 rfl rfl q9 q10 ?_
      refine v_bipush (pc' := 52) (v := 16) dX2_weigh_50 rfl kB_16 ?_
      refine v_icmp_ne (tgt := 60) (pc' := 55) dX2_weigh_52 (by decide) rfl ⟨fun c11 => ?_, fun c11 => ?_⟩
      · have T := T.1 c11
        refine v_iconst (pc' := 61) (v := 1) dX2_weigh_60 rfl kI_1 ?_
        refine v_aload_n (pc' := 62) dX2_weigh_61 rfl rfl ?_
        refine v_getR (pc' := 65) 5 4 dX2_weigh_62 rfl (by decide) (by decide) rfl kf_X2_41 q1 ?_
        refine v_iload (pc' := 67) dX2_weigh_65 rfl rfl ?_
        refine v_iald (pc' := 68) dX2_weigh_67 rfl rfl q9 q10 ?_
        refine v_ishl (pc' := 69) dX2_weigh_68 rfl ?_
        exact T
      · have T := T.2 c11
        refine v_ldc (pc' := 57) (v := 65535) dX2_weigh_55 rfl kv_X2_44 ?_
        refine v_goto (pc' := 69) dX2_weigh_57 (by decide) ?_
        exact T
theorem bX2_weigh_69 {G : GG} {d : Nat} {h : Hp} {o : OU} {h' : Hp} (r0 : Nat) (r1 : Nat) (x2 : Int32) (x3 : Int32) (x4 : Int32) (s0 : Int32) (hd : 1 ≤ d) (T : ((¬ (s0 &&& x3) = 0 → kH h r0 = 12 ∧ V G mX2_weigh d 15 [.ref r0, .ref r1, .int x2, .int (x3 ||| s0), .int (x4 + 1), uV] [] (h.1, (upI h.2 r0 5 ((h.2 r0 5) + 1))) o h') ∧ ((s0 &&& x3) = 0 → kH h r0 = 12 ∧ ∃ z4 h3, VM G mX2_needsGo (d - 1) [.ref r0, .ref r1, .int x4] h (.inl (some (.int z4))) h3 ∧ ((z4 = 0 → kH h3 r0 = 12 ∧ V G mX2_weigh d 15 [.ref r0, .ref r1, .int x2, .int (x3 ||| s0), .int (x4 + 1), uV] [] (h3.1, (upI h3.2 r0 5 ((h3.2 r0 5) + 1))) o h') ∧ (¬ z4 = 0 → kH h3 r0 = 12 ∧ kH h3 (rH h3 r0 0) = 3 ∧ vp_in x4 (lH h3 (rH h3 r0 0)) ∧ V G mX2_weigh d 15 [.ref r0, .ref r1, .int x2, .int x3, .int (x4 + 1), uV] [] (h3.1, (upI (upI h3.2 (rH h3 r0 0) x4.toNatClampNeg 1) r0 4 (((upI h3.2 (rH h3 r0 0) x4.toNatClampNeg 1) r0 4) + 1))) o h'))))) : V G mX2_weigh d 69 [.ref r0, .ref r1, .int x2, .int x3, .int x4, uV] [.int s0] h o h' := by
  have hdd : d - 1 + 1 ≤ d := by omega
  refine v_istore (pc' := 71) (loc' := [.ref r0, .ref r1, .int x2, .int x3, .int x4, .int s0]) dX2_weigh_69 rfl (lt_l rfl) rfl ?_
  refine v_iload (pc' := 73) dX2_weigh_71 rfl rfl ?_
  refine v_iload_n (pc' := 74) dX2_weigh_73 rfl rfl ?_
  refine v_iand (pc' := 75) dX2_weigh_74 rfl ?_
  refine v_if_ne (tgt := 109) (pc' := 78) dX2_weigh_75 (by decide) rfl ⟨fun c1 => ?_, fun c1 => ?_⟩
  · have T := T.1 c1
    refine v_iload_n (pc' := 110) dX2_weigh_109 rfl rfl ?_
    refine v_iload (pc' := 112) dX2_weigh_110 rfl rfl ?_
    refine v_ior (pc' := 113) dX2_weigh_112 rfl ?_
    refine v_istore_n (pc' := 114) (loc' := [.ref r0, .ref r1, .int x2, .int (x3 ||| s0), .int x4, .int s0]) dX2_weigh_113 rfl (lt_l rfl) rfl ?_
    refine v_aload_n (pc' := 115) dX2_weigh_114 rfl rfl ?_
    refine v_dup (pc' := 116) dX2_weigh_115 rfl rfl ?_
    obtain ⟨q2, T⟩ := T
    refine v_getI (pc' := 119) 2 5 dX2_weigh_116 rfl (by decide) (by decide) rfl kf_X2_30 q2 ?_
    refine v_iconst (pc' := 120) (v := 1) dX2_weigh_119 rfl kI_1 ?_
    refine v_iadd (pc' := 121) dX2_weigh_120 rfl ?_
    refine v_putI (pc' := 124) 2 5 dX2_weigh_121 rfl (by decide) (by decide) rfl rfl kf_X2_30 q2 ?_
    refine v_iinc (pc' := 127) (loc' := [.ref r0, .ref r1, .int x2, .int (x3 ||| s0), .int (x4 + 1), .int s0]) dX2_weigh_124 rfl rfl (kX_1 _) rfl ?_
    refine v_goto (pc' := 15) dX2_weigh_127 (by decide) ?_
    exact V.drop (llp_r (llp_r (llp_r (llp_r (llp_r (llp_u llp_nil)))))) T
  · have T := T.2 c1
    refine v_aload_n (pc' := 79) dX2_weigh_78 rfl rfl ?_
    refine v_aload_n (pc' := 80) dX2_weigh_79 rfl rfl ?_
    refine v_iload (pc' := 82) dX2_weigh_80 rfl rfl ?_
    obtain ⟨q6, T⟩ := T
    obtain ⟨z4, h3, k5, T⟩ := T
    refine v_callV (pc' := 85) (M1 := mX2_needsGo) (as := [.ref r1, .int x4]) (r := r0) (rest := []) 2 dX2_weigh_82 rfl ko_X2_45 kc_X2_needsGo ki_X2_needsGo ks_X2_needsGo (by decide) (by decide) hdd rfl rfl (le_l rfl) q6 k5 ?_
    refine v_if_eq (tgt := 109) (pc' := 88) dX2_weigh_85 (by decide) rfl ⟨fun c7 => ?_, fun c7 => ?_⟩
    · have T := T.1 c7
      refine v_iload_n (pc' := 110) dX2_weigh_109 rfl rfl ?_
      refine v_iload (pc' := 112) dX2_weigh_110 rfl rfl ?_
      refine v_ior (pc' := 113) dX2_weigh_112 rfl ?_
      refine v_istore_n (pc' := 114) (loc' := [.ref r0, .ref r1, .int x2, .int (x3 ||| s0), .int x4, .int s0]) dX2_weigh_113 rfl (lt_l rfl) rfl ?_
      refine v_aload_n (pc' := 115) dX2_weigh_114 rfl rfl ?_
      refine v_dup (pc' := 116) dX2_weigh_115 rfl rfl ?_
      obtain ⟨q8, T⟩ := T
      refine v_getI (pc' := 119) 2 5 dX2_weigh_116 rfl (by decide) (by decide) rfl kf_X2_30 q8 ?_
      refine v_iconst (pc' := 120) (v := 1) dX2_weigh_119 rfl kI_1 ?_
      refine v_iadd (pc' := 121) dX2_weigh_120 rfl ?_
      refine v_putI (pc' := 124) 2 5 dX2_weigh_121 rfl (by decide) (by decide) rfl rfl kf_X2_30 q8 ?_
      refine v_iinc (pc' := 127) (loc' := [.ref r0, .ref r1, .int x2, .int (x3 ||| s0), .int (x4 + 1), .int s0]) dX2_weigh_124 rfl rfl (kX_1 _) rfl ?_
      refine v_goto (pc' := 15) dX2_weigh_127 (by decide) ?_
      exact V.drop (llp_r (llp_r (llp_r (llp_r (llp_r (llp_u llp_nil)))))) T
    · have T := T.2 c7
      refine v_aload_n (pc' := 89) dX2_weigh_88 rfl rfl ?_
      obtain ⟨q9, T⟩ := T
      refine v_getR (pc' := 92) 2 0 dX2_weigh_89 rfl (by decide) (by decide) rfl kf_X2_9 q9 ?_
      refine v_iload (pc' := 94) dX2_weigh_92 rfl rfl ?_
      refine v_iconst (pc' := 95) (v := 1) dX2_weigh_94 rfl kI_1 ?_
      obtain ⟨q10, T⟩ := T
      obtain ⟨q11, T⟩ := T
      refine v_zast (pc' := 96) dX2_weigh_95 rfl rfl (Or.inr rfl) q10 q11 ?_
      refine v_aload_n (pc' := 97) dX2_weigh_96 rfl rfl ?_
      refine v_dup (pc' := 98) dX2_weigh_97 rfl rfl ?_
      refine v_getI (pc' := 101) 2 4 dX2_weigh_98 rfl (by decide) (by decide) rfl kf_X2_26 q9 ?_
      refine v_iconst (pc' := 102) (v := 1) dX2_weigh_101 rfl kI_1 ?_
      refine v_iadd (pc' := 103) dX2_weigh_102 rfl ?_
      refine v_putI (pc' := 106) 2 4 dX2_weigh_103 rfl (by decide) (by decide) rfl rfl kf_X2_26 q9 ?_
      refine v_goto (pc' := 124) dX2_weigh_106 (by decide) ?_
      refine v_iinc (pc' := 127) (loc' := [.ref r0, .ref r1, .int x2, .int x3, .int (x4 + 1), .int s0]) dX2_weigh_124 rfl rfl (kX_1 _) rfl ?_
      refine v_goto (pc' := 15) dX2_weigh_127 (by decide) ?_
      exact V.drop (llp_r (llp_r (llp_r (llp_r (llp_r (llp_u llp_nil)))))) T
theorem eX2_needsGo {G : GG} {d : Nat} {h : Hp} {o : OU} {h' : Hp} (r0 : Nat) (r1 : Nat) (x2 : Int32) (T : V G mX2_needsGo d 4 [.ref r0, .ref r1, .int x2, .int (x2 * 4), uV] [] h o h') : VM G mX2_needsGo d [.ref r0, .ref r1, .int x2] h o h' := by
  refine V.toM rfl rfl (le_l rfl) (cat_all rfl) ?_
  show V G mX2_needsGo d 0 [.ref r0, .ref r1, .int x2, uV, uV] [] h o h'
  refine v_iload_n (pc' := 1) dX2_needsGo_0 rfl rfl ?_
  refine v_iconst (pc' := 2) (v := 4) dX2_needsGo_1 rfl kI_4 ?_
  refine v_imul (pc' := 3) dX2_needsGo_2 rfl ?_
  refine v_istore_n (pc' := 4) (loc' := [.ref r0, .ref r1, .int x2, .int (x2 * 4), uV]) dX2_needsGo_3 rfl (lt_l rfl) rfl ?_
  exact T
theorem bX2_needsGo_4 {G : GG} {d : Nat} {h : Hp} {o : OU} {h' : Hp} (r0 : Nat) (r1 : Nat) (x2 : Int32) (x3 : Int32) (T : ((((x2 + 1) * 4) ≤ x3 → V G mX2_needsGo d 47 [.ref r0, .ref r1, .int x2, .int 0, uV] [] h o h') ∧ (¬ ((x2 + 1) * 4) ≤ x3 → kH h r1 = 15 ∧ kH h (rH h r1 7) = 1 ∧ vp_in x3 (lH h (rH h r1 7)) ∧ (((h.2 (rH h r1 7) x3.toNatClampNeg) = (-1) → V G mX2_needsGo d 4 [.ref r0, .ref r1, .int x2, .int (x3 + 1), uV] [] h o h') ∧ (¬ (h.2 (rH h r1 7) x3.toNatClampNeg) = (-1) → kH h r0 = 12 ∧ kH h (rH h r0 0) = 3 ∧ vp_in (h.2 (rH h r1 7) x3.toNatClampNeg) (lH h (rH h r0 0)) ∧ ((¬ (h.2 (rH h r0 0) (h.2 (rH h r1 7) x3.toNatClampNeg).toNatClampNeg) = 0 → V G mX2_needsGo d 4 [.ref r0, .ref r1, .int x2, .int (x3 + 1), uV] [] h o h') ∧ ((h.2 (rH h r0 0) (h.2 (rH h r1 7) x3.toNatClampNeg).toNatClampNeg) = 0 → (o = .inl (some (.int 0)) ∧ h' = h)))))))) : V G mX2_needsGo d 4 [.ref r0, .ref r1, .int x2, .int x3, uV] [] h o h' := by
  refine v_iload_n (pc' := 5) dX2_needsGo_4 rfl rfl ?_
  refine v_iload_n (pc' := 6) dX2_needsGo_5 rfl rfl ?_
  refine v_iconst (pc' := 7) (v := 1) dX2_needsGo_6 rfl kI_1 ?_
  refine v_iadd (pc' := 8) dX2_needsGo_7 rfl ?_
  refine v_iconst (pc' := 9) (v := 4) dX2_needsGo_8 rfl kI_4 ?_
  refine v_imul (pc' := 10) dX2_needsGo_9 rfl ?_
  refine v_icmp_ge (tgt := 45) (pc' := 13) dX2_needsGo_10 (by decide) rfl ⟨fun c1 => ?_, fun c1 => ?_⟩
  · have T := T.1 c1
    refine v_iconst (pc' := 46) (v := 0) dX2_needsGo_45 rfl kI_0 ?_
    refine v_istore_n (pc' := 47) (loc' := [.ref r0, .ref r1, .int x2, .int 0, uV]) dX2_needsGo_46 rfl (lt_l rfl) rfl ?_
    exact T
  · have T := T.2 c1
    refine v_aload_n (pc' := 14) dX2_needsGo_13 rfl rfl ?_
    obtain ⟨q2, T⟩ := T
    refine v_getR (pc' := 17) 5 7 dX2_needsGo_14 rfl (by decide) (by decide) rfl kf_X2_49 q2 ?_
    refine v_iload_n (pc' := 18) dX2_needsGo_17 rfl rfl ?_
    obtain ⟨q3, T⟩ := T
    obtain ⟨q4, T⟩ := T
    refine v_iald (pc' := 19) dX2_needsGo_18 rfl rfl q3 q4 ?_
    refine v_istore (pc' := 21) (loc' := [.ref r0, .ref r1, .int x2, .int x3, .int (h.2 (rH h r1 7) x3.toNatClampNeg)]) dX2_needsGo_19 rfl (lt_l rfl) rfl ?_
    refine v_iload (pc' := 23) dX2_needsGo_21 rfl rfl ?_
    refine v_iconst (pc' := 24) (v := (-1)) dX2_needsGo_23 rfl kI_m1 ?_
    refine v_icmp_eq (tgt := 39) (pc' := 27) dX2_needsGo_24 (by decide) rfl ⟨fun c5 => ?_, fun c5 => ?_⟩
    · have T := T.1 c5
      refine v_iinc (pc' := 42) (loc' := [.ref r0, .ref r1, .int x2, .int (x3 + 1), .int (h.2 (rH h r1 7) x3.toNatClampNeg)]) dX2_needsGo_39 rfl rfl (kX_1 _) rfl ?_
      refine v_goto (pc' := 4) dX2_needsGo_42 (by decide) ?_
      exact V.drop (llp_r (llp_r (llp_r (llp_r (llp_u llp_nil))))) T
    · have T := T.2 c5
      refine v_aload_n (pc' := 28) dX2_needsGo_27 rfl rfl ?_
      obtain ⟨q6, T⟩ := T
      refine v_getR (pc' := 31) 2 0 dX2_needsGo_28 rfl (by decide) (by decide) rfl kf_X2_9 q6 ?_
      refine v_iload (pc' := 33) dX2_needsGo_31 rfl rfl ?_
      obtain ⟨q7, T⟩ := T
      obtain ⟨q8, T⟩ := T
      refine v_zald (pc' := 34) dX2_needsGo_33 rfl rfl q7 q8 ?_
      refine v_if_ne (tgt := 39) (pc' := 37) dX2_needsGo_34 (by decide) rfl ⟨fun c9 => ?_, fun c9 => ?_⟩
      · have T := T.1 c9
        refine v_iinc (pc' := 42) (loc' := [.ref r0, .ref r1, .int x2, .int (x3 + 1), .int (h.2 (rH h r1 7) x3.toNatClampNeg)]) dX2_needsGo_39 rfl rfl (kX_1 _) rfl ?_
        refine v_goto (pc' := 4) dX2_needsGo_42 (by decide) ?_
        exact V.drop (llp_r (llp_r (llp_r (llp_r (llp_u llp_nil))))) T
      · have T := T.2 c9
        refine v_iconst (pc' := 38) (v := 0) dX2_needsGo_37 rfl kI_0 ?_
        exact v_zret dX2_needsGo_38 rfl (Or.inl rfl) T
theorem bX2_needsGo_47 {G : GG} {d : Nat} {h : Hp} {o : OU} {h' : Hp} (r0 : Nat) (r1 : Nat) (x2 : Int32) (x3 : Int32) (T : kH h r1 = 15 ∧ kH h (rH h r1 8) = 1 ∧ vp_in x2 (lH h (rH h r1 8)) ∧ (((h.2 (rH h r1 8) x2.toNatClampNeg) = (-1) → (o = .inl (some (.int 1)) ∧ h' = h)) ∧ (¬ (h.2 (rH h r1 8) x2.toNatClampNeg) = (-1) → ((x2 ≤ x3 → (o = .inl (some (.int 1)) ∧ h' = h)) ∧ (¬ x2 ≤ x3 → kH h (rH h r1 3) = 1 ∧ vp_in x3 (lH h (rH h r1 3)) ∧ ((¬ (h.2 (rH h r1 3) x3.toNatClampNeg) = (h.2 (rH h r1 8) x2.toNatClampNeg) → V G mX2_needsGo d 47 [.ref r0, .ref r1, .int x2, .int (x3 + 1), uV] [] h o h') ∧ ((h.2 (rH h r1 3) x3.toNatClampNeg) = (h.2 (rH h r1 8) x2.toNatClampNeg) → kH h r0 = 12 ∧ kH h (rH h r0 0) = 3 ∧ vp_in x3 (lH h (rH h r0 0)) ∧ ((¬ (h.2 (rH h r0 0) x3.toNatClampNeg) = 0 → V G mX2_needsGo d 47 [.ref r0, .ref r1, .int x2, .int (x3 + 1), uV] [] h o h') ∧ ((h.2 (rH h r0 0) x3.toNatClampNeg) = 0 → (o = .inl (some (.int 0)) ∧ h' = h)))))))))) : V G mX2_needsGo d 47 [.ref r0, .ref r1, .int x2, .int x3, uV] [] h o h' := by
  refine v_aload_n (pc' := 48) dX2_needsGo_47 rfl rfl ?_
  obtain ⟨q1, T⟩ := T
  refine v_getR (pc' := 51) 5 8 dX2_needsGo_48 rfl (by decide) (by decide) rfl kf_X2_52 q1 ?_
  refine v_iload_n (pc' := 52) dX2_needsGo_51 rfl rfl ?_
  obtain ⟨q2, T⟩ := T
  obtain ⟨q3, T⟩ := T
  refine v_iald (pc' := 53) dX2_needsGo_52 rfl rfl q2 q3 ?_
  refine v_iconst (pc' := 54) (v := (-1)) dX2_needsGo_53 rfl kI_m1 ?_
  refine v_icmp_eq (tgt := 94) (pc' := 57) dX2_needsGo_54 (by decide) rfl ⟨fun c4 => ?_, fun c4 => ?_⟩
  · have T := T.1 c4
    refine v_iconst (pc' := 95) (v := 1) dX2_needsGo_94 rfl kI_1 ?_
    exact v_zret dX2_needsGo_95 rfl (Or.inr rfl) T
  · have T := T.2 c4
    refine v_iload_n (pc' := 58) dX2_needsGo_57 rfl rfl ?_
    refine v_iload_n (pc' := 59) dX2_needsGo_58 rfl rfl ?_
    refine v_icmp_ge (tgt := 94) (pc' := 62) dX2_needsGo_59 (by decide) rfl ⟨fun c5 => ?_, fun c5 => ?_⟩
    · have T := T.1 c5
      refine v_iconst (pc' := 95) (v := 1) dX2_needsGo_94 rfl kI_1 ?_
      exact v_zret dX2_needsGo_95 rfl (Or.inr rfl) T
    · have T := T.2 c5
      refine v_aload_n (pc' := 63) dX2_needsGo_62 rfl rfl ?_
      refine v_getR (pc' := 66) 5 3 dX2_needsGo_63 rfl (by decide) (by decide) rfl kf_X2_38 q1 ?_
      refine v_iload_n (pc' := 67) dX2_needsGo_66 rfl rfl ?_
      obtain ⟨q6, T⟩ := T
      obtain ⟨q7, T⟩ := T
      refine v_iald (pc' := 68) dX2_needsGo_67 rfl rfl q6 q7 ?_
      refine v_aload_n (pc' := 69) dX2_needsGo_68 rfl rfl ?_
      refine v_getR (pc' := 72) 5 8 dX2_needsGo_69 rfl (by decide) (by decide) rfl kf_X2_52 q1 ?_
      refine v_iload_n (pc' := 73) dX2_needsGo_72 rfl rfl ?_
      refine v_iald (pc' := 74) dX2_needsGo_73 rfl rfl q2 q3 ?_
      refine v_icmp_ne (tgt := 88) (pc' := 77) dX2_needsGo_74 (by decide) rfl ⟨fun c8 => ?_, fun c8 => ?_⟩
      · have T := T.1 c8
        refine v_iinc (pc' := 91) (loc' := [.ref r0, .ref r1, .int x2, .int (x3 + 1), uV]) dX2_needsGo_88 rfl rfl (kX_1 _) rfl ?_
        refine v_goto (pc' := 47) dX2_needsGo_91 (by decide) ?_
        exact T
      · have T := T.2 c8
        refine v_aload_n (pc' := 78) dX2_needsGo_77 rfl rfl ?_
        obtain ⟨q9, T⟩ := T
        refine v_getR (pc' := 81) 2 0 dX2_needsGo_78 rfl (by decide) (by decide) rfl kf_X2_9 q9 ?_
        refine v_iload_n (pc' := 82) dX2_needsGo_81 rfl rfl ?_
        obtain ⟨q10, T⟩ := T
        obtain ⟨q11, T⟩ := T
        refine v_zald (pc' := 83) dX2_needsGo_82 rfl rfl q10 q11 ?_
        refine v_if_ne (tgt := 88) (pc' := 86) dX2_needsGo_83 (by decide) rfl ⟨fun c12 => ?_, fun c12 => ?_⟩
        · have T := T.1 c12
          refine v_iinc (pc' := 91) (loc' := [.ref r0, .ref r1, .int x2, .int (x3 + 1), uV]) dX2_needsGo_88 rfl rfl (kX_1 _) rfl ?_
          refine v_goto (pc' := 47) dX2_needsGo_91 (by decide) ?_
          exact T
        · have T := T.2 c12
          refine v_iconst (pc' := 87) (v := 0) dX2_needsGo_86 rfl kI_0 ?_
          exact v_zret dX2_needsGo_87 rfl (Or.inl rfl) T
theorem eX2_draft {G : GG} {d : Nat} {h : Hp} {o : OU} {h' : Hp} (r0 : Nat) (r1 : Nat) (x2 : Int32) (hd : 1 ≤ d) (T : kH h r0 = 12 ∧ ∃ h1, VM G mX2_weigh (d - 1) [.ref r0, .ref r1, .int x2] h (.inl none) h1 ∧ kH h1 r1 = 15 ∧ kH h1 r0 = 12 ∧ kH h1 (rH h1 r1 1) = 2 ∧ kH h1 (rH h1 r0 2) = 2 ∧ ¬ (x2 * 16) < 0 ∧ (x2 * 16).toNatClampNeg + 16 ≤ lH h1 (rH h1 r1 1) ∧ 0 + 16 ≤ lH h1 (rH h1 r0 2) ∧ V G mX2_draft d 31 [.ref r0, .ref r1, .int x2, .int (((cpI h1.2 (rH h1 r1 1) (rH h1 r0 2) (x2 * 16).toNatClampNeg 0 16) r1 2) - 1), uV, uV] [] (h1.1, (cpI h1.2 (rH h1 r1 1) (rH h1 r0 2) (x2 * 16).toNatClampNeg 0 16)) o h') : VM G mX2_draft d [.ref r0, .ref r1, .int x2] h o h' := by
  refine V.toM rfl rfl (le_l rfl) (cat_all rfl) ?_
  show V G mX2_draft d 0 [.ref r0, .ref r1, .int x2, uV, uV, uV] [] h o h'
  have hdd : d - 1 + 1 ≤ d := by omega
  refine v_aload_n (pc' := 1) dX2_draft_0 rfl rfl ?_
  refine v_aload_n (pc' := 2) dX2_draft_1 rfl rfl ?_
  refine v_iload_n (pc' := 3) dX2_draft_2 rfl rfl ?_
  obtain ⟨q3, T⟩ := T
  obtain ⟨h1, k2, T⟩ := T
  refine v_callV (pc' := 6) (M1 := mX2_weigh) (as := [.ref r1, .int x2]) (r := r0) (rest := []) 2 dX2_draft_3 rfl ko_X2_55 kc_X2_weigh ki_X2_weigh ks_X2_weigh (by decide) (by decide) hdd rfl rfl (le_l rfl) q3 k2 ?_
  refine v_aload_n (pc' := 7) dX2_draft_6 rfl rfl ?_
  obtain ⟨q4, T⟩ := T
  refine v_getR (pc' := 10) 5 1 dX2_draft_7 rfl (by decide) (by decide) rfl kf_X2_59 q4 ?_
  refine v_iload_n (pc' := 11) dX2_draft_10 rfl rfl ?_
  refine v_bipush (pc' := 13) (v := 16) dX2_draft_11 rfl kB_16 ?_
  refine v_imul (pc' := 14) dX2_draft_13 rfl ?_
  refine v_aload_n (pc' := 15) dX2_draft_14 rfl rfl ?_
  obtain ⟨q5, T⟩ := T
  refine v_getR (pc' := 18) 2 2 dX2_draft_15 rfl (by decide) (by decide) rfl kf_X2_19 q5 ?_
  refine v_iconst (pc' := 19) (v := 0) dX2_draft_18 rfl kI_0 ?_
  refine v_bipush (pc' := 21) (v := 16) dX2_draft_19 rfl kB_16 ?_
  obtain ⟨q6, T⟩ := T
  obtain ⟨q7, T⟩ := T
  obtain ⟨q8, T⟩ := T
  obtain ⟨q9, T⟩ := T
  obtain ⟨q10, T⟩ := T
  refine v_copy (pc' := 24) 2 dX2_draft_21 rfl km_X2_62 kx_acn kx_acs kx_aci hd (le_l rfl) (by decide) q6 q7 rfl kN_0 kN_16 q8 (by decide) (by decide) q9 q10 ?_
  refine v_aload_n (pc' := 25) dX2_draft_24 rfl rfl ?_
  refine v_getI (pc' := 28) 5 2 dX2_draft_25 rfl (by decide) (by decide) rfl kf_X2_33 q4 ?_
  refine v_iconst (pc' := 29) (v := 1) dX2_draft_28 rfl kI_1 ?_
  refine v_isub (pc' := 30) dX2_draft_29 rfl ?_
  refine v_istore_n (pc' := 31) (loc' := [.ref r0, .ref r1, .int x2, .int (((cpI h1.2 (rH h1 r1 1) (rH h1 r0 2) (x2 * 16).toNatClampNeg 0 16) r1 2) - 1), uV, uV]) dX2_draft_30 rfl (lt_l rfl) rfl ?_
  exact T
theorem bX2_draft_31 {G : GG} {d : Nat} {h : Hp} {o : OU} {h' : Hp} (r0 : Nat) (r1 : Nat) (x2 : Int32) (x3 : Int32) (hd : 1 ≤ d) (T : kH h r0 = 12 ∧ (((h.2 r0 5) ≤ 0 → (o = .inl none ∧ h' = h)) ∧ (¬ (h.2 r0 5) ≤ 0 → ((x3 < 0 → (o = .inl none ∧ h' = h)) ∧ (¬ x3 < 0 → kH h r1 = 15 ∧ kH h (rH h r1 3) = 1 ∧ vp_in x3 (lH h (rH h r1 3)) ∧ ((¬ (h.2 (rH h r1 3) x3.toNatClampNeg) = x2 → V G mX2_draft d 31 [.ref r0, .ref r1, .int x2, .int (x3 + (-1)), uV, uV] [] h o h') ∧ ((h.2 (rH h r1 3) x3.toNatClampNeg) = x2 → kH h (rH h r0 0) = 3 ∧ vp_in x3 (lH h (rH h r0 0)) ∧ ((¬ (h.2 (rH h r0 0) x3.toNatClampNeg) = 0 → V G mX2_draft d 31 [.ref r0, .ref r1, .int x2, .int (x3 + (-1)), uV, uV] [] h o h') ∧ ((h.2 (rH h r0 0) x3.toNatClampNeg) = 0 → ∃ z12 h11, VM G mX5_firstPlace (d - 1) [.ref r1, .int x3] h (.inl (some (.int z12))) h11 ∧ kH h11 r1 = 15 ∧ kH h11 (rH h11 r1 4) = 1 ∧ vp_in x3 (lH h11 (rH h11 r1 4)) ∧ ((¬ (h11.2 (rH h11 r1 4) x3.toNatClampNeg) = 16 → kH h11 r0 = 12 ∧ kH h11 (rH h11 r1 6) = 2 ∧ kH h11 (rH h11 r0 2) = 2 ∧ ¬ ((x3 * 16) + z12) < 0 ∧ ¬ z12 < 0 ∧ ((x3 * 16) + z12).toNatClampNeg + 1 ≤ lH h11 (rH h11 r1 6) ∧ z12.toNatClampNeg + 1 ≤ lH h11 (rH h11 r0 2) ∧ V G mX2_draft d 31 [.ref r0, .ref r1, .int x2, .int (x3 + (-1)), uV, uV] [] (h11.1, (cpI h11.2 (rH h11 r1 6) (rH h11 r0 2) ((x3 * 16) + z12).toNatClampNeg z12.toNatClampNeg 1)) o h') ∧ ((h11.2 (rH h11 r1 4) x3.toNatClampNeg) = 16 → kH h11 r0 = 12 ∧ kH h11 (rH h11 r1 6) = 2 ∧ kH h11 (rH h11 r0 2) = 2 ∧ ¬ ((x3 * 16) + z12) < 0 ∧ ¬ z12 < 0 ∧ ((x3 * 16) + z12).toNatClampNeg + 16 ≤ lH h11 (rH h11 r1 6) ∧ z12.toNatClampNeg + 16 ≤ lH h11 (rH h11 r0 2) ∧ V G mX2_draft d 31 [.ref r0, .ref r1, .int x2, .int (x3 + (-1)), uV, uV] [] (h11.1, (cpI h11.2 (rH h11 r1 6) (rH h11 r0 2) ((x3 * 16) + z12).toNatClampNeg z12.toNatClampNeg 16)) o h'))))))))))) : V G mX2_draft d 31 [.ref r0, .ref r1, .int x2, .int x3, uV, uV] [] h o h' := by
  have hdd : d - 1 + 1 ≤ d := by omega
  refine v_aload_n (pc' := 32) dX2_draft_31 rfl rfl ?_
  obtain ⟨q1, T⟩ := T
  refine v_getI (pc' := 35) 2 5 dX2_draft_32 rfl (by decide) (by decide) rfl kf_X2_30 q1 ?_
  refine v_if_le (tgt := 115) (pc' := 38) dX2_draft_35 (by decide) rfl ⟨fun c2 => ?_, fun c2 => ?_⟩
  · have T := T.1 c2
    exact v_vret dX2_draft_115 rfl T
  · have T := T.2 c2
    refine v_iload_n (pc' := 39) dX2_draft_38 rfl rfl ?_
    refine v_if_lt (tgt := 115) (pc' := 42) dX2_draft_39 (by decide) rfl ⟨fun c3 => ?_, fun c3 => ?_⟩
    · have T := T.1 c3
      exact v_vret dX2_draft_115 rfl T
    · have T := T.2 c3
      refine v_aload_n (pc' := 43) dX2_draft_42 rfl rfl ?_
      obtain ⟨q4, T⟩ := T
      refine v_getR (pc' := 46) 5 3 dX2_draft_43 rfl (by decide) (by decide) rfl kf_X2_38 q4 ?_
      refine v_iload_n (pc' := 47) dX2_draft_46 rfl rfl ?_
      obtain ⟨q5, T⟩ := T
      obtain ⟨q6, T⟩ := T
      refine v_iald (pc' := 48) dX2_draft_47 rfl rfl q5 q6 ?_
      refine v_iload_n (pc' := 49) dX2_draft_48 rfl rfl ?_
      refine v_icmp_ne (tgt := 109) (pc' := 52) dX2_draft_49 (by decide) rfl ⟨fun c7 => ?_, fun c7 => ?_⟩
      · have T := T.1 c7
        refine v_iinc (pc' := 112) (loc' := [.ref r0, .ref r1, .int x2, .int (x3 + (-1)), uV, uV]) dX2_draft_109 rfl rfl (kX_m1 _) rfl ?_
        refine v_goto (pc' := 31) dX2_draft_112 (by decide) ?_
        exact T
      · have T := T.2 c7
        refine v_aload_n (pc' := 53) dX2_draft_52 rfl rfl ?_
        refine v_getR (pc' := 56) 2 0 dX2_draft_53 rfl (by decide) (by decide) rfl kf_X2_9 q1 ?_
        refine v_iload_n (pc' := 57) dX2_draft_56 rfl rfl ?_
        obtain ⟨q8, T⟩ := T
        obtain ⟨q9, T⟩ := T
        refine v_zald (pc' := 58) dX2_draft_57 rfl rfl q8 q9 ?_
        refine v_if_ne (tgt := 109) (pc' := 61) dX2_draft_58 (by decide) rfl ⟨fun c10 => ?_, fun c10 => ?_⟩
        · have T := T.1 c10
          refine v_iinc (pc' := 112) (loc' := [.ref r0, .ref r1, .int x2, .int (x3 + (-1)), uV, uV]) dX2_draft_109 rfl rfl (kX_m1 _) rfl ?_
          refine v_goto (pc' := 31) dX2_draft_112 (by decide) ?_
          exact T
        · have T := T.2 c10
          refine v_aload_n (pc' := 62) dX2_draft_61 rfl rfl ?_
          refine v_iload_n (pc' := 63) dX2_draft_62 rfl rfl ?_
          obtain ⟨z12, h11, k13, T⟩ := T
          refine v_callV (pc' := 66) (M1 := mX5_firstPlace) (as := [.int x3]) (r := r1) (rest := []) 5 dX2_draft_63 rfl ko_X2_68 kc_X5_firstPlace ki_X5_firstPlace ks_X5_firstPlace (by decide) (by decide) hdd rfl rfl (le_l rfl) q4 k13 ?_
          refine v_istore (pc' := 68) (loc' := [.ref r0, .ref r1, .int x2, .int x3, .int z12, uV]) dX2_draft_66 rfl (lt_l rfl) rfl ?_
          refine v_aload_n (pc' := 69) dX2_draft_68 rfl rfl ?_
          obtain ⟨q14, T⟩ := T
          refine v_getR (pc' := 72) 5 4 dX2_draft_69 rfl (by decide) (by decide) rfl kf_X2_41 q14 ?_
          refine v_iload_n (pc' := 73) dX2_draft_72 rfl rfl ?_
          obtain ⟨q15, T⟩ := T
          obtain ⟨q16, T⟩ := T
          refine v_iald (pc' := 74) dX2_draft_73 rfl rfl q15 q16 ?_
          refine v_bipush (pc' := 76) (v := 16) dX2_draft_74 rfl kB_16 ?_
          refine v_icmp_ne (tgt := 84) (pc' := 79) dX2_draft_76 (by decide) rfl ⟨fun c17 => ?_, fun c17 => ?_⟩
          · have T := T.1 c17
            refine v_iconst (pc' := 85) (v := 1) dX2_draft_84 rfl kI_1 ?_
            refine v_istore (pc' := 87) (loc' := [.ref r0, .ref r1, .int x2, .int x3, .int z12, .int 1]) dX2_draft_85 rfl (lt_l rfl) rfl ?_
            refine v_aload_n (pc' := 88) dX2_draft_87 rfl rfl ?_
            refine v_getR (pc' := 91) 5 6 dX2_draft_88 rfl (by decide) (by decide) rfl kf_X2_72 q14 ?_
            refine v_iload_n (pc' := 92) dX2_draft_91 rfl rfl ?_
            refine v_bipush (pc' := 94) (v := 16) dX2_draft_92 rfl kB_16 ?_
            refine v_imul (pc' := 95) dX2_draft_94 rfl ?_
            refine v_iload (pc' := 97) dX2_draft_95 rfl rfl ?_
            refine v_iadd (pc' := 98) dX2_draft_97 rfl ?_
            refine v_aload_n (pc' := 99) dX2_draft_98 rfl rfl ?_
            obtain ⟨q18, T⟩ := T
            refine v_getR (pc' := 102) 2 2 dX2_draft_99 rfl (by decide) (by decide) rfl kf_X2_19 q18 ?_
            refine v_iload (pc' := 104) dX2_draft_102 rfl rfl ?_
            refine v_iload (pc' := 106) dX2_draft_104 rfl rfl ?_
            obtain ⟨q19, T⟩ := T
            obtain ⟨q20, T⟩ := T
            obtain ⟨q21, T⟩ := T
            obtain ⟨q22, T⟩ := T
            obtain ⟨q23, T⟩ := T
            obtain ⟨q24, T⟩ := T
            refine v_copy (pc' := 109) 2 dX2_draft_106 rfl km_X2_62 kx_acn kx_acs kx_aci hd (le_l rfl) (by decide) q19 q20 rfl rfl kN_1 q21 q22 (by decide) q23 q24 ?_
            refine v_iinc (pc' := 112) (loc' := [.ref r0, .ref r1, .int x2, .int (x3 + (-1)), .int z12, .int 1]) dX2_draft_109 rfl rfl (kX_m1 _) rfl ?_
            refine v_goto (pc' := 31) dX2_draft_112 (by decide) ?_
            exact V.drop (llp_r (llp_r (llp_r (llp_r (llp_u (llp_u llp_nil)))))) T
          · have T := T.2 c17
            refine v_bipush (pc' := 81) (v := 16) dX2_draft_79 rfl kB_16 ?_
            refine v_goto (pc' := 85) dX2_draft_81 (by decide) ?_
            refine v_istore (pc' := 87) (loc' := [.ref r0, .ref r1, .int x2, .int x3, .int z12, .int 16]) dX2_draft_85 rfl (lt_l rfl) rfl ?_
            refine v_aload_n (pc' := 88) dX2_draft_87 rfl rfl ?_
            refine v_getR (pc' := 91) 5 6 dX2_draft_88 rfl (by decide) (by decide) rfl kf_X2_72 q14 ?_
            refine v_iload_n (pc' := 92) dX2_draft_91 rfl rfl ?_
            refine v_bipush (pc' := 94) (v := 16) dX2_draft_92 rfl kB_16 ?_
            refine v_imul (pc' := 95) dX2_draft_94 rfl ?_
            refine v_iload (pc' := 97) dX2_draft_95 rfl rfl ?_
            refine v_iadd (pc' := 98) dX2_draft_97 rfl ?_
            refine v_aload_n (pc' := 99) dX2_draft_98 rfl rfl ?_
            obtain ⟨q25, T⟩ := T
            refine v_getR (pc' := 102) 2 2 dX2_draft_99 rfl (by decide) (by decide) rfl kf_X2_19 q25 ?_
            refine v_iload (pc' := 104) dX2_draft_102 rfl rfl ?_
            refine v_iload (pc' := 106) dX2_draft_104 rfl rfl ?_
            obtain ⟨q26, T⟩ := T
            obtain ⟨q27, T⟩ := T
            obtain ⟨q28, T⟩ := T
            obtain ⟨q29, T⟩ := T
            obtain ⟨q30, T⟩ := T
            obtain ⟨q31, T⟩ := T
            refine v_copy (pc' := 109) 2 dX2_draft_106 rfl km_X2_62 kx_acn kx_acs kx_aci hd (le_l rfl) (by decide) q26 q27 rfl rfl kN_16 q28 q29 (by decide) q30 q31 ?_
            refine v_iinc (pc' := 112) (loc' := [.ref r0, .ref r1, .int x2, .int (x3 + (-1)), .int z12, .int 16]) dX2_draft_109 rfl rfl (kX_m1 _) rfl ?_
            refine v_goto (pc' := 31) dX2_draft_112 (by decide) ?_
            exact V.drop (llp_r (llp_r (llp_r (llp_r (llp_u (llp_u llp_nil)))))) T
theorem eX2_writeBlock {G : GG} {d : Nat} {h : Hp} {o : OU} {h' : Hp} (r0 : Nat) (r1 : Nat) (x2 : Int32) (hd : 1 ≤ d) (T : ((x2 < 0 → (o = .inl (some (.int 0)) ∧ h' = h)) ∧ (¬ x2 < 0 → kH h r1 = 15 ∧ (((h.2 r1 0) ≤ x2 → (o = .inl (some (.int 0)) ∧ h' = h)) ∧ (¬ (h.2 r1 0) ≤ x2 → ((¬ (h.2 r1 2) = 0 → kH h r0 = 12 ∧ ∃ h5, VM G mX2_draft (d - 1) [.ref r0, .ref r1, .int x2] h (.inl none) h5 ∧ kH h5 r0 = 12 ∧ ((¬ ((h5.2 r0 4) + (h5.2 r0 5)) = 0 → kH h5 r1 = 15 ∧ kH h5 (rH h5 r0 2) = 2 ∧ kH h5 (rH h5 r1 1) = 2 ∧ ¬ (256 + (x2 * 16)) < 0 ∧ 0 + 16 ≤ lH h5 (rH h5 r0 2) ∧ (256 + (x2 * 16)).toNatClampNeg + 16 ≤ lH h5 (rH h5 r1 1) ∧ (∀ i16 : Nat → Nat → Int32, i16 = (upI (cpI h5.2 (rH h5 r0 2) (rH h5 r1 1) 0 (256 + (x2 * 16)).toNatClampNeg 16) r1 12 (((cpI h5.2 (rH h5 r0 2) (rH h5 r1 1) 0 (256 + (x2 * 16)).toNatClampNeg 16) r1 12) + 1)) → ((((upI i16 r1 13 ((i16 r1 13) + (i16 r0 5))) r0 4) ≤ 0 → (o = .inl (some (.int 1)) ∧ h' = (h5.1, (upI i16 r1 13 ((i16 r1 13) + (i16 r0 5)))))) ∧ (¬ ((upI i16 r1 13 ((i16 r1 13) + (i16 r0 5))) r0 4) ≤ 0 → ∃ h19, VM G mX2_closeRanks (d - 1) [.ref r0, .ref r1] (h5.1, (upI i16 r1 13 ((i16 r1 13) + (i16 r0 5)))) (.inl none) h19 ∧ kH h19 r0 = 12 ∧ ∃ z22 h21, VM G mX2_takeDue (d - 1) [.ref r0, .ref r1] h19 (.inl (some (.int z22))) h21 ∧ V G mX2_writeBlock d 107 [.ref r0, .ref r1, uV, .int z22, .int 0] [] h21 o h')))) ∧ (((h5.2 r0 4) + (h5.2 r0 5)) = 0 → (o = .inl (some (.int 0)) ∧ h' = h5)))) ∧ ((h.2 r1 2) = 0 → (o = .inl (some (.int 0)) ∧ h' = h)))))))) : VM G mX2_writeBlock d [.ref r0, .ref r1, .int x2] h o h' := by
  refine V.toM rfl rfl (le_l rfl) (cat_all rfl) ?_
  show V G mX2_writeBlock d 0 [.ref r0, .ref r1, .int x2, uV, uV] [] h o h'
  have hdd : d - 1 + 1 ≤ d := by omega
  refine v_iload_n (pc' := 1) dX2_writeBlock_0 rfl rfl ?_
  refine v_if_lt (tgt := 19) (pc' := 4) dX2_writeBlock_1 (by decide) rfl ⟨fun c1 => ?_, fun c1 => ?_⟩
  · have T := T.1 c1
    refine v_iconst (pc' := 20) (v := 0) dX2_writeBlock_19 rfl kI_0 ?_
    exact v_zret dX2_writeBlock_20 rfl (Or.inl rfl) T
  · have T := T.2 c1
    refine v_iload_n (pc' := 5) dX2_writeBlock_4 rfl rfl ?_
    refine v_aload_n (pc' := 6) dX2_writeBlock_5 rfl rfl ?_
    obtain ⟨q2, T⟩ := T
    refine v_getI (pc' := 9) 5 0 dX2_writeBlock_6 rfl (by decide) (by decide) rfl kf_X2_75 q2 ?_
    refine v_icmp_ge (tgt := 19) (pc' := 12) dX2_writeBlock_9 (by decide) rfl ⟨fun c3 => ?_, fun c3 => ?_⟩
    · have T := T.1 c3
      refine v_iconst (pc' := 20) (v := 0) dX2_writeBlock_19 rfl kI_0 ?_
      exact v_zret dX2_writeBlock_20 rfl (Or.inl rfl) T
    · have T := T.2 c3
      refine v_aload_n (pc' := 13) dX2_writeBlock_12 rfl rfl ?_
      refine v_getI (pc' := 16) 5 2 dX2_writeBlock_13 rfl (by decide) (by decide) rfl kf_X2_33 q2 ?_
      refine v_if_ne (tgt := 21) (pc' := 19) dX2_writeBlock_16 (by decide) rfl ⟨fun c4 => ?_, fun c4 => ?_⟩
      · have T := T.1 c4
        refine v_aload_n (pc' := 22) dX2_writeBlock_21 rfl rfl ?_
        refine v_aload_n (pc' := 23) dX2_writeBlock_22 rfl rfl ?_
        refine v_iload_n (pc' := 24) dX2_writeBlock_23 rfl rfl ?_
        obtain ⟨q7, T⟩ := T
        obtain ⟨h5, k6, T⟩ := T
        refine v_callV (pc' := 27) (M1 := mX2_draft) (as := [.ref r1, .int x2]) (r := r0) (rest := []) 2 dX2_writeBlock_24 rfl ko_X2_78 kc_X2_draft ki_X2_draft ks_X2_draft (by decide) (by decide) hdd rfl rfl (le_l rfl) q7 k6 ?_
        refine v_aload_n (pc' := 28) dX2_writeBlock_27 rfl rfl ?_
        obtain ⟨q8, T⟩ := T
        refine v_getI (pc' := 31) 2 4 dX2_writeBlock_28 rfl (by decide) (by decide) rfl kf_X2_26 q8 ?_
        refine v_aload_n (pc' := 32) dX2_writeBlock_31 rfl rfl ?_
        refine v_getI (pc' := 35) 2 5 dX2_writeBlock_32 rfl (by decide) (by decide) rfl kf_X2_30 q8 ?_
        refine v_iadd (pc' := 36) dX2_writeBlock_35 rfl ?_
        refine v_if_ne (tgt := 41) (pc' := 39) dX2_writeBlock_36 (by decide) rfl ⟨fun c9 => ?_, fun c9 => ?_⟩
        · have T := T.1 c9
          refine v_aload_n (pc' := 42) dX2_writeBlock_41 rfl rfl ?_
          refine v_getR (pc' := 45) 2 2 dX2_writeBlock_42 rfl (by decide) (by decide) rfl kf_X2_19 q8 ?_
          refine v_iconst (pc' := 46) (v := 0) dX2_writeBlock_45 rfl kI_0 ?_
          refine v_aload_n (pc' := 47) dX2_writeBlock_46 rfl rfl ?_
          obtain ⟨q10, T⟩ := T
          refine v_getR (pc' := 50) 5 1 dX2_writeBlock_47 rfl (by decide) (by decide) rfl kf_X2_59 q10 ?_
          refine v_sipush (pc' := 53) (v := 256) dX2_writeBlock_50 rfl kS_256 ?_
          refine v_iload_n (pc' := 54) dX2_writeBlock_53 rfl rfl ?_
          refine v_bipush (pc' := 56) (v := 16) dX2_writeBlock_54 rfl kB_16 ?_
          refine v_imul (pc' := 57) dX2_writeBlock_56 rfl ?_
          refine v_iadd (pc' := 58) dX2_writeBlock_57 rfl ?_
          refine v_bipush (pc' := 60) (v := 16) dX2_writeBlock_58 rfl kB_16 ?_
          obtain ⟨q11, T⟩ := T
          obtain ⟨q12, T⟩ := T
          obtain ⟨q13, T⟩ := T
          obtain ⟨q14, T⟩ := T
          obtain ⟨q15, T⟩ := T
          refine v_copy (pc' := 63) 2 dX2_writeBlock_60 rfl km_X2_62 kx_acn kx_acs kx_aci hd (le_l rfl) (by decide) q11 q12 kN_0 rfl kN_16 (by decide) q13 (by decide) q14 q15 ?_
          refine v_aload_n (pc' := 64) dX2_writeBlock_63 rfl rfl ?_
          refine v_dup (pc' := 65) dX2_writeBlock_64 rfl rfl ?_
          refine v_getI (pc' := 68) 5 12 dX2_writeBlock_65 rfl (by decide) (by decide) rfl kf_X2_81 q10 ?_
          refine v_iconst (pc' := 69) (v := 1) dX2_writeBlock_68 rfl kI_1 ?_
          refine v_iadd (pc' := 70) dX2_writeBlock_69 rfl ?_
          refine v_putI (pc' := 73) 5 12 dX2_writeBlock_70 rfl (by decide) (by decide) rfl rfl kf_X2_81 q10 ?_
          show V G mX2_writeBlock d 73 [.ref r0, .ref r1, .int x2, uV, uV] [] (h5.1, (upI (cpI h5.2 (rH h5 r0 2) (rH h5 r1 1) 0 (256 + (x2 * 16)).toNatClampNeg 16) r1 12 (((cpI h5.2 (rH h5 r0 2) (rH h5 r1 1) 0 (256 + (x2 * 16)).toNatClampNeg 16) r1 12) + 1))) o h'
          obtain ⟨i16, e17⟩ : ∃ z : Nat → Nat → Int32, z = (upI (cpI h5.2 (rH h5 r0 2) (rH h5 r1 1) 0 (256 + (x2 * 16)).toNatClampNeg 16) r1 12 (((cpI h5.2 (rH h5 r0 2) (rH h5 r1 1) 0 (256 + (x2 * 16)).toNatClampNeg 16) r1 12) + 1)) := ⟨_, rfl⟩
          rw [← e17]
          have T := T i16 e17
          refine v_aload_n (pc' := 74) dX2_writeBlock_73 rfl rfl ?_
          refine v_dup (pc' := 75) dX2_writeBlock_74 rfl rfl ?_
          refine v_getI (pc' := 78) 5 13 dX2_writeBlock_75 rfl (by decide) (by decide) rfl kf_X2_84 q10 ?_
          refine v_aload_n (pc' := 79) dX2_writeBlock_78 rfl rfl ?_
          refine v_getI (pc' := 82) 2 5 dX2_writeBlock_79 rfl (by decide) (by decide) rfl kf_X2_30 q8 ?_
          refine v_iadd (pc' := 83) dX2_writeBlock_82 rfl ?_
          refine v_putI (pc' := 86) 5 13 dX2_writeBlock_83 rfl (by decide) (by decide) rfl rfl kf_X2_84 q10 ?_
          refine v_aload_n (pc' := 87) dX2_writeBlock_86 rfl rfl ?_
          refine v_getI (pc' := 90) 2 4 dX2_writeBlock_87 rfl (by decide) (by decide) rfl kf_X2_26 q8 ?_
          refine v_if_le (tgt := 130) (pc' := 93) dX2_writeBlock_90 (by decide) rfl ⟨fun c18 => ?_, fun c18 => ?_⟩
          · have T := T.1 c18
            refine v_iconst (pc' := 131) (v := 1) dX2_writeBlock_130 rfl kI_1 ?_
            exact v_zret dX2_writeBlock_131 rfl (Or.inr rfl) T
          · have T := T.2 c18
            refine v_aload_n (pc' := 94) dX2_writeBlock_93 rfl rfl ?_
            refine v_aload_n (pc' := 95) dX2_writeBlock_94 rfl rfl ?_
            obtain ⟨h19, k20, T⟩ := T
            refine v_callV (pc' := 98) (M1 := mX2_closeRanks) (as := [.ref r1]) (r := r0) (rest := []) 2 dX2_writeBlock_95 rfl ko_X2_87 kc_X2_closeRanks ki_X2_closeRanks ks_X2_closeRanks (by decide) (by decide) hdd rfl rfl (le_l rfl) q8 k20 ?_
            refine v_aload_n (pc' := 99) dX2_writeBlock_98 rfl rfl ?_
            refine v_aload_n (pc' := 100) dX2_writeBlock_99 rfl rfl ?_
            obtain ⟨q24, T⟩ := T
            obtain ⟨z22, h21, k23, T⟩ := T
            refine v_callV (pc' := 103) (M1 := mX2_takeDue) (as := [.ref r1]) (r := r0) (rest := []) 2 dX2_writeBlock_100 rfl ko_X2_91 kc_X2_takeDue ki_X2_takeDue ks_X2_takeDue (by decide) (by decide) hdd rfl rfl (le_l rfl) q24 k23 ?_
            refine v_istore_n (pc' := 104) (loc' := [.ref r0, .ref r1, .int x2, .int z22, uV]) dX2_writeBlock_103 rfl (lt_l rfl) rfl ?_
            refine v_iconst (pc' := 105) (v := 0) dX2_writeBlock_104 rfl kI_0 ?_
            refine v_istore (pc' := 107) (loc' := [.ref r0, .ref r1, .int x2, .int z22, .int 0]) dX2_writeBlock_105 rfl (lt_l rfl) rfl ?_
            exact V.drop (llp_r (llp_r (llp_u (llp_r (llp_r llp_nil))))) T
        · have T := T.2 c9
          refine v_iconst (pc' := 40) (v := 0) dX2_writeBlock_39 rfl kI_0 ?_
          exact v_zret dX2_writeBlock_40 rfl (Or.inl rfl) T
      · have T := T.2 c4
        refine v_iconst (pc' := 20) (v := 0) dX2_writeBlock_19 rfl kI_0 ?_
        exact v_zret dX2_writeBlock_20 rfl (Or.inl rfl) T
theorem bX2_writeBlock_107 {G : GG} {d : Nat} {h : Hp} {o : OU} {h' : Hp} (r0 : Nat) (r1 : Nat) (x3 : Int32) (x4 : Int32) (hd : 1 ≤ d) (T : ((x3 ≤ x4 → (o = .inl (some (.int 1)) ∧ h' = h)) ∧ (¬ x3 ≤ x4 → kH h r0 = 12 ∧ kH h (rH h r0 3) = 1 ∧ vp_in x4 (lH h (rH h r0 3)) ∧ kH h r1 = 15 ∧ ∃ h5, VM G mX5_doPutOff (d - 1) [.ref r1, .int (h.2 (rH h r0 3) x4.toNatClampNeg)] h (.inl none) h5 ∧ V G mX2_writeBlock d 107 [.ref r0, .ref r1, uV, .int x3, .int (x4 + 1)] [] h5 o h'))) : V G mX2_writeBlock d 107 [.ref r0, .ref r1, uV, .int x3, .int x4] [] h o h' := by
  have hdd : d - 1 + 1 ≤ d := by omega
  refine v_iload (pc' := 109) dX2_writeBlock_107 rfl rfl ?_
  refine v_iload_n (pc' := 110) dX2_writeBlock_109 rfl rfl ?_
  refine v_icmp_ge (tgt := 130) (pc' := 113) dX2_writeBlock_110 (by decide) rfl ⟨fun c1 => ?_, fun c1 => ?_⟩
  · have T := T.1 c1
    refine v_iconst (pc' := 131) (v := 1) dX2_writeBlock_130 rfl kI_1 ?_
    exact v_zret dX2_writeBlock_131 rfl (Or.inr rfl) T
  · have T := T.2 c1
    refine v_aload_n (pc' := 114) dX2_writeBlock_113 rfl rfl ?_
    refine v_aload_n (pc' := 115) dX2_writeBlock_114 rfl rfl ?_
    obtain ⟨q2, T⟩ := T
    refine v_getR (pc' := 118) 2 3 dX2_writeBlock_115 rfl (by decide) (by decide) rfl kf_X2_23 q2 ?_
    refine v_iload (pc' := 120) dX2_writeBlock_118 rfl rfl ?_
    obtain ⟨q3, T⟩ := T
    obtain ⟨q4, T⟩ := T
    refine v_iald (pc' := 121) dX2_writeBlock_120 rfl rfl q3 q4 ?_
    obtain ⟨q7, T⟩ := T
    obtain ⟨h5, k6, T⟩ := T
    refine v_callV (pc' := 124) (M1 := mX5_doPutOff) (as := [.int (h.2 (rH h r0 3) x4.toNatClampNeg)]) (r := r1) (rest := []) 5 dX2_writeBlock_121 rfl ko_X2_95 kc_X5_doPutOff ki_X5_doPutOff ks_X5_doPutOff (by decide) (by decide) hdd rfl rfl (le_l rfl) q7 k6 ?_
    refine v_iinc (pc' := 127) (loc' := [.ref r0, .ref r1, uV, .int x3, .int (x4 + 1)]) dX2_writeBlock_124 rfl rfl (kX_1 _) rfl ?_
    refine v_goto (pc' := 107) dX2_writeBlock_127 (by decide) ?_
    exact T
theorem eX2_closeRanks {G : GG} {d : Nat} {h : Hp} {o : OU} {h' : Hp} (r0 : Nat) (r1 : Nat) (T : V G mX2_closeRanks d 4 [.ref r0, .ref r1, .int 0, .int 0] [] h o h') : VM G mX2_closeRanks d [.ref r0, .ref r1] h o h' := by
  refine V.toM rfl rfl (le_l rfl) (cat_all rfl) ?_
  show V G mX2_closeRanks d 0 [.ref r0, .ref r1, uV, uV] [] h o h'
  refine v_iconst (pc' := 1) (v := 0) dX2_closeRanks_0 rfl kI_0 ?_
  refine v_istore_n (pc' := 2) (loc' := [.ref r0, .ref r1, .int 0, uV]) dX2_closeRanks_1 rfl (lt_l rfl) rfl ?_
  refine v_iconst (pc' := 3) (v := 0) dX2_closeRanks_2 rfl kI_0 ?_
  refine v_istore_n (pc' := 4) (loc' := [.ref r0, .ref r1, .int 0, .int 0]) dX2_closeRanks_3 rfl (lt_l rfl) rfl ?_
  exact T
theorem bX2_closeRanks_4 {G : GG} {d : Nat} {h : Hp} {o : OU} {h' : Hp} (r0 : Nat) (r1 : Nat) (x2 : Int32) (x3 : Int32) (hd : 1 ≤ d) (T : kH h r1 = 15 ∧ (((h.2 r1 2) ≤ x3 → (o = .inl none ∧ h' = (h.1, (upI h.2 r1 2 x2)))) ∧ (¬ (h.2 r1 2) ≤ x3 → kH h r0 = 12 ∧ kH h (rH h r0 0) = 3 ∧ vp_in x3 (lH h (rH h r0 0)) ∧ (((h.2 (rH h r0 0) x3.toNatClampNeg) = 0 → ∃ h7, VM G mX2_moveChange (d - 1) [.ref r0, .ref r1, .int x3, .int x2] h (.inl none) h7 ∧ kH h7 r0 = 12 ∧ kH h7 (rH h7 r0 1) = 1 ∧ vp_in x3 (lH h7 (rH h7 r0 1)) ∧ V G mX2_closeRanks d 4 [.ref r0, .ref r1, .int (x2 + 1), .int (x3 + 1)] [] (h7.1, (upI h7.2 (rH h7 r0 1) x3.toNatClampNeg x2)) o h') ∧ (¬ (h.2 (rH h r0 0) x3.toNatClampNeg) = 0 → kH h (rH h r0 1) = 1 ∧ vp_in x3 (lH h (rH h r0 1)) ∧ V G mX2_closeRanks d 4 [.ref r0, .ref r1, .int x2, .int (x3 + 1)] [] (h.1, (upI h.2 (rH h r0 1) x3.toNatClampNeg (-1))) o h'))))) : V G mX2_closeRanks d 4 [.ref r0, .ref r1, .int x2, .int x3] [] h o h' := by
  have hdd : d - 1 + 1 ≤ d := by omega
  refine v_iload_n (pc' := 5) dX2_closeRanks_4 rfl rfl ?_
  refine v_aload_n (pc' := 6) dX2_closeRanks_5 rfl rfl ?_
  obtain ⟨q1, T⟩ := T
  refine v_getI (pc' := 9) 5 2 dX2_closeRanks_6 rfl (by decide) (by decide) rfl kf_X2_33 q1 ?_
  refine v_icmp_ge (tgt := 54) (pc' := 12) dX2_closeRanks_9 (by decide) rfl ⟨fun c2 => ?_, fun c2 => ?_⟩
  · have T := T.1 c2
    refine v_aload_n (pc' := 55) dX2_closeRanks_54 rfl rfl ?_
    refine v_iload_n (pc' := 56) dX2_closeRanks_55 rfl rfl ?_
    refine v_putI (pc' := 59) 5 2 dX2_closeRanks_56 rfl (by decide) (by decide) rfl rfl kf_X2_33 q1 ?_
    exact v_vret dX2_closeRanks_59 rfl T
  · have T := T.2 c2
    refine v_aload_n (pc' := 13) dX2_closeRanks_12 rfl rfl ?_
    obtain ⟨q3, T⟩ := T
    refine v_getR (pc' := 16) 2 0 dX2_closeRanks_13 rfl (by decide) (by decide) rfl kf_X2_9 q3 ?_
    refine v_iload_n (pc' := 17) dX2_closeRanks_16 rfl rfl ?_
    obtain ⟨q4, T⟩ := T
    obtain ⟨q5, T⟩ := T
    refine v_zald (pc' := 18) dX2_closeRanks_17 rfl rfl q4 q5 ?_
    refine v_if_eq (tgt := 31) (pc' := 21) dX2_closeRanks_18 (by decide) rfl ⟨fun c6 => ?_, fun c6 => ?_⟩
    · have T := T.1 c6
      refine v_aload_n (pc' := 32) dX2_closeRanks_31 rfl rfl ?_
      refine v_aload_n (pc' := 33) dX2_closeRanks_32 rfl rfl ?_
      refine v_iload_n (pc' := 34) dX2_closeRanks_33 rfl rfl ?_
      refine v_iload_n (pc' := 35) dX2_closeRanks_34 rfl rfl ?_
      obtain ⟨h7, k8, T⟩ := T
      refine v_callV (pc' := 38) (M1 := mX2_moveChange) (as := [.ref r1, .int x3, .int x2]) (r := r0) (rest := []) 2 dX2_closeRanks_35 rfl ko_X2_99 kc_X2_moveChange ki_X2_moveChange ks_X2_moveChange (by decide) (by decide) hdd rfl rfl (le_l rfl) q3 k8 ?_
      refine v_aload_n (pc' := 39) dX2_closeRanks_38 rfl rfl ?_
      obtain ⟨q9, T⟩ := T
      refine v_getR (pc' := 42) 2 1 dX2_closeRanks_39 rfl (by decide) (by decide) rfl kf_X2_15 q9 ?_
      refine v_iload_n (pc' := 43) dX2_closeRanks_42 rfl rfl ?_
      refine v_iload_n (pc' := 44) dX2_closeRanks_43 rfl rfl ?_
      obtain ⟨q10, T⟩ := T
      obtain ⟨q11, T⟩ := T
      refine v_iast (pc' := 45) dX2_closeRanks_44 rfl rfl q10 q11 ?_
      refine v_iinc (pc' := 48) (loc' := [.ref r0, .ref r1, .int (x2 + 1), .int x3]) dX2_closeRanks_45 rfl rfl (kX_1 _) rfl ?_
      refine v_iinc (pc' := 51) (loc' := [.ref r0, .ref r1, .int (x2 + 1), .int (x3 + 1)]) dX2_closeRanks_48 rfl rfl (kX_1 _) rfl ?_
      refine v_goto (pc' := 4) dX2_closeRanks_51 (by decide) ?_
      exact T
    · have T := T.2 c6
      refine v_aload_n (pc' := 22) dX2_closeRanks_21 rfl rfl ?_
      refine v_getR (pc' := 25) 2 1 dX2_closeRanks_22 rfl (by decide) (by decide) rfl kf_X2_15 q3 ?_
      refine v_iload_n (pc' := 26) dX2_closeRanks_25 rfl rfl ?_
      refine v_iconst (pc' := 27) (v := (-1)) dX2_closeRanks_26 rfl kI_m1 ?_
      obtain ⟨q12, T⟩ := T
      obtain ⟨q13, T⟩ := T
      refine v_iast (pc' := 28) dX2_closeRanks_27 rfl rfl q12 q13 ?_
      refine v_goto (pc' := 48) dX2_closeRanks_28 (by decide) ?_
      refine v_iinc (pc' := 51) (loc' := [.ref r0, .ref r1, .int x2, .int (x3 + 1)]) dX2_closeRanks_48 rfl rfl (kX_1 _) rfl ?_
      refine v_goto (pc' := 4) dX2_closeRanks_51 (by decide) ?_
      exact T
theorem eX2_moveChange {G : GG} {d : Nat} {h : Hp} {o : OU} {h' : Hp} (r0 : Nat) (r1 : Nat) (x2 : Int32) (x3 : Int32) (T : kH h r1 = 15 ∧ kH h (rH h r1 3) = 1 ∧ vp_in x2 (lH h (rH h r1 3)) ∧ vp_in x3 (lH h (rH h r1 3)) ∧ kH h (rH h r1 4) = 1 ∧ vp_in x2 (lH h (rH h r1 4)) ∧ vp_in x3 (lH h (rH h r1 4)) ∧ (∀ i8 : Nat → Nat → Int32, i8 = (upI (upI h.2 (rH h r1 3) x3.toNatClampNeg (h.2 (rH h r1 3) x2.toNatClampNeg)) (rH h r1 4) x3.toNatClampNeg ((upI h.2 (rH h r1 3) x3.toNatClampNeg (h.2 (rH h r1 3) x2.toNatClampNeg)) (rH h r1 4) x2.toNatClampNeg)) → kH h (rH h r1 5) = 1 ∧ vp_in x2 (lH h (rH h r1 5)) ∧ vp_in x3 (lH h (rH h r1 5)) ∧ kH h (rH h r1 8) = 1 ∧ vp_in x2 (lH h (rH h r1 8)) ∧ vp_in x3 (lH h (rH h r1 8)) ∧ (∀ i16 : Nat → Nat → Int32, i16 = (upI (upI i8 (rH h r1 5) x3.toNatClampNeg (i8 (rH h r1 5) x2.toNatClampNeg)) (rH h r1 8) x3.toNatClampNeg ((upI i8 (rH h r1 5) x3.toNatClampNeg (i8 (rH h r1 5) x2.toNatClampNeg)) (rH h r1 8) x2.toNatClampNeg)) → V G mX2_moveChange d 51 [.ref r0, .ref r1, .int x2, .int x3, .int 0, uV] [] (h.1, i16) o h'))) : VM G mX2_moveChange d [.ref r0, .ref r1, .int x2, .int x3] h o h' := by
  refine V.toM rfl rfl (le_l rfl) (cat_all rfl) ?_
  show V G mX2_moveChange d 0 [.ref r0, .ref r1, .int x2, .int x3, uV, uV] [] h o h'
  refine v_aload_n (pc' := 1) dX2_moveChange_0 rfl rfl ?_
  obtain ⟨q1, T⟩ := T
  refine v_getR (pc' := 4) 5 3 dX2_moveChange_1 rfl (by decide) (by decide) rfl kf_X2_38 q1 ?_
  refine v_iload_n (pc' := 5) dX2_moveChange_4 rfl rfl ?_
  refine v_aload_n (pc' := 6) dX2_moveChange_5 rfl rfl ?_
  refine v_getR (pc' := 9) 5 3 dX2_moveChange_6 rfl (by decide) (by decide) rfl kf_X2_38 q1 ?_
  refine v_iload_n (pc' := 10) dX2_moveChange_9 rfl rfl ?_
  obtain ⟨q2, T⟩ := T
  obtain ⟨q3, T⟩ := T
  refine v_iald (pc' := 11) dX2_moveChange_10 rfl rfl q2 q3 ?_
  obtain ⟨q4, T⟩ := T
  refine v_iast (pc' := 12) dX2_moveChange_11 rfl rfl q2 q4 ?_
  refine v_aload_n (pc' := 13) dX2_moveChange_12 rfl rfl ?_
  refine v_getR (pc' := 16) 5 4 dX2_moveChange_13 rfl (by decide) (by decide) rfl kf_X2_41 q1 ?_
  refine v_iload_n (pc' := 17) dX2_moveChange_16 rfl rfl ?_
  refine v_aload_n (pc' := 18) dX2_moveChange_17 rfl rfl ?_
  refine v_getR (pc' := 21) 5 4 dX2_moveChange_18 rfl (by decide) (by decide) rfl kf_X2_41 q1 ?_
  refine v_iload_n (pc' := 22) dX2_moveChange_21 rfl rfl ?_
  obtain ⟨q5, T⟩ := T
  obtain ⟨q6, T⟩ := T
  refine v_iald (pc' := 23) dX2_moveChange_22 rfl rfl q5 q6 ?_
  obtain ⟨q7, T⟩ := T
  refine v_iast (pc' := 24) dX2_moveChange_23 rfl rfl q5 q7 ?_
  show V G mX2_moveChange d 24 [.ref r0, .ref r1, .int x2, .int x3, uV, uV] [] (h.1, (upI (upI h.2 (rH h r1 3) x3.toNatClampNeg (h.2 (rH h r1 3) x2.toNatClampNeg)) (rH h r1 4) x3.toNatClampNeg ((upI h.2 (rH h r1 3) x3.toNatClampNeg (h.2 (rH h r1 3) x2.toNatClampNeg)) (rH h r1 4) x2.toNatClampNeg))) o h'
  obtain ⟨i8, e9⟩ : ∃ z : Nat → Nat → Int32, z = (upI (upI h.2 (rH h r1 3) x3.toNatClampNeg (h.2 (rH h r1 3) x2.toNatClampNeg)) (rH h r1 4) x3.toNatClampNeg ((upI h.2 (rH h r1 3) x3.toNatClampNeg (h.2 (rH h r1 3) x2.toNatClampNeg)) (rH h r1 4) x2.toNatClampNeg)) := ⟨_, rfl⟩
  rw [← e9]
  have T := T i8 e9
  refine v_aload_n (pc' := 25) dX2_moveChange_24 rfl rfl ?_
  refine v_getR (pc' := 28) 5 5 dX2_moveChange_25 rfl (by decide) (by decide) rfl kf_X2_103 q1 ?_
  refine v_iload_n (pc' := 29) dX2_moveChange_28 rfl rfl ?_
  refine v_aload_n (pc' := 30) dX2_moveChange_29 rfl rfl ?_
  refine v_getR (pc' := 33) 5 5 dX2_moveChange_30 rfl (by decide) (by decide) rfl kf_X2_103 q1 ?_
  refine v_iload_n (pc' := 34) dX2_moveChange_33 rfl rfl ?_
  obtain ⟨q10, T⟩ := T
  obtain ⟨q11, T⟩ := T
  refine v_iald (pc' := 35) dX2_moveChange_34 rfl rfl q10 q11 ?_
  obtain ⟨q12, T⟩ := T
  refine v_iast (pc' := 36) dX2_moveChange_35 rfl rfl q10 q12 ?_
  refine v_aload_n (pc' := 37) dX2_moveChange_36 rfl rfl ?_
  refine v_getR (pc' := 40) 5 8 dX2_moveChange_37 rfl (by decide) (by decide) rfl kf_X2_52 q1 ?_
  refine v_iload_n (pc' := 41) dX2_moveChange_40 rfl rfl ?_
  refine v_aload_n (pc' := 42) dX2_moveChange_41 rfl rfl ?_
  refine v_getR (pc' := 45) 5 8 dX2_moveChange_42 rfl (by decide) (by decide) rfl kf_X2_52 q1 ?_
  refine v_iload_n (pc' := 46) dX2_moveChange_45 rfl rfl ?_
  obtain ⟨q13, T⟩ := T
  obtain ⟨q14, T⟩ := T
  refine v_iald (pc' := 47) dX2_moveChange_46 rfl rfl q13 q14 ?_
  obtain ⟨q15, T⟩ := T
  refine v_iast (pc' := 48) dX2_moveChange_47 rfl rfl q13 q15 ?_
  show V G mX2_moveChange d 48 [.ref r0, .ref r1, .int x2, .int x3, uV, uV] [] (h.1, (upI (upI i8 (rH h r1 5) x3.toNatClampNeg (i8 (rH h r1 5) x2.toNatClampNeg)) (rH h r1 8) x3.toNatClampNeg ((upI i8 (rH h r1 5) x3.toNatClampNeg (i8 (rH h r1 5) x2.toNatClampNeg)) (rH h r1 8) x2.toNatClampNeg))) o h'
  obtain ⟨i16, e17⟩ : ∃ z : Nat → Nat → Int32, z = (upI (upI i8 (rH h r1 5) x3.toNatClampNeg (i8 (rH h r1 5) x2.toNatClampNeg)) (rH h r1 8) x3.toNatClampNeg ((upI i8 (rH h r1 5) x3.toNatClampNeg (i8 (rH h r1 5) x2.toNatClampNeg)) (rH h r1 8) x2.toNatClampNeg)) := ⟨_, rfl⟩
  rw [← e17]
  have T := T i16 e17
  refine v_iconst (pc' := 49) (v := 0) dX2_moveChange_48 rfl kI_0 ?_
  refine v_istore (pc' := 51) (loc' := [.ref r0, .ref r1, .int x2, .int x3, .int 0, uV]) dX2_moveChange_49 rfl (lt_l rfl) rfl ?_
  exact T
theorem bX2_moveChange_51 {G : GG} {d : Nat} {h : Hp} {o : OU} {h' : Hp} (r0 : Nat) (r1 : Nat) (x2 : Int32) (x3 : Int32) (x4 : Int32) (hd : 1 ≤ d) (T : ((4 ≤ x4 → ((x2 = x3 → (o = .inl none ∧ h' = h)) ∧ (¬ x2 = x3 → kH h r1 = 15 ∧ kH h (rH h r1 6) = 2 ∧ ¬ (x2 * 16) < 0 ∧ ¬ (x3 * 16) < 0 ∧ (x2 * 16).toNatClampNeg + 16 ≤ lH h (rH h r1 6) ∧ (x3 * 16).toNatClampNeg + 16 ≤ lH h (rH h r1 6) ∧ (o = .inl none ∧ h' = (h.1, (cpI h.2 (rH h r1 6) (rH h r1 6) (x2 * 16).toNatClampNeg (x3 * 16).toNatClampNeg 16)))))) ∧ (¬ 4 ≤ x4 → kH h r1 = 15 ∧ kH h (rH h r1 7) = 1 ∧ vp_in ((x2 * 4) + x4) (lH h (rH h r1 7)) ∧ ((¬ (h.2 (rH h r1 7) ((x2 * 4) + x4).toNatClampNeg) = (-1) → kH h r0 = 12 ∧ kH h (rH h r0 1) = 1 ∧ vp_in (h.2 (rH h r1 7) ((x2 * 4) + x4).toNatClampNeg) (lH h (rH h r0 1)) ∧ vp_in ((x3 * 4) + x4) (lH h (rH h r1 7)) ∧ (∀ i17 : Nat → Nat → Int32, i17 = (upI h.2 (rH h r1 7) ((x3 * 4) + x4).toNatClampNeg (h.2 (rH h r0 1) (h.2 (rH h r1 7) ((x2 * 4) + x4).toNatClampNeg).toNatClampNeg)) → V G mX2_moveChange d 51 [.ref r0, .ref r1, .int x2, .int x3, .int (x4 + 1), uV] [] (h.1, i17) o h')) ∧ ((h.2 (rH h r1 7) ((x2 * 4) + x4).toNatClampNeg) = (-1) → vp_in ((x3 * 4) + x4) (lH h (rH h r1 7)) ∧ V G mX2_moveChange d 51 [.ref r0, .ref r1, .int x2, .int x3, .int (x4 + 1), uV] [] (h.1, (upI h.2 (rH h r1 7) ((x3 * 4) + x4).toNatClampNeg (-1))) o h'))))) : V G mX2_moveChange d 51 [.ref r0, .ref r1, .int x2, .int x3, .int x4, uV] [] h o h' := by
  have hdd : d - 1 + 1 ≤ d := by omega
  refine v_iload (pc' := 53) dX2_moveChange_51 rfl rfl ?_
  refine v_iconst (pc' := 54) (v := 4) dX2_moveChange_53 rfl kI_4 ?_
  refine v_icmp_ge (tgt := 104) (pc' := 57) dX2_moveChange_54 (by decide) rfl ⟨fun c1 => ?_, fun c1 => ?_⟩
  · have T := T.1 c1
    refine v_iload_n (pc' := 105) dX2_moveChange_104 rfl rfl ?_
    refine v_iload_n (pc' := 106) dX2_moveChange_105 rfl rfl ?_
    refine v_icmp_eq (tgt := 130) (pc' := 109) dX2_moveChange_106 (by decide) rfl ⟨fun c2 => ?_, fun c2 => ?_⟩
    · have T := T.1 c2
      exact v_vret dX2_moveChange_130 rfl T
    · have T := T.2 c2
      refine v_aload_n (pc' := 110) dX2_moveChange_109 rfl rfl ?_
      obtain ⟨q3, T⟩ := T
      refine v_getR (pc' := 113) 5 6 dX2_moveChange_110 rfl (by decide) (by decide) rfl kf_X2_72 q3 ?_
      refine v_iload_n (pc' := 114) dX2_moveChange_113 rfl rfl ?_
      refine v_bipush (pc' := 116) (v := 16) dX2_moveChange_114 rfl kB_16 ?_
      refine v_imul (pc' := 117) dX2_moveChange_116 rfl ?_
      refine v_aload_n (pc' := 118) dX2_moveChange_117 rfl rfl ?_
      refine v_getR (pc' := 121) 5 6 dX2_moveChange_118 rfl (by decide) (by decide) rfl kf_X2_72 q3 ?_
      refine v_iload_n (pc' := 122) dX2_moveChange_121 rfl rfl ?_
      refine v_bipush (pc' := 124) (v := 16) dX2_moveChange_122 rfl kB_16 ?_
      refine v_imul (pc' := 125) dX2_moveChange_124 rfl ?_
      refine v_bipush (pc' := 127) (v := 16) dX2_moveChange_125 rfl kB_16 ?_
      obtain ⟨q4, T⟩ := T
      obtain ⟨q5, T⟩ := T
      obtain ⟨q6, T⟩ := T
      obtain ⟨q7, T⟩ := T
      obtain ⟨q8, T⟩ := T
      refine v_copy (pc' := 130) 2 dX2_moveChange_127 rfl km_X2_62 kx_acn kx_acs kx_aci hd (le_l rfl) (by decide) q4 q4 rfl rfl kN_16 q5 q6 (by decide) q7 q8 ?_
      exact v_vret dX2_moveChange_130 rfl T
  · have T := T.2 c1
    refine v_aload_n (pc' := 58) dX2_moveChange_57 rfl rfl ?_
    obtain ⟨q9, T⟩ := T
    refine v_getR (pc' := 61) 5 7 dX2_moveChange_58 rfl (by decide) (by decide) rfl kf_X2_49 q9 ?_
    refine v_iload_n (pc' := 62) dX2_moveChange_61 rfl rfl ?_
    refine v_iconst (pc' := 63) (v := 4) dX2_moveChange_62 rfl kI_4 ?_
    refine v_imul (pc' := 64) dX2_moveChange_63 rfl ?_
    refine v_iload (pc' := 66) dX2_moveChange_64 rfl rfl ?_
    refine v_iadd (pc' := 67) dX2_moveChange_66 rfl ?_
    obtain ⟨q10, T⟩ := T
    obtain ⟨q11, T⟩ := T
    refine v_iald (pc' := 68) dX2_moveChange_67 rfl rfl q10 q11 ?_
    refine v_istore (pc' := 70) (loc' := [.ref r0, .ref r1, .int x2, .int x3, .int x4, .int (h.2 (rH h r1 7) ((x2 * 4) + x4).toNatClampNeg)]) dX2_moveChange_68 rfl (lt_l rfl) rfl ?_
    refine v_aload_n (pc' := 71) dX2_moveChange_70 rfl rfl ?_
    refine v_getR (pc' := 74) 5 7 dX2_moveChange_71 rfl (by decide) (by decide) rfl kf_X2_49 q9 ?_
    refine v_iload_n (pc' := 75) dX2_moveChange_74 rfl rfl ?_
    refine v_iconst (pc' := 76) (v := 4) dX2_moveChange_75 rfl kI_4 ?_
    refine v_imul (pc' := 77) dX2_moveChange_76 rfl ?_
    refine v_iload (pc' := 79) dX2_moveChange_77 rfl rfl ?_
    refine v_iadd (pc' := 80) dX2_moveChange_79 rfl ?_
    refine v_iload (pc' := 82) dX2_moveChange_80 rfl rfl ?_
    refine v_iconst (pc' := 83) (v := (-1)) dX2_moveChange_82 rfl kI_m1 ?_
    refine v_icmp_ne (tgt := 90) (pc' := 86) dX2_moveChange_83 (by decide) rfl ⟨fun c12 => ?_, fun c12 => ?_⟩
    · have T := T.1 c12
      refine v_aload_n (pc' := 91) dX2_moveChange_90 rfl rfl ?_
      obtain ⟨q13, T⟩ := T
      refine v_getR (pc' := 94) 2 1 dX2_moveChange_91 rfl (by decide) (by decide) rfl kf_X2_15 q13 ?_
      refine v_iload (pc' := 96) dX2_moveChange_94 rfl rfl ?_
      obtain ⟨q14, T⟩ := T
      obtain ⟨q15, T⟩ := T
      refine v_iald (pc' := 97) dX2_moveChange_96 rfl rfl q14 q15 ?_
      obtain ⟨q16, T⟩ := T
      refine v_iast (pc' := 98) dX2_moveChange_97 rfl rfl q10 q16 ?_
      show V G mX2_moveChange d 98 [.ref r0, .ref r1, .int x2, .int x3, .int x4, .int (h.2 (rH h r1 7) ((x2 * 4) + x4).toNatClampNeg)] [] (h.1, (upI h.2 (rH h r1 7) ((x3 * 4) + x4).toNatClampNeg (h.2 (rH h r0 1) (h.2 (rH h r1 7) ((x2 * 4) + x4).toNatClampNeg).toNatClampNeg))) o h'
      obtain ⟨i17, e18⟩ : ∃ z : Nat → Nat → Int32, z = (upI h.2 (rH h r1 7) ((x3 * 4) + x4).toNatClampNeg (h.2 (rH h r0 1) (h.2 (rH h r1 7) ((x2 * 4) + x4).toNatClampNeg).toNatClampNeg)) := ⟨_, rfl⟩
      rw [← e18]
      have T := T i17 e18
      refine v_iinc (pc' := 101) (loc' := [.ref r0, .ref r1, .int x2, .int x3, .int (x4 + 1), .int (h.2 (rH h r1 7) ((x2 * 4) + x4).toNatClampNeg)]) dX2_moveChange_98 rfl rfl (kX_1 _) rfl ?_
      refine v_goto (pc' := 51) dX2_moveChange_101 (by decide) ?_
      exact V.drop (llp_r (llp_r (llp_r (llp_r (llp_r (llp_u llp_nil)))))) T
    · have T := T.2 c12
      refine v_iconst (pc' := 87) (v := (-1)) dX2_moveChange_86 rfl kI_m1 ?_
      refine v_goto (pc' := 97) dX2_moveChange_87 (by decide) ?_
      obtain ⟨q19, T⟩ := T
      refine v_iast (pc' := 98) dX2_moveChange_97 rfl rfl q10 q19 ?_
      refine v_iinc (pc' := 101) (loc' := [.ref r0, .ref r1, .int x2, .int x3, .int (x4 + 1), .int (h.2 (rH h r1 7) ((x2 * 4) + x4).toNatClampNeg)]) dX2_moveChange_98 rfl rfl (kX_1 _) rfl ?_
      refine v_goto (pc' := 51) dX2_moveChange_101 (by decide) ?_
      exact V.drop (llp_r (llp_r (llp_r (llp_r (llp_r (llp_u llp_nil)))))) T
theorem eX2_takeDue {G : GG} {d : Nat} {h : Hp} {o : OU} {h' : Hp} (r0 : Nat) (r1 : Nat) (T : V G mX2_takeDue d 7 [.ref r0, .ref r1, .int 0, .int 0, .int 0, uV] [] h o h') : VM G mX2_takeDue d [.ref r0, .ref r1] h o h' := by
  refine V.toM rfl rfl (le_l rfl) (cat_all rfl) ?_
  show V G mX2_takeDue d 0 [.ref r0, .ref r1, uV, uV, uV, uV] [] h o h'
  refine v_iconst (pc' := 1) (v := 0) dX2_takeDue_0 rfl kI_0 ?_
  refine v_istore_n (pc' := 2) (loc' := [.ref r0, .ref r1, .int 0, uV, uV, uV]) dX2_takeDue_1 rfl (lt_l rfl) rfl ?_
  refine v_iconst (pc' := 3) (v := 0) dX2_takeDue_2 rfl kI_0 ?_
  refine v_istore_n (pc' := 4) (loc' := [.ref r0, .ref r1, .int 0, .int 0, uV, uV]) dX2_takeDue_3 rfl (lt_l rfl) rfl ?_
  refine v_iconst (pc' := 5) (v := 0) dX2_takeDue_4 rfl kI_0 ?_
  refine v_istore (pc' := 7) (loc' := [.ref r0, .ref r1, .int 0, .int 0, .int 0, uV]) dX2_takeDue_5 rfl (lt_l rfl) rfl ?_
  exact T
theorem bX2_takeDue_7 {G : GG} {d : Nat} {h : Hp} {o : OU} {h' : Hp} (r0 : Nat) (r1 : Nat) (x2 : Int32) (x3 : Int32) (x4 : Int32) (T : kH h r1 = 15 ∧ (((h.2 r1 9) ≤ x4 → (o = .inl (some (.int x2)) ∧ h' = (h.1, (upI h.2 r1 9 x3)))) ∧ (¬ (h.2 r1 9) ≤ x4 → kH h r0 = 12 ∧ kH h (rH h r1 10) = 1 ∧ vp_in x4 (lH h (rH h r1 10)) ∧ kH h (rH h r0 1) = 1 ∧ vp_in (h.2 (rH h r1 10) x4.toNatClampNeg) (lH h (rH h r0 1)) ∧ ((¬ (h.2 (rH h r0 1) (h.2 (rH h r1 10) x4.toNatClampNeg).toNatClampNeg) = (-1) → kH h (rH h r1 11) = 1 ∧ vp_in x4 (lH h (rH h r1 11)) ∧ vp_in x3 (lH h (rH h r1 11)) ∧ vp_in x3 (lH h (rH h r1 10)) ∧ (∀ i13 : Nat → Nat → Int32, i13 = (upI (upI h.2 (rH h r1 11) x3.toNatClampNeg (h.2 (rH h r1 11) x4.toNatClampNeg)) (rH h r1 10) x3.toNatClampNeg (h.2 (rH h r0 1) (h.2 (rH h r1 10) x4.toNatClampNeg).toNatClampNeg)) → V G mX2_takeDue d 7 [.ref r0, .ref r1, .int x2, .int (x3 + 1), .int (x4 + 1), uV] [] (h.1, i13) o h')) ∧ ((h.2 (rH h r0 1) (h.2 (rH h r1 10) x4.toNatClampNeg).toNatClampNeg) = (-1) → kH h (rH h r1 11) = 1 ∧ vp_in x4 (lH h (rH h r1 11)) ∧ kH h (rH h r0 3) = 1 ∧ vp_in x2 (lH h (rH h r0 3)) ∧ V G mX2_takeDue d 7 [.ref r0, .ref r1, .int (x2 + 1), .int x3, .int (x4 + 1), uV] [] (h.1, (upI h.2 (rH h r0 3) x2.toNatClampNeg (h.2 (rH h r1 11) x4.toNatClampNeg))) o h'))))) : V G mX2_takeDue d 7 [.ref r0, .ref r1, .int x2, .int x3, .int x4, uV] [] h o h' := by
  refine v_iload (pc' := 9) dX2_takeDue_7 rfl rfl ?_
  refine v_aload_n (pc' := 10) dX2_takeDue_9 rfl rfl ?_
  obtain ⟨q1, T⟩ := T
  refine v_getI (pc' := 13) 5 9 dX2_takeDue_10 rfl (by decide) (by decide) rfl kf_X2_106 q1 ?_
  refine v_icmp_ge (tgt := 85) (pc' := 16) dX2_takeDue_13 (by decide) rfl ⟨fun c2 => ?_, fun c2 => ?_⟩
  · have T := T.1 c2
    refine v_aload_n (pc' := 86) dX2_takeDue_85 rfl rfl ?_
    refine v_iload_n (pc' := 87) dX2_takeDue_86 rfl rfl ?_
    refine v_putI (pc' := 90) 5 9 dX2_takeDue_87 rfl (by decide) (by decide) rfl rfl kf_X2_106 q1 ?_
    refine v_iload_n (pc' := 91) dX2_takeDue_90 rfl rfl ?_
    exact v_iret dX2_takeDue_91 rfl T
  · have T := T.2 c2
    refine v_aload_n (pc' := 17) dX2_takeDue_16 rfl rfl ?_
    obtain ⟨q3, T⟩ := T
    refine v_getR (pc' := 20) 2 1 dX2_takeDue_17 rfl (by decide) (by decide) rfl kf_X2_15 q3 ?_
    refine v_aload_n (pc' := 21) dX2_takeDue_20 rfl rfl ?_
    refine v_getR (pc' := 24) 5 10 dX2_takeDue_21 rfl (by decide) (by decide) rfl kf_X2_109 q1 ?_
    refine v_iload (pc' := 26) dX2_takeDue_24 rfl rfl ?_
    obtain ⟨q4, T⟩ := T
    obtain ⟨q5, T⟩ := T
    refine v_iald (pc' := 27) dX2_takeDue_26 rfl rfl q4 q5 ?_
    obtain ⟨q6, T⟩ := T
    obtain ⟨q7, T⟩ := T
    refine v_iald (pc' := 28) dX2_takeDue_27 rfl rfl q6 q7 ?_
    refine v_istore (pc' := 30) (loc' := [.ref r0, .ref r1, .int x2, .int x3, .int x4, .int (h.2 (rH h r0 1) (h.2 (rH h r1 10) x4.toNatClampNeg).toNatClampNeg)]) dX2_takeDue_28 rfl (lt_l rfl) rfl ?_
    refine v_iload (pc' := 32) dX2_takeDue_30 rfl rfl ?_
    refine v_iconst (pc' := 33) (v := (-1)) dX2_takeDue_32 rfl kI_m1 ?_
    refine v_icmp_ne (tgt := 55) (pc' := 36) dX2_takeDue_33 (by decide) rfl ⟨fun c8 => ?_, fun c8 => ?_⟩
    · have T := T.1 c8
      refine v_aload_n (pc' := 56) dX2_takeDue_55 rfl rfl ?_
      refine v_getR (pc' := 59) 5 11 dX2_takeDue_56 rfl (by decide) (by decide) rfl kf_X2_112 q1 ?_
      refine v_iload_n (pc' := 60) dX2_takeDue_59 rfl rfl ?_
      refine v_aload_n (pc' := 61) dX2_takeDue_60 rfl rfl ?_
      refine v_getR (pc' := 64) 5 11 dX2_takeDue_61 rfl (by decide) (by decide) rfl kf_X2_112 q1 ?_
      refine v_iload (pc' := 66) dX2_takeDue_64 rfl rfl ?_
      obtain ⟨q9, T⟩ := T
      obtain ⟨q10, T⟩ := T
      refine v_iald (pc' := 67) dX2_takeDue_66 rfl rfl q9 q10 ?_
      obtain ⟨q11, T⟩ := T
      refine v_iast (pc' := 68) dX2_takeDue_67 rfl rfl q9 q11 ?_
      refine v_aload_n (pc' := 69) dX2_takeDue_68 rfl rfl ?_
      refine v_getR (pc' := 72) 5 10 dX2_takeDue_69 rfl (by decide) (by decide) rfl kf_X2_109 q1 ?_
      refine v_iload_n (pc' := 73) dX2_takeDue_72 rfl rfl ?_
      refine v_iload (pc' := 75) dX2_takeDue_73 rfl rfl ?_
      obtain ⟨q12, T⟩ := T
      refine v_iast (pc' := 76) dX2_takeDue_75 rfl rfl q4 q12 ?_
      show V G mX2_takeDue d 76 [.ref r0, .ref r1, .int x2, .int x3, .int x4, .int (h.2 (rH h r0 1) (h.2 (rH h r1 10) x4.toNatClampNeg).toNatClampNeg)] [] (h.1, (upI (upI h.2 (rH h r1 11) x3.toNatClampNeg (h.2 (rH h r1 11) x4.toNatClampNeg)) (rH h r1 10) x3.toNatClampNeg (h.2 (rH h r0 1) (h.2 (rH h r1 10) x4.toNatClampNeg).toNatClampNeg))) o h'
      obtain ⟨i13, e14⟩ : ∃ z : Nat → Nat → Int32, z = (upI (upI h.2 (rH h r1 11) x3.toNatClampNeg (h.2 (rH h r1 11) x4.toNatClampNeg)) (rH h r1 10) x3.toNatClampNeg (h.2 (rH h r0 1) (h.2 (rH h r1 10) x4.toNatClampNeg).toNatClampNeg)) := ⟨_, rfl⟩
      rw [← e14]
      have T := T i13 e14
      refine v_iinc (pc' := 79) (loc' := [.ref r0, .ref r1, .int x2, .int (x3 + 1), .int x4, .int (h.2 (rH h r0 1) (h.2 (rH h r1 10) x4.toNatClampNeg).toNatClampNeg)]) dX2_takeDue_76 rfl rfl (kX_1 _) rfl ?_
      refine v_iinc (pc' := 82) (loc' := [.ref r0, .ref r1, .int x2, .int (x3 + 1), .int (x4 + 1), .int (h.2 (rH h r0 1) (h.2 (rH h r1 10) x4.toNatClampNeg).toNatClampNeg)]) dX2_takeDue_79 rfl rfl (kX_1 _) rfl ?_
      refine v_goto (pc' := 7) dX2_takeDue_82 (by decide) ?_
      exact V.drop (llp_r (llp_r (llp_r (llp_r (llp_r (llp_u llp_nil)))))) T
    · have T := T.2 c8
      refine v_aload_n (pc' := 37) dX2_takeDue_36 rfl rfl ?_
      refine v_getR (pc' := 40) 2 3 dX2_takeDue_37 rfl (by decide) (by decide) rfl kf_X2_23 q3 ?_
      refine v_iload_n (pc' := 41) dX2_takeDue_40 rfl rfl ?_
      refine v_aload_n (pc' := 42) dX2_takeDue_41 rfl rfl ?_
      refine v_getR (pc' := 45) 5 11 dX2_takeDue_42 rfl (by decide) (by decide) rfl kf_X2_112 q1 ?_
      refine v_iload (pc' := 47) dX2_takeDue_45 rfl rfl ?_
      obtain ⟨q15, T⟩ := T
      obtain ⟨q16, T⟩ := T
      refine v_iald (pc' := 48) dX2_takeDue_47 rfl rfl q15 q16 ?_
      obtain ⟨q17, T⟩ := T
      obtain ⟨q18, T⟩ := T
      refine v_iast (pc' := 49) dX2_takeDue_48 rfl rfl q17 q18 ?_
      refine v_iinc (pc' := 52) (loc' := [.ref r0, .ref r1, .int (x2 + 1), .int x3, .int x4, .int (h.2 (rH h r0 1) (h.2 (rH h r1 10) x4.toNatClampNeg).toNatClampNeg)]) dX2_takeDue_49 rfl rfl (kX_1 _) rfl ?_
      refine v_goto (pc' := 79) dX2_takeDue_52 (by decide) ?_
      refine v_iinc (pc' := 82) (loc' := [.ref r0, .ref r1, .int (x2 + 1), .int x3, .int (x4 + 1), .int (h.2 (rH h r0 1) (h.2 (rH h r1 10) x4.toNatClampNeg).toNatClampNeg)]) dX2_takeDue_79 rfl rfl (kX_1 _) rfl ?_
      refine v_goto (pc' := 7) dX2_takeDue_82 (by decide) ?_
      exact V.drop (llp_r (llp_r (llp_r (llp_r (llp_r (llp_u llp_nil)))))) T
theorem eX2_syncAll {G : GG} {d : Nat} {h : Hp} {o : OU} {h' : Hp} (r0 : Nat) (r1 : Nat) (T : V G mX2_syncAll d 4 [.ref r0, .ref r1, .int 0, .int 0] [] h o h') : VM G mX2_syncAll d [.ref r0, .ref r1] h o h' := by
  refine V.toM rfl rfl (le_l rfl) (cat_all rfl) ?_
  show V G mX2_syncAll d 0 [.ref r0, .ref r1, uV, uV] [] h o h'
  refine v_iconst (pc' := 1) (v := 0) dX2_syncAll_0 rfl kI_0 ?_
  refine v_istore_n (pc' := 2) (loc' := [.ref r0, .ref r1, .int 0, uV]) dX2_syncAll_1 rfl (lt_l rfl) rfl ?_
  refine v_iconst (pc' := 3) (v := 0) dX2_syncAll_2 rfl kI_0 ?_
  refine v_istore_n (pc' := 4) (loc' := [.ref r0, .ref r1, .int 0, .int 0]) dX2_syncAll_3 rfl (lt_l rfl) rfl ?_
  exact T
theorem bX2_syncAll_4 {G : GG} {d : Nat} {h : Hp} {o : OU} {h' : Hp} (r0 : Nat) (r1 : Nat) (x2 : Int32) (x3 : Int32) (hd : 1 ≤ d) (T : kH h r1 = 15 ∧ (((h.2 r1 0) ≤ x3 → (o = .inl (some (.int x2)) ∧ h' = h)) ∧ (¬ (h.2 r1 0) ≤ x3 → kH h r0 = 12 ∧ ∃ z4 h3, VM G mX2_writeBlock (d - 1) [.ref r0, .ref r1, .int x3] h (.inl (some (.int z4))) h3 ∧ ((z4 = 0 → V G mX2_syncAll d 4 [.ref r0, .ref r1, .int x2, .int (x3 + 1)] [] h3 o h') ∧ (¬ z4 = 0 → V G mX2_syncAll d 4 [.ref r0, .ref r1, .int (x2 + 1), .int (x3 + 1)] [] h3 o h'))))) : V G mX2_syncAll d 4 [.ref r0, .ref r1, .int x2, .int x3] [] h o h' := by
  have hdd : d - 1 + 1 ≤ d := by omega
  refine v_iload_n (pc' := 5) dX2_syncAll_4 rfl rfl ?_
  refine v_aload_n (pc' := 6) dX2_syncAll_5 rfl rfl ?_
  obtain ⟨q1, T⟩ := T
  refine v_getI (pc' := 9) 5 0 dX2_syncAll_6 rfl (by decide) (by decide) rfl kf_X2_75 q1 ?_
  refine v_icmp_ge (tgt := 30) (pc' := 12) dX2_syncAll_9 (by decide) rfl ⟨fun c2 => ?_, fun c2 => ?_⟩
  · have T := T.1 c2
    refine v_iload_n (pc' := 31) dX2_syncAll_30 rfl rfl ?_
    exact v_iret dX2_syncAll_31 rfl T
  · have T := T.2 c2
    refine v_aload_n (pc' := 13) dX2_syncAll_12 rfl rfl ?_
    refine v_aload_n (pc' := 14) dX2_syncAll_13 rfl rfl ?_
    refine v_iload_n (pc' := 15) dX2_syncAll_14 rfl rfl ?_
    obtain ⟨q6, T⟩ := T
    obtain ⟨z4, h3, k5, T⟩ := T
    refine v_callV (pc' := 18) (M1 := mX2_writeBlock) (as := [.ref r1, .int x3]) (r := r0) (rest := []) 2 dX2_syncAll_15 rfl ko_X2_115 kc_X2_writeBlock ki_X2_writeBlock ks_X2_writeBlock (by decide) (by decide) hdd rfl rfl (le_l rfl) q6 k5 ?_
    refine v_if_eq (tgt := 24) (pc' := 21) dX2_syncAll_18 (by decide) rfl ⟨fun c7 => ?_, fun c7 => ?_⟩
    · have T := T.1 c7
      refine v_iinc (pc' := 27) (loc' := [.ref r0, .ref r1, .int x2, .int (x3 + 1)]) dX2_syncAll_24 rfl rfl (kX_1 _) rfl ?_
      refine v_goto (pc' := 4) dX2_syncAll_27 (by decide) ?_
      exact T
    · have T := T.2 c7
      refine v_iinc (pc' := 24) (loc' := [.ref r0, .ref r1, .int (x2 + 1), .int x3]) dX2_syncAll_21 rfl rfl (kX_1 _) rfl ?_
      refine v_iinc (pc' := 27) (loc' := [.ref r0, .ref r1, .int (x2 + 1), .int (x3 + 1)]) dX2_syncAll_24 rfl rfl (kX_1 _) rfl ?_
      refine v_goto (pc' := 4) dX2_syncAll_27 (by decide) ?_
      exact T
theorem eX2_settleAll {G : GG} {d : Nat} {h : Hp} {o : OU} {h' : Hp} (r0 : Nat) (r1 : Nat) (T : V G mX2_settleAll d 4 [.ref r0, .ref r1, .int 0, .int 0] [] h o h') : VM G mX2_settleAll d [.ref r0, .ref r1] h o h' := by
  refine V.toM rfl rfl (le_l rfl) (cat_all rfl) ?_
  show V G mX2_settleAll d 0 [.ref r0, .ref r1, uV, uV] [] h o h'
  refine v_iconst (pc' := 1) (v := 0) dX2_settleAll_0 rfl kI_0 ?_
  refine v_istore_n (pc' := 2) (loc' := [.ref r0, .ref r1, .int 0, uV]) dX2_settleAll_1 rfl (lt_l rfl) rfl ?_
  refine v_iconst (pc' := 3) (v := 0) dX2_settleAll_2 rfl kI_0 ?_
  refine v_istore_n (pc' := 4) (loc' := [.ref r0, .ref r1, .int 0, .int 0]) dX2_settleAll_3 rfl (lt_l rfl) rfl ?_
  exact T
theorem bX2_settleAll_4 {G : GG} {d : Nat} {h : Hp} {o : OU} {h' : Hp} (r0 : Nat) (r1 : Nat) (x2 : Int32) (x3 : Int32) (hd : 1 ≤ d) (T : ((10000 ≤ x3 → (o = .inl (some (.int x2)) ∧ h' = h)) ∧ (¬ 10000 ≤ x3 → kH h r1 = 15 ∧ (((h.2 r1 2) ≤ 0 → (o = .inl (some (.int x2)) ∧ h' = h)) ∧ (¬ (h.2 r1 2) ≤ 0 → kH h r0 = 12 ∧ ∃ z5 h4, VM G mX2_syncAll (d - 1) [.ref r0, .ref r1] h (.inl (some (.int z5))) h4 ∧ V G mX2_settleAll d 4 [.ref r0, .ref r1, .int (x2 + z5), .int (x3 + 1)] [] h4 o h'))))) : V G mX2_settleAll d 4 [.ref r0, .ref r1, .int x2, .int x3] [] h o h' := by
  have hdd : d - 1 + 1 ≤ d := by omega
  refine v_iload_n (pc' := 5) dX2_settleAll_4 rfl rfl ?_
  refine v_sipush (pc' := 8) (v := 10000) dX2_settleAll_5 rfl kS_10000 ?_
  refine v_icmp_ge (tgt := 32) (pc' := 11) dX2_settleAll_8 (by decide) rfl ⟨fun c1 => ?_, fun c1 => ?_⟩
  · have T := T.1 c1
    refine v_iload_n (pc' := 33) dX2_settleAll_32 rfl rfl ?_
    exact v_iret dX2_settleAll_33 rfl T
  · have T := T.2 c1
    refine v_aload_n (pc' := 12) dX2_settleAll_11 rfl rfl ?_
    obtain ⟨q2, T⟩ := T
    refine v_getI (pc' := 15) 5 2 dX2_settleAll_12 rfl (by decide) (by decide) rfl kf_X2_33 q2 ?_
    refine v_if_le (tgt := 32) (pc' := 18) dX2_settleAll_15 (by decide) rfl ⟨fun c3 => ?_, fun c3 => ?_⟩
    · have T := T.1 c3
      refine v_iload_n (pc' := 33) dX2_settleAll_32 rfl rfl ?_
      exact v_iret dX2_settleAll_33 rfl T
    · have T := T.2 c3
      refine v_iload_n (pc' := 19) dX2_settleAll_18 rfl rfl ?_
      refine v_aload_n (pc' := 20) dX2_settleAll_19 rfl rfl ?_
      refine v_aload_n (pc' := 21) dX2_settleAll_20 rfl rfl ?_
      obtain ⟨q7, T⟩ := T
      obtain ⟨z5, h4, k6, T⟩ := T
      refine v_callV (pc' := 24) (M1 := mX2_syncAll) (as := [.ref r1]) (r := r0) (rest := [.int x2]) 2 dX2_settleAll_21 rfl ko_X2_118 kc_X2_syncAll ki_X2_syncAll ks_X2_syncAll (by decide) (by decide) hdd rfl rfl (le_l rfl) q7 k6 ?_
      refine v_iadd (pc' := 25) dX2_settleAll_24 rfl ?_
      refine v_istore_n (pc' := 26) (loc' := [.ref r0, .ref r1, .int (x2 + z5), .int x3]) dX2_settleAll_25 rfl (lt_l rfl) rfl ?_
      refine v_iinc (pc' := 29) (loc' := [.ref r0, .ref r1, .int (x2 + z5), .int (x3 + 1)]) dX2_settleAll_26 rfl rfl (kX_1 _) rfl ?_
      refine v_goto (pc' := 4) dX2_settleAll_29 (by decide) ?_
      exact T
