theorem dX3_init_0 : decode cX3_init 0 = .ok (.aload_n 0, 1) := by decide +kernel
theorem dX3_init_1 : decode cX3_init 1 = .ok (.invokespecial 3, 3) := by decide +kernel
theorem dX3_init_4 : decode cX3_init 4 = .ok (.aload_n 0, 1) := by decide +kernel
theorem dX3_init_5 : decode cX3_init 5 = .ok (.new 9, 3) := by decide +kernel
theorem dX3_init_8 : decode cX3_init 8 = .ok (.dup, 1) := by decide +kernel
theorem dX3_init_9 : decode cX3_init 9 = .ok (.invokespecial 11, 3) := by decide +kernel
theorem dX3_init_12 : decode cX3_init 12 = .ok (.putfield 12, 3) := by decide +kernel
theorem dX3_init_15 : decode cX3_init 15 = .ok (.aload_n 0, 1) := by decide +kernel
theorem dX3_init_16 : decode cX3_init 16 = .ok (.bipush 16, 2) := by decide +kernel
theorem dX3_init_18 : decode cX3_init 18 = .ok (.newarray .int, 2) := by decide +kernel
theorem dX3_init_20 : decode cX3_init 20 = .ok (.putfield 18, 3) := by decide +kernel
theorem dX3_init_23 : decode cX3_init 23 = .ok (.aload_n 0, 1) := by decide +kernel
theorem dX3_init_24 : decode cX3_init 24 = .ok (.sipush 600, 3) := by decide +kernel
theorem dX3_init_27 : decode cX3_init 27 = .ok (.newarray .byte, 2) := by decide +kernel
theorem dX3_init_29 : decode cX3_init 29 = .ok (.putfield 22, 3) := by decide +kernel
theorem dX3_init_32 : decode cX3_init 32 = .ok (.aload_n 0, 1) := by decide +kernel
theorem dX3_init_33 : decode cX3_init 33 = .ok (.bipush 6, 2) := by decide +kernel
theorem dX3_init_35 : decode cX3_init 35 = .ok (.newarray .int, 2) := by decide +kernel
theorem dX3_init_37 : decode cX3_init 37 = .ok (.putfield 26, 3) := by decide +kernel
theorem dX3_init_40 : decode cX3_init 40 = .ok (.return_, 1) := by decide +kernel
theorem dX3_begin_0 : decode cX3_begin 0 = .ok (.aload_n 0, 1) := by decide +kernel
theorem dX3_begin_1 : decode cX3_begin 1 = .ok (.iconst 0, 1) := by decide +kernel
theorem dX3_begin_2 : decode cX3_begin 2 = .ok (.iload_n 2, 1) := by decide +kernel
theorem dX3_begin_3 : decode cX3_begin 3 = .ok (.aload_n 1, 1) := by decide +kernel
theorem dX3_begin_4 : decode cX3_begin 4 = .ok (.arraylength, 1) := by decide +kernel
theorem dX3_begin_5 : decode cX3_begin 5 = .ok (.sipush 600, 3) := by decide +kernel
theorem dX3_begin_8 : decode cX3_begin 8 = .ok (.invokestatic 29, 3) := by decide +kernel
theorem dX3_begin_11 : decode cX3_begin 11 = .ok (.invokestatic 29, 3) := by decide +kernel
theorem dX3_begin_14 : decode cX3_begin 14 = .ok (.invokestatic 35, 3) := by decide +kernel
theorem dX3_begin_17 : decode cX3_begin 17 = .ok (.putfield 38, 3) := by decide +kernel
theorem dX3_begin_20 : decode cX3_begin 20 = .ok (.aload_n 1, 1) := by decide +kernel
theorem dX3_begin_21 : decode cX3_begin 21 = .ok (.iconst 0, 1) := by decide +kernel
theorem dX3_begin_22 : decode cX3_begin 22 = .ok (.aload_n 0, 1) := by decide +kernel
theorem dX3_begin_23 : decode cX3_begin 23 = .ok (.getfield 22, 3) := by decide +kernel
theorem dX3_begin_26 : decode cX3_begin 26 = .ok (.iconst 0, 1) := by decide +kernel
theorem dX3_begin_27 : decode cX3_begin 27 = .ok (.aload_n 0, 1) := by decide +kernel
theorem dX3_begin_28 : decode cX3_begin 28 = .ok (.getfield 38, 3) := by decide +kernel
theorem dX3_begin_31 : decode cX3_begin 31 = .ok (.invokestatic 42, 3) := by decide +kernel
theorem dX3_begin_34 : decode cX3_begin 34 = .ok (.aload_n 0, 1) := by decide +kernel
theorem dX3_begin_35 : decode cX3_begin 35 = .ok (.iconst 0, 1) := by decide +kernel
theorem dX3_begin_36 : decode cX3_begin 36 = .ok (.putfield 48, 3) := by decide +kernel
theorem dX3_begin_39 : decode cX3_begin 39 = .ok (.aload_n 0, 1) := by decide +kernel
theorem dX3_begin_40 : decode cX3_begin 40 = .ok (.iconst 0, 1) := by decide +kernel
theorem dX3_begin_41 : decode cX3_begin 41 = .ok (.putfield 51, 3) := by decide +kernel
theorem dX3_begin_44 : decode cX3_begin 44 = .ok (.aload_n 0, 1) := by decide +kernel
theorem dX3_begin_45 : decode cX3_begin 45 = .ok (.iconst (-1), 1) := by decide +kernel
theorem dX3_begin_46 : decode cX3_begin 46 = .ok (.putfield 54, 3) := by decide +kernel
theorem dX3_begin_49 : decode cX3_begin 49 = .ok (.aload_n 0, 1) := by decide +kernel
theorem dX3_begin_50 : decode cX3_begin 50 = .ok (.iconst 0, 1) := by decide +kernel
theorem dX3_begin_51 : decode cX3_begin 51 = .ok (.putfield 57, 3) := by decide +kernel
theorem dX3_begin_54 : decode cX3_begin 54 = .ok (.aload_n 0, 1) := by decide +kernel
theorem dX3_begin_55 : decode cX3_begin 55 = .ok (.getfield 12, 3) := by decide +kernel
theorem dX3_begin_58 : decode cX3_begin 58 = .ok (.invokevirtual 60, 3) := by decide +kernel
theorem dX3_begin_61 : decode cX3_begin 61 = .ok (.return_, 1) := by decide +kernel
theorem dX3_readStore_0 : decode cX3_readStore 0 = .ok (.aload_n 0, 1) := by decide +kernel
theorem dX3_readStore_1 : decode cX3_readStore 1 = .ok (.aload_n 1, 1) := by decide +kernel
theorem dX3_readStore_2 : decode cX3_readStore 2 = .ok (.iload_n 2, 1) := by decide +kernel
theorem dX3_readStore_3 : decode cX3_readStore 3 = .ok (.invokevirtual 63, 3) := by decide +kernel
theorem dX3_readStore_6 : decode cX3_readStore 6 = .ok (.iconst 0, 1) := by decide +kernel
theorem dX3_readStore_7 : decode cX3_readStore 7 = .ok (.istore_n 3, 1) := by decide +kernel
theorem dX3_readStore_8 : decode cX3_readStore 8 = .ok (.aload_n 0, 1) := by decide +kernel
theorem dX3_readStore_9 : decode cX3_readStore 9 = .ok (.getfield 51, 3) := by decide +kernel
theorem dX3_readStore_12 : decode cX3_readStore 12 = .ok (.ifCond .ne 82, 3) := by decide +kernel
theorem dX3_readStore_15 : decode cX3_readStore 15 = .ok (.aload_n 0, 1) := by decide +kernel
theorem dX3_readStore_16 : decode cX3_readStore 16 = .ok (.invokevirtual 67, 3) := by decide +kernel
theorem dX3_readStore_19 : decode cX3_readStore 19 = .ok (.ifCond .ne 75, 3) := by decide +kernel
theorem dX3_readStore_22 : decode cX3_readStore 22 = .ok (.iload_n 3, 1) := by decide +kernel
theorem dX3_readStore_23 : decode cX3_readStore 23 = .ok (.bipush 60, 2) := by decide +kernel
theorem dX3_readStore_25 : decode cX3_readStore 25 = .ok (.if_icmp .gt 69, 3) := by decide +kernel
theorem dX3_readStore_28 : decode cX3_readStore 28 = .ok (.aload_n 0, 1) := by decide +kernel
theorem dX3_readStore_29 : decode cX3_readStore 29 = .ok (.getfield 48, 3) := by decide +kernel
theorem dX3_readStore_32 : decode cX3_readStore 32 = .ok (.istore 4, 2) := by decide +kernel
theorem dX3_readStore_34 : decode cX3_readStore 34 = .ok (.aload_n 0, 1) := by decide +kernel
theorem dX3_readStore_35 : decode cX3_readStore 35 = .ok (.invokevirtual 71, 3) := by decide +kernel
theorem dX3_readStore_38 : decode cX3_readStore 38 = .ok (.istore 5, 2) := by decide +kernel
theorem dX3_readStore_40 : decode cX3_readStore 40 = .ok (.iload 5, 2) := by decide +kernel
theorem dX3_readStore_42 : decode cX3_readStore 42 = .ok (.iconst 4, 1) := by decide +kernel
theorem dX3_readStore_43 : decode cX3_readStore 43 = .ok (.if_icmp .le 20, 3) := by decide +kernel
theorem dX3_readStore_46 : decode cX3_readStore 46 = .ok (.iload 5, 2) := by decide +kernel
theorem dX3_readStore_48 : decode cX3_readStore 48 = .ok (.bipush 12, 2) := by decide +kernel
theorem dX3_readStore_50 : decode cX3_readStore 50 = .ok (.if_icmp .eq 13, 3) := by decide +kernel
theorem dX3_readStore_53 : decode cX3_readStore 53 = .ok (.aload_n 0, 1) := by decide +kernel
theorem dX3_readStore_54 : decode cX3_readStore 54 = .ok (.iconst 1, 1) := by decide +kernel
theorem dX3_readStore_55 : decode cX3_readStore 55 = .ok (.iload 4, 2) := by decide +kernel
theorem dX3_readStore_57 : decode cX3_readStore 57 = .ok (.invokevirtual 75, 3) := by decide +kernel
theorem dX3_readStore_60 : decode cX3_readStore 60 = .ok (.goto 16, 3) := by decide +kernel
theorem dX3_readStore_63 : decode cX3_readStore 63 = .ok (.iload_n 3, 1) := by decide +kernel
theorem dX3_readStore_64 : decode cX3_readStore 64 = .ok (.bipush 60, 2) := by decide +kernel
theorem dX3_readStore_66 : decode cX3_readStore 66 = .ok (.if_icmp .ne 10, 3) := by decide +kernel
theorem dX3_readStore_69 : decode cX3_readStore 69 = .ok (.aload_n 0, 1) := by decide +kernel
theorem dX3_readStore_70 : decode cX3_readStore 70 = .ok (.iconst 3, 1) := by decide +kernel
theorem dX3_readStore_71 : decode cX3_readStore 71 = .ok (.iload 4, 2) := by decide +kernel
theorem dX3_readStore_73 : decode cX3_readStore 73 = .ok (.invokevirtual 75, 3) := by decide +kernel
theorem dX3_readStore_76 : decode cX3_readStore 76 = .ok (.aload_n 0, 1) := by decide +kernel
theorem dX3_readStore_77 : decode cX3_readStore 77 = .ok (.iload 5, 2) := by decide +kernel
theorem dX3_readStore_79 : decode cX3_readStore 79 = .ok (.invokevirtual 79, 3) := by decide +kernel
theorem dX3_readStore_82 : decode cX3_readStore 82 = .ok (.aload_n 0, 1) := by decide +kernel
theorem dX3_readStore_83 : decode cX3_readStore 83 = .ok (.bipush 59, 2) := by decide +kernel
theorem dX3_readStore_85 : decode cX3_readStore 85 = .ok (.invokevirtual 83, 3) := by decide +kernel
theorem dX3_readStore_88 : decode cX3_readStore 88 = .ok (.iinc 3 1, 3) := by decide +kernel
theorem dX3_readStore_91 : decode cX3_readStore 91 = .ok (.goto (-83), 3) := by decide +kernel
theorem dX3_readStore_94 : decode cX3_readStore 94 = .ok (.aload_n 0, 1) := by decide +kernel
theorem dX3_readStore_95 : decode cX3_readStore 95 = .ok (.getfield 51, 3) := by decide +kernel
theorem dX3_readStore_98 : decode cX3_readStore 98 = .ok (.ireturn, 1) := by decide +kernel
theorem dX3_readWork_0 : decode cX3_readWork 0 = .ok (.aload_n 0, 1) := by decide +kernel
theorem dX3_readWork_1 : decode cX3_readWork 1 = .ok (.aload_n 1, 1) := by decide +kernel
theorem dX3_readWork_2 : decode cX3_readWork 2 = .ok (.iload_n 2, 1) := by decide +kernel
theorem dX3_readWork_3 : decode cX3_readWork 3 = .ok (.invokevirtual 63, 3) := by decide +kernel
theorem dX3_readWork_6 : decode cX3_readWork 6 = .ok (.iconst 0, 1) := by decide +kernel
theorem dX3_readWork_7 : decode cX3_readWork 7 = .ok (.istore_n 3, 1) := by decide +kernel
theorem dX3_readWork_8 : decode cX3_readWork 8 = .ok (.iload_n 3, 1) := by decide +kernel
theorem dX3_readWork_9 : decode cX3_readWork 9 = .ok (.aload_n 0, 1) := by decide +kernel
theorem dX3_readWork_10 : decode cX3_readWork 10 = .ok (.getfield 38, 3) := by decide +kernel
theorem dX3_readWork_13 : decode cX3_readWork 13 = .ok (.if_icmp .gt 93, 3) := by decide +kernel
theorem dX3_readWork_16 : decode cX3_readWork 16 = .ok (.aload_n 0, 1) := by decide +kernel
theorem dX3_readWork_17 : decode cX3_readWork 17 = .ok (.getfield 51, 3) := by decide +kernel
theorem dX3_readWork_20 : decode cX3_readWork 20 = .ok (.ifCond .ne 86, 3) := by decide +kernel
theorem dX3_readWork_23 : decode cX3_readWork 23 = .ok (.aload_n 0, 1) := by decide +kernel
theorem dX3_readWork_24 : decode cX3_readWork 24 = .ok (.invokevirtual 67, 3) := by decide +kernel
theorem dX3_readWork_27 : decode cX3_readWork 27 = .ok (.ifCond .ne 79, 3) := by decide +kernel
theorem dX3_readWork_30 : decode cX3_readWork 30 = .ok (.aload_n 0, 1) := by decide +kernel
theorem dX3_readWork_31 : decode cX3_readWork 31 = .ok (.getfield 57, 3) := by decide +kernel
theorem dX3_readWork_34 : decode cX3_readWork 34 = .ok (.ifCond .le 62, 3) := by decide +kernel
theorem dX3_readWork_37 : decode cX3_readWork 37 = .ok (.aload_n 0, 1) := by decide +kernel
theorem dX3_readWork_38 : decode cX3_readWork 38 = .ok (.getfield 22, 3) := by decide +kernel
theorem dX3_readWork_41 : decode cX3_readWork 41 = .ok (.aload_n 0, 1) := by decide +kernel
theorem dX3_readWork_42 : decode cX3_readWork 42 = .ok (.getfield 48, 3) := by decide +kernel
theorem dX3_readWork_45 : decode cX3_readWork 45 = .ok (.baload, 1) := by decide +kernel
theorem dX3_readWork_46 : decode cX3_readWork 46 = .ok (.bipush 93, 2) := by decide +kernel
theorem dX3_readWork_48 : decode cX3_readWork 48 = .ok (.if_icmp .ne 48, 3) := by decide +kernel
theorem dX3_readWork_51 : decode cX3_readWork 51 = .ok (.aload_n 0, 1) := by decide +kernel
theorem dX3_readWork_52 : decode cX3_readWork 52 = .ok (.dup, 1) := by decide +kernel
theorem dX3_readWork_53 : decode cX3_readWork 53 = .ok (.getfield 48, 3) := by decide +kernel
theorem dX3_readWork_56 : decode cX3_readWork 56 = .ok (.iconst 1, 1) := by decide +kernel
theorem dX3_readWork_57 : decode cX3_readWork 57 = .ok (.iadd, 1) := by decide +kernel
theorem dX3_readWork_58 : decode cX3_readWork 58 = .ok (.putfield 48, 3) := by decide +kernel
theorem dX3_readWork_61 : decode cX3_readWork 61 = .ok (.aload_n 0, 1) := by decide +kernel
theorem dX3_readWork_62 : decode cX3_readWork 62 = .ok (.dup, 1) := by decide +kernel
theorem dX3_readWork_63 : decode cX3_readWork 63 = .ok (.getfield 57, 3) := by decide +kernel
theorem dX3_readWork_66 : decode cX3_readWork 66 = .ok (.iconst 1, 1) := by decide +kernel
theorem dX3_readWork_67 : decode cX3_readWork 67 = .ok (.isub, 1) := by decide +kernel
theorem dX3_readWork_68 : decode cX3_readWork 68 = .ok (.putfield 57, 3) := by decide +kernel
theorem dX3_readWork_71 : decode cX3_readWork 71 = .ok (.aload_n 0, 1) := by decide +kernel
theorem dX3_readWork_72 : decode cX3_readWork 72 = .ok (.getfield 12, 3) := by decide +kernel
theorem dX3_readWork_75 : decode cX3_readWork 75 = .ok (.aload_n 0, 1) := by decide +kernel
theorem dX3_readWork_76 : decode cX3_readWork 76 = .ok (.getfield 26, 3) := by decide +kernel
theorem dX3_readWork_79 : decode cX3_readWork 79 = .ok (.aload_n 0, 1) := by decide +kernel
theorem dX3_readWork_80 : decode cX3_readWork 80 = .ok (.getfield 57, 3) := by decide +kernel
theorem dX3_readWork_83 : decode cX3_readWork 83 = .ok (.iaload, 1) := by decide +kernel
theorem dX3_readWork_84 : decode cX3_readWork 84 = .ok (.invokevirtual 87, 3) := by decide +kernel
theorem dX3_readWork_87 : decode cX3_readWork 87 = .ok (.aload_n 0, 1) := by decide +kernel
theorem dX3_readWork_88 : decode cX3_readWork 88 = .ok (.bipush 59, 2) := by decide +kernel
theorem dX3_readWork_90 : decode cX3_readWork 90 = .ok (.invokevirtual 83, 3) := by decide +kernel
theorem dX3_readWork_93 : decode cX3_readWork 93 = .ok (.goto 7, 3) := by decide +kernel
theorem dX3_readWork_96 : decode cX3_readWork 96 = .ok (.aload_n 0, 1) := by decide +kernel
theorem dX3_readWork_97 : decode cX3_readWork 97 = .ok (.invokevirtual 90, 3) := by decide +kernel
theorem dX3_readWork_100 : decode cX3_readWork 100 = .ok (.iinc 3 1, 3) := by decide +kernel
theorem dX3_readWork_103 : decode cX3_readWork 103 = .ok (.goto (-95), 3) := by decide +kernel
theorem dX3_readWork_106 : decode cX3_readWork 106 = .ok (.aload_n 0, 1) := by decide +kernel
theorem dX3_readWork_107 : decode cX3_readWork 107 = .ok (.getfield 57, 3) := by decide +kernel
theorem dX3_readWork_110 : decode cX3_readWork 110 = .ok (.ifCond .le 12, 3) := by decide +kernel
theorem dX3_readWork_113 : decode cX3_readWork 113 = .ok (.aload_n 0, 1) := by decide +kernel
theorem dX3_readWork_114 : decode cX3_readWork 114 = .ok (.iconst 1, 1) := by decide +kernel
theorem dX3_readWork_115 : decode cX3_readWork 115 = .ok (.aload_n 0, 1) := by decide +kernel
theorem dX3_readWork_116 : decode cX3_readWork 116 = .ok (.getfield 38, 3) := by decide +kernel
theorem dX3_readWork_119 : decode cX3_readWork 119 = .ok (.invokevirtual 75, 3) := by decide +kernel
theorem dX3_readWork_122 : decode cX3_readWork 122 = .ok (.aload_n 0, 1) := by decide +kernel
theorem dX3_readWork_123 : decode cX3_readWork 123 = .ok (.getfield 51, 3) := by decide +kernel
theorem dX3_readWork_126 : decode cX3_readWork 126 = .ok (.ireturn, 1) := by decide +kernel
theorem dX3_readStep_0 : decode cX3_readStep 0 = .ok (.aload_n 0, 1) := by decide +kernel
theorem dX3_readStep_1 : decode cX3_readStep 1 = .ok (.getfield 48, 3) := by decide +kernel
theorem dX3_readStep_4 : decode cX3_readStep 4 = .ok (.istore_n 1, 1) := by decide +kernel
theorem dX3_readStep_5 : decode cX3_readStep 5 = .ok (.aload_n 0, 1) := by decide +kernel
theorem dX3_readStep_6 : decode cX3_readStep 6 = .ok (.invokevirtual 71, 3) := by decide +kernel
theorem dX3_readStep_9 : decode cX3_readStep 9 = .ok (.istore_n 2, 1) := by decide +kernel
theorem dX3_readStep_10 : decode cX3_readStep 10 = .ok (.iload_n 2, 1) := by decide +kernel
theorem dX3_readStep_11 : decode cX3_readStep 11 = .ok (.bipush 12, 2) := by decide +kernel
theorem dX3_readStep_13 : decode cX3_readStep 13 = .ok (.if_icmp .ne 12, 3) := by decide +kernel
theorem dX3_readStep_16 : decode cX3_readStep 16 = .ok (.aload_n 0, 1) := by decide +kernel
theorem dX3_readStep_17 : decode cX3_readStep 17 = .ok (.iconst 1, 1) := by decide +kernel
theorem dX3_readStep_18 : decode cX3_readStep 18 = .ok (.iload_n 1, 1) := by decide +kernel
theorem dX3_readStep_19 : decode cX3_readStep 19 = .ok (.invokevirtual 75, 3) := by decide +kernel
theorem dX3_readStep_22 : decode cX3_readStep 22 = .ok (.goto 24, 3) := by decide +kernel
theorem dX3_readStep_25 : decode cX3_readStep 25 = .ok (.iload_n 2, 1) := by decide +kernel
theorem dX3_readStep_26 : decode cX3_readStep 26 = .ok (.bipush 11, 2) := by decide +kernel
theorem dX3_readStep_28 : decode cX3_readStep 28 = .ok (.if_icmp .ne 18, 3) := by decide +kernel
theorem dX3_readStep_31 : decode cX3_readStep 31 = .ok (.aload_n 0, 1) := by decide +kernel
theorem dX3_readStep_32 : decode cX3_readStep 32 = .ok (.getfield 57, 3) := by decide +kernel
theorem dX3_readStep_35 : decode cX3_readStep 35 = .ok (.bipush 6, 2) := by decide +kernel
theorem dX3_readStep_37 : decode cX3_readStep 37 = .ok (.if_icmp .lt 9, 3) := by decide +kernel
theorem dX3_readStep_40 : decode cX3_readStep 40 = .ok (.aload_n 0, 1) := by decide +kernel
theorem dX3_readStep_41 : decode cX3_readStep 41 = .ok (.iconst 3, 1) := by decide +kernel
theorem dX3_readStep_42 : decode cX3_readStep 42 = .ok (.iload_n 1, 1) := by decide +kernel
theorem dX3_readStep_43 : decode cX3_readStep 43 = .ok (.invokevirtual 75, 3) := by decide +kernel
theorem dX3_readStep_46 : decode cX3_readStep 46 = .ok (.aload_n 0, 1) := by decide +kernel
theorem dX3_readStep_47 : decode cX3_readStep 47 = .ok (.iload_n 2, 1) := by decide +kernel
theorem dX3_readStep_48 : decode cX3_readStep 48 = .ok (.invokevirtual 79, 3) := by decide +kernel
theorem dX3_readStep_51 : decode cX3_readStep 51 = .ok (.iload_n 2, 1) := by decide +kernel
theorem dX3_readStep_52 : decode cX3_readStep 52 = .ok (.bipush 11, 2) := by decide +kernel
theorem dX3_readStep_54 : decode cX3_readStep 54 = .ok (.if_icmp .ne 47, 3) := by decide +kernel
theorem dX3_readStep_57 : decode cX3_readStep 57 = .ok (.aload_n 0, 1) := by decide +kernel
theorem dX3_readStep_58 : decode cX3_readStep 58 = .ok (.bipush 91, 2) := by decide +kernel
theorem dX3_readStep_60 : decode cX3_readStep 60 = .ok (.invokevirtual 83, 3) := by decide +kernel
theorem dX3_readStep_63 : decode cX3_readStep 63 = .ok (.aload_n 0, 1) := by decide +kernel
theorem dX3_readStep_64 : decode cX3_readStep 64 = .ok (.getfield 51, 3) := by decide +kernel
theorem dX3_readStep_67 : decode cX3_readStep 67 = .ok (.ifCond .ne 40, 3) := by decide +kernel
theorem dX3_readStep_70 : decode cX3_readStep 70 = .ok (.aload_n 0, 1) := by decide +kernel
theorem dX3_readStep_71 : decode cX3_readStep 71 = .ok (.getfield 26, 3) := by decide +kernel
theorem dX3_readStep_74 : decode cX3_readStep 74 = .ok (.aload_n 0, 1) := by decide +kernel
theorem dX3_readStep_75 : decode cX3_readStep 75 = .ok (.getfield 57, 3) := by decide +kernel
theorem dX3_readStep_78 : decode cX3_readStep 78 = .ok (.aload_n 0, 1) := by decide +kernel
theorem dX3_readStep_79 : decode cX3_readStep 79 = .ok (.getfield 12, 3) := by decide +kernel
theorem dX3_readStep_82 : decode cX3_readStep 82 = .ok (.getfield 93, 3) := by decide +kernel
theorem dX3_readStep_85 : decode cX3_readStep 85 = .ok (.iconst 1, 1) := by decide +kernel
theorem dX3_readStep_86 : decode cX3_readStep 86 = .ok (.isub, 1) := by decide +kernel
theorem dX3_readStep_87 : decode cX3_readStep 87 = .ok (.iastore, 1) := by decide +kernel
theorem dX3_readStep_88 : decode cX3_readStep 88 = .ok (.aload_n 0, 1) := by decide +kernel
theorem dX3_readStep_89 : decode cX3_readStep 89 = .ok (.dup, 1) := by decide +kernel
theorem dX3_readStep_90 : decode cX3_readStep 90 = .ok (.getfield 57, 3) := by decide +kernel
theorem dX3_readStep_93 : decode cX3_readStep 93 = .ok (.iconst 1, 1) := by decide +kernel
theorem dX3_readStep_94 : decode cX3_readStep 94 = .ok (.iadd, 1) := by decide +kernel
theorem dX3_readStep_95 : decode cX3_readStep 95 = .ok (.putfield 57, 3) := by decide +kernel
theorem dX3_readStep_98 : decode cX3_readStep 98 = .ok (.goto 9, 3) := by decide +kernel
theorem dX3_readStep_101 : decode cX3_readStep 101 = .ok (.aload_n 0, 1) := by decide +kernel
theorem dX3_readStep_102 : decode cX3_readStep 102 = .ok (.bipush 59, 2) := by decide +kernel
theorem dX3_readStep_104 : decode cX3_readStep 104 = .ok (.invokevirtual 83, 3) := by decide +kernel
theorem dX3_readStep_107 : decode cX3_readStep 107 = .ok (.return_, 1) := by decide +kernel
theorem dX3_readBook_0 : decode cX3_readBook 0 = .ok (.aload_n 0, 1) := by decide +kernel
theorem dX3_readBook_1 : decode cX3_readBook 1 = .ok (.aload_n 1, 1) := by decide +kernel
theorem dX3_readBook_2 : decode cX3_readBook 2 = .ok (.iload_n 2, 1) := by decide +kernel
theorem dX3_readBook_3 : decode cX3_readBook 3 = .ok (.invokevirtual 63, 3) := by decide +kernel
theorem dX3_readBook_6 : decode cX3_readBook 6 = .ok (.aload_n 0, 1) := by decide +kernel
theorem dX3_readBook_7 : decode cX3_readBook 7 = .ok (.iconst 0, 1) := by decide +kernel
theorem dX3_readBook_8 : decode cX3_readBook 8 = .ok (.putfield 94, 3) := by decide +kernel
theorem dX3_readBook_11 : decode cX3_readBook 11 = .ok (.iconst 0, 1) := by decide +kernel
theorem dX3_readBook_12 : decode cX3_readBook 12 = .ok (.istore_n 3, 1) := by decide +kernel
theorem dX3_readBook_13 : decode cX3_readBook 13 = .ok (.iload_n 3, 1) := by decide +kernel
theorem dX3_readBook_14 : decode cX3_readBook 14 = .ok (.bipush 16, 2) := by decide +kernel
theorem dX3_readBook_16 : decode cX3_readBook 16 = .ok (.if_icmp .ge 16, 3) := by decide +kernel
theorem dX3_readBook_19 : decode cX3_readBook 19 = .ok (.aload_n 0, 1) := by decide +kernel
theorem dX3_readBook_20 : decode cX3_readBook 20 = .ok (.getfield 18, 3) := by decide +kernel
theorem dX3_readBook_23 : decode cX3_readBook 23 = .ok (.iload_n 3, 1) := by decide +kernel
theorem dX3_readBook_24 : decode cX3_readBook 24 = .ok (.iconst (-1), 1) := by decide +kernel
theorem dX3_readBook_25 : decode cX3_readBook 25 = .ok (.iastore, 1) := by decide +kernel
theorem dX3_readBook_26 : decode cX3_readBook 26 = .ok (.iinc 3 1, 3) := by decide +kernel
theorem dX3_readBook_29 : decode cX3_readBook 29 = .ok (.goto (-16), 3) := by decide +kernel
theorem dX3_readBook_32 : decode cX3_readBook 32 = .ok (.iconst 0, 1) := by decide +kernel
theorem dX3_readBook_33 : decode cX3_readBook 33 = .ok (.istore_n 3, 1) := by decide +kernel
theorem dX3_readBook_34 : decode cX3_readBook 34 = .ok (.iload_n 3, 1) := by decide +kernel
theorem dX3_readBook_35 : decode cX3_readBook 35 = .ok (.aload_n 0, 1) := by decide +kernel
theorem dX3_readBook_36 : decode cX3_readBook 36 = .ok (.getfield 38, 3) := by decide +kernel
theorem dX3_readBook_39 : decode cX3_readBook 39 = .ok (.if_icmp .gt 97, 3) := by decide +kernel
theorem dX3_readBook_42 : decode cX3_readBook 42 = .ok (.aload_n 0, 1) := by decide +kernel
theorem dX3_readBook_43 : decode cX3_readBook 43 = .ok (.getfield 51, 3) := by decide +kernel
theorem dX3_readBook_46 : decode cX3_readBook 46 = .ok (.ifCond .ne 90, 3) := by decide +kernel
theorem dX3_readBook_49 : decode cX3_readBook 49 = .ok (.aload_n 0, 1) := by decide +kernel
theorem dX3_readBook_50 : decode cX3_readBook 50 = .ok (.invokevirtual 67, 3) := by decide +kernel
theorem dX3_readBook_53 : decode cX3_readBook 53 = .ok (.ifCond .ne 83, 3) := by decide +kernel
theorem dX3_readBook_56 : decode cX3_readBook 56 = .ok (.aload_n 0, 1) := by decide +kernel
theorem dX3_readBook_57 : decode cX3_readBook 57 = .ok (.getfield 48, 3) := by decide +kernel
theorem dX3_readBook_60 : decode cX3_readBook 60 = .ok (.istore 4, 2) := by decide +kernel
theorem dX3_readBook_62 : decode cX3_readBook 62 = .ok (.aload_n 0, 1) := by decide +kernel
theorem dX3_readBook_63 : decode cX3_readBook 63 = .ok (.iconst 0, 1) := by decide +kernel
theorem dX3_readBook_64 : decode cX3_readBook 64 = .ok (.bipush 15, 2) := by decide +kernel
theorem dX3_readBook_66 : decode cX3_readBook 66 = .ok (.invokevirtual 97, 3) := by decide +kernel
theorem dX3_readBook_69 : decode cX3_readBook 69 = .ok (.istore 5, 2) := by decide +kernel
theorem dX3_readBook_71 : decode cX3_readBook 71 = .ok (.aload_n 0, 1) := by decide +kernel
theorem dX3_readBook_72 : decode cX3_readBook 72 = .ok (.getfield 18, 3) := by decide +kernel
theorem dX3_readBook_75 : decode cX3_readBook 75 = .ok (.iload 5, 2) := by decide +kernel
theorem dX3_readBook_77 : decode cX3_readBook 77 = .ok (.iaload, 1) := by decide +kernel
theorem dX3_readBook_78 : decode cX3_readBook 78 = .ok (.iconst (-1), 1) := by decide +kernel
theorem dX3_readBook_79 : decode cX3_readBook 79 = .ok (.if_icmp .eq 10, 3) := by decide +kernel
theorem dX3_readBook_82 : decode cX3_readBook 82 = .ok (.aload_n 0, 1) := by decide +kernel
theorem dX3_readBook_83 : decode cX3_readBook 83 = .ok (.iconst 2, 1) := by decide +kernel
theorem dX3_readBook_84 : decode cX3_readBook 84 = .ok (.iload 4, 2) := by decide +kernel
theorem dX3_readBook_86 : decode cX3_readBook 86 = .ok (.invokevirtual 75, 3) := by decide +kernel
theorem dX3_readBook_89 : decode cX3_readBook 89 = .ok (.aload_n 0, 1) := by decide +kernel
theorem dX3_readBook_90 : decode cX3_readBook 90 = .ok (.iconst 0, 1) := by decide +kernel
theorem dX3_readBook_91 : decode cX3_readBook 91 = .ok (.bipush 99, 2) := by decide +kernel
theorem dX3_readBook_93 : decode cX3_readBook 93 = .ok (.invokevirtual 97, 3) := by decide +kernel
theorem dX3_readBook_96 : decode cX3_readBook 96 = .ok (.istore 6, 2) := by decide +kernel
theorem dX3_readBook_98 : decode cX3_readBook 98 = .ok (.aload_n 0, 1) := by decide +kernel
theorem dX3_readBook_99 : decode cX3_readBook 99 = .ok (.bipush 59, 2) := by decide +kernel
theorem dX3_readBook_101 : decode cX3_readBook 101 = .ok (.invokevirtual 83, 3) := by decide +kernel
theorem dX3_readBook_104 : decode cX3_readBook 104 = .ok (.aload_n 0, 1) := by decide +kernel
theorem dX3_readBook_105 : decode cX3_readBook 105 = .ok (.getfield 51, 3) := by decide +kernel
theorem dX3_readBook_108 : decode cX3_readBook 108 = .ok (.ifCond .ne 22, 3) := by decide +kernel
theorem dX3_readBook_111 : decode cX3_readBook 111 = .ok (.aload_n 0, 1) := by decide +kernel
theorem dX3_readBook_112 : decode cX3_readBook 112 = .ok (.getfield 18, 3) := by decide +kernel
theorem dX3_readBook_115 : decode cX3_readBook 115 = .ok (.iload 5, 2) := by decide +kernel
theorem dX3_readBook_117 : decode cX3_readBook 117 = .ok (.iload 6, 2) := by decide +kernel
theorem dX3_readBook_119 : decode cX3_readBook 119 = .ok (.iastore, 1) := by decide +kernel
theorem dX3_readBook_120 : decode cX3_readBook 120 = .ok (.aload_n 0, 1) := by decide +kernel
theorem dX3_readBook_121 : decode cX3_readBook 121 = .ok (.dup, 1) := by decide +kernel
theorem dX3_readBook_122 : decode cX3_readBook 122 = .ok (.getfield 94, 3) := by decide +kernel
theorem dX3_readBook_125 : decode cX3_readBook 125 = .ok (.iconst 1, 1) := by decide +kernel
theorem dX3_readBook_126 : decode cX3_readBook 126 = .ok (.iadd, 1) := by decide +kernel
theorem dX3_readBook_127 : decode cX3_readBook 127 = .ok (.putfield 94, 3) := by decide +kernel
theorem dX3_readBook_130 : decode cX3_readBook 130 = .ok (.iinc 3 1, 3) := by decide +kernel
theorem dX3_readBook_133 : decode cX3_readBook 133 = .ok (.goto (-99), 3) := by decide +kernel
theorem dX3_readBook_136 : decode cX3_readBook 136 = .ok (.aload_n 0, 1) := by decide +kernel
theorem dX3_readBook_137 : decode cX3_readBook 137 = .ok (.getfield 51, 3) := by decide +kernel
theorem dX3_readBook_140 : decode cX3_readBook 140 = .ok (.ireturn, 1) := by decide +kernel
theorem dX3_blame_0 : decode cX3_blame 0 = .ok (.aload_n 0, 1) := by decide +kernel
theorem dX3_blame_1 : decode cX3_blame 1 = .ok (.getfield 51, 3) := by decide +kernel
theorem dX3_blame_4 : decode cX3_blame 4 = .ok (.ifCond .ne 13, 3) := by decide +kernel
theorem dX3_blame_7 : decode cX3_blame 7 = .ok (.aload_n 0, 1) := by decide +kernel
theorem dX3_blame_8 : decode cX3_blame 8 = .ok (.iload_n 1, 1) := by decide +kernel
theorem dX3_blame_9 : decode cX3_blame 9 = .ok (.putfield 51, 3) := by decide +kernel
theorem dX3_blame_12 : decode cX3_blame 12 = .ok (.aload_n 0, 1) := by decide +kernel
theorem dX3_blame_13 : decode cX3_blame 13 = .ok (.iload_n 2, 1) := by decide +kernel
theorem dX3_blame_14 : decode cX3_blame 14 = .ok (.putfield 54, 3) := by decide +kernel
theorem dX3_blame_17 : decode cX3_blame 17 = .ok (.return_, 1) := by decide +kernel
theorem dX3_atEnd_0 : decode cX3_atEnd 0 = .ok (.aload_n 0, 1) := by decide +kernel
theorem dX3_atEnd_1 : decode cX3_atEnd 1 = .ok (.getfield 48, 3) := by decide +kernel
theorem dX3_atEnd_4 : decode cX3_atEnd 4 = .ok (.aload_n 0, 1) := by decide +kernel
theorem dX3_atEnd_5 : decode cX3_atEnd 5 = .ok (.getfield 38, 3) := by decide +kernel
theorem dX3_atEnd_8 : decode cX3_atEnd 8 = .ok (.if_icmp .ge 30, 3) := by decide +kernel
theorem dX3_atEnd_11 : decode cX3_atEnd 11 = .ok (.aload_n 0, 1) := by decide +kernel
theorem dX3_atEnd_12 : decode cX3_atEnd 12 = .ok (.getfield 22, 3) := by decide +kernel
theorem dX3_atEnd_15 : decode cX3_atEnd 15 = .ok (.aload_n 0, 1) := by decide +kernel
theorem dX3_atEnd_16 : decode cX3_atEnd 16 = .ok (.getfield 48, 3) := by decide +kernel
theorem dX3_atEnd_19 : decode cX3_atEnd 19 = .ok (.baload, 1) := by decide +kernel
theorem dX3_atEnd_20 : decode cX3_atEnd 20 = .ok (.bipush 32, 2) := by decide +kernel
theorem dX3_atEnd_22 : decode cX3_atEnd 22 = .ok (.if_icmp .ne 16, 3) := by decide +kernel
theorem dX3_atEnd_25 : decode cX3_atEnd 25 = .ok (.aload_n 0, 1) := by decide +kernel
theorem dX3_atEnd_26 : decode cX3_atEnd 26 = .ok (.dup, 1) := by decide +kernel
theorem dX3_atEnd_27 : decode cX3_atEnd 27 = .ok (.getfield 48, 3) := by decide +kernel
theorem dX3_atEnd_30 : decode cX3_atEnd 30 = .ok (.iconst 1, 1) := by decide +kernel
theorem dX3_atEnd_31 : decode cX3_atEnd 31 = .ok (.iadd, 1) := by decide +kernel
theorem dX3_atEnd_32 : decode cX3_atEnd 32 = .ok (.putfield 48, 3) := by decide +kernel
theorem dX3_atEnd_35 : decode cX3_atEnd 35 = .ok (.goto (-35), 3) := by decide +kernel
theorem dX3_atEnd_38 : decode cX3_atEnd 38 = .ok (.aload_n 0, 1) := by decide +kernel
theorem dX3_atEnd_39 : decode cX3_atEnd 39 = .ok (.getfield 48, 3) := by decide +kernel
theorem dX3_atEnd_42 : decode cX3_atEnd 42 = .ok (.aload_n 0, 1) := by decide +kernel
theorem dX3_atEnd_43 : decode cX3_atEnd 43 = .ok (.getfield 38, 3) := by decide +kernel
theorem dX3_atEnd_46 : decode cX3_atEnd 46 = .ok (.if_icmp .lt 7, 3) := by decide +kernel
theorem dX3_atEnd_49 : decode cX3_atEnd 49 = .ok (.iconst 1, 1) := by decide +kernel
theorem dX3_atEnd_50 : decode cX3_atEnd 50 = .ok (.goto 4, 3) := by decide +kernel
theorem dX3_atEnd_53 : decode cX3_atEnd 53 = .ok (.iconst 0, 1) := by decide +kernel
theorem dX3_atEnd_54 : decode cX3_atEnd 54 = .ok (.ireturn, 1) := by decide +kernel
theorem dX3_readSign_0 : decode cX3_readSign 0 = .ok (.aload_n 0, 1) := by decide +kernel
theorem dX3_readSign_1 : decode cX3_readSign 1 = .ok (.getfield 51, 3) := by decide +kernel
theorem dX3_readSign_4 : decode cX3_readSign 4 = .ok (.ifCond .eq 4, 3) := by decide +kernel
theorem dX3_readSign_7 : decode cX3_readSign 7 = .ok (.return_, 1) := by decide +kernel
theorem dX3_readSign_8 : decode cX3_readSign 8 = .ok (.aload_n 0, 1) := by decide +kernel
theorem dX3_readSign_9 : decode cX3_readSign 9 = .ok (.invokevirtual 67, 3) := by decide +kernel
theorem dX3_readSign_12 : decode cX3_readSign 12 = .ok (.ifCond .ne 16, 3) := by decide +kernel
theorem dX3_readSign_15 : decode cX3_readSign 15 = .ok (.aload_n 0, 1) := by decide +kernel
theorem dX3_readSign_16 : decode cX3_readSign 16 = .ok (.getfield 22, 3) := by decide +kernel
theorem dX3_readSign_19 : decode cX3_readSign 19 = .ok (.aload_n 0, 1) := by decide +kernel
theorem dX3_readSign_20 : decode cX3_readSign 20 = .ok (.getfield 48, 3) := by decide +kernel
theorem dX3_readSign_23 : decode cX3_readSign 23 = .ok (.baload, 1) := by decide +kernel
theorem dX3_readSign_24 : decode cX3_readSign 24 = .ok (.iload_n 1, 1) := by decide +kernel
theorem dX3_readSign_25 : decode cX3_readSign 25 = .ok (.if_icmp .eq 15, 3) := by decide +kernel
theorem dX3_readSign_28 : decode cX3_readSign 28 = .ok (.aload_n 0, 1) := by decide +kernel
theorem dX3_readSign_29 : decode cX3_readSign 29 = .ok (.iconst 1, 1) := by decide +kernel
theorem dX3_readSign_30 : decode cX3_readSign 30 = .ok (.aload_n 0, 1) := by decide +kernel
theorem dX3_readSign_31 : decode cX3_readSign 31 = .ok (.getfield 48, 3) := by decide +kernel
theorem dX3_readSign_34 : decode cX3_readSign 34 = .ok (.invokevirtual 75, 3) := by decide +kernel
theorem dX3_readSign_37 : decode cX3_readSign 37 = .ok (.goto 13, 3) := by decide +kernel
theorem dX3_readSign_40 : decode cX3_readSign 40 = .ok (.aload_n 0, 1) := by decide +kernel
theorem dX3_readSign_41 : decode cX3_readSign 41 = .ok (.dup, 1) := by decide +kernel
theorem dX3_readSign_42 : decode cX3_readSign 42 = .ok (.getfield 48, 3) := by decide +kernel
theorem dX3_readSign_45 : decode cX3_readSign 45 = .ok (.iconst 1, 1) := by decide +kernel
theorem dX3_readSign_46 : decode cX3_readSign 46 = .ok (.iadd, 1) := by decide +kernel
theorem dX3_readSign_47 : decode cX3_readSign 47 = .ok (.putfield 48, 3) := by decide +kernel
theorem dX3_readSign_50 : decode cX3_readSign 50 = .ok (.return_, 1) := by decide +kernel
theorem dX3_readNumber_0 : decode cX3_readNumber 0 = .ok (.aload_n 0, 1) := by decide +kernel
theorem dX3_readNumber_1 : decode cX3_readNumber 1 = .ok (.getfield 51, 3) := by decide +kernel
theorem dX3_readNumber_4 : decode cX3_readNumber 4 = .ok (.ifCond .eq 5, 3) := by decide +kernel
theorem dX3_readNumber_7 : decode cX3_readNumber 7 = .ok (.iload_n 1, 1) := by decide +kernel
theorem dX3_readNumber_8 : decode cX3_readNumber 8 = .ok (.ireturn, 1) := by decide +kernel
theorem dX3_readNumber_9 : decode cX3_readNumber 9 = .ok (.aload_n 0, 1) := by decide +kernel
theorem dX3_readNumber_10 : decode cX3_readNumber 10 = .ok (.invokevirtual 67, 3) := by decide +kernel
theorem dX3_readNumber_13 : decode cX3_readNumber 13 = .ok (.ifCond .ne 19, 3) := by decide +kernel
theorem dX3_readNumber_16 : decode cX3_readNumber 16 = .ok (.aload_n 0, 1) := by decide +kernel
theorem dX3_readNumber_17 : decode cX3_readNumber 17 = .ok (.aload_n 0, 1) := by decide +kernel
theorem dX3_readNumber_18 : decode cX3_readNumber 18 = .ok (.getfield 22, 3) := by decide +kernel
theorem dX3_readNumber_21 : decode cX3_readNumber 21 = .ok (.aload_n 0, 1) := by decide +kernel
theorem dX3_readNumber_22 : decode cX3_readNumber 22 = .ok (.getfield 48, 3) := by decide +kernel
theorem dX3_readNumber_25 : decode cX3_readNumber 25 = .ok (.baload, 1) := by decide +kernel
theorem dX3_readNumber_26 : decode cX3_readNumber 26 = .ok (.invokevirtual 100, 3) := by decide +kernel
theorem dX3_readNumber_29 : decode cX3_readNumber 29 = .ok (.ifCond .ne 14, 3) := by decide +kernel
theorem dX3_readNumber_32 : decode cX3_readNumber 32 = .ok (.aload_n 0, 1) := by decide +kernel
theorem dX3_readNumber_33 : decode cX3_readNumber 33 = .ok (.iconst 1, 1) := by decide +kernel
theorem dX3_readNumber_34 : decode cX3_readNumber 34 = .ok (.aload_n 0, 1) := by decide +kernel
theorem dX3_readNumber_35 : decode cX3_readNumber 35 = .ok (.getfield 48, 3) := by decide +kernel
theorem dX3_readNumber_38 : decode cX3_readNumber 38 = .ok (.invokevirtual 75, 3) := by decide +kernel
theorem dX3_readNumber_41 : decode cX3_readNumber 41 = .ok (.iload_n 1, 1) := by decide +kernel
theorem dX3_readNumber_42 : decode cX3_readNumber 42 = .ok (.ireturn, 1) := by decide +kernel
theorem dX3_readNumber_43 : decode cX3_readNumber 43 = .ok (.aload_n 0, 1) := by decide +kernel
theorem dX3_readNumber_44 : decode cX3_readNumber 44 = .ok (.getfield 48, 3) := by decide +kernel
theorem dX3_readNumber_47 : decode cX3_readNumber 47 = .ok (.istore_n 3, 1) := by decide +kernel
theorem dX3_readNumber_48 : decode cX3_readNumber 48 = .ok (.iconst 0, 1) := by decide +kernel
theorem dX3_readNumber_49 : decode cX3_readNumber 49 = .ok (.istore 4, 2) := by decide +kernel
theorem dX3_readNumber_51 : decode cX3_readNumber 51 = .ok (.aload_n 0, 1) := by decide +kernel
theorem dX3_readNumber_52 : decode cX3_readNumber 52 = .ok (.getfield 48, 3) := by decide +kernel
theorem dX3_readNumber_55 : decode cX3_readNumber 55 = .ok (.aload_n 0, 1) := by decide +kernel
theorem dX3_readNumber_56 : decode cX3_readNumber 56 = .ok (.getfield 38, 3) := by decide +kernel
theorem dX3_readNumber_59 : decode cX3_readNumber 59 = .ok (.if_icmp .ge 58, 3) := by decide +kernel
theorem dX3_readNumber_62 : decode cX3_readNumber 62 = .ok (.aload_n 0, 1) := by decide +kernel
theorem dX3_readNumber_63 : decode cX3_readNumber 63 = .ok (.aload_n 0, 1) := by decide +kernel
theorem dX3_readNumber_64 : decode cX3_readNumber 64 = .ok (.getfield 22, 3) := by decide +kernel
theorem dX3_readNumber_67 : decode cX3_readNumber 67 = .ok (.aload_n 0, 1) := by decide +kernel
theorem dX3_readNumber_68 : decode cX3_readNumber 68 = .ok (.getfield 48, 3) := by decide +kernel
theorem dX3_readNumber_71 : decode cX3_readNumber 71 = .ok (.baload, 1) := by decide +kernel
theorem dX3_readNumber_72 : decode cX3_readNumber 72 = .ok (.invokevirtual 100, 3) := by decide +kernel
theorem dX3_readNumber_75 : decode cX3_readNumber 75 = .ok (.ifCond .eq 42, 3) := by decide +kernel
theorem dX3_readNumber_78 : decode cX3_readNumber 78 = .ok (.sipush 1000, 3) := by decide +kernel
theorem dX3_readNumber_81 : decode cX3_readNumber 81 = .ok (.iload 4, 2) := by decide +kernel
theorem dX3_readNumber_83 : decode cX3_readNumber 83 = .ok (.bipush 10, 2) := by decide +kernel
theorem dX3_readNumber_85 : decode cX3_readNumber 85 = .ok (.imul, 1) := by decide +kernel
theorem dX3_readNumber_86 : decode cX3_readNumber 86 = .ok (.aload_n 0, 1) := by decide +kernel
theorem dX3_readNumber_87 : decode cX3_readNumber 87 = .ok (.getfield 22, 3) := by decide +kernel
theorem dX3_readNumber_90 : decode cX3_readNumber 90 = .ok (.aload_n 0, 1) := by decide +kernel
theorem dX3_readNumber_91 : decode cX3_readNumber 91 = .ok (.getfield 48, 3) := by decide +kernel
theorem dX3_readNumber_94 : decode cX3_readNumber 94 = .ok (.baload, 1) := by decide +kernel
theorem dX3_readNumber_95 : decode cX3_readNumber 95 = .ok (.iadd, 1) := by decide +kernel
theorem dX3_readNumber_96 : decode cX3_readNumber 96 = .ok (.bipush 48, 2) := by decide +kernel
theorem dX3_readNumber_98 : decode cX3_readNumber 98 = .ok (.isub, 1) := by decide +kernel
theorem dX3_readNumber_99 : decode cX3_readNumber 99 = .ok (.invokestatic 29, 3) := by decide +kernel
theorem dX3_readNumber_102 : decode cX3_readNumber 102 = .ok (.istore 4, 2) := by decide +kernel
theorem dX3_readNumber_104 : decode cX3_readNumber 104 = .ok (.aload_n 0, 1) := by decide +kernel
theorem dX3_readNumber_105 : decode cX3_readNumber 105 = .ok (.dup, 1) := by decide +kernel
theorem dX3_readNumber_106 : decode cX3_readNumber 106 = .ok (.getfield 48, 3) := by decide +kernel
theorem dX3_readNumber_109 : decode cX3_readNumber 109 = .ok (.iconst 1, 1) := by decide +kernel
theorem dX3_readNumber_110 : decode cX3_readNumber 110 = .ok (.iadd, 1) := by decide +kernel
theorem dX3_readNumber_111 : decode cX3_readNumber 111 = .ok (.putfield 48, 3) := by decide +kernel
theorem dX3_readNumber_114 : decode cX3_readNumber 114 = .ok (.goto (-63), 3) := by decide +kernel
theorem dX3_readNumber_117 : decode cX3_readNumber 117 = .ok (.iload 4, 2) := by decide +kernel
theorem dX3_readNumber_119 : decode cX3_readNumber 119 = .ok (.iload_n 1, 1) := by decide +kernel
theorem dX3_readNumber_120 : decode cX3_readNumber 120 = .ok (.if_icmp .lt 9, 3) := by decide +kernel
theorem dX3_readNumber_123 : decode cX3_readNumber 123 = .ok (.iload 4, 2) := by decide +kernel
theorem dX3_readNumber_125 : decode cX3_readNumber 125 = .ok (.iload_n 2, 1) := by decide +kernel
theorem dX3_readNumber_126 : decode cX3_readNumber 126 = .ok (.if_icmp .le 11, 3) := by decide +kernel
theorem dX3_readNumber_129 : decode cX3_readNumber 129 = .ok (.aload_n 0, 1) := by decide +kernel
theorem dX3_readNumber_130 : decode cX3_readNumber 130 = .ok (.iconst 2, 1) := by decide +kernel
theorem dX3_readNumber_131 : decode cX3_readNumber 131 = .ok (.iload_n 3, 1) := by decide +kernel
theorem dX3_readNumber_132 : decode cX3_readNumber 132 = .ok (.invokevirtual 75, 3) := by decide +kernel
theorem dX3_readNumber_135 : decode cX3_readNumber 135 = .ok (.iload_n 1, 1) := by decide +kernel
theorem dX3_readNumber_136 : decode cX3_readNumber 136 = .ok (.ireturn, 1) := by decide +kernel
theorem dX3_readNumber_137 : decode cX3_readNumber 137 = .ok (.iload 4, 2) := by decide +kernel
theorem dX3_readNumber_139 : decode cX3_readNumber 139 = .ok (.ireturn, 1) := by decide +kernel
theorem dX3_isDigit_0 : decode cX3_isDigit 0 = .ok (.iload_n 1, 1) := by decide +kernel
theorem dX3_isDigit_1 : decode cX3_isDigit 1 = .ok (.bipush 48, 2) := by decide +kernel
theorem dX3_isDigit_3 : decode cX3_isDigit 3 = .ok (.if_icmp .lt 13, 3) := by decide +kernel
theorem dX3_isDigit_6 : decode cX3_isDigit 6 = .ok (.iload_n 1, 1) := by decide +kernel
theorem dX3_isDigit_7 : decode cX3_isDigit 7 = .ok (.bipush 57, 2) := by decide +kernel
theorem dX3_isDigit_9 : decode cX3_isDigit 9 = .ok (.if_icmp .gt 7, 3) := by decide +kernel
theorem dX3_isDigit_12 : decode cX3_isDigit 12 = .ok (.iconst 1, 1) := by decide +kernel
theorem dX3_isDigit_13 : decode cX3_isDigit 13 = .ok (.goto 4, 3) := by decide +kernel
theorem dX3_isDigit_16 : decode cX3_isDigit 16 = .ok (.iconst 0, 1) := by decide +kernel
theorem dX3_isDigit_17 : decode cX3_isDigit 17 = .ok (.ireturn, 1) := by decide +kernel
theorem dX3_readWord_0 : decode cX3_readWord 0 = .ok (.aload_n 0, 1) := by decide +kernel
theorem dX3_readWord_1 : decode cX3_readWord 1 = .ok (.getfield 48, 3) := by decide +kernel
theorem dX3_readWord_4 : decode cX3_readWord 4 = .ok (.istore_n 1, 1) := by decide +kernel
theorem dX3_readWord_5 : decode cX3_readWord 5 = .ok (.aload_n 0, 1) := by decide +kernel
theorem dX3_readWord_6 : decode cX3_readWord 6 = .ok (.getfield 48, 3) := by decide +kernel
theorem dX3_readWord_9 : decode cX3_readWord 9 = .ok (.aload_n 0, 1) := by decide +kernel
theorem dX3_readWord_10 : decode cX3_readWord 10 = .ok (.getfield 38, 3) := by decide +kernel
theorem dX3_readWord_13 : decode cX3_readWord 13 = .ok (.if_icmp .ge 44, 3) := by decide +kernel
theorem dX3_readWord_16 : decode cX3_readWord 16 = .ok (.aload_n 0, 1) := by decide +kernel
theorem dX3_readWord_17 : decode cX3_readWord 17 = .ok (.getfield 22, 3) := by decide +kernel
theorem dX3_readWord_20 : decode cX3_readWord 20 = .ok (.aload_n 0, 1) := by decide +kernel
theorem dX3_readWord_21 : decode cX3_readWord 21 = .ok (.getfield 48, 3) := by decide +kernel
theorem dX3_readWord_24 : decode cX3_readWord 24 = .ok (.baload, 1) := by decide +kernel
theorem dX3_readWord_25 : decode cX3_readWord 25 = .ok (.bipush 97, 2) := by decide +kernel
theorem dX3_readWord_27 : decode cX3_readWord 27 = .ok (.if_icmp .lt 30, 3) := by decide +kernel
theorem dX3_readWord_30 : decode cX3_readWord 30 = .ok (.aload_n 0, 1) := by decide +kernel
theorem dX3_readWord_31 : decode cX3_readWord 31 = .ok (.getfield 22, 3) := by decide +kernel
theorem dX3_readWord_34 : decode cX3_readWord 34 = .ok (.aload_n 0, 1) := by decide +kernel
theorem dX3_readWord_35 : decode cX3_readWord 35 = .ok (.getfield 48, 3) := by decide +kernel
theorem dX3_readWord_38 : decode cX3_readWord 38 = .ok (.baload, 1) := by decide +kernel
theorem dX3_readWord_39 : decode cX3_readWord 39 = .ok (.bipush 122, 2) := by decide +kernel
theorem dX3_readWord_41 : decode cX3_readWord 41 = .ok (.if_icmp .gt 16, 3) := by decide +kernel
theorem dX3_readWord_44 : decode cX3_readWord 44 = .ok (.aload_n 0, 1) := by decide +kernel
theorem dX3_readWord_45 : decode cX3_readWord 45 = .ok (.dup, 1) := by decide +kernel
theorem dX3_readWord_46 : decode cX3_readWord 46 = .ok (.getfield 48, 3) := by decide +kernel
theorem dX3_readWord_49 : decode cX3_readWord 49 = .ok (.iconst 1, 1) := by decide +kernel
theorem dX3_readWord_50 : decode cX3_readWord 50 = .ok (.iadd, 1) := by decide +kernel
theorem dX3_readWord_51 : decode cX3_readWord 51 = .ok (.putfield 48, 3) := by decide +kernel
theorem dX3_readWord_54 : decode cX3_readWord 54 = .ok (.goto (-49), 3) := by decide +kernel
theorem dX3_readWord_57 : decode cX3_readWord 57 = .ok (.iconst 0, 1) := by decide +kernel
theorem dX3_readWord_58 : decode cX3_readWord 58 = .ok (.istore_n 2, 1) := by decide +kernel
theorem dX3_readWord_59 : decode cX3_readWord 59 = .ok (.iload_n 2, 1) := by decide +kernel
theorem dX3_readWord_60 : decode cX3_readWord 60 = .ok (.bipush 12, 2) := by decide +kernel
theorem dX3_readWord_62 : decode cX3_readWord 62 = .ok (.if_icmp .gt 20, 3) := by decide +kernel
theorem dX3_readWord_65 : decode cX3_readWord 65 = .ok (.aload_n 0, 1) := by decide +kernel
theorem dX3_readWord_66 : decode cX3_readWord 66 = .ok (.iload_n 2, 1) := by decide +kernel
theorem dX3_readWord_67 : decode cX3_readWord 67 = .ok (.iload_n 1, 1) := by decide +kernel
theorem dX3_readWord_68 : decode cX3_readWord 68 = .ok (.invokevirtual 104, 3) := by decide +kernel
theorem dX3_readWord_71 : decode cX3_readWord 71 = .ok (.ifCond .eq 5, 3) := by decide +kernel
theorem dX3_readWord_74 : decode cX3_readWord 74 = .ok (.iload_n 2, 1) := by decide +kernel
theorem dX3_readWord_75 : decode cX3_readWord 75 = .ok (.ireturn, 1) := by decide +kernel
theorem dX3_readWord_76 : decode cX3_readWord 76 = .ok (.iinc 2 1, 3) := by decide +kernel
theorem dX3_readWord_79 : decode cX3_readWord 79 = .ok (.goto (-20), 3) := by decide +kernel
theorem dX3_readWord_82 : decode cX3_readWord 82 = .ok (.aload_n 0, 1) := by decide +kernel
theorem dX3_readWord_83 : decode cX3_readWord 83 = .ok (.iconst 1, 1) := by decide +kernel
theorem dX3_readWord_84 : decode cX3_readWord 84 = .ok (.iload_n 1, 1) := by decide +kernel
theorem dX3_readWord_85 : decode cX3_readWord 85 = .ok (.invokevirtual 75, 3) := by decide +kernel
theorem dX3_readWord_88 : decode cX3_readWord 88 = .ok (.iconst (-1), 1) := by decide +kernel
theorem dX3_readWord_89 : decode cX3_readWord 89 = .ok (.ireturn, 1) := by decide +kernel
theorem dX3_readNumbers_0 : decode cX3_readNumbers 0 = .ok (.iconst 0, 1) := by decide +kernel
theorem dX3_readNumbers_1 : decode cX3_readNumbers 1 = .ok (.istore_n 2, 1) := by decide +kernel
theorem dX3_readNumbers_2 : decode cX3_readNumbers 2 = .ok (.iconst 0, 1) := by decide +kernel
theorem dX3_readNumbers_3 : decode cX3_readNumbers 3 = .ok (.istore_n 3, 1) := by decide +kernel
theorem dX3_readNumbers_4 : decode cX3_readNumbers 4 = .ok (.iconst 0, 1) := by decide +kernel
theorem dX3_readNumbers_5 : decode cX3_readNumbers 5 = .ok (.istore 4, 2) := by decide +kernel
theorem dX3_readNumbers_7 : decode cX3_readNumbers 7 = .ok (.iload_n 1, 1) := by decide +kernel
theorem dX3_readNumbers_8 : decode cX3_readNumbers 8 = .ok (.ifCond .lt 17, 3) := by decide +kernel
theorem dX3_readNumbers_11 : decode cX3_readNumbers 11 = .ok (.iload_n 1, 1) := by decide +kernel
theorem dX3_readNumbers_12 : decode cX3_readNumbers 12 = .ok (.bipush 6, 2) := by decide +kernel
theorem dX3_readNumbers_14 : decode cX3_readNumbers 14 = .ok (.if_icmp .gt 11, 3) := by decide +kernel
theorem dX3_readNumbers_17 : decode cX3_readNumbers 17 = .ok (.aload_n 0, 1) := by decide +kernel
theorem dX3_readNumbers_18 : decode cX3_readNumbers 18 = .ok (.iconst 0, 1) := by decide +kernel
theorem dX3_readNumbers_19 : decode cX3_readNumbers 19 = .ok (.bipush 11, 2) := by decide +kernel
theorem dX3_readNumbers_21 : decode cX3_readNumbers 21 = .ok (.invokevirtual 97, 3) := by decide +kernel
theorem dX3_readNumbers_24 : decode cX3_readNumbers 24 = .ok (.istore_n 2, 1) := by decide +kernel
theorem dX3_readNumbers_25 : decode cX3_readNumbers 25 = .ok (.iload_n 1, 1) := by decide +kernel
theorem dX3_readNumbers_26 : decode cX3_readNumbers 26 = .ok (.tableswitch 168 0 12 #[66, 66, 77, 97, 108, 168, 66, 168, 128, 168, 168, 139, 150], 66) := by decide +kernel
theorem dX3_readNumbers_92 : decode cX3_readNumbers 92 = .ok (.aload_n 0, 1) := by decide +kernel
theorem dX3_readNumbers_93 : decode cX3_readNumbers 93 = .ok (.iconst 1, 1) := by decide +kernel
theorem dX3_readNumbers_94 : decode cX3_readNumbers 94 = .ok (.bipush 99, 2) := by decide +kernel
theorem dX3_readNumbers_96 : decode cX3_readNumbers 96 = .ok (.invokevirtual 97, 3) := by decide +kernel
theorem dX3_readNumbers_99 : decode cX3_readNumbers 99 = .ok (.istore_n 3, 1) := by decide +kernel
theorem dX3_readNumbers_100 : decode cX3_readNumbers 100 = .ok (.goto 94, 3) := by decide +kernel
theorem dX3_readNumbers_103 : decode cX3_readNumbers 103 = .ok (.aload_n 0, 1) := by decide +kernel
theorem dX3_readNumbers_104 : decode cX3_readNumbers 104 = .ok (.iconst 1, 1) := by decide +kernel
theorem dX3_readNumbers_105 : decode cX3_readNumbers 105 = .ok (.bipush 99, 2) := by decide +kernel
theorem dX3_readNumbers_107 : decode cX3_readNumbers 107 = .ok (.invokevirtual 97, 3) := by decide +kernel
theorem dX3_readNumbers_110 : decode cX3_readNumbers 110 = .ok (.istore_n 3, 1) := by decide +kernel
theorem dX3_readNumbers_111 : decode cX3_readNumbers 111 = .ok (.aload_n 0, 1) := by decide +kernel
theorem dX3_readNumbers_112 : decode cX3_readNumbers 112 = .ok (.iconst 0, 1) := by decide +kernel
theorem dX3_readNumbers_113 : decode cX3_readNumbers 113 = .ok (.bipush 11, 2) := by decide +kernel
theorem dX3_readNumbers_115 : decode cX3_readNumbers 115 = .ok (.invokevirtual 97, 3) := by decide +kernel
theorem dX3_readNumbers_118 : decode cX3_readNumbers 118 = .ok (.istore 4, 2) := by decide +kernel
theorem dX3_readNumbers_120 : decode cX3_readNumbers 120 = .ok (.goto 74, 3) := by decide +kernel
theorem dX3_readNumbers_123 : decode cX3_readNumbers 123 = .ok (.aload_n 0, 1) := by decide +kernel
theorem dX3_readNumbers_124 : decode cX3_readNumbers 124 = .ok (.iconst 0, 1) := by decide +kernel
theorem dX3_readNumbers_125 : decode cX3_readNumbers 125 = .ok (.bipush 99, 2) := by decide +kernel
theorem dX3_readNumbers_127 : decode cX3_readNumbers 127 = .ok (.invokevirtual 97, 3) := by decide +kernel
theorem dX3_readNumbers_130 : decode cX3_readNumbers 130 = .ok (.istore_n 3, 1) := by decide +kernel
theorem dX3_readNumbers_131 : decode cX3_readNumbers 131 = .ok (.goto 63, 3) := by decide +kernel
theorem dX3_readNumbers_134 : decode cX3_readNumbers 134 = .ok (.aload_n 0, 1) := by decide +kernel
theorem dX3_readNumbers_135 : decode cX3_readNumbers 135 = .ok (.iconst 0, 1) := by decide +kernel
theorem dX3_readNumbers_136 : decode cX3_readNumbers 136 = .ok (.bipush 31, 2) := by decide +kernel
theorem dX3_readNumbers_138 : decode cX3_readNumbers 138 = .ok (.invokevirtual 97, 3) := by decide +kernel
theorem dX3_readNumbers_141 : decode cX3_readNumbers 141 = .ok (.istore_n 3, 1) := by decide +kernel
theorem dX3_readNumbers_142 : decode cX3_readNumbers 142 = .ok (.aload_n 0, 1) := by decide +kernel
theorem dX3_readNumbers_143 : decode cX3_readNumbers 143 = .ok (.iconst 0, 1) := by decide +kernel
theorem dX3_readNumbers_144 : decode cX3_readNumbers 144 = .ok (.bipush 99, 2) := by decide +kernel
theorem dX3_readNumbers_146 : decode cX3_readNumbers 146 = .ok (.invokevirtual 97, 3) := by decide +kernel
theorem dX3_readNumbers_149 : decode cX3_readNumbers 149 = .ok (.istore 4, 2) := by decide +kernel
theorem dX3_readNumbers_151 : decode cX3_readNumbers 151 = .ok (.goto 43, 3) := by decide +kernel
theorem dX3_readNumbers_154 : decode cX3_readNumbers 154 = .ok (.aload_n 0, 1) := by decide +kernel
theorem dX3_readNumbers_155 : decode cX3_readNumbers 155 = .ok (.iconst 0, 1) := by decide +kernel
theorem dX3_readNumbers_156 : decode cX3_readNumbers 156 = .ok (.bipush 15, 2) := by decide +kernel
theorem dX3_readNumbers_158 : decode cX3_readNumbers 158 = .ok (.invokevirtual 97, 3) := by decide +kernel
theorem dX3_readNumbers_161 : decode cX3_readNumbers 161 = .ok (.istore_n 2, 1) := by decide +kernel
theorem dX3_readNumbers_162 : decode cX3_readNumbers 162 = .ok (.goto 32, 3) := by decide +kernel
theorem dX3_readNumbers_165 : decode cX3_readNumbers 165 = .ok (.aload_n 0, 1) := by decide +kernel
theorem dX3_readNumbers_166 : decode cX3_readNumbers 166 = .ok (.iconst 0, 1) := by decide +kernel
theorem dX3_readNumbers_167 : decode cX3_readNumbers 167 = .ok (.bipush 60, 2) := by decide +kernel
theorem dX3_readNumbers_169 : decode cX3_readNumbers 169 = .ok (.invokevirtual 97, 3) := by decide +kernel
theorem dX3_readNumbers_172 : decode cX3_readNumbers 172 = .ok (.istore_n 2, 1) := by decide +kernel
theorem dX3_readNumbers_173 : decode cX3_readNumbers 173 = .ok (.goto 21, 3) := by decide +kernel
theorem dX3_readNumbers_176 : decode cX3_readNumbers 176 = .ok (.aload_n 0, 1) := by decide +kernel
theorem dX3_readNumbers_177 : decode cX3_readNumbers 177 = .ok (.bipush 6, 2) := by decide +kernel
theorem dX3_readNumbers_179 : decode cX3_readNumbers 179 = .ok (.bipush 16, 2) := by decide +kernel
theorem dX3_readNumbers_181 : decode cX3_readNumbers 181 = .ok (.invokevirtual 97, 3) := by decide +kernel
theorem dX3_readNumbers_184 : decode cX3_readNumbers 184 = .ok (.istore_n 2, 1) := by decide +kernel
theorem dX3_readNumbers_185 : decode cX3_readNumbers 185 = .ok (.aload_n 0, 1) := by decide +kernel
theorem dX3_readNumbers_186 : decode cX3_readNumbers 186 = .ok (.getfield 12, 3) := by decide +kernel
theorem dX3_readNumbers_189 : decode cX3_readNumbers 189 = .ok (.iload_n 2, 1) := by decide +kernel
theorem dX3_readNumbers_190 : decode cX3_readNumbers 190 = .ok (.putfield 116, 3) := by decide +kernel
theorem dX3_readNumbers_193 : decode cX3_readNumbers 193 = .ok (.return_, 1) := by decide +kernel
theorem dX3_readNumbers_194 : decode cX3_readNumbers 194 = .ok (.aload_n 0, 1) := by decide +kernel
theorem dX3_readNumbers_195 : decode cX3_readNumbers 195 = .ok (.getfield 12, 3) := by decide +kernel
theorem dX3_readNumbers_198 : decode cX3_readNumbers 198 = .ok (.iload_n 1, 1) := by decide +kernel
theorem dX3_readNumbers_199 : decode cX3_readNumbers 199 = .ok (.iload_n 2, 1) := by decide +kernel
theorem dX3_readNumbers_200 : decode cX3_readNumbers 200 = .ok (.iload_n 3, 1) := by decide +kernel
theorem dX3_readNumbers_201 : decode cX3_readNumbers 201 = .ok (.iload 4, 2) := by decide +kernel
theorem dX3_readNumbers_203 : decode cX3_readNumbers 203 = .ok (.invokevirtual 119, 3) := by decide +kernel
theorem dX3_readNumbers_206 : decode cX3_readNumbers 206 = .ok (.return_, 1) := by decide +kernel
theorem eX3_init {G : GG} {d : Nat} {h : Hp} {o : OU} {h' : Hp} (r0 : Nat) (hd : 1 ≤ d) (T : r0 ≠ 0 ∧ (∀ h2 : Hp, h2 = (nwH h 14 0 8) → (nH h) ≠ 0 ∧ ∃ h4, VM G mX4_init (d - 1) [.ref (nH h)] h2 (.inl none) h4 ∧ kH h4 r0 = 13 ∧ (∀ h8 : Hp, h8 = (sR h4 r0 0 (nH h)) → (∀ h10 : Hp, h10 = (nwH h8 1 16 16) → kH h10 r0 = 13 ∧ (∀ h13 : Hp, h13 = (sR h10 r0 1 (nH h8)) → (∀ h15 : Hp, h15 = (nwH h13 2 600 600) → kH h15 r0 = 13 ∧ (∀ h18 : Hp, h18 = (sR h15 r0 5 (nH h13)) → (∀ h20 : Hp, h20 = (nwH h18 1 6 6) → kH h20 r0 = 13 ∧ (∀ h23 : Hp, h23 = (sR h20 r0 8 (nH h18)) → (o = .inl none ∧ h' = h23)))))))))) : VM G mX3_init d [.ref r0] h o h' := by
  refine V.toM rfl rfl (le_l rfl) (cat_all rfl) ?_
  show V G mX3_init d 0 [.ref r0] [] h o h'
  have hdd : d - 1 + 1 ≤ d := by omega
  refine v_aload_n (pc' := 1) dX3_init_0 rfl rfl ?_
  obtain ⟨q1, T⟩ := T
  refine v_objInit (pc' := 4) dX3_init_1 rfl km_X3_3 kx_oi kx_oc hd (le_l rfl) q1 ?_
  refine v_aload_n (pc' := 5) dX3_init_4 rfl rfl ?_
  refine v_new (pc' := 8) 4 dX3_init_5 rfl (by decide) kk_X3_9 kb_X4 kn_X4 ?_
  show V G mX3_init d 8 [.ref r0] [.ref (nH h), .ref r0] (nwH h 14 0 8) o h'
  obtain ⟨h2, e3⟩ : ∃ z : Hp, z = (nwH h 14 0 8) := ⟨_, rfl⟩
  rw [← e3]
  have T := T h2 e3
  refine v_dup (pc' := 9) dX3_init_8 rfl rfl ?_
  obtain ⟨q6, T⟩ := T
  obtain ⟨h4, k5, T⟩ := T
  refine v_callN (pc' := 12) (M1 := mX4_init) (as := []) (r := (nH h)) (rest := [.ref (nH h), .ref r0]) RX9 dX3_init_9 rfl rfl rfl (by decide) kn_X4 (by decide +kernel) kc_X4_init ki_X4_init (by decide) hdd rfl rfl (le_l rfl) q6 k5 ?_
  obtain ⟨q7, T⟩ := T
  refine v_putF (pc' := 15) 3 0 dX3_init_12 rfl (by decide) (by decide) rfl rfl rfl rfl kf_X3_12 q7 ?_
  show V G mX3_init d 15 [.ref r0] [] (sR h4 r0 0 (nH h)) o h'
  obtain ⟨h8, e9⟩ : ∃ z : Hp, z = (sR h4 r0 0 (nH h)) := ⟨_, rfl⟩
  rw [← e9]
  have T := T h8 e9
  refine v_aload_n (pc' := 16) dX3_init_15 rfl rfl ?_
  refine v_bipush (pc' := 18) (v := 16) dX3_init_16 rfl kB_16 ?_
  refine v_newa (pc' := 20) 1 (N := 16) dX3_init_18 rfl (by decide) rfl ka_int (by decide) (by decide) (by decide) ?_
  show V G mX3_init d 20 [.ref r0] [.ref (nH h8), .ref r0] (nwH h8 1 16 16) o h'
  obtain ⟨h10, e11⟩ : ∃ z : Hp, z = (nwH h8 1 16 16) := ⟨_, rfl⟩
  rw [← e11]
  have T := T h10 e11
  obtain ⟨q12, T⟩ := T
  refine v_putF (pc' := 23) 3 1 dX3_init_20 rfl (by decide) (by decide) rfl rfl rfl rfl kf_X3_18 q12 ?_
  show V G mX3_init d 23 [.ref r0] [] (sR h10 r0 1 (nH h8)) o h'
  obtain ⟨h13, e14⟩ : ∃ z : Hp, z = (sR h10 r0 1 (nH h8)) := ⟨_, rfl⟩
  rw [← e14]
  have T := T h13 e14
  refine v_aload_n (pc' := 24) dX3_init_23 rfl rfl ?_
  refine v_sipush (pc' := 27) (v := 600) dX3_init_24 rfl kS_600 ?_
  refine v_newa (pc' := 29) 2 (N := 600) dX3_init_27 rfl (by decide) rfl ka_byte (by decide) (by decide) (by decide) ?_
  show V G mX3_init d 29 [.ref r0] [.ref (nH h13), .ref r0] (nwH h13 2 600 600) o h'
  obtain ⟨h15, e16⟩ : ∃ z : Hp, z = (nwH h13 2 600 600) := ⟨_, rfl⟩
  rw [← e16]
  have T := T h15 e16
  obtain ⟨q17, T⟩ := T
  refine v_putF (pc' := 32) 3 5 dX3_init_29 rfl (by decide) (by decide) rfl rfl rfl rfl kf_X3_22 q17 ?_
  show V G mX3_init d 32 [.ref r0] [] (sR h15 r0 5 (nH h13)) o h'
  obtain ⟨h18, e19⟩ : ∃ z : Hp, z = (sR h15 r0 5 (nH h13)) := ⟨_, rfl⟩
  rw [← e19]
  have T := T h18 e19
  refine v_aload_n (pc' := 33) dX3_init_32 rfl rfl ?_
  refine v_bipush (pc' := 35) (v := 6) dX3_init_33 rfl kB_6 ?_
  refine v_newa (pc' := 37) 1 (N := 6) dX3_init_35 rfl (by decide) rfl ka_int (by decide) (by decide) (by decide) ?_
  show V G mX3_init d 37 [.ref r0] [.ref (nH h18), .ref r0] (nwH h18 1 6 6) o h'
  obtain ⟨h20, e21⟩ : ∃ z : Hp, z = (nwH h18 1 6 6) := ⟨_, rfl⟩
  rw [← e21]
  have T := T h20 e21
  obtain ⟨q22, T⟩ := T
  refine v_putF (pc' := 40) 3 8 dX3_init_37 rfl (by decide) (by decide) rfl rfl rfl rfl kf_X3_26 q22 ?_
  show V G mX3_init d 40 [.ref r0] [] (sR h20 r0 8 (nH h18)) o h'
  obtain ⟨h23, e24⟩ : ∃ z : Hp, z = (sR h20 r0 8 (nH h18)) := ⟨_, rfl⟩
  rw [← e24]
  have T := T h23 e24
  exact v_vret dX3_init_40 rfl T
theorem eX3_begin {G : GG} {d : Nat} {h : Hp} {o : OU} {h' : Hp} (r0 : Nat) (r1 : Nat) (x2 : Int32) (hd : 1 ≤ d) (T : kH h r1 = 2 ∧ kH h r0 = 13 ∧ (∀ i3 : Nat → Nat → Int32, i3 = (upI h.2 r0 6 (if 0 < (if (if 600 < ((lH h r1).toInt32) then 600 else ((lH h r1).toInt32)) < x2 then (if 600 < ((lH h r1).toInt32) then 600 else ((lH h r1).toInt32)) else x2) then (if (if 600 < ((lH h r1).toInt32) then 600 else ((lH h r1).toInt32)) < x2 then (if 600 < ((lH h r1).toInt32) then 600 else ((lH h r1).toInt32)) else x2) else 0)) → kH h (rH h r0 5) = 2 ∧ ¬ (i3 r0 6) < 0 ∧ 0 + (i3 r0 6).toNatClampNeg ≤ lH h r1 ∧ 0 + (i3 r0 6).toNatClampNeg ≤ lH h (rH h r0 5) ∧ kH h (rH h r0 0) = 14 ∧ ∃ h9, VM G mX4_clear (d - 1) [.ref (rH h r0 0)] (h.1, (upI (upI (upI (upI (cpI i3 r1 (rH h r0 5) 0 0 (i3 r0 6).toNatClampNeg) r0 7 0) r0 4 0) r0 3 (-1)) r0 9 0)) (.inl none) h9 ∧ (o = .inl none ∧ h' = h9))) : VM G mX3_begin d [.ref r0, .ref r1, .int x2] h o h' := by
  refine V.toM rfl rfl (le_l rfl) (cat_all rfl) ?_
  show V G mX3_begin d 0 [.ref r0, .ref r1, .int x2] [] h o h'
  have hdd : d - 1 + 1 ≤ d := by omega
  refine v_aload_n (pc' := 1) dX3_begin_0 rfl rfl ?_
  refine v_iconst (pc' := 2) (v := 0) dX3_begin_1 rfl kI_0 ?_
  refine v_iload_n (pc' := 3) dX3_begin_2 rfl rfl ?_
  refine v_aload_n (pc' := 4) dX3_begin_3 rfl rfl ?_
  obtain ⟨q1, T⟩ := T
  refine v_alen (pc' := 5) dX3_begin_4 rfl q1 (by decide) rfl ?_
  refine v_sipush (pc' := 8) (v := 600) dX3_begin_5 rfl kS_600 ?_
  refine v_mmin (pc' := 11) dX3_begin_8 rfl km_X3_29 kx_mins kx_mi kx_minc hd (le_l rfl) ?_
  refine v_mmin (pc' := 14) dX3_begin_11 rfl km_X3_29 kx_mins kx_mi kx_minc hd (le_l rfl) ?_
  refine v_mmax (pc' := 17) dX3_begin_14 rfl km_X3_35 kx_maxs kx_mi kx_maxc hd (le_l rfl) ?_
  obtain ⟨q2, T⟩ := T
  refine v_putI (pc' := 20) 3 6 dX3_begin_17 rfl (by decide) (by decide) rfl rfl kf_X3_38 q2 ?_
  show V G mX3_begin d 20 [.ref r0, .ref r1, .int x2] [] (h.1, (upI h.2 r0 6 (if 0 < (if (if 600 < ((lH h r1).toInt32) then 600 else ((lH h r1).toInt32)) < x2 then (if 600 < ((lH h r1).toInt32) then 600 else ((lH h r1).toInt32)) else x2) then (if (if 600 < ((lH h r1).toInt32) then 600 else ((lH h r1).toInt32)) < x2 then (if 600 < ((lH h r1).toInt32) then 600 else ((lH h r1).toInt32)) else x2) else 0))) o h'
  obtain ⟨i3, e4⟩ : ∃ z : Nat → Nat → Int32, z = (upI h.2 r0 6 (if 0 < (if (if 600 < ((lH h r1).toInt32) then 600 else ((lH h r1).toInt32)) < x2 then (if 600 < ((lH h r1).toInt32) then 600 else ((lH h r1).toInt32)) else x2) then (if (if 600 < ((lH h r1).toInt32) then 600 else ((lH h r1).toInt32)) < x2 then (if 600 < ((lH h r1).toInt32) then 600 else ((lH h r1).toInt32)) else x2) else 0)) := ⟨_, rfl⟩
  rw [← e4]
  have T := T i3 e4
  refine v_aload_n (pc' := 21) dX3_begin_20 rfl rfl ?_
  refine v_iconst (pc' := 22) (v := 0) dX3_begin_21 rfl kI_0 ?_
  refine v_aload_n (pc' := 23) dX3_begin_22 rfl rfl ?_
  refine v_getR (pc' := 26) 3 5 dX3_begin_23 rfl (by decide) (by decide) rfl kf_X3_22 q2 ?_
  refine v_iconst (pc' := 27) (v := 0) dX3_begin_26 rfl kI_0 ?_
  refine v_aload_n (pc' := 28) dX3_begin_27 rfl rfl ?_
  refine v_getI (pc' := 31) 3 6 dX3_begin_28 rfl (by decide) (by decide) rfl kf_X3_38 q2 ?_
  obtain ⟨q5, T⟩ := T
  obtain ⟨q6, T⟩ := T
  obtain ⟨q7, T⟩ := T
  obtain ⟨q8, T⟩ := T
  refine v_copy (pc' := 34) 2 dX3_begin_31 rfl km_X3_42 kx_acn kx_acs kx_aci hd (le_l rfl) (by decide) q1 q5 kN_0 kN_0 rfl (by decide) (by decide) q6 q7 q8 ?_
  refine v_aload_n (pc' := 35) dX3_begin_34 rfl rfl ?_
  refine v_iconst (pc' := 36) (v := 0) dX3_begin_35 rfl kI_0 ?_
  refine v_putI (pc' := 39) 3 7 dX3_begin_36 rfl (by decide) (by decide) rfl rfl kf_X3_48 q2 ?_
  refine v_aload_n (pc' := 40) dX3_begin_39 rfl rfl ?_
  refine v_iconst (pc' := 41) (v := 0) dX3_begin_40 rfl kI_0 ?_
  refine v_putI (pc' := 44) 3 4 dX3_begin_41 rfl (by decide) (by decide) rfl rfl kf_X3_51 q2 ?_
  refine v_aload_n (pc' := 45) dX3_begin_44 rfl rfl ?_
  refine v_iconst (pc' := 46) (v := (-1)) dX3_begin_45 rfl kI_m1 ?_
  refine v_putI (pc' := 49) 3 3 dX3_begin_46 rfl (by decide) (by decide) rfl rfl kf_X3_54 q2 ?_
  refine v_aload_n (pc' := 50) dX3_begin_49 rfl rfl ?_
  refine v_iconst (pc' := 51) (v := 0) dX3_begin_50 rfl kI_0 ?_
  refine v_putI (pc' := 54) 3 9 dX3_begin_51 rfl (by decide) (by decide) rfl rfl kf_X3_57 q2 ?_
  refine v_aload_n (pc' := 55) dX3_begin_54 rfl rfl ?_
  refine v_getR (pc' := 58) 3 0 dX3_begin_55 rfl (by decide) (by decide) rfl kf_X3_12 q2 ?_
  obtain ⟨q11, T⟩ := T
  obtain ⟨h9, k10, T⟩ := T
  refine v_callV (pc' := 61) (M1 := mX4_clear) (as := []) (r := (rH h r0 0)) (rest := []) 4 dX3_begin_58 rfl ko_X3_60 kc_X4_clear ki_X4_clear ks_X4_clear (by decide) (by decide) hdd rfl rfl (le_l rfl) q11 k10 ?_
  exact v_vret dX3_begin_61 rfl T
theorem eX3_readStore {G : GG} {d : Nat} {h : Hp} {o : OU} {h' : Hp} (r0 : Nat) (r1 : Nat) (x2 : Int32) (hd : 1 ≤ d) (T : kH h r0 = 13 ∧ ∃ h1, VM G mX3_begin (d - 1) [.ref r0, .ref r1, .int x2] h (.inl none) h1 ∧ V G mX3_readStore d 8 [.ref r0, uV, uV, .int 0, uV, uV] [] h1 o h') : VM G mX3_readStore d [.ref r0, .ref r1, .int x2] h o h' := by
  refine V.toM rfl rfl (le_l rfl) (cat_all rfl) ?_
  show V G mX3_readStore d 0 [.ref r0, .ref r1, .int x2, uV, uV, uV] [] h o h'
  have hdd : d - 1 + 1 ≤ d := by omega
  refine v_aload_n (pc' := 1) dX3_readStore_0 rfl rfl ?_
  refine v_aload_n (pc' := 2) dX3_readStore_1 rfl rfl ?_
  refine v_iload_n (pc' := 3) dX3_readStore_2 rfl rfl ?_
  obtain ⟨q3, T⟩ := T
  obtain ⟨h1, k2, T⟩ := T
  refine v_callV (pc' := 6) (M1 := mX3_begin) (as := [.ref r1, .int x2]) (r := r0) (rest := []) 3 dX3_readStore_3 rfl ko_X3_63 kc_X3_begin ki_X3_begin ks_X3_begin (by decide) (by decide) hdd rfl rfl (le_l rfl) q3 k2 ?_
  refine v_iconst (pc' := 7) (v := 0) dX3_readStore_6 rfl kI_0 ?_
  refine v_istore_n (pc' := 8) (loc' := [.ref r0, .ref r1, .int x2, .int 0, uV, uV]) dX3_readStore_7 rfl (lt_l rfl) rfl ?_
  exact V.drop (llp_r (llp_u (llp_u (llp_r (llp_r (llp_r llp_nil)))))) T
theorem bX3_readStore_8 {G : GG} {d : Nat} {h : Hp} {o : OU} {h' : Hp} (r0 : Nat) (x3 : Int32) (hd : 1 ≤ d) (T : kH h r0 = 13 ∧ ((¬ (h.2 r0 4) = 0 → (o = .inl (some (.int (h.2 r0 4))) ∧ h' = h)) ∧ ((h.2 r0 4) = 0 → ∃ z4 h3, VM G mX3_atEnd (d - 1) [.ref r0] h (.inl (some (.int z4))) h3 ∧ ((¬ z4 = 0 → kH h3 r0 = 13 ∧ (o = .inl (some (.int (h3.2 r0 4))) ∧ h' = h3)) ∧ (z4 = 0 → ((60 < x3 → kH h3 r0 = 13 ∧ (o = .inl (some (.int (h3.2 r0 4))) ∧ h' = h3)) ∧ (¬ 60 < x3 → kH h3 r0 = 13 ∧ ∃ z12 h11, VM G mX3_readWord (d - 1) [.ref r0] h3 (.inl (some (.int z12))) h11 ∧ ((z12 ≤ 4 → ((¬ x3 = 60 → kH h11 r0 = 13 ∧ ∃ h16, VM G mX3_readNumbers (d - 1) [.ref r0, .int z12] h11 (.inl none) h16 ∧ kH h16 r0 = 13 ∧ ∃ h19, VM G mX3_readSign (d - 1) [.ref r0, .int 59] h16 (.inl none) h19 ∧ V G mX3_readStore d 8 [.ref r0, uV, uV, .int (x3 + 1), uV, uV] [] h19 o h') ∧ (x3 = 60 → kH h11 r0 = 13 ∧ ∃ h22, VM G mX3_blame (d - 1) [.ref r0, .int 3, .int (h3.2 r0 7)] h11 (.inl none) h22 ∧ kH h22 r0 = 13 ∧ ∃ h25, VM G mX3_readNumbers (d - 1) [.ref r0, .int z12] h22 (.inl none) h25 ∧ kH h25 r0 = 13 ∧ ∃ h28, VM G mX3_readSign (d - 1) [.ref r0, .int 59] h25 (.inl none) h28 ∧ V G mX3_readStore d 8 [.ref r0, uV, uV, .int (x3 + 1), uV, uV] [] h28 o h'))) ∧ (¬ z12 ≤ 4 → ((z12 = 12 → ((¬ x3 = 60 → kH h11 r0 = 13 ∧ ∃ h33, VM G mX3_readNumbers (d - 1) [.ref r0, .int z12] h11 (.inl none) h33 ∧ kH h33 r0 = 13 ∧ ∃ h36, VM G mX3_readSign (d - 1) [.ref r0, .int 59] h33 (.inl none) h36 ∧ V G mX3_readStore d 8 [.ref r0, uV, uV, .int (x3 + 1), uV, uV] [] h36 o h') ∧ (x3 = 60 → kH h11 r0 = 13 ∧ ∃ h39, VM G mX3_blame (d - 1) [.ref r0, .int 3, .int (h3.2 r0 7)] h11 (.inl none) h39 ∧ kH h39 r0 = 13 ∧ ∃ h42, VM G mX3_readNumbers (d - 1) [.ref r0, .int z12] h39 (.inl none) h42 ∧ kH h42 r0 = 13 ∧ ∃ h45, VM G mX3_readSign (d - 1) [.ref r0, .int 59] h42 (.inl none) h45 ∧ V G mX3_readStore d 8 [.ref r0, uV, uV, .int (x3 + 1), uV, uV] [] h45 o h'))) ∧ (¬ z12 = 12 → kH h11 r0 = 13 ∧ ∃ h48, VM G mX3_blame (d - 1) [.ref r0, .int 1, .int (h3.2 r0 7)] h11 (.inl none) h48 ∧ kH h48 r0 = 13 ∧ ∃ h51, VM G mX3_readNumbers (d - 1) [.ref r0, .int z12] h48 (.inl none) h51 ∧ kH h51 r0 = 13 ∧ ∃ h54, VM G mX3_readSign (d - 1) [.ref r0, .int 59] h51 (.inl none) h54 ∧ V G mX3_readStore d 8 [.ref r0, uV, uV, .int (x3 + 1), uV, uV] [] h54 o h'))))))))))) : V G mX3_readStore d 8 [.ref r0, uV, uV, .int x3, uV, uV] [] h o h' := by
  have hdd : d - 1 + 1 ≤ d := by omega
  refine v_aload_n (pc' := 9) dX3_readStore_8 rfl rfl ?_
  obtain ⟨q1, T⟩ := T
  refine v_getI (pc' := 12) 3 4 dX3_readStore_9 rfl (by decide) (by decide) rfl kf_X3_51 q1 ?_
  refine v_if_ne (tgt := 94) (pc' := 15) dX3_readStore_12 (by decide) rfl ⟨fun c2 => ?_, fun c2 => ?_⟩
  · have T := T.1 c2
    refine v_aload_n (pc' := 95) dX3_readStore_94 rfl rfl ?_
    refine v_getI (pc' := 98) 3 4 dX3_readStore_95 rfl (by decide) (by decide) rfl kf_X3_51 q1 ?_
    exact v_iret dX3_readStore_98 rfl T
  · have T := T.2 c2
    refine v_aload_n (pc' := 16) dX3_readStore_15 rfl rfl ?_
    obtain ⟨z4, h3, k5, T⟩ := T
    refine v_callV (pc' := 19) (M1 := mX3_atEnd) (as := []) (r := r0) (rest := []) 3 dX3_readStore_16 rfl ko_X3_67 kc_X3_atEnd ki_X3_atEnd ks_X3_atEnd (by decide) (by decide) hdd rfl rfl (le_l rfl) q1 k5 ?_
    refine v_if_ne (tgt := 94) (pc' := 22) dX3_readStore_19 (by decide) rfl ⟨fun c6 => ?_, fun c6 => ?_⟩
    · have T := T.1 c6
      refine v_aload_n (pc' := 95) dX3_readStore_94 rfl rfl ?_
      obtain ⟨q7, T⟩ := T
      refine v_getI (pc' := 98) 3 4 dX3_readStore_95 rfl (by decide) (by decide) rfl kf_X3_51 q7 ?_
      exact v_iret dX3_readStore_98 rfl T
    · have T := T.2 c6
      refine v_iload_n (pc' := 23) dX3_readStore_22 rfl rfl ?_
      refine v_bipush (pc' := 25) (v := 60) dX3_readStore_23 rfl kB_60 ?_
      refine v_icmp_gt (tgt := 94) (pc' := 28) dX3_readStore_25 (by decide) rfl ⟨fun c8 => ?_, fun c8 => ?_⟩
      · have T := T.1 c8
        refine v_aload_n (pc' := 95) dX3_readStore_94 rfl rfl ?_
        obtain ⟨q9, T⟩ := T
        refine v_getI (pc' := 98) 3 4 dX3_readStore_95 rfl (by decide) (by decide) rfl kf_X3_51 q9 ?_
        exact v_iret dX3_readStore_98 rfl T
      · have T := T.2 c8
        refine v_aload_n (pc' := 29) dX3_readStore_28 rfl rfl ?_
        obtain ⟨q10, T⟩ := T
        refine v_getI (pc' := 32) 3 7 dX3_readStore_29 rfl (by decide) (by decide) rfl kf_X3_48 q10 ?_
        refine v_istore (pc' := 34) (loc' := [.ref r0, uV, uV, .int x3, .int (h3.2 r0 7), uV]) dX3_readStore_32 rfl (lt_l rfl) rfl ?_
        refine v_aload_n (pc' := 35) dX3_readStore_34 rfl rfl ?_
        obtain ⟨z12, h11, k13, T⟩ := T
        refine v_callV (pc' := 38) (M1 := mX3_readWord) (as := []) (r := r0) (rest := []) 3 dX3_readStore_35 rfl ko_X3_71 kc_X3_readWord ki_X3_readWord ks_X3_readWord (by decide) (by decide) hdd rfl rfl (le_l rfl) q10 k13 ?_
        refine v_istore (pc' := 40) (loc' := [.ref r0, uV, uV, .int x3, .int (h3.2 r0 7), .int z12]) dX3_readStore_38 rfl (lt_l rfl) rfl ?_
        refine v_iload (pc' := 42) dX3_readStore_40 rfl rfl ?_
        refine v_iconst (pc' := 43) (v := 4) dX3_readStore_42 rfl kI_4 ?_
        refine v_icmp_le (tgt := 63) (pc' := 46) dX3_readStore_43 (by decide) rfl ⟨fun c14 => ?_, fun c14 => ?_⟩
        · have T := T.1 c14
          refine v_iload_n (pc' := 64) dX3_readStore_63 rfl rfl ?_
          refine v_bipush (pc' := 66) (v := 60) dX3_readStore_64 rfl kB_60 ?_
          refine v_icmp_ne (tgt := 76) (pc' := 69) dX3_readStore_66 (by decide) rfl ⟨fun c15 => ?_, fun c15 => ?_⟩
          · have T := T.1 c15
            refine v_aload_n (pc' := 77) dX3_readStore_76 rfl rfl ?_
            refine v_iload (pc' := 79) dX3_readStore_77 rfl rfl ?_
            obtain ⟨q18, T⟩ := T
            obtain ⟨h16, k17, T⟩ := T
            refine v_callV (pc' := 82) (M1 := mX3_readNumbers) (as := [.int z12]) (r := r0) (rest := []) 3 dX3_readStore_79 rfl ko_X3_79 kc_X3_readNumbers ki_X3_readNumbers ks_X3_readNumbers (by decide) (by decide) hdd rfl rfl (le_l rfl) q18 k17 ?_
            refine v_aload_n (pc' := 83) dX3_readStore_82 rfl rfl ?_
            refine v_bipush (pc' := 85) (v := 59) dX3_readStore_83 rfl kB_59 ?_
            obtain ⟨q21, T⟩ := T
            obtain ⟨h19, k20, T⟩ := T
            refine v_callV (pc' := 88) (M1 := mX3_readSign) (as := [.int 59]) (r := r0) (rest := []) 3 dX3_readStore_85 rfl ko_X3_83 kc_X3_readSign ki_X3_readSign ks_X3_readSign (by decide) (by decide) hdd rfl rfl (le_l rfl) q21 k20 ?_
            refine v_iinc (pc' := 91) (loc' := [.ref r0, uV, uV, .int (x3 + 1), .int (h3.2 r0 7), .int z12]) dX3_readStore_88 rfl rfl (kX_1 _) rfl ?_
            refine v_goto (pc' := 8) dX3_readStore_91 (by decide) ?_
            exact V.drop (llp_r (llp_r (llp_r (llp_r (llp_u (llp_u llp_nil)))))) T
          · have T := T.2 c15
            refine v_aload_n (pc' := 70) dX3_readStore_69 rfl rfl ?_
            refine v_iconst (pc' := 71) (v := 3) dX3_readStore_70 rfl kI_3 ?_
            refine v_iload (pc' := 73) dX3_readStore_71 rfl rfl ?_
            obtain ⟨q24, T⟩ := T
            obtain ⟨h22, k23, T⟩ := T
            refine v_callV (pc' := 76) (M1 := mX3_blame) (as := [.int 3, .int (h3.2 r0 7)]) (r := r0) (rest := []) 3 dX3_readStore_73 rfl ko_X3_75 kc_X3_blame ki_X3_blame ks_X3_blame (by decide) (by decide) hdd rfl rfl (le_l rfl) q24 k23 ?_
            refine v_aload_n (pc' := 77) dX3_readStore_76 rfl rfl ?_
            refine v_iload (pc' := 79) dX3_readStore_77 rfl rfl ?_
            obtain ⟨q27, T⟩ := T
            obtain ⟨h25, k26, T⟩ := T
            refine v_callV (pc' := 82) (M1 := mX3_readNumbers) (as := [.int z12]) (r := r0) (rest := []) 3 dX3_readStore_79 rfl ko_X3_79 kc_X3_readNumbers ki_X3_readNumbers ks_X3_readNumbers (by decide) (by decide) hdd rfl rfl (le_l rfl) q27 k26 ?_
            refine v_aload_n (pc' := 83) dX3_readStore_82 rfl rfl ?_
            refine v_bipush (pc' := 85) (v := 59) dX3_readStore_83 rfl kB_59 ?_
            obtain ⟨q30, T⟩ := T
            obtain ⟨h28, k29, T⟩ := T
            refine v_callV (pc' := 88) (M1 := mX3_readSign) (as := [.int 59]) (r := r0) (rest := []) 3 dX3_readStore_85 rfl ko_X3_83 kc_X3_readSign ki_X3_readSign ks_X3_readSign (by decide) (by decide) hdd rfl rfl (le_l rfl) q30 k29 ?_
            refine v_iinc (pc' := 91) (loc' := [.ref r0, uV, uV, .int (x3 + 1), .int (h3.2 r0 7), .int z12]) dX3_readStore_88 rfl rfl (kX_1 _) rfl ?_
            refine v_goto (pc' := 8) dX3_readStore_91 (by decide) ?_
            exact V.drop (llp_r (llp_r (llp_r (llp_r (llp_u (llp_u llp_nil)))))) T
        · have T := T.2 c14
          refine v_iload (pc' := 48) dX3_readStore_46 rfl rfl ?_
          refine v_bipush (pc' := 50) (v := 12) dX3_readStore_48 rfl kB_12 ?_
          refine v_icmp_eq (tgt := 63) (pc' := 53) dX3_readStore_50 (by decide) rfl ⟨fun c31 => ?_, fun c31 => ?_⟩
          · have T := T.1 c31
            refine v_iload_n (pc' := 64) dX3_readStore_63 rfl rfl ?_
            refine v_bipush (pc' := 66) (v := 60) dX3_readStore_64 rfl kB_60 ?_
            refine v_icmp_ne (tgt := 76) (pc' := 69) dX3_readStore_66 (by decide) rfl ⟨fun c32 => ?_, fun c32 => ?_⟩
            · have T := T.1 c32
              refine v_aload_n (pc' := 77) dX3_readStore_76 rfl rfl ?_
              refine v_iload (pc' := 79) dX3_readStore_77 rfl rfl ?_
              obtain ⟨q35, T⟩ := T
              obtain ⟨h33, k34, T⟩ := T
              refine v_callV (pc' := 82) (M1 := mX3_readNumbers) (as := [.int z12]) (r := r0) (rest := []) 3 dX3_readStore_79 rfl ko_X3_79 kc_X3_readNumbers ki_X3_readNumbers ks_X3_readNumbers (by decide) (by decide) hdd rfl rfl (le_l rfl) q35 k34 ?_
              refine v_aload_n (pc' := 83) dX3_readStore_82 rfl rfl ?_
              refine v_bipush (pc' := 85) (v := 59) dX3_readStore_83 rfl kB_59 ?_
              obtain ⟨q38, T⟩ := T
              obtain ⟨h36, k37, T⟩ := T
              refine v_callV (pc' := 88) (M1 := mX3_readSign) (as := [.int 59]) (r := r0) (rest := []) 3 dX3_readStore_85 rfl ko_X3_83 kc_X3_readSign ki_X3_readSign ks_X3_readSign (by decide) (by decide) hdd rfl rfl (le_l rfl) q38 k37 ?_
              refine v_iinc (pc' := 91) (loc' := [.ref r0, uV, uV, .int (x3 + 1), .int (h3.2 r0 7), .int z12]) dX3_readStore_88 rfl rfl (kX_1 _) rfl ?_
              refine v_goto (pc' := 8) dX3_readStore_91 (by decide) ?_
              exact V.drop (llp_r (llp_r (llp_r (llp_r (llp_u (llp_u llp_nil)))))) T
            · have T := T.2 c32
              refine v_aload_n (pc' := 70) dX3_readStore_69 rfl rfl ?_
              refine v_iconst (pc' := 71) (v := 3) dX3_readStore_70 rfl kI_3 ?_
              refine v_iload (pc' := 73) dX3_readStore_71 rfl rfl ?_
              obtain ⟨q41, T⟩ := T
              obtain ⟨h39, k40, T⟩ := T
              refine v_callV (pc' := 76) (M1 := mX3_blame) (as := [.int 3, .int (h3.2 r0 7)]) (r := r0) (rest := []) 3 dX3_readStore_73 rfl ko_X3_75 kc_X3_blame ki_X3_blame ks_X3_blame (by decide) (by decide) hdd rfl rfl (le_l rfl) q41 k40 ?_
              refine v_aload_n (pc' := 77) dX3_readStore_76 rfl rfl ?_
              refine v_iload (pc' := 79) dX3_readStore_77 rfl rfl ?_
              obtain ⟨q44, T⟩ := T
              obtain ⟨h42, k43, T⟩ := T
              refine v_callV (pc' := 82) (M1 := mX3_readNumbers) (as := [.int z12]) (r := r0) (rest := []) 3 dX3_readStore_79 rfl ko_X3_79 kc_X3_readNumbers ki_X3_readNumbers ks_X3_readNumbers (by decide) (by decide) hdd rfl rfl (le_l rfl) q44 k43 ?_
              refine v_aload_n (pc' := 83) dX3_readStore_82 rfl rfl ?_
              refine v_bipush (pc' := 85) (v := 59) dX3_readStore_83 rfl kB_59 ?_
              obtain ⟨q47, T⟩ := T
              obtain ⟨h45, k46, T⟩ := T
              refine v_callV (pc' := 88) (M1 := mX3_readSign) (as := [.int 59]) (r := r0) (rest := []) 3 dX3_readStore_85 rfl ko_X3_83 kc_X3_readSign ki_X3_readSign ks_X3_readSign (by decide) (by decide) hdd rfl rfl (le_l rfl) q47 k46 ?_
              refine v_iinc (pc' := 91) (loc' := [.ref r0, uV, uV, .int (x3 + 1), .int (h3.2 r0 7), .int z12]) dX3_readStore_88 rfl rfl (kX_1 _) rfl ?_
              refine v_goto (pc' := 8) dX3_readStore_91 (by decide) ?_
              exact V.drop (llp_r (llp_r (llp_r (llp_r (llp_u (llp_u llp_nil)))))) T
          · have T := T.2 c31
            refine v_aload_n (pc' := 54) dX3_readStore_53 rfl rfl ?_
            refine v_iconst (pc' := 55) (v := 1) dX3_readStore_54 rfl kI_1 ?_
            refine v_iload (pc' := 57) dX3_readStore_55 rfl rfl ?_
            obtain ⟨q50, T⟩ := T
            obtain ⟨h48, k49, T⟩ := T
            refine v_callV (pc' := 60) (M1 := mX3_blame) (as := [.int 1, .int (h3.2 r0 7)]) (r := r0) (rest := []) 3 dX3_readStore_57 rfl ko_X3_75 kc_X3_blame ki_X3_blame ks_X3_blame (by decide) (by decide) hdd rfl rfl (le_l rfl) q50 k49 ?_
            refine v_goto (pc' := 76) dX3_readStore_60 (by decide) ?_
            refine v_aload_n (pc' := 77) dX3_readStore_76 rfl rfl ?_
            refine v_iload (pc' := 79) dX3_readStore_77 rfl rfl ?_
            obtain ⟨q53, T⟩ := T
            obtain ⟨h51, k52, T⟩ := T
            refine v_callV (pc' := 82) (M1 := mX3_readNumbers) (as := [.int z12]) (r := r0) (rest := []) 3 dX3_readStore_79 rfl ko_X3_79 kc_X3_readNumbers ki_X3_readNumbers ks_X3_readNumbers (by decide) (by decide) hdd rfl rfl (le_l rfl) q53 k52 ?_
            refine v_aload_n (pc' := 83) dX3_readStore_82 rfl rfl ?_
            refine v_bipush (pc' := 85) (v := 59) dX3_readStore_83 rfl kB_59 ?_
            obtain ⟨q56, T⟩ := T
            obtain ⟨h54, k55, T⟩ := T
            refine v_callV (pc' := 88) (M1 := mX3_readSign) (as := [.int 59]) (r := r0) (rest := []) 3 dX3_readStore_85 rfl ko_X3_83 kc_X3_readSign ki_X3_readSign ks_X3_readSign (by decide) (by decide) hdd rfl rfl (le_l rfl) q56 k55 ?_
            refine v_iinc (pc' := 91) (loc' := [.ref r0, uV, uV, .int (x3 + 1), .int (h3.2 r0 7), .int z12]) dX3_readStore_88 rfl rfl (kX_1 _) rfl ?_
            refine v_goto (pc' := 8) dX3_readStore_91 (by decide) ?_
            exact V.drop (llp_r (llp_r (llp_r (llp_r (llp_u (llp_u llp_nil)))))) T
theorem eX3_readWork {G : GG} {d : Nat} {h : Hp} {o : OU} {h' : Hp} (r0 : Nat) (r1 : Nat) (x2 : Int32) (hd : 1 ≤ d) (T : kH h r0 = 13 ∧ ∃ h1, VM G mX3_begin (d - 1) [.ref r0, .ref r1, .int x2] h (.inl none) h1 ∧ V G mX3_readWork d 8 [.ref r0, uV, uV, .int 0] [] h1 o h') : VM G mX3_readWork d [.ref r0, .ref r1, .int x2] h o h' := by
  refine V.toM rfl rfl (le_l rfl) (cat_all rfl) ?_
  show V G mX3_readWork d 0 [.ref r0, .ref r1, .int x2, uV] [] h o h'
  have hdd : d - 1 + 1 ≤ d := by omega
  refine v_aload_n (pc' := 1) dX3_readWork_0 rfl rfl ?_
  refine v_aload_n (pc' := 2) dX3_readWork_1 rfl rfl ?_
  refine v_iload_n (pc' := 3) dX3_readWork_2 rfl rfl ?_
  obtain ⟨q3, T⟩ := T
  obtain ⟨h1, k2, T⟩ := T
  refine v_callV (pc' := 6) (M1 := mX3_begin) (as := [.ref r1, .int x2]) (r := r0) (rest := []) 3 dX3_readWork_3 rfl ko_X3_63 kc_X3_begin ki_X3_begin ks_X3_begin (by decide) (by decide) hdd rfl rfl (le_l rfl) q3 k2 ?_
  refine v_iconst (pc' := 7) (v := 0) dX3_readWork_6 rfl kI_0 ?_
  refine v_istore_n (pc' := 8) (loc' := [.ref r0, .ref r1, .int x2, .int 0]) dX3_readWork_7 rfl (lt_l rfl) rfl ?_
  exact V.drop (llp_r (llp_u (llp_u (llp_r llp_nil)))) T
theorem bX3_readWork_8 {G : GG} {d : Nat} {h : Hp} {o : OU} {h' : Hp} (r0 : Nat) (x3 : Int32) (hd : 1 ≤ d) (T : kH h r0 = 13 ∧ (((h.2 r0 6) < x3 → V G mX3_readWork d 106 [.ref r0, uV, uV, uV] [] h o h') ∧ (¬ (h.2 r0 6) < x3 → ((¬ (h.2 r0 4) = 0 → V G mX3_readWork d 106 [.ref r0, uV, uV, uV] [] h o h') ∧ ((h.2 r0 4) = 0 → ∃ z5 h4, VM G mX3_atEnd (d - 1) [.ref r0] h (.inl (some (.int z5))) h4 ∧ ((¬ z5 = 0 → V G mX3_readWork d 106 [.ref r0, uV, uV, uV] [] h4 o h') ∧ (z5 = 0 → kH h4 r0 = 13 ∧ (((h4.2 r0 9) ≤ 0 → ∃ h10, VM G mX3_readStep (d - 1) [.ref r0] h4 (.inl none) h10 ∧ V G mX3_readWork d 8 [.ref r0, uV, uV, .int (x3 + 1)] [] h10 o h') ∧ (¬ (h4.2 r0 9) ≤ 0 → kH h4 (rH h4 r0 5) = 2 ∧ vp_in (h4.2 r0 7) (lH h4 (rH h4 r0 5)) ∧ ((¬ (h4.2 (rH h4 r0 5) (h4.2 r0 7).toNatClampNeg) = 93 → ∃ h15, VM G mX3_readStep (d - 1) [.ref r0] h4 (.inl none) h15 ∧ V G mX3_readWork d 8 [.ref r0, uV, uV, .int (x3 + 1)] [] h15 o h') ∧ ((h4.2 (rH h4 r0 5) (h4.2 r0 7).toNatClampNeg) = 93 → kH h4 (rH h4 r0 8) = 1 ∧ vp_in ((upI (upI h4.2 r0 7 ((h4.2 r0 7) + 1)) r0 9 (((upI h4.2 r0 7 ((h4.2 r0 7) + 1)) r0 9) - 1)) r0 9) (lH h4 (rH h4 r0 8)) ∧ kH h4 (rH h4 r0 0) = 14 ∧ ∃ h19, VM G mX4_addEnd (d - 1) [.ref (rH h4 r0 0), .int ((upI (upI h4.2 r0 7 ((h4.2 r0 7) + 1)) r0 9 (((upI h4.2 r0 7 ((h4.2 r0 7) + 1)) r0 9) - 1)) (rH h4 r0 8) ((upI (upI h4.2 r0 7 ((h4.2 r0 7) + 1)) r0 9 (((upI h4.2 r0 7 ((h4.2 r0 7) + 1)) r0 9) - 1)) r0 9).toNatClampNeg)] (h4.1, (upI (upI h4.2 r0 7 ((h4.2 r0 7) + 1)) r0 9 (((upI h4.2 r0 7 ((h4.2 r0 7) + 1)) r0 9) - 1))) (.inl none) h19 ∧ kH h19 r0 = 13 ∧ ∃ h22, VM G mX3_readSign (d - 1) [.ref r0, .int 59] h19 (.inl none) h22 ∧ V G mX3_readWork d 8 [.ref r0, uV, uV, .int (x3 + 1)] [] h22 o h'))))))))))) : V G mX3_readWork d 8 [.ref r0, uV, uV, .int x3] [] h o h' := by
  have hdd : d - 1 + 1 ≤ d := by omega
  refine v_iload_n (pc' := 9) dX3_readWork_8 rfl rfl ?_
  refine v_aload_n (pc' := 10) dX3_readWork_9 rfl rfl ?_
  obtain ⟨q1, T⟩ := T
  refine v_getI (pc' := 13) 3 6 dX3_readWork_10 rfl (by decide) (by decide) rfl kf_X3_38 q1 ?_
  refine v_icmp_gt (tgt := 106) (pc' := 16) dX3_readWork_13 (by decide) rfl ⟨fun c2 => ?_, fun c2 => ?_⟩
  · have T := T.1 c2
    exact V.drop (llp_r (llp_r (llp_r (llp_u llp_nil)))) T
  · have T := T.2 c2
    refine v_aload_n (pc' := 17) dX3_readWork_16 rfl rfl ?_
    refine v_getI (pc' := 20) 3 4 dX3_readWork_17 rfl (by decide) (by decide) rfl kf_X3_51 q1 ?_
    refine v_if_ne (tgt := 106) (pc' := 23) dX3_readWork_20 (by decide) rfl ⟨fun c3 => ?_, fun c3 => ?_⟩
    · have T := T.1 c3
      exact V.drop (llp_r (llp_r (llp_r (llp_u llp_nil)))) T
    · have T := T.2 c3
      refine v_aload_n (pc' := 24) dX3_readWork_23 rfl rfl ?_
      obtain ⟨z5, h4, k6, T⟩ := T
      refine v_callV (pc' := 27) (M1 := mX3_atEnd) (as := []) (r := r0) (rest := []) 3 dX3_readWork_24 rfl ko_X3_67 kc_X3_atEnd ki_X3_atEnd ks_X3_atEnd (by decide) (by decide) hdd rfl rfl (le_l rfl) q1 k6 ?_
      refine v_if_ne (tgt := 106) (pc' := 30) dX3_readWork_27 (by decide) rfl ⟨fun c7 => ?_, fun c7 => ?_⟩
      · have T := T.1 c7
        exact V.drop (llp_r (llp_r (llp_r (llp_u llp_nil)))) T
      · have T := T.2 c7
        refine v_aload_n (pc' := 31) dX3_readWork_30 rfl rfl ?_
        obtain ⟨q8, T⟩ := T
        refine v_getI (pc' := 34) 3 9 dX3_readWork_31 rfl (by decide) (by decide) rfl kf_X3_57 q8 ?_
        refine v_if_le (tgt := 96) (pc' := 37) dX3_readWork_34 (by decide) rfl ⟨fun c9 => ?_, fun c9 => ?_⟩
        · have T := T.1 c9
          refine v_aload_n (pc' := 97) dX3_readWork_96 rfl rfl ?_
          obtain ⟨h10, k11, T⟩ := T
          refine v_callV (pc' := 100) (M1 := mX3_readStep) (as := []) (r := r0) (rest := []) 3 dX3_readWork_97 rfl ko_X3_90 kc_X3_readStep ki_X3_readStep ks_X3_readStep (by decide) (by decide) hdd rfl rfl (le_l rfl) q8 k11 ?_
          refine v_iinc (pc' := 103) (loc' := [.ref r0, uV, uV, .int (x3 + 1)]) dX3_readWork_100 rfl rfl (kX_1 _) rfl ?_
          refine v_goto (pc' := 8) dX3_readWork_103 (by decide) ?_
          exact T
        · have T := T.2 c9
          refine v_aload_n (pc' := 38) dX3_readWork_37 rfl rfl ?_
          refine v_getR (pc' := 41) 3 5 dX3_readWork_38 rfl (by decide) (by decide) rfl kf_X3_22 q8 ?_
          refine v_aload_n (pc' := 42) dX3_readWork_41 rfl rfl ?_
          refine v_getI (pc' := 45) 3 7 dX3_readWork_42 rfl (by decide) (by decide) rfl kf_X3_48 q8 ?_
          obtain ⟨q12, T⟩ := T
          obtain ⟨q13, T⟩ := T
          refine v_bald (pc' := 46) dX3_readWork_45 rfl rfl q12 q13 ?_
          refine v_bipush (pc' := 48) (v := 93) dX3_readWork_46 rfl kB_93 ?_
          refine v_icmp_ne (tgt := 96) (pc' := 51) dX3_readWork_48 (by decide) rfl ⟨fun c14 => ?_, fun c14 => ?_⟩
          · have T := T.1 c14
            refine v_aload_n (pc' := 97) dX3_readWork_96 rfl rfl ?_
            obtain ⟨h15, k16, T⟩ := T
            refine v_callV (pc' := 100) (M1 := mX3_readStep) (as := []) (r := r0) (rest := []) 3 dX3_readWork_97 rfl ko_X3_90 kc_X3_readStep ki_X3_readStep ks_X3_readStep (by decide) (by decide) hdd rfl rfl (le_l rfl) q8 k16 ?_
            refine v_iinc (pc' := 103) (loc' := [.ref r0, uV, uV, .int (x3 + 1)]) dX3_readWork_100 rfl rfl (kX_1 _) rfl ?_
            refine v_goto (pc' := 8) dX3_readWork_103 (by decide) ?_
            exact T
          · have T := T.2 c14
            refine v_aload_n (pc' := 52) dX3_readWork_51 rfl rfl ?_
            refine v_dup (pc' := 53) dX3_readWork_52 rfl rfl ?_
            refine v_getI (pc' := 56) 3 7 dX3_readWork_53 rfl (by decide) (by decide) rfl kf_X3_48 q8 ?_
            refine v_iconst (pc' := 57) (v := 1) dX3_readWork_56 rfl kI_1 ?_
            refine v_iadd (pc' := 58) dX3_readWork_57 rfl ?_
            refine v_putI (pc' := 61) 3 7 dX3_readWork_58 rfl (by decide) (by decide) rfl rfl kf_X3_48 q8 ?_
            refine v_aload_n (pc' := 62) dX3_readWork_61 rfl rfl ?_
            refine v_dup (pc' := 63) dX3_readWork_62 rfl rfl ?_
            refine v_getI (pc' := 66) 3 9 dX3_readWork_63 rfl (by decide) (by decide) rfl kf_X3_57 q8 ?_
            refine v_iconst (pc' := 67) (v := 1) dX3_readWork_66 rfl kI_1 ?_
            refine v_isub (pc' := 68) dX3_readWork_67 rfl ?_
            refine v_putI (pc' := 71) 3 9 dX3_readWork_68 rfl (by decide) (by decide) rfl rfl kf_X3_57 q8 ?_
            refine v_aload_n (pc' := 72) dX3_readWork_71 rfl rfl ?_
            refine v_getR (pc' := 75) 3 0 dX3_readWork_72 rfl (by decide) (by decide) rfl kf_X3_12 q8 ?_
            refine v_aload_n (pc' := 76) dX3_readWork_75 rfl rfl ?_
            refine v_getR (pc' := 79) 3 8 dX3_readWork_76 rfl (by decide) (by decide) rfl kf_X3_26 q8 ?_
            refine v_aload_n (pc' := 80) dX3_readWork_79 rfl rfl ?_
            refine v_getI (pc' := 83) 3 9 dX3_readWork_80 rfl (by decide) (by decide) rfl kf_X3_57 q8 ?_
            obtain ⟨q17, T⟩ := T
            obtain ⟨q18, T⟩ := T
            refine v_iald (pc' := 84) dX3_readWork_83 rfl rfl q17 q18 ?_
            obtain ⟨q21, T⟩ := T
            obtain ⟨h19, k20, T⟩ := T
            refine v_callV (pc' := 87) (M1 := mX4_addEnd) (as := [.int ((upI (upI h4.2 r0 7 ((h4.2 r0 7) + 1)) r0 9 (((upI h4.2 r0 7 ((h4.2 r0 7) + 1)) r0 9) - 1)) (rH h4 r0 8) ((upI (upI h4.2 r0 7 ((h4.2 r0 7) + 1)) r0 9 (((upI h4.2 r0 7 ((h4.2 r0 7) + 1)) r0 9) - 1)) r0 9).toNatClampNeg)]) (r := (rH h4 r0 0)) (rest := []) 4 dX3_readWork_84 rfl ko_X3_87 kc_X4_addEnd ki_X4_addEnd ks_X4_addEnd (by decide) (by decide) hdd rfl rfl (le_l rfl) q21 k20 ?_
            refine v_aload_n (pc' := 88) dX3_readWork_87 rfl rfl ?_
            refine v_bipush (pc' := 90) (v := 59) dX3_readWork_88 rfl kB_59 ?_
            obtain ⟨q24, T⟩ := T
            obtain ⟨h22, k23, T⟩ := T
            refine v_callV (pc' := 93) (M1 := mX3_readSign) (as := [.int 59]) (r := r0) (rest := []) 3 dX3_readWork_90 rfl ko_X3_83 kc_X3_readSign ki_X3_readSign ks_X3_readSign (by decide) (by decide) hdd rfl rfl (le_l rfl) q24 k23 ?_
            refine v_goto (pc' := 100) dX3_readWork_93 (by decide) ?_
            refine v_iinc (pc' := 103) (loc' := [.ref r0, uV, uV, .int (x3 + 1)]) dX3_readWork_100 rfl rfl (kX_1 _) rfl ?_
            refine v_goto (pc' := 8) dX3_readWork_103 (by decide) ?_
            exact T
theorem bX3_readWork_106 {G : GG} {d : Nat} {h : Hp} {o : OU} {h' : Hp} (r0 : Nat) (hd : 1 ≤ d) (T : kH h r0 = 13 ∧ (((h.2 r0 9) ≤ 0 → (o = .inl (some (.int (h.2 r0 4))) ∧ h' = h)) ∧ (¬ (h.2 r0 9) ≤ 0 → ∃ h3, VM G mX3_blame (d - 1) [.ref r0, .int 1, .int (h.2 r0 6)] h (.inl none) h3 ∧ kH h3 r0 = 13 ∧ (o = .inl (some (.int (h3.2 r0 4))) ∧ h' = h3)))) : V G mX3_readWork d 106 [.ref r0, uV, uV, uV] [] h o h' := by
  have hdd : d - 1 + 1 ≤ d := by omega
  refine v_aload_n (pc' := 107) dX3_readWork_106 rfl rfl ?_
  obtain ⟨q1, T⟩ := T
  refine v_getI (pc' := 110) 3 9 dX3_readWork_107 rfl (by decide) (by decide) rfl kf_X3_57 q1 ?_
  refine v_if_le (tgt := 122) (pc' := 113) dX3_readWork_110 (by decide) rfl ⟨fun c2 => ?_, fun c2 => ?_⟩
  · have T := T.1 c2
    refine v_aload_n (pc' := 123) dX3_readWork_122 rfl rfl ?_
    refine v_getI (pc' := 126) 3 4 dX3_readWork_123 rfl (by decide) (by decide) rfl kf_X3_51 q1 ?_
    exact v_iret dX3_readWork_126 rfl T
  · have T := T.2 c2
    refine v_aload_n (pc' := 114) dX3_readWork_113 rfl rfl ?_
    refine v_iconst (pc' := 115) (v := 1) dX3_readWork_114 rfl kI_1 ?_
    refine v_aload_n (pc' := 116) dX3_readWork_115 rfl rfl ?_
    refine v_getI (pc' := 119) 3 6 dX3_readWork_116 rfl (by decide) (by decide) rfl kf_X3_38 q1 ?_
    obtain ⟨h3, k4, T⟩ := T
    refine v_callV (pc' := 122) (M1 := mX3_blame) (as := [.int 1, .int (h.2 r0 6)]) (r := r0) (rest := []) 3 dX3_readWork_119 rfl ko_X3_75 kc_X3_blame ki_X3_blame ks_X3_blame (by decide) (by decide) hdd rfl rfl (le_l rfl) q1 k4 ?_
    refine v_aload_n (pc' := 123) dX3_readWork_122 rfl rfl ?_
    obtain ⟨q5, T⟩ := T
    refine v_getI (pc' := 126) 3 4 dX3_readWork_123 rfl (by decide) (by decide) rfl kf_X3_51 q5 ?_
    exact v_iret dX3_readWork_126 rfl T
theorem eX3_readStep {G : GG} {d : Nat} {h : Hp} {o : OU} {h' : Hp} (r0 : Nat) (hd : 1 ≤ d) (T : kH h r0 = 13 ∧ ∃ z3 h2, VM G mX3_readWord (d - 1) [.ref r0] h (.inl (some (.int z3))) h2 ∧ ((¬ z3 = 12 → ((¬ z3 = 11 → V G mX3_readStep d 46 [.ref r0, uV, .int z3] [] h2 o h') ∧ (z3 = 11 → kH h2 r0 = 13 ∧ (((h2.2 r0 9) < 6 → V G mX3_readStep d 46 [.ref r0, uV, .int z3] [] h2 o h') ∧ (¬ (h2.2 r0 9) < 6 → ∃ h9, VM G mX3_blame (d - 1) [.ref r0, .int 3, .int (h.2 r0 7)] h2 (.inl none) h9 ∧ V G mX3_readStep d 46 [.ref r0, uV, .int z3] [] h9 o h'))))) ∧ (z3 = 12 → kH h2 r0 = 13 ∧ ∃ h11, VM G mX3_blame (d - 1) [.ref r0, .int 1, .int (h.2 r0 7)] h2 (.inl none) h11 ∧ V G mX3_readStep d 46 [.ref r0, uV, .int z3] [] h11 o h'))) : VM G mX3_readStep d [.ref r0] h o h' := by
  refine V.toM rfl rfl (le_l rfl) (cat_all rfl) ?_
  show V G mX3_readStep d 0 [.ref r0, uV, uV] [] h o h'
  have hdd : d - 1 + 1 ≤ d := by omega
  refine v_aload_n (pc' := 1) dX3_readStep_0 rfl rfl ?_
  obtain ⟨q1, T⟩ := T
  refine v_getI (pc' := 4) 3 7 dX3_readStep_1 rfl (by decide) (by decide) rfl kf_X3_48 q1 ?_
  refine v_istore_n (pc' := 5) (loc' := [.ref r0, .int (h.2 r0 7), uV]) dX3_readStep_4 rfl (lt_l rfl) rfl ?_
  refine v_aload_n (pc' := 6) dX3_readStep_5 rfl rfl ?_
  obtain ⟨z3, h2, k4, T⟩ := T
  refine v_callV (pc' := 9) (M1 := mX3_readWord) (as := []) (r := r0) (rest := []) 3 dX3_readStep_6 rfl ko_X3_71 kc_X3_readWord ki_X3_readWord ks_X3_readWord (by decide) (by decide) hdd rfl rfl (le_l rfl) q1 k4 ?_
  refine v_istore_n (pc' := 10) (loc' := [.ref r0, .int (h.2 r0 7), .int z3]) dX3_readStep_9 rfl (lt_l rfl) rfl ?_
  refine v_iload_n (pc' := 11) dX3_readStep_10 rfl rfl ?_
  refine v_bipush (pc' := 13) (v := 12) dX3_readStep_11 rfl kB_12 ?_
  refine v_icmp_ne (tgt := 25) (pc' := 16) dX3_readStep_13 (by decide) rfl ⟨fun c5 => ?_, fun c5 => ?_⟩
  · have T := T.1 c5
    refine v_iload_n (pc' := 26) dX3_readStep_25 rfl rfl ?_
    refine v_bipush (pc' := 28) (v := 11) dX3_readStep_26 rfl kB_11 ?_
    refine v_icmp_ne (tgt := 46) (pc' := 31) dX3_readStep_28 (by decide) rfl ⟨fun c6 => ?_, fun c6 => ?_⟩
    · have T := T.1 c6
      exact V.drop (llp_r (llp_u (llp_r llp_nil))) T
    · have T := T.2 c6
      refine v_aload_n (pc' := 32) dX3_readStep_31 rfl rfl ?_
      obtain ⟨q7, T⟩ := T
      refine v_getI (pc' := 35) 3 9 dX3_readStep_32 rfl (by decide) (by decide) rfl kf_X3_57 q7 ?_
      refine v_bipush (pc' := 37) (v := 6) dX3_readStep_35 rfl kB_6 ?_
      refine v_icmp_lt (tgt := 46) (pc' := 40) dX3_readStep_37 (by decide) rfl ⟨fun c8 => ?_, fun c8 => ?_⟩
      · have T := T.1 c8
        exact V.drop (llp_r (llp_u (llp_r llp_nil))) T
      · have T := T.2 c8
        refine v_aload_n (pc' := 41) dX3_readStep_40 rfl rfl ?_
        refine v_iconst (pc' := 42) (v := 3) dX3_readStep_41 rfl kI_3 ?_
        refine v_iload_n (pc' := 43) dX3_readStep_42 rfl rfl ?_
        obtain ⟨h9, k10, T⟩ := T
        refine v_callV (pc' := 46) (M1 := mX3_blame) (as := [.int 3, .int (h.2 r0 7)]) (r := r0) (rest := []) 3 dX3_readStep_43 rfl ko_X3_75 kc_X3_blame ki_X3_blame ks_X3_blame (by decide) (by decide) hdd rfl rfl (le_l rfl) q7 k10 ?_
        exact V.drop (llp_r (llp_u (llp_r llp_nil))) T
  · have T := T.2 c5
    refine v_aload_n (pc' := 17) dX3_readStep_16 rfl rfl ?_
    refine v_iconst (pc' := 18) (v := 1) dX3_readStep_17 rfl kI_1 ?_
    refine v_iload_n (pc' := 19) dX3_readStep_18 rfl rfl ?_
    obtain ⟨q13, T⟩ := T
    obtain ⟨h11, k12, T⟩ := T
    refine v_callV (pc' := 22) (M1 := mX3_blame) (as := [.int 1, .int (h.2 r0 7)]) (r := r0) (rest := []) 3 dX3_readStep_19 rfl ko_X3_75 kc_X3_blame ki_X3_blame ks_X3_blame (by decide) (by decide) hdd rfl rfl (le_l rfl) q13 k12 ?_
    refine v_goto (pc' := 46) dX3_readStep_22 (by decide) ?_
    exact V.drop (llp_r (llp_u (llp_r llp_nil))) T
theorem bX3_readStep_46 {G : GG} {d : Nat} {h : Hp} {o : OU} {h' : Hp} (r0 : Nat) (x2 : Int32) (hd : 1 ≤ d) (T : kH h r0 = 13 ∧ ∃ h1, VM G mX3_readNumbers (d - 1) [.ref r0, .int x2] h (.inl none) h1 ∧ ((¬ x2 = 11 → kH h1 r0 = 13 ∧ ∃ h5, VM G mX3_readSign (d - 1) [.ref r0, .int 59] h1 (.inl none) h5 ∧ (o = .inl none ∧ h' = h5)) ∧ (x2 = 11 → kH h1 r0 = 13 ∧ ∃ h8, VM G mX3_readSign (d - 1) [.ref r0, .int 91] h1 (.inl none) h8 ∧ kH h8 r0 = 13 ∧ ((¬ (h8.2 r0 4) = 0 → (o = .inl none ∧ h' = h8)) ∧ ((h8.2 r0 4) = 0 → kH h8 (rH h8 r0 0) = 14 ∧ kH h8 (rH h8 r0 8) = 1 ∧ vp_in (h8.2 r0 9) (lH h8 (rH h8 r0 8)) ∧ (∀ i16 : Nat → Nat → Int32, i16 = (upI (upI h8.2 (rH h8 r0 8) (h8.2 r0 9).toNatClampNeg ((h8.2 (rH h8 r0 0) 1) - 1)) r0 9 (((upI h8.2 (rH h8 r0 8) (h8.2 r0 9).toNatClampNeg ((h8.2 (rH h8 r0 0) 1) - 1)) r0 9) + 1)) → (o = .inl none ∧ h' = (h8.1, i16)))))))) : V G mX3_readStep d 46 [.ref r0, uV, .int x2] [] h o h' := by
  have hdd : d - 1 + 1 ≤ d := by omega
  refine v_aload_n (pc' := 47) dX3_readStep_46 rfl rfl ?_
  refine v_iload_n (pc' := 48) dX3_readStep_47 rfl rfl ?_
  obtain ⟨q3, T⟩ := T
  obtain ⟨h1, k2, T⟩ := T
  refine v_callV (pc' := 51) (M1 := mX3_readNumbers) (as := [.int x2]) (r := r0) (rest := []) 3 dX3_readStep_48 rfl ko_X3_79 kc_X3_readNumbers ki_X3_readNumbers ks_X3_readNumbers (by decide) (by decide) hdd rfl rfl (le_l rfl) q3 k2 ?_
  refine v_iload_n (pc' := 52) dX3_readStep_51 rfl rfl ?_
  refine v_bipush (pc' := 54) (v := 11) dX3_readStep_52 rfl kB_11 ?_
  refine v_icmp_ne (tgt := 101) (pc' := 57) dX3_readStep_54 (by decide) rfl ⟨fun c4 => ?_, fun c4 => ?_⟩
  · have T := T.1 c4
    refine v_aload_n (pc' := 102) dX3_readStep_101 rfl rfl ?_
    refine v_bipush (pc' := 104) (v := 59) dX3_readStep_102 rfl kB_59 ?_
    obtain ⟨q7, T⟩ := T
    obtain ⟨h5, k6, T⟩ := T
    refine v_callV (pc' := 107) (M1 := mX3_readSign) (as := [.int 59]) (r := r0) (rest := []) 3 dX3_readStep_104 rfl ko_X3_83 kc_X3_readSign ki_X3_readSign ks_X3_readSign (by decide) (by decide) hdd rfl rfl (le_l rfl) q7 k6 ?_
    exact v_vret dX3_readStep_107 rfl T
  · have T := T.2 c4
    refine v_aload_n (pc' := 58) dX3_readStep_57 rfl rfl ?_
    refine v_bipush (pc' := 60) (v := 91) dX3_readStep_58 rfl kB_91 ?_
    obtain ⟨q10, T⟩ := T
    obtain ⟨h8, k9, T⟩ := T
    refine v_callV (pc' := 63) (M1 := mX3_readSign) (as := [.int 91]) (r := r0) (rest := []) 3 dX3_readStep_60 rfl ko_X3_83 kc_X3_readSign ki_X3_readSign ks_X3_readSign (by decide) (by decide) hdd rfl rfl (le_l rfl) q10 k9 ?_
    refine v_aload_n (pc' := 64) dX3_readStep_63 rfl rfl ?_
    obtain ⟨q11, T⟩ := T
    refine v_getI (pc' := 67) 3 4 dX3_readStep_64 rfl (by decide) (by decide) rfl kf_X3_51 q11 ?_
    refine v_if_ne (tgt := 107) (pc' := 70) dX3_readStep_67 (by decide) rfl ⟨fun c12 => ?_, fun c12 => ?_⟩
    · have T := T.1 c12
      exact v_vret dX3_readStep_107 rfl T
    · have T := T.2 c12
      refine v_aload_n (pc' := 71) dX3_readStep_70 rfl rfl ?_
      refine v_getR (pc' := 74) 3 8 dX3_readStep_71 rfl (by decide) (by decide) rfl kf_X3_26 q11 ?_
      refine v_aload_n (pc' := 75) dX3_readStep_74 rfl rfl ?_
      refine v_getI (pc' := 78) 3 9 dX3_readStep_75 rfl (by decide) (by decide) rfl kf_X3_57 q11 ?_
      refine v_aload_n (pc' := 79) dX3_readStep_78 rfl rfl ?_
      refine v_getR (pc' := 82) 3 0 dX3_readStep_79 rfl (by decide) (by decide) rfl kf_X3_12 q11 ?_
      obtain ⟨q13, T⟩ := T
      refine v_getI (pc' := 85) 4 1 dX3_readStep_82 rfl (by decide) (by decide) rfl kf_X3_93 q13 ?_
      refine v_iconst (pc' := 86) (v := 1) dX3_readStep_85 rfl kI_1 ?_
      refine v_isub (pc' := 87) dX3_readStep_86 rfl ?_
      obtain ⟨q14, T⟩ := T
      obtain ⟨q15, T⟩ := T
      refine v_iast (pc' := 88) dX3_readStep_87 rfl rfl q14 q15 ?_
      refine v_aload_n (pc' := 89) dX3_readStep_88 rfl rfl ?_
      refine v_dup (pc' := 90) dX3_readStep_89 rfl rfl ?_
      refine v_getI (pc' := 93) 3 9 dX3_readStep_90 rfl (by decide) (by decide) rfl kf_X3_57 q11 ?_
      refine v_iconst (pc' := 94) (v := 1) dX3_readStep_93 rfl kI_1 ?_
      refine v_iadd (pc' := 95) dX3_readStep_94 rfl ?_
      refine v_putI (pc' := 98) 3 9 dX3_readStep_95 rfl (by decide) (by decide) rfl rfl kf_X3_57 q11 ?_
      show V G mX3_readStep d 98 [.ref r0, uV, .int x2] [] (h8.1, (upI (upI h8.2 (rH h8 r0 8) (h8.2 r0 9).toNatClampNeg ((h8.2 (rH h8 r0 0) 1) - 1)) r0 9 (((upI h8.2 (rH h8 r0 8) (h8.2 r0 9).toNatClampNeg ((h8.2 (rH h8 r0 0) 1) - 1)) r0 9) + 1))) o h'
      obtain ⟨i16, e17⟩ : ∃ z : Nat → Nat → Int32, z = (upI (upI h8.2 (rH h8 r0 8) (h8.2 r0 9).toNatClampNeg ((h8.2 (rH h8 r0 0) 1) - 1)) r0 9 (((upI h8.2 (rH h8 r0 8) (h8.2 r0 9).toNatClampNeg ((h8.2 (rH h8 r0 0) 1) - 1)) r0 9) + 1)) := ⟨_, rfl⟩
      rw [← e17]
      have T := T i16 e17
      refine v_goto (pc' := 107) dX3_readStep_98 (by decide) ?_
      exact v_vret dX3_readStep_107 rfl T
theorem eX3_readBook {G : GG} {d : Nat} {h : Hp} {o : OU} {h' : Hp} (r0 : Nat) (r1 : Nat) (x2 : Int32) (hd : 1 ≤ d) (T : kH h r0 = 13 ∧ ∃ h1, VM G mX3_begin (d - 1) [.ref r0, .ref r1, .int x2] h (.inl none) h1 ∧ kH h1 r0 = 13 ∧ V G mX3_readBook d 13 [.ref r0, uV, uV, .int 0, uV, uV, uV] [] (h1.1, (upI h1.2 r0 2 0)) o h') : VM G mX3_readBook d [.ref r0, .ref r1, .int x2] h o h' := by
  refine V.toM rfl rfl (le_l rfl) (cat_all rfl) ?_
  show V G mX3_readBook d 0 [.ref r0, .ref r1, .int x2, uV, uV, uV, uV] [] h o h'
  have hdd : d - 1 + 1 ≤ d := by omega
  refine v_aload_n (pc' := 1) dX3_readBook_0 rfl rfl ?_
  refine v_aload_n (pc' := 2) dX3_readBook_1 rfl rfl ?_
  refine v_iload_n (pc' := 3) dX3_readBook_2 rfl rfl ?_
  obtain ⟨q3, T⟩ := T
  obtain ⟨h1, k2, T⟩ := T
  refine v_callV (pc' := 6) (M1 := mX3_begin) (as := [.ref r1, .int x2]) (r := r0) (rest := []) 3 dX3_readBook_3 rfl ko_X3_63 kc_X3_begin ki_X3_begin ks_X3_begin (by decide) (by decide) hdd rfl rfl (le_l rfl) q3 k2 ?_
  refine v_aload_n (pc' := 7) dX3_readBook_6 rfl rfl ?_
  refine v_iconst (pc' := 8) (v := 0) dX3_readBook_7 rfl kI_0 ?_
  obtain ⟨q4, T⟩ := T
  refine v_putI (pc' := 11) 3 2 dX3_readBook_8 rfl (by decide) (by decide) rfl rfl kf_X3_94 q4 ?_
  refine v_iconst (pc' := 12) (v := 0) dX3_readBook_11 rfl kI_0 ?_
  refine v_istore_n (pc' := 13) (loc' := [.ref r0, .ref r1, .int x2, .int 0, uV, uV, uV]) dX3_readBook_12 rfl (lt_l rfl) rfl ?_
  exact V.drop (llp_r (llp_u (llp_u (llp_r (llp_r (llp_r (llp_r llp_nil))))))) T
theorem bX3_readBook_13 {G : GG} {d : Nat} {h : Hp} {o : OU} {h' : Hp} (r0 : Nat) (x3 : Int32) (T : ((16 ≤ x3 → V G mX3_readBook d 34 [.ref r0, uV, uV, .int 0, uV, uV, uV] [] h o h') ∧ (¬ 16 ≤ x3 → kH h r0 = 13 ∧ kH h (rH h r0 1) = 1 ∧ vp_in x3 (lH h (rH h r0 1)) ∧ V G mX3_readBook d 13 [.ref r0, uV, uV, .int (x3 + 1), uV, uV, uV] [] (h.1, (upI h.2 (rH h r0 1) x3.toNatClampNeg (-1))) o h'))) : V G mX3_readBook d 13 [.ref r0, uV, uV, .int x3, uV, uV, uV] [] h o h' := by
  refine v_iload_n (pc' := 14) dX3_readBook_13 rfl rfl ?_
  refine v_bipush (pc' := 16) (v := 16) dX3_readBook_14 rfl kB_16 ?_
  refine v_icmp_ge (tgt := 32) (pc' := 19) dX3_readBook_16 (by decide) rfl ⟨fun c1 => ?_, fun c1 => ?_⟩
  · have T := T.1 c1
    refine v_iconst (pc' := 33) (v := 0) dX3_readBook_32 rfl kI_0 ?_
    refine v_istore_n (pc' := 34) (loc' := [.ref r0, uV, uV, .int 0, uV, uV, uV]) dX3_readBook_33 rfl (lt_l rfl) rfl ?_
    exact T
  · have T := T.2 c1
    refine v_aload_n (pc' := 20) dX3_readBook_19 rfl rfl ?_
    obtain ⟨q2, T⟩ := T
    refine v_getR (pc' := 23) 3 1 dX3_readBook_20 rfl (by decide) (by decide) rfl kf_X3_18 q2 ?_
    refine v_iload_n (pc' := 24) dX3_readBook_23 rfl rfl ?_
    refine v_iconst (pc' := 25) (v := (-1)) dX3_readBook_24 rfl kI_m1 ?_
    obtain ⟨q3, T⟩ := T
    obtain ⟨q4, T⟩ := T
    refine v_iast (pc' := 26) dX3_readBook_25 rfl rfl q3 q4 ?_
    refine v_iinc (pc' := 29) (loc' := [.ref r0, uV, uV, .int (x3 + 1), uV, uV, uV]) dX3_readBook_26 rfl rfl (kX_1 _) rfl ?_
    refine v_goto (pc' := 13) dX3_readBook_29 (by decide) ?_
    exact T
theorem bX3_readBook_34 {G : GG} {d : Nat} {h : Hp} {o : OU} {h' : Hp} (r0 : Nat) (x3 : Int32) (hd : 1 ≤ d) (T : kH h r0 = 13 ∧ (((h.2 r0 6) < x3 → (o = .inl (some (.int (h.2 r0 4))) ∧ h' = h)) ∧ (¬ (h.2 r0 6) < x3 → ((¬ (h.2 r0 4) = 0 → (o = .inl (some (.int (h.2 r0 4))) ∧ h' = h)) ∧ ((h.2 r0 4) = 0 → ∃ z5 h4, VM G mX3_atEnd (d - 1) [.ref r0] h (.inl (some (.int z5))) h4 ∧ ((¬ z5 = 0 → kH h4 r0 = 13 ∧ (o = .inl (some (.int (h4.2 r0 4))) ∧ h' = h4)) ∧ (z5 = 0 → kH h4 r0 = 13 ∧ ∃ z11 h10, VM G mX3_readNumber (d - 1) [.ref r0, .int 0, .int 15] h4 (.inl (some (.int z11))) h10 ∧ kH h10 r0 = 13 ∧ kH h10 (rH h10 r0 1) = 1 ∧ vp_in z11 (lH h10 (rH h10 r0 1)) ∧ (((h10.2 (rH h10 r0 1) z11.toNatClampNeg) = (-1) → ∃ z18 h17, VM G mX3_readNumber (d - 1) [.ref r0, .int 0, .int 99] h10 (.inl (some (.int z18))) h17 ∧ kH h17 r0 = 13 ∧ ∃ h20, VM G mX3_readSign (d - 1) [.ref r0, .int 59] h17 (.inl none) h20 ∧ kH h20 r0 = 13 ∧ ((¬ (h20.2 r0 4) = 0 → V G mX3_readBook d 34 [.ref r0, uV, uV, .int (x3 + 1), uV, uV, uV] [] h20 o h') ∧ ((h20.2 r0 4) = 0 → kH h20 (rH h20 r0 1) = 1 ∧ vp_in z11 (lH h20 (rH h20 r0 1)) ∧ V G mX3_readBook d 34 [.ref r0, uV, uV, .int (x3 + 1), uV, uV, uV] [] (h20.1, (upI (upI h20.2 (rH h20 r0 1) z11.toNatClampNeg z18) r0 2 (((upI h20.2 (rH h20 r0 1) z11.toNatClampNeg z18) r0 2) + 1))) o h'))) ∧ (¬ (h10.2 (rH h10 r0 1) z11.toNatClampNeg) = (-1) → ∃ h27, VM G mX3_blame (d - 1) [.ref r0, .int 2, .int (h4.2 r0 7)] h10 (.inl none) h27 ∧ kH h27 r0 = 13 ∧ ∃ z30 h29, VM G mX3_readNumber (d - 1) [.ref r0, .int 0, .int 99] h27 (.inl (some (.int z30))) h29 ∧ kH h29 r0 = 13 ∧ ∃ h33, VM G mX3_readSign (d - 1) [.ref r0, .int 59] h29 (.inl none) h33 ∧ kH h33 r0 = 13 ∧ ((¬ (h33.2 r0 4) = 0 → V G mX3_readBook d 34 [.ref r0, uV, uV, .int (x3 + 1), uV, uV, uV] [] h33 o h') ∧ ((h33.2 r0 4) = 0 → kH h33 (rH h33 r0 1) = 1 ∧ vp_in z11 (lH h33 (rH h33 r0 1)) ∧ V G mX3_readBook d 34 [.ref r0, uV, uV, .int (x3 + 1), uV, uV, uV] [] (h33.1, (upI (upI h33.2 (rH h33 r0 1) z11.toNatClampNeg z30) r0 2 (((upI h33.2 (rH h33 r0 1) z11.toNatClampNeg z30) r0 2) + 1))) o h'))))))))))) : V G mX3_readBook d 34 [.ref r0, uV, uV, .int x3, uV, uV, uV] [] h o h' := by
  have hdd : d - 1 + 1 ≤ d := by omega
  refine v_iload_n (pc' := 35) dX3_readBook_34 rfl rfl ?_
  refine v_aload_n (pc' := 36) dX3_readBook_35 rfl rfl ?_
  obtain ⟨q1, T⟩ := T
  refine v_getI (pc' := 39) 3 6 dX3_readBook_36 rfl (by decide) (by decide) rfl kf_X3_38 q1 ?_
  refine v_icmp_gt (tgt := 136) (pc' := 42) dX3_readBook_39 (by decide) rfl ⟨fun c2 => ?_, fun c2 => ?_⟩
  · have T := T.1 c2
    refine v_aload_n (pc' := 137) dX3_readBook_136 rfl rfl ?_
    refine v_getI (pc' := 140) 3 4 dX3_readBook_137 rfl (by decide) (by decide) rfl kf_X3_51 q1 ?_
    exact v_iret dX3_readBook_140 rfl T
  · have T := T.2 c2
    refine v_aload_n (pc' := 43) dX3_readBook_42 rfl rfl ?_
    refine v_getI (pc' := 46) 3 4 dX3_readBook_43 rfl (by decide) (by decide) rfl kf_X3_51 q1 ?_
    refine v_if_ne (tgt := 136) (pc' := 49) dX3_readBook_46 (by decide) rfl ⟨fun c3 => ?_, fun c3 => ?_⟩
    · have T := T.1 c3
      refine v_aload_n (pc' := 137) dX3_readBook_136 rfl rfl ?_
      refine v_getI (pc' := 140) 3 4 dX3_readBook_137 rfl (by decide) (by decide) rfl kf_X3_51 q1 ?_
      exact v_iret dX3_readBook_140 rfl T
    · have T := T.2 c3
      refine v_aload_n (pc' := 50) dX3_readBook_49 rfl rfl ?_
      obtain ⟨z5, h4, k6, T⟩ := T
      refine v_callV (pc' := 53) (M1 := mX3_atEnd) (as := []) (r := r0) (rest := []) 3 dX3_readBook_50 rfl ko_X3_67 kc_X3_atEnd ki_X3_atEnd ks_X3_atEnd (by decide) (by decide) hdd rfl rfl (le_l rfl) q1 k6 ?_
      refine v_if_ne (tgt := 136) (pc' := 56) dX3_readBook_53 (by decide) rfl ⟨fun c7 => ?_, fun c7 => ?_⟩
      · have T := T.1 c7
        refine v_aload_n (pc' := 137) dX3_readBook_136 rfl rfl ?_
        obtain ⟨q8, T⟩ := T
        refine v_getI (pc' := 140) 3 4 dX3_readBook_137 rfl (by decide) (by decide) rfl kf_X3_51 q8 ?_
        exact v_iret dX3_readBook_140 rfl T
      · have T := T.2 c7
        refine v_aload_n (pc' := 57) dX3_readBook_56 rfl rfl ?_
        obtain ⟨q9, T⟩ := T
        refine v_getI (pc' := 60) 3 7 dX3_readBook_57 rfl (by decide) (by decide) rfl kf_X3_48 q9 ?_
        refine v_istore (pc' := 62) (loc' := [.ref r0, uV, uV, .int x3, .int (h4.2 r0 7), uV, uV]) dX3_readBook_60 rfl (lt_l rfl) rfl ?_
        refine v_aload_n (pc' := 63) dX3_readBook_62 rfl rfl ?_
        refine v_iconst (pc' := 64) (v := 0) dX3_readBook_63 rfl kI_0 ?_
        refine v_bipush (pc' := 66) (v := 15) dX3_readBook_64 rfl kB_15 ?_
        obtain ⟨z11, h10, k12, T⟩ := T
        refine v_callV (pc' := 69) (M1 := mX3_readNumber) (as := [.int 0, .int 15]) (r := r0) (rest := []) 3 dX3_readBook_66 rfl ko_X3_97 kc_X3_readNumber ki_X3_readNumber ks_X3_readNumber (by decide) (by decide) hdd rfl rfl (le_l rfl) q9 k12 ?_
        refine v_istore (pc' := 71) (loc' := [.ref r0, uV, uV, .int x3, .int (h4.2 r0 7), .int z11, uV]) dX3_readBook_69 rfl (lt_l rfl) rfl ?_
        refine v_aload_n (pc' := 72) dX3_readBook_71 rfl rfl ?_
        obtain ⟨q13, T⟩ := T
        refine v_getR (pc' := 75) 3 1 dX3_readBook_72 rfl (by decide) (by decide) rfl kf_X3_18 q13 ?_
        refine v_iload (pc' := 77) dX3_readBook_75 rfl rfl ?_
        obtain ⟨q14, T⟩ := T
        obtain ⟨q15, T⟩ := T
        refine v_iald (pc' := 78) dX3_readBook_77 rfl rfl q14 q15 ?_
        refine v_iconst (pc' := 79) (v := (-1)) dX3_readBook_78 rfl kI_m1 ?_
        refine v_icmp_eq (tgt := 89) (pc' := 82) dX3_readBook_79 (by decide) rfl ⟨fun c16 => ?_, fun c16 => ?_⟩
        · have T := T.1 c16
          refine v_aload_n (pc' := 90) dX3_readBook_89 rfl rfl ?_
          refine v_iconst (pc' := 91) (v := 0) dX3_readBook_90 rfl kI_0 ?_
          refine v_bipush (pc' := 93) (v := 99) dX3_readBook_91 rfl kB_99 ?_
          obtain ⟨z18, h17, k19, T⟩ := T
          refine v_callV (pc' := 96) (M1 := mX3_readNumber) (as := [.int 0, .int 99]) (r := r0) (rest := []) 3 dX3_readBook_93 rfl ko_X3_97 kc_X3_readNumber ki_X3_readNumber ks_X3_readNumber (by decide) (by decide) hdd rfl rfl (le_l rfl) q13 k19 ?_
          refine v_istore (pc' := 98) (loc' := [.ref r0, uV, uV, .int x3, .int (h4.2 r0 7), .int z11, .int z18]) dX3_readBook_96 rfl (lt_l rfl) rfl ?_
          refine v_aload_n (pc' := 99) dX3_readBook_98 rfl rfl ?_
          refine v_bipush (pc' := 101) (v := 59) dX3_readBook_99 rfl kB_59 ?_
          obtain ⟨q22, T⟩ := T
          obtain ⟨h20, k21, T⟩ := T
          refine v_callV (pc' := 104) (M1 := mX3_readSign) (as := [.int 59]) (r := r0) (rest := []) 3 dX3_readBook_101 rfl ko_X3_83 kc_X3_readSign ki_X3_readSign ks_X3_readSign (by decide) (by decide) hdd rfl rfl (le_l rfl) q22 k21 ?_
          refine v_aload_n (pc' := 105) dX3_readBook_104 rfl rfl ?_
          obtain ⟨q23, T⟩ := T
          refine v_getI (pc' := 108) 3 4 dX3_readBook_105 rfl (by decide) (by decide) rfl kf_X3_51 q23 ?_
          refine v_if_ne (tgt := 130) (pc' := 111) dX3_readBook_108 (by decide) rfl ⟨fun c24 => ?_, fun c24 => ?_⟩
          · have T := T.1 c24
            refine v_iinc (pc' := 133) (loc' := [.ref r0, uV, uV, .int (x3 + 1), .int (h4.2 r0 7), .int z11, .int z18]) dX3_readBook_130 rfl rfl (kX_1 _) rfl ?_
            refine v_goto (pc' := 34) dX3_readBook_133 (by decide) ?_
            exact V.drop (llp_r (llp_r (llp_r (llp_r (llp_u (llp_u (llp_u llp_nil))))))) T
          · have T := T.2 c24
            refine v_aload_n (pc' := 112) dX3_readBook_111 rfl rfl ?_
            refine v_getR (pc' := 115) 3 1 dX3_readBook_112 rfl (by decide) (by decide) rfl kf_X3_18 q23 ?_
            refine v_iload (pc' := 117) dX3_readBook_115 rfl rfl ?_
            refine v_iload (pc' := 119) dX3_readBook_117 rfl rfl ?_
            obtain ⟨q25, T⟩ := T
            obtain ⟨q26, T⟩ := T
            refine v_iast (pc' := 120) dX3_readBook_119 rfl rfl q25 q26 ?_
            refine v_aload_n (pc' := 121) dX3_readBook_120 rfl rfl ?_
            refine v_dup (pc' := 122) dX3_readBook_121 rfl rfl ?_
            refine v_getI (pc' := 125) 3 2 dX3_readBook_122 rfl (by decide) (by decide) rfl kf_X3_94 q23 ?_
            refine v_iconst (pc' := 126) (v := 1) dX3_readBook_125 rfl kI_1 ?_
            refine v_iadd (pc' := 127) dX3_readBook_126 rfl ?_
            refine v_putI (pc' := 130) 3 2 dX3_readBook_127 rfl (by decide) (by decide) rfl rfl kf_X3_94 q23 ?_
            refine v_iinc (pc' := 133) (loc' := [.ref r0, uV, uV, .int (x3 + 1), .int (h4.2 r0 7), .int z11, .int z18]) dX3_readBook_130 rfl rfl (kX_1 _) rfl ?_
            refine v_goto (pc' := 34) dX3_readBook_133 (by decide) ?_
            exact V.drop (llp_r (llp_r (llp_r (llp_r (llp_u (llp_u (llp_u llp_nil))))))) T
        · have T := T.2 c16
          refine v_aload_n (pc' := 83) dX3_readBook_82 rfl rfl ?_
          refine v_iconst (pc' := 84) (v := 2) dX3_readBook_83 rfl kI_2 ?_
          refine v_iload (pc' := 86) dX3_readBook_84 rfl rfl ?_
          obtain ⟨h27, k28, T⟩ := T
          refine v_callV (pc' := 89) (M1 := mX3_blame) (as := [.int 2, .int (h4.2 r0 7)]) (r := r0) (rest := []) 3 dX3_readBook_86 rfl ko_X3_75 kc_X3_blame ki_X3_blame ks_X3_blame (by decide) (by decide) hdd rfl rfl (le_l rfl) q13 k28 ?_
          refine v_aload_n (pc' := 90) dX3_readBook_89 rfl rfl ?_
          refine v_iconst (pc' := 91) (v := 0) dX3_readBook_90 rfl kI_0 ?_
          refine v_bipush (pc' := 93) (v := 99) dX3_readBook_91 rfl kB_99 ?_
          obtain ⟨q32, T⟩ := T
          obtain ⟨z30, h29, k31, T⟩ := T
          refine v_callV (pc' := 96) (M1 := mX3_readNumber) (as := [.int 0, .int 99]) (r := r0) (rest := []) 3 dX3_readBook_93 rfl ko_X3_97 kc_X3_readNumber ki_X3_readNumber ks_X3_readNumber (by decide) (by decide) hdd rfl rfl (le_l rfl) q32 k31 ?_
          refine v_istore (pc' := 98) (loc' := [.ref r0, uV, uV, .int x3, .int (h4.2 r0 7), .int z11, .int z30]) dX3_readBook_96 rfl (lt_l rfl) rfl ?_
          refine v_aload_n (pc' := 99) dX3_readBook_98 rfl rfl ?_
          refine v_bipush (pc' := 101) (v := 59) dX3_readBook_99 rfl kB_59 ?_
          obtain ⟨q35, T⟩ := T
          obtain ⟨h33, k34, T⟩ := T
          refine v_callV (pc' := 104) (M1 := mX3_readSign) (as := [.int 59]) (r := r0) (rest := []) 3 dX3_readBook_101 rfl ko_X3_83 kc_X3_readSign ki_X3_readSign ks_X3_readSign (by decide) (by decide) hdd rfl rfl (le_l rfl) q35 k34 ?_
          refine v_aload_n (pc' := 105) dX3_readBook_104 rfl rfl ?_
          obtain ⟨q36, T⟩ := T
          refine v_getI (pc' := 108) 3 4 dX3_readBook_105 rfl (by decide) (by decide) rfl kf_X3_51 q36 ?_
          refine v_if_ne (tgt := 130) (pc' := 111) dX3_readBook_108 (by decide) rfl ⟨fun c37 => ?_, fun c37 => ?_⟩
          · have T := T.1 c37
            refine v_iinc (pc' := 133) (loc' := [.ref r0, uV, uV, .int (x3 + 1), .int (h4.2 r0 7), .int z11, .int z30]) dX3_readBook_130 rfl rfl (kX_1 _) rfl ?_
            refine v_goto (pc' := 34) dX3_readBook_133 (by decide) ?_
            exact V.drop (llp_r (llp_r (llp_r (llp_r (llp_u (llp_u (llp_u llp_nil))))))) T
          · have T := T.2 c37
            refine v_aload_n (pc' := 112) dX3_readBook_111 rfl rfl ?_
            refine v_getR (pc' := 115) 3 1 dX3_readBook_112 rfl (by decide) (by decide) rfl kf_X3_18 q36 ?_
            refine v_iload (pc' := 117) dX3_readBook_115 rfl rfl ?_
            refine v_iload (pc' := 119) dX3_readBook_117 rfl rfl ?_
            obtain ⟨q38, T⟩ := T
            obtain ⟨q39, T⟩ := T
            refine v_iast (pc' := 120) dX3_readBook_119 rfl rfl q38 q39 ?_
            refine v_aload_n (pc' := 121) dX3_readBook_120 rfl rfl ?_
            refine v_dup (pc' := 122) dX3_readBook_121 rfl rfl ?_
            refine v_getI (pc' := 125) 3 2 dX3_readBook_122 rfl (by decide) (by decide) rfl kf_X3_94 q36 ?_
            refine v_iconst (pc' := 126) (v := 1) dX3_readBook_125 rfl kI_1 ?_
            refine v_iadd (pc' := 127) dX3_readBook_126 rfl ?_
            refine v_putI (pc' := 130) 3 2 dX3_readBook_127 rfl (by decide) (by decide) rfl rfl kf_X3_94 q36 ?_
            refine v_iinc (pc' := 133) (loc' := [.ref r0, uV, uV, .int (x3 + 1), .int (h4.2 r0 7), .int z11, .int z30]) dX3_readBook_130 rfl rfl (kX_1 _) rfl ?_
            refine v_goto (pc' := 34) dX3_readBook_133 (by decide) ?_
            exact V.drop (llp_r (llp_r (llp_r (llp_r (llp_u (llp_u (llp_u llp_nil))))))) T
theorem eX3_blame {G : GG} {d : Nat} {h : Hp} {o : OU} {h' : Hp} (r0 : Nat) (x1 : Int32) (x2 : Int32) (T : kH h r0 = 13 ∧ ((¬ (h.2 r0 4) = 0 → (o = .inl none ∧ h' = h)) ∧ ((h.2 r0 4) = 0 → (o = .inl none ∧ h' = (h.1, (upI (upI h.2 r0 4 x1) r0 3 x2)))))) : VM G mX3_blame d [.ref r0, .int x1, .int x2] h o h' := by
  refine V.toM rfl rfl (le_l rfl) (cat_all rfl) ?_
  show V G mX3_blame d 0 [.ref r0, .int x1, .int x2] [] h o h'
  refine v_aload_n (pc' := 1) dX3_blame_0 rfl rfl ?_
  obtain ⟨q1, T⟩ := T
  refine v_getI (pc' := 4) 3 4 dX3_blame_1 rfl (by decide) (by decide) rfl kf_X3_51 q1 ?_
  refine v_if_ne (tgt := 17) (pc' := 7) dX3_blame_4 (by decide) rfl ⟨fun c2 => ?_, fun c2 => ?_⟩
  · have T := T.1 c2
    exact v_vret dX3_blame_17 rfl T
  · have T := T.2 c2
    refine v_aload_n (pc' := 8) dX3_blame_7 rfl rfl ?_
    refine v_iload_n (pc' := 9) dX3_blame_8 rfl rfl ?_
    refine v_putI (pc' := 12) 3 4 dX3_blame_9 rfl (by decide) (by decide) rfl rfl kf_X3_51 q1 ?_
    refine v_aload_n (pc' := 13) dX3_blame_12 rfl rfl ?_
    refine v_iload_n (pc' := 14) dX3_blame_13 rfl rfl ?_
    refine v_putI (pc' := 17) 3 3 dX3_blame_14 rfl (by decide) (by decide) rfl rfl kf_X3_54 q1 ?_
    exact v_vret dX3_blame_17 rfl T
theorem eX3_atEnd {G : GG} {d : Nat} {h : Hp} {o : OU} {h' : Hp} (r0 : Nat) (T : kH h r0 = 13 ∧ (((h.2 r0 6) ≤ (h.2 r0 7) → (((h.2 r0 7) < (h.2 r0 6) → (o = .inl (some (.int 0)) ∧ h' = h)) ∧ (¬ (h.2 r0 7) < (h.2 r0 6) → (o = .inl (some (.int 1)) ∧ h' = h)))) ∧ (¬ (h.2 r0 6) ≤ (h.2 r0 7) → kH h (rH h r0 5) = 2 ∧ vp_in (h.2 r0 7) (lH h (rH h r0 5)) ∧ ((¬ (h.2 (rH h r0 5) (h.2 r0 7).toNatClampNeg) = 32 → (((h.2 r0 7) < (h.2 r0 6) → (o = .inl (some (.int 0)) ∧ h' = h)) ∧ (¬ (h.2 r0 7) < (h.2 r0 6) → (o = .inl (some (.int 1)) ∧ h' = h)))) ∧ ((h.2 (rH h r0 5) (h.2 r0 7).toNatClampNeg) = 32 → V G mX3_atEnd d 0 [.ref r0] [] (h.1, (upI h.2 r0 7 ((h.2 r0 7) + 1))) o h'))))) : VM G mX3_atEnd d [.ref r0] h o h' := by
  refine V.toM rfl rfl (le_l rfl) (cat_all rfl) ?_
  show V G mX3_atEnd d 0 [.ref r0] [] h o h'
  refine v_aload_n (pc' := 1) dX3_atEnd_0 rfl rfl ?_
  obtain ⟨q1, T⟩ := T
  refine v_getI (pc' := 4) 3 7 dX3_atEnd_1 rfl (by decide) (by decide) rfl kf_X3_48 q1 ?_
  refine v_aload_n (pc' := 5) dX3_atEnd_4 rfl rfl ?_
  refine v_getI (pc' := 8) 3 6 dX3_atEnd_5 rfl (by decide) (by decide) rfl kf_X3_38 q1 ?_
  refine v_icmp_ge (tgt := 38) (pc' := 11) dX3_atEnd_8 (by decide) rfl ⟨fun c2 => ?_, fun c2 => ?_⟩
  · have T := T.1 c2
    refine v_aload_n (pc' := 39) dX3_atEnd_38 rfl rfl ?_
    refine v_getI (pc' := 42) 3 7 dX3_atEnd_39 rfl (by decide) (by decide) rfl kf_X3_48 q1 ?_
    refine v_aload_n (pc' := 43) dX3_atEnd_42 rfl rfl ?_
    refine v_getI (pc' := 46) 3 6 dX3_atEnd_43 rfl (by decide) (by decide) rfl kf_X3_38 q1 ?_
    refine v_icmp_lt (tgt := 53) (pc' := 49) dX3_atEnd_46 (by decide) rfl ⟨fun c3 => ?_, fun c3 => ?_⟩
    · have T := T.1 c3
      refine v_iconst (pc' := 54) (v := 0) dX3_atEnd_53 rfl kI_0 ?_
      exact v_zret dX3_atEnd_54 rfl (Or.inl rfl) T
    · have T := T.2 c3
      refine v_iconst (pc' := 50) (v := 1) dX3_atEnd_49 rfl kI_1 ?_
      refine v_goto (pc' := 54) dX3_atEnd_50 (by decide) ?_
      exact v_zret dX3_atEnd_54 rfl (Or.inr rfl) T
  · have T := T.2 c2
    refine v_aload_n (pc' := 12) dX3_atEnd_11 rfl rfl ?_
    refine v_getR (pc' := 15) 3 5 dX3_atEnd_12 rfl (by decide) (by decide) rfl kf_X3_22 q1 ?_
    refine v_aload_n (pc' := 16) dX3_atEnd_15 rfl rfl ?_
    refine v_getI (pc' := 19) 3 7 dX3_atEnd_16 rfl (by decide) (by decide) rfl kf_X3_48 q1 ?_
    obtain ⟨q4, T⟩ := T
    obtain ⟨q5, T⟩ := T
    refine v_bald (pc' := 20) dX3_atEnd_19 rfl rfl q4 q5 ?_
    refine v_bipush (pc' := 22) (v := 32) dX3_atEnd_20 rfl kB_32 ?_
    refine v_icmp_ne (tgt := 38) (pc' := 25) dX3_atEnd_22 (by decide) rfl ⟨fun c6 => ?_, fun c6 => ?_⟩
    · have T := T.1 c6
      refine v_aload_n (pc' := 39) dX3_atEnd_38 rfl rfl ?_
      refine v_getI (pc' := 42) 3 7 dX3_atEnd_39 rfl (by decide) (by decide) rfl kf_X3_48 q1 ?_
      refine v_aload_n (pc' := 43) dX3_atEnd_42 rfl rfl ?_
      refine v_getI (pc' := 46) 3 6 dX3_atEnd_43 rfl (by decide) (by decide) rfl kf_X3_38 q1 ?_
      refine v_icmp_lt (tgt := 53) (pc' := 49) dX3_atEnd_46 (by decide) rfl ⟨fun c7 => ?_, fun c7 => ?_⟩
      · have T := T.1 c7
        refine v_iconst (pc' := 54) (v := 0) dX3_atEnd_53 rfl kI_0 ?_
        exact v_zret dX3_atEnd_54 rfl (Or.inl rfl) T
      · have T := T.2 c7
        refine v_iconst (pc' := 50) (v := 1) dX3_atEnd_49 rfl kI_1 ?_
        refine v_goto (pc' := 54) dX3_atEnd_50 (by decide) ?_
        exact v_zret dX3_atEnd_54 rfl (Or.inr rfl) T
    · have T := T.2 c6
      refine v_aload_n (pc' := 26) dX3_atEnd_25 rfl rfl ?_
      refine v_dup (pc' := 27) dX3_atEnd_26 rfl rfl ?_
      refine v_getI (pc' := 30) 3 7 dX3_atEnd_27 rfl (by decide) (by decide) rfl kf_X3_48 q1 ?_
      refine v_iconst (pc' := 31) (v := 1) dX3_atEnd_30 rfl kI_1 ?_
      refine v_iadd (pc' := 32) dX3_atEnd_31 rfl ?_
      refine v_putI (pc' := 35) 3 7 dX3_atEnd_32 rfl (by decide) (by decide) rfl rfl kf_X3_48 q1 ?_
      refine v_goto (pc' := 0) dX3_atEnd_35 (by decide) ?_
      exact T
theorem eX3_readSign {G : GG} {d : Nat} {h : Hp} {o : OU} {h' : Hp} (r0 : Nat) (x1 : Int32) (hd : 1 ≤ d) (T : kH h r0 = 13 ∧ (((h.2 r0 4) = 0 → ∃ z4 h3, VM G mX3_atEnd (d - 1) [.ref r0] h (.inl (some (.int z4))) h3 ∧ ((¬ z4 = 0 → kH h3 r0 = 13 ∧ ∃ h8, VM G mX3_blame (d - 1) [.ref r0, .int 1, .int (h3.2 r0 7)] h3 (.inl none) h8 ∧ (o = .inl none ∧ h' = h8)) ∧ (z4 = 0 → kH h3 r0 = 13 ∧ kH h3 (rH h3 r0 5) = 2 ∧ vp_in (h3.2 r0 7) (lH h3 (rH h3 r0 5)) ∧ (((h3.2 (rH h3 r0 5) (h3.2 r0 7).toNatClampNeg) = x1 → (o = .inl none ∧ h' = (h3.1, (upI h3.2 r0 7 ((h3.2 r0 7) + 1))))) ∧ (¬ (h3.2 (rH h3 r0 5) (h3.2 r0 7).toNatClampNeg) = x1 → ∃ h14, VM G mX3_blame (d - 1) [.ref r0, .int 1, .int (h3.2 r0 7)] h3 (.inl none) h14 ∧ (o = .inl none ∧ h' = h14)))))) ∧ (¬ (h.2 r0 4) = 0 → (o = .inl none ∧ h' = h)))) : VM G mX3_readSign d [.ref r0, .int x1] h o h' := by
  refine V.toM rfl rfl (le_l rfl) (cat_all rfl) ?_
  show V G mX3_readSign d 0 [.ref r0, .int x1] [] h o h'
  have hdd : d - 1 + 1 ≤ d := by omega
  refine v_aload_n (pc' := 1) dX3_readSign_0 rfl rfl ?_
  obtain ⟨q1, T⟩ := T
  refine v_getI (pc' := 4) 3 4 dX3_readSign_1 rfl (by decide) (by decide) rfl kf_X3_51 q1 ?_
  refine v_if_eq (tgt := 8) (pc' := 7) dX3_readSign_4 (by decide) rfl ⟨fun c2 => ?_, fun c2 => ?_⟩
  · have T := T.1 c2
    refine v_aload_n (pc' := 9) dX3_readSign_8 rfl rfl ?_
    obtain ⟨z4, h3, k5, T⟩ := T
    refine v_callV (pc' := 12) (M1 := mX3_atEnd) (as := []) (r := r0) (rest := []) 3 dX3_readSign_9 rfl ko_X3_67 kc_X3_atEnd ki_X3_atEnd ks_X3_atEnd (by decide) (by decide) hdd rfl rfl (le_l rfl) q1 k5 ?_
    refine v_if_ne (tgt := 28) (pc' := 15) dX3_readSign_12 (by decide) rfl ⟨fun c6 => ?_, fun c6 => ?_⟩
    · have T := T.1 c6
      refine v_aload_n (pc' := 29) dX3_readSign_28 rfl rfl ?_
      refine v_iconst (pc' := 30) (v := 1) dX3_readSign_29 rfl kI_1 ?_
      refine v_aload_n (pc' := 31) dX3_readSign_30 rfl rfl ?_
      obtain ⟨q7, T⟩ := T
      refine v_getI (pc' := 34) 3 7 dX3_readSign_31 rfl (by decide) (by decide) rfl kf_X3_48 q7 ?_
      obtain ⟨h8, k9, T⟩ := T
      refine v_callV (pc' := 37) (M1 := mX3_blame) (as := [.int 1, .int (h3.2 r0 7)]) (r := r0) (rest := []) 3 dX3_readSign_34 rfl ko_X3_75 kc_X3_blame ki_X3_blame ks_X3_blame (by decide) (by decide) hdd rfl rfl (le_l rfl) q7 k9 ?_
      refine v_goto (pc' := 50) dX3_readSign_37 (by decide) ?_
      exact v_vret dX3_readSign_50 rfl T
    · have T := T.2 c6
      refine v_aload_n (pc' := 16) dX3_readSign_15 rfl rfl ?_
      obtain ⟨q10, T⟩ := T
      refine v_getR (pc' := 19) 3 5 dX3_readSign_16 rfl (by decide) (by decide) rfl kf_X3_22 q10 ?_
      refine v_aload_n (pc' := 20) dX3_readSign_19 rfl rfl ?_
      refine v_getI (pc' := 23) 3 7 dX3_readSign_20 rfl (by decide) (by decide) rfl kf_X3_48 q10 ?_
      obtain ⟨q11, T⟩ := T
      obtain ⟨q12, T⟩ := T
      refine v_bald (pc' := 24) dX3_readSign_23 rfl rfl q11 q12 ?_
      refine v_iload_n (pc' := 25) dX3_readSign_24 rfl rfl ?_
      refine v_icmp_eq (tgt := 40) (pc' := 28) dX3_readSign_25 (by decide) rfl ⟨fun c13 => ?_, fun c13 => ?_⟩
      · have T := T.1 c13
        refine v_aload_n (pc' := 41) dX3_readSign_40 rfl rfl ?_
        refine v_dup (pc' := 42) dX3_readSign_41 rfl rfl ?_
        refine v_getI (pc' := 45) 3 7 dX3_readSign_42 rfl (by decide) (by decide) rfl kf_X3_48 q10 ?_
        refine v_iconst (pc' := 46) (v := 1) dX3_readSign_45 rfl kI_1 ?_
        refine v_iadd (pc' := 47) dX3_readSign_46 rfl ?_
        refine v_putI (pc' := 50) 3 7 dX3_readSign_47 rfl (by decide) (by decide) rfl rfl kf_X3_48 q10 ?_
        exact v_vret dX3_readSign_50 rfl T
      · have T := T.2 c13
        refine v_aload_n (pc' := 29) dX3_readSign_28 rfl rfl ?_
        refine v_iconst (pc' := 30) (v := 1) dX3_readSign_29 rfl kI_1 ?_
        refine v_aload_n (pc' := 31) dX3_readSign_30 rfl rfl ?_
        refine v_getI (pc' := 34) 3 7 dX3_readSign_31 rfl (by decide) (by decide) rfl kf_X3_48 q10 ?_
        obtain ⟨h14, k15, T⟩ := T
        refine v_callV (pc' := 37) (M1 := mX3_blame) (as := [.int 1, .int (h3.2 r0 7)]) (r := r0) (rest := []) 3 dX3_readSign_34 rfl ko_X3_75 kc_X3_blame ki_X3_blame ks_X3_blame (by decide) (by decide) hdd rfl rfl (le_l rfl) q10 k15 ?_
        refine v_goto (pc' := 50) dX3_readSign_37 (by decide) ?_
        exact v_vret dX3_readSign_50 rfl T
  · have T := T.2 c2
    exact v_vret dX3_readSign_7 rfl T
theorem eX3_readNumber {G : GG} {d : Nat} {h : Hp} {o : OU} {h' : Hp} (r0 : Nat) (x1 : Int32) (x2 : Int32) (hd : 1 ≤ d) (T : kH h r0 = 13 ∧ (((h.2 r0 4) = 0 → ∃ z4 h3, VM G mX3_atEnd (d - 1) [.ref r0] h (.inl (some (.int z4))) h3 ∧ ((¬ z4 = 0 → kH h3 r0 = 13 ∧ ∃ h8, VM G mX3_blame (d - 1) [.ref r0, .int 1, .int (h3.2 r0 7)] h3 (.inl none) h8 ∧ (o = .inl (some (.int x1)) ∧ h' = h8)) ∧ (z4 = 0 → kH h3 r0 = 13 ∧ kH h3 (rH h3 r0 5) = 2 ∧ vp_in (h3.2 r0 7) (lH h3 (rH h3 r0 5)) ∧ ∃ z14 h13, VM G mX3_isDigit (d - 1) [.ref r0, .int (h3.2 (rH h3 r0 5) (h3.2 r0 7).toNatClampNeg)] h3 (.inl (some (.int z14))) h13 ∧ ((¬ z14 = 0 → kH h13 r0 = 13 ∧ V G mX3_readNumber d 51 [.ref r0, .int x1, .int x2, .int (h13.2 r0 7), .int 0] [] h13 o h') ∧ (z14 = 0 → kH h13 r0 = 13 ∧ ∃ h19, VM G mX3_blame (d - 1) [.ref r0, .int 1, .int (h13.2 r0 7)] h13 (.inl none) h19 ∧ (o = .inl (some (.int x1)) ∧ h' = h19)))))) ∧ (¬ (h.2 r0 4) = 0 → (o = .inl (some (.int x1)) ∧ h' = h)))) : VM G mX3_readNumber d [.ref r0, .int x1, .int x2] h o h' := by
  refine V.toM rfl rfl (le_l rfl) (cat_all rfl) ?_
  show V G mX3_readNumber d 0 [.ref r0, .int x1, .int x2, uV, uV] [] h o h'
  have hdd : d - 1 + 1 ≤ d := by omega
  refine v_aload_n (pc' := 1) dX3_readNumber_0 rfl rfl ?_
  obtain ⟨q1, T⟩ := T
  refine v_getI (pc' := 4) 3 4 dX3_readNumber_1 rfl (by decide) (by decide) rfl kf_X3_51 q1 ?_
  refine v_if_eq (tgt := 9) (pc' := 7) dX3_readNumber_4 (by decide) rfl ⟨fun c2 => ?_, fun c2 => ?_⟩
  · have T := T.1 c2
    refine v_aload_n (pc' := 10) dX3_readNumber_9 rfl rfl ?_
    obtain ⟨z4, h3, k5, T⟩ := T
    refine v_callV (pc' := 13) (M1 := mX3_atEnd) (as := []) (r := r0) (rest := []) 3 dX3_readNumber_10 rfl ko_X3_67 kc_X3_atEnd ki_X3_atEnd ks_X3_atEnd (by decide) (by decide) hdd rfl rfl (le_l rfl) q1 k5 ?_
    refine v_if_ne (tgt := 32) (pc' := 16) dX3_readNumber_13 (by decide) rfl ⟨fun c6 => ?_, fun c6 => ?_⟩
    · have T := T.1 c6
      refine v_aload_n (pc' := 33) dX3_readNumber_32 rfl rfl ?_
      refine v_iconst (pc' := 34) (v := 1) dX3_readNumber_33 rfl kI_1 ?_
      refine v_aload_n (pc' := 35) dX3_readNumber_34 rfl rfl ?_
      obtain ⟨q7, T⟩ := T
      refine v_getI (pc' := 38) 3 7 dX3_readNumber_35 rfl (by decide) (by decide) rfl kf_X3_48 q7 ?_
      obtain ⟨h8, k9, T⟩ := T
      refine v_callV (pc' := 41) (M1 := mX3_blame) (as := [.int 1, .int (h3.2 r0 7)]) (r := r0) (rest := []) 3 dX3_readNumber_38 rfl ko_X3_75 kc_X3_blame ki_X3_blame ks_X3_blame (by decide) (by decide) hdd rfl rfl (le_l rfl) q7 k9 ?_
      refine v_iload_n (pc' := 42) dX3_readNumber_41 rfl rfl ?_
      exact v_iret dX3_readNumber_42 rfl T
    · have T := T.2 c6
      refine v_aload_n (pc' := 17) dX3_readNumber_16 rfl rfl ?_
      refine v_aload_n (pc' := 18) dX3_readNumber_17 rfl rfl ?_
      obtain ⟨q10, T⟩ := T
      refine v_getR (pc' := 21) 3 5 dX3_readNumber_18 rfl (by decide) (by decide) rfl kf_X3_22 q10 ?_
      refine v_aload_n (pc' := 22) dX3_readNumber_21 rfl rfl ?_
      refine v_getI (pc' := 25) 3 7 dX3_readNumber_22 rfl (by decide) (by decide) rfl kf_X3_48 q10 ?_
      obtain ⟨q11, T⟩ := T
      obtain ⟨q12, T⟩ := T
      refine v_bald (pc' := 26) dX3_readNumber_25 rfl rfl q11 q12 ?_
      obtain ⟨z14, h13, k15, T⟩ := T
      refine v_callV (pc' := 29) (M1 := mX3_isDigit) (as := [.int (h3.2 (rH h3 r0 5) (h3.2 r0 7).toNatClampNeg)]) (r := r0) (rest := []) 3 dX3_readNumber_26 rfl ko_X3_100 kc_X3_isDigit ki_X3_isDigit ks_X3_isDigit (by decide) (by decide) hdd rfl rfl (le_l rfl) q10 k15 ?_
      refine v_if_ne (tgt := 43) (pc' := 32) dX3_readNumber_29 (by decide) rfl ⟨fun c16 => ?_, fun c16 => ?_⟩
      · have T := T.1 c16
        refine v_aload_n (pc' := 44) dX3_readNumber_43 rfl rfl ?_
        obtain ⟨q17, T⟩ := T
        refine v_getI (pc' := 47) 3 7 dX3_readNumber_44 rfl (by decide) (by decide) rfl kf_X3_48 q17 ?_
        refine v_istore_n (pc' := 48) (loc' := [.ref r0, .int x1, .int x2, .int (h13.2 r0 7), uV]) dX3_readNumber_47 rfl (lt_l rfl) rfl ?_
        refine v_iconst (pc' := 49) (v := 0) dX3_readNumber_48 rfl kI_0 ?_
        refine v_istore (pc' := 51) (loc' := [.ref r0, .int x1, .int x2, .int (h13.2 r0 7), .int 0]) dX3_readNumber_49 rfl (lt_l rfl) rfl ?_
        exact T
      · have T := T.2 c16
        refine v_aload_n (pc' := 33) dX3_readNumber_32 rfl rfl ?_
        refine v_iconst (pc' := 34) (v := 1) dX3_readNumber_33 rfl kI_1 ?_
        refine v_aload_n (pc' := 35) dX3_readNumber_34 rfl rfl ?_
        obtain ⟨q18, T⟩ := T
        refine v_getI (pc' := 38) 3 7 dX3_readNumber_35 rfl (by decide) (by decide) rfl kf_X3_48 q18 ?_
        obtain ⟨h19, k20, T⟩ := T
        refine v_callV (pc' := 41) (M1 := mX3_blame) (as := [.int 1, .int (h13.2 r0 7)]) (r := r0) (rest := []) 3 dX3_readNumber_38 rfl ko_X3_75 kc_X3_blame ki_X3_blame ks_X3_blame (by decide) (by decide) hdd rfl rfl (le_l rfl) q18 k20 ?_
        refine v_iload_n (pc' := 42) dX3_readNumber_41 rfl rfl ?_
        exact v_iret dX3_readNumber_42 rfl T
  · have T := T.2 c2
    refine v_iload_n (pc' := 8) dX3_readNumber_7 rfl rfl ?_
    exact v_iret dX3_readNumber_8 rfl T
theorem bX3_readNumber_51 {G : GG} {d : Nat} {h : Hp} {o : OU} {h' : Hp} (r0 : Nat) (x1 : Int32) (x2 : Int32) (x3 : Int32) (x4 : Int32) (hd : 1 ≤ d) (T : kH h r0 = 13 ∧ (((h.2 r0 6) ≤ (h.2 r0 7) → ((x4 < x1 → ∃ h4, VM G mX3_blame (d - 1) [.ref r0, .int 2, .int x3] h (.inl none) h4 ∧ (o = .inl (some (.int x1)) ∧ h' = h4)) ∧ (¬ x4 < x1 → ((x4 ≤ x2 → (o = .inl (some (.int x4)) ∧ h' = h)) ∧ (¬ x4 ≤ x2 → ∃ h7, VM G mX3_blame (d - 1) [.ref r0, .int 2, .int x3] h (.inl none) h7 ∧ (o = .inl (some (.int x1)) ∧ h' = h7)))))) ∧ (¬ (h.2 r0 6) ≤ (h.2 r0 7) → kH h (rH h r0 5) = 2 ∧ vp_in (h.2 r0 7) (lH h (rH h r0 5)) ∧ ∃ z12 h11, VM G mX3_isDigit (d - 1) [.ref r0, .int (h.2 (rH h r0 5) (h.2 r0 7).toNatClampNeg)] h (.inl (some (.int z12))) h11 ∧ ((z12 = 0 → ((x4 < x1 → kH h11 r0 = 13 ∧ ∃ h16, VM G mX3_blame (d - 1) [.ref r0, .int 2, .int x3] h11 (.inl none) h16 ∧ (o = .inl (some (.int x1)) ∧ h' = h16)) ∧ (¬ x4 < x1 → ((x4 ≤ x2 → (o = .inl (some (.int x4)) ∧ h' = h11)) ∧ (¬ x4 ≤ x2 → kH h11 r0 = 13 ∧ ∃ h20, VM G mX3_blame (d - 1) [.ref r0, .int 2, .int x3] h11 (.inl none) h20 ∧ (o = .inl (some (.int x1)) ∧ h' = h20)))))) ∧ (¬ z12 = 0 → kH h11 r0 = 13 ∧ kH h11 (rH h11 r0 5) = 2 ∧ vp_in (h11.2 r0 7) (lH h11 (rH h11 r0 5)) ∧ V G mX3_readNumber d 51 [.ref r0, .int x1, .int x2, .int x3, .int (if (((x4 * 10) + (h11.2 (rH h11 r0 5) (h11.2 r0 7).toNatClampNeg)) - 48) < 1000 then (((x4 * 10) + (h11.2 (rH h11 r0 5) (h11.2 r0 7).toNatClampNeg)) - 48) else 1000)] [] (h11.1, (upI h11.2 r0 7 ((h11.2 r0 7) + 1))) o h'))))) : V G mX3_readNumber d 51 [.ref r0, .int x1, .int x2, .int x3, .int x4] [] h o h' := by
  have hdd : d - 1 + 1 ≤ d := by omega
  refine v_aload_n (pc' := 52) dX3_readNumber_51 rfl rfl ?_
  obtain ⟨q1, T⟩ := T
  refine v_getI (pc' := 55) 3 7 dX3_readNumber_52 rfl (by decide) (by decide) rfl kf_X3_48 q1 ?_
  refine v_aload_n (pc' := 56) dX3_readNumber_55 rfl rfl ?_
  refine v_getI (pc' := 59) 3 6 dX3_readNumber_56 rfl (by decide) (by decide) rfl kf_X3_38 q1 ?_
  refine v_icmp_ge (tgt := 117) (pc' := 62) dX3_readNumber_59 (by decide) rfl ⟨fun c2 => ?_, fun c2 => ?_⟩
  · have T := T.1 c2
    refine v_iload (pc' := 119) dX3_readNumber_117 rfl rfl ?_
    refine v_iload_n (pc' := 120) dX3_readNumber_119 rfl rfl ?_
    refine v_icmp_lt (tgt := 129) (pc' := 123) dX3_readNumber_120 (by decide) rfl ⟨fun c3 => ?_, fun c3 => ?_⟩
    · have T := T.1 c3
      refine v_aload_n (pc' := 130) dX3_readNumber_129 rfl rfl ?_
      refine v_iconst (pc' := 131) (v := 2) dX3_readNumber_130 rfl kI_2 ?_
      refine v_iload_n (pc' := 132) dX3_readNumber_131 rfl rfl ?_
      obtain ⟨h4, k5, T⟩ := T
      refine v_callV (pc' := 135) (M1 := mX3_blame) (as := [.int 2, .int x3]) (r := r0) (rest := []) 3 dX3_readNumber_132 rfl ko_X3_75 kc_X3_blame ki_X3_blame ks_X3_blame (by decide) (by decide) hdd rfl rfl (le_l rfl) q1 k5 ?_
      refine v_iload_n (pc' := 136) dX3_readNumber_135 rfl rfl ?_
      exact v_iret dX3_readNumber_136 rfl T
    · have T := T.2 c3
      refine v_iload (pc' := 125) dX3_readNumber_123 rfl rfl ?_
      refine v_iload_n (pc' := 126) dX3_readNumber_125 rfl rfl ?_
      refine v_icmp_le (tgt := 137) (pc' := 129) dX3_readNumber_126 (by decide) rfl ⟨fun c6 => ?_, fun c6 => ?_⟩
      · have T := T.1 c6
        refine v_iload (pc' := 139) dX3_readNumber_137 rfl rfl ?_
        exact v_iret dX3_readNumber_139 rfl T
      · have T := T.2 c6
        refine v_aload_n (pc' := 130) dX3_readNumber_129 rfl rfl ?_
        refine v_iconst (pc' := 131) (v := 2) dX3_readNumber_130 rfl kI_2 ?_
        refine v_iload_n (pc' := 132) dX3_readNumber_131 rfl rfl ?_
        obtain ⟨h7, k8, T⟩ := T
        refine v_callV (pc' := 135) (M1 := mX3_blame) (as := [.int 2, .int x3]) (r := r0) (rest := []) 3 dX3_readNumber_132 rfl ko_X3_75 kc_X3_blame ki_X3_blame ks_X3_blame (by decide) (by decide) hdd rfl rfl (le_l rfl) q1 k8 ?_
        refine v_iload_n (pc' := 136) dX3_readNumber_135 rfl rfl ?_
        exact v_iret dX3_readNumber_136 rfl T
  · have T := T.2 c2
    refine v_aload_n (pc' := 63) dX3_readNumber_62 rfl rfl ?_
    refine v_aload_n (pc' := 64) dX3_readNumber_63 rfl rfl ?_
    refine v_getR (pc' := 67) 3 5 dX3_readNumber_64 rfl (by decide) (by decide) rfl kf_X3_22 q1 ?_
    refine v_aload_n (pc' := 68) dX3_readNumber_67 rfl rfl ?_
    refine v_getI (pc' := 71) 3 7 dX3_readNumber_68 rfl (by decide) (by decide) rfl kf_X3_48 q1 ?_
    obtain ⟨q9, T⟩ := T
    obtain ⟨q10, T⟩ := T
    refine v_bald (pc' := 72) dX3_readNumber_71 rfl rfl q9 q10 ?_
    obtain ⟨z12, h11, k13, T⟩ := T
    refine v_callV (pc' := 75) (M1 := mX3_isDigit) (as := [.int (h.2 (rH h r0 5) (h.2 r0 7).toNatClampNeg)]) (r := r0) (rest := []) 3 dX3_readNumber_72 rfl ko_X3_100 kc_X3_isDigit ki_X3_isDigit ks_X3_isDigit (by decide) (by decide) hdd rfl rfl (le_l rfl) q1 k13 ?_
    refine v_if_eq (tgt := 117) (pc' := 78) dX3_readNumber_75 (by decide) rfl ⟨fun c14 => ?_, fun c14 => ?_⟩
    · have T := T.1 c14
      refine v_iload (pc' := 119) dX3_readNumber_117 rfl rfl ?_
      refine v_iload_n (pc' := 120) dX3_readNumber_119 rfl rfl ?_
      refine v_icmp_lt (tgt := 129) (pc' := 123) dX3_readNumber_120 (by decide) rfl ⟨fun c15 => ?_, fun c15 => ?_⟩
      · have T := T.1 c15
        refine v_aload_n (pc' := 130) dX3_readNumber_129 rfl rfl ?_
        refine v_iconst (pc' := 131) (v := 2) dX3_readNumber_130 rfl kI_2 ?_
        refine v_iload_n (pc' := 132) dX3_readNumber_131 rfl rfl ?_
        obtain ⟨q18, T⟩ := T
        obtain ⟨h16, k17, T⟩ := T
        refine v_callV (pc' := 135) (M1 := mX3_blame) (as := [.int 2, .int x3]) (r := r0) (rest := []) 3 dX3_readNumber_132 rfl ko_X3_75 kc_X3_blame ki_X3_blame ks_X3_blame (by decide) (by decide) hdd rfl rfl (le_l rfl) q18 k17 ?_
        refine v_iload_n (pc' := 136) dX3_readNumber_135 rfl rfl ?_
        exact v_iret dX3_readNumber_136 rfl T
      · have T := T.2 c15
        refine v_iload (pc' := 125) dX3_readNumber_123 rfl rfl ?_
        refine v_iload_n (pc' := 126) dX3_readNumber_125 rfl rfl ?_
        refine v_icmp_le (tgt := 137) (pc' := 129) dX3_readNumber_126 (by decide) rfl ⟨fun c19 => ?_, fun c19 => ?_⟩
        · have T := T.1 c19
          refine v_iload (pc' := 139) dX3_readNumber_137 rfl rfl ?_
          exact v_iret dX3_readNumber_139 rfl T
        · have T := T.2 c19
          refine v_aload_n (pc' := 130) dX3_readNumber_129 rfl rfl ?_
          refine v_iconst (pc' := 131) (v := 2) dX3_readNumber_130 rfl kI_2 ?_
          refine v_iload_n (pc' := 132) dX3_readNumber_131 rfl rfl ?_
          obtain ⟨q22, T⟩ := T
          obtain ⟨h20, k21, T⟩ := T
          refine v_callV (pc' := 135) (M1 := mX3_blame) (as := [.int 2, .int x3]) (r := r0) (rest := []) 3 dX3_readNumber_132 rfl ko_X3_75 kc_X3_blame ki_X3_blame ks_X3_blame (by decide) (by decide) hdd rfl rfl (le_l rfl) q22 k21 ?_
          refine v_iload_n (pc' := 136) dX3_readNumber_135 rfl rfl ?_
          exact v_iret dX3_readNumber_136 rfl T
    · have T := T.2 c14
      refine v_sipush (pc' := 81) (v := 1000) dX3_readNumber_78 rfl kS_1000 ?_
      refine v_iload (pc' := 83) dX3_readNumber_81 rfl rfl ?_
      refine v_bipush (pc' := 85) (v := 10) dX3_readNumber_83 rfl kB_10 ?_
      refine v_imul (pc' := 86) dX3_readNumber_85 rfl ?_
      refine v_aload_n (pc' := 87) dX3_readNumber_86 rfl rfl ?_
      obtain ⟨q23, T⟩ := T
      refine v_getR (pc' := 90) 3 5 dX3_readNumber_87 rfl (by decide) (by decide) rfl kf_X3_22 q23 ?_
      refine v_aload_n (pc' := 91) dX3_readNumber_90 rfl rfl ?_
      refine v_getI (pc' := 94) 3 7 dX3_readNumber_91 rfl (by decide) (by decide) rfl kf_X3_48 q23 ?_
      obtain ⟨q24, T⟩ := T
      obtain ⟨q25, T⟩ := T
      refine v_bald (pc' := 95) dX3_readNumber_94 rfl rfl q24 q25 ?_
      refine v_iadd (pc' := 96) dX3_readNumber_95 rfl ?_
      refine v_bipush (pc' := 98) (v := 48) dX3_readNumber_96 rfl kB_48 ?_
      refine v_isub (pc' := 99) dX3_readNumber_98 rfl ?_
      refine v_mmin (pc' := 102) dX3_readNumber_99 rfl km_X3_29 kx_mins kx_mi kx_minc hd (le_l rfl) ?_
      refine v_istore (pc' := 104) (loc' := [.ref r0, .int x1, .int x2, .int x3, .int (if (((x4 * 10) + (h11.2 (rH h11 r0 5) (h11.2 r0 7).toNatClampNeg)) - 48) < 1000 then (((x4 * 10) + (h11.2 (rH h11 r0 5) (h11.2 r0 7).toNatClampNeg)) - 48) else 1000)]) dX3_readNumber_102 rfl (lt_l rfl) rfl ?_
      refine v_aload_n (pc' := 105) dX3_readNumber_104 rfl rfl ?_
      refine v_dup (pc' := 106) dX3_readNumber_105 rfl rfl ?_
      refine v_getI (pc' := 109) 3 7 dX3_readNumber_106 rfl (by decide) (by decide) rfl kf_X3_48 q23 ?_
      refine v_iconst (pc' := 110) (v := 1) dX3_readNumber_109 rfl kI_1 ?_
      refine v_iadd (pc' := 111) dX3_readNumber_110 rfl ?_
      refine v_putI (pc' := 114) 3 7 dX3_readNumber_111 rfl (by decide) (by decide) rfl rfl kf_X3_48 q23 ?_
      refine v_goto (pc' := 51) dX3_readNumber_114 (by decide) ?_
      exact T
theorem eX3_isDigit {G : GG} {d : Nat} {h : Hp} {o : OU} {h' : Hp} (r0 : Nat) (x1 : Int32) (T : ((x1 < 48 → (o = .inl (some (.int 0)) ∧ h' = h)) ∧ (¬ x1 < 48 → ((57 < x1 → (o = .inl (some (.int 0)) ∧ h' = h)) ∧ (¬ 57 < x1 → (o = .inl (some (.int 1)) ∧ h' = h)))))) : VM G mX3_isDigit d [.ref r0, .int x1] h o h' := by
  refine V.toM rfl rfl (le_l rfl) (cat_all rfl) ?_
  show V G mX3_isDigit d 0 [.ref r0, .int x1] [] h o h'
  refine v_iload_n (pc' := 1) dX3_isDigit_0 rfl rfl ?_
  refine v_bipush (pc' := 3) (v := 48) dX3_isDigit_1 rfl kB_48 ?_
  refine v_icmp_lt (tgt := 16) (pc' := 6) dX3_isDigit_3 (by decide) rfl ⟨fun c1 => ?_, fun c1 => ?_⟩
  · have T := T.1 c1
    refine v_iconst (pc' := 17) (v := 0) dX3_isDigit_16 rfl kI_0 ?_
    exact v_zret dX3_isDigit_17 rfl (Or.inl rfl) T
  · have T := T.2 c1
    refine v_iload_n (pc' := 7) dX3_isDigit_6 rfl rfl ?_
    refine v_bipush (pc' := 9) (v := 57) dX3_isDigit_7 rfl kB_57 ?_
    refine v_icmp_gt (tgt := 16) (pc' := 12) dX3_isDigit_9 (by decide) rfl ⟨fun c2 => ?_, fun c2 => ?_⟩
    · have T := T.1 c2
      refine v_iconst (pc' := 17) (v := 0) dX3_isDigit_16 rfl kI_0 ?_
      exact v_zret dX3_isDigit_17 rfl (Or.inl rfl) T
    · have T := T.2 c2
      refine v_iconst (pc' := 13) (v := 1) dX3_isDigit_12 rfl kI_1 ?_
      refine v_goto (pc' := 17) dX3_isDigit_13 (by decide) ?_
      exact v_zret dX3_isDigit_17 rfl (Or.inr rfl) T
theorem eX3_readWord {G : GG} {d : Nat} {h : Hp} {o : OU} {h' : Hp} (r0 : Nat) (T : kH h r0 = 13 ∧ V G mX3_readWord d 5 [.ref r0, .int (h.2 r0 7), uV] [] h o h') : VM G mX3_readWord d [.ref r0] h o h' := by
  refine V.toM rfl rfl (le_l rfl) (cat_all rfl) ?_
  show V G mX3_readWord d 0 [.ref r0, uV, uV] [] h o h'
  refine v_aload_n (pc' := 1) dX3_readWord_0 rfl rfl ?_
  obtain ⟨q1, T⟩ := T
  refine v_getI (pc' := 4) 3 7 dX3_readWord_1 rfl (by decide) (by decide) rfl kf_X3_48 q1 ?_
  refine v_istore_n (pc' := 5) (loc' := [.ref r0, .int (h.2 r0 7), uV]) dX3_readWord_4 rfl (lt_l rfl) rfl ?_
  exact T
theorem bX3_readWord_5 {G : GG} {d : Nat} {h : Hp} {o : OU} {h' : Hp} (r0 : Nat) (x1 : Int32) (T : kH h r0 = 13 ∧ (((h.2 r0 6) ≤ (h.2 r0 7) → V G mX3_readWord d 59 [.ref r0, .int x1, .int 0] [] h o h') ∧ (¬ (h.2 r0 6) ≤ (h.2 r0 7) → kH h (rH h r0 5) = 2 ∧ vp_in (h.2 r0 7) (lH h (rH h r0 5)) ∧ (((h.2 (rH h r0 5) (h.2 r0 7).toNatClampNeg) < 97 → V G mX3_readWord d 59 [.ref r0, .int x1, .int 0] [] h o h') ∧ (¬ (h.2 (rH h r0 5) (h.2 r0 7).toNatClampNeg) < 97 → ((122 < (h.2 (rH h r0 5) (h.2 r0 7).toNatClampNeg) → V G mX3_readWord d 59 [.ref r0, .int x1, .int 0] [] h o h') ∧ (¬ 122 < (h.2 (rH h r0 5) (h.2 r0 7).toNatClampNeg) → V G mX3_readWord d 5 [.ref r0, .int x1, uV] [] (h.1, (upI h.2 r0 7 ((h.2 r0 7) + 1))) o h'))))))) : V G mX3_readWord d 5 [.ref r0, .int x1, uV] [] h o h' := by
  refine v_aload_n (pc' := 6) dX3_readWord_5 rfl rfl ?_
  obtain ⟨q1, T⟩ := T
  refine v_getI (pc' := 9) 3 7 dX3_readWord_6 rfl (by decide) (by decide) rfl kf_X3_48 q1 ?_
  refine v_aload_n (pc' := 10) dX3_readWord_9 rfl rfl ?_
  refine v_getI (pc' := 13) 3 6 dX3_readWord_10 rfl (by decide) (by decide) rfl kf_X3_38 q1 ?_
  refine v_icmp_ge (tgt := 57) (pc' := 16) dX3_readWord_13 (by decide) rfl ⟨fun c2 => ?_, fun c2 => ?_⟩
  · have T := T.1 c2
    refine v_iconst (pc' := 58) (v := 0) dX3_readWord_57 rfl kI_0 ?_
    refine v_istore_n (pc' := 59) (loc' := [.ref r0, .int x1, .int 0]) dX3_readWord_58 rfl (lt_l rfl) rfl ?_
    exact T
  · have T := T.2 c2
    refine v_aload_n (pc' := 17) dX3_readWord_16 rfl rfl ?_
    refine v_getR (pc' := 20) 3 5 dX3_readWord_17 rfl (by decide) (by decide) rfl kf_X3_22 q1 ?_
    refine v_aload_n (pc' := 21) dX3_readWord_20 rfl rfl ?_
    refine v_getI (pc' := 24) 3 7 dX3_readWord_21 rfl (by decide) (by decide) rfl kf_X3_48 q1 ?_
    obtain ⟨q3, T⟩ := T
    obtain ⟨q4, T⟩ := T
    refine v_bald (pc' := 25) dX3_readWord_24 rfl rfl q3 q4 ?_
    refine v_bipush (pc' := 27) (v := 97) dX3_readWord_25 rfl kB_97 ?_
    refine v_icmp_lt (tgt := 57) (pc' := 30) dX3_readWord_27 (by decide) rfl ⟨fun c5 => ?_, fun c5 => ?_⟩
    · have T := T.1 c5
      refine v_iconst (pc' := 58) (v := 0) dX3_readWord_57 rfl kI_0 ?_
      refine v_istore_n (pc' := 59) (loc' := [.ref r0, .int x1, .int 0]) dX3_readWord_58 rfl (lt_l rfl) rfl ?_
      exact T
    · have T := T.2 c5
      refine v_aload_n (pc' := 31) dX3_readWord_30 rfl rfl ?_
      refine v_getR (pc' := 34) 3 5 dX3_readWord_31 rfl (by decide) (by decide) rfl kf_X3_22 q1 ?_
      refine v_aload_n (pc' := 35) dX3_readWord_34 rfl rfl ?_
      refine v_getI (pc' := 38) 3 7 dX3_readWord_35 rfl (by decide) (by decide) rfl kf_X3_48 q1 ?_
      refine v_bald (pc' := 39) dX3_readWord_38 rfl rfl q3 q4 ?_
      refine v_bipush (pc' := 41) (v := 122) dX3_readWord_39 rfl kB_122 ?_
      refine v_icmp_gt (tgt := 57) (pc' := 44) dX3_readWord_41 (by decide) rfl ⟨fun c6 => ?_, fun c6 => ?_⟩
      · have T := T.1 c6
        refine v_iconst (pc' := 58) (v := 0) dX3_readWord_57 rfl kI_0 ?_
        refine v_istore_n (pc' := 59) (loc' := [.ref r0, .int x1, .int 0]) dX3_readWord_58 rfl (lt_l rfl) rfl ?_
        exact T
      · have T := T.2 c6
        refine v_aload_n (pc' := 45) dX3_readWord_44 rfl rfl ?_
        refine v_dup (pc' := 46) dX3_readWord_45 rfl rfl ?_
        refine v_getI (pc' := 49) 3 7 dX3_readWord_46 rfl (by decide) (by decide) rfl kf_X3_48 q1 ?_
        refine v_iconst (pc' := 50) (v := 1) dX3_readWord_49 rfl kI_1 ?_
        refine v_iadd (pc' := 51) dX3_readWord_50 rfl ?_
        refine v_putI (pc' := 54) 3 7 dX3_readWord_51 rfl (by decide) (by decide) rfl rfl kf_X3_48 q1 ?_
        refine v_goto (pc' := 5) dX3_readWord_54 (by decide) ?_
        exact T
theorem bX3_readWord_59 {G : GG} {d : Nat} {h : Hp} {o : OU} {h' : Hp} (r0 : Nat) (x1 : Int32) (x2 : Int32) (hd : 1 ≤ d) (T : ((12 < x2 → kH h r0 = 13 ∧ ∃ h2, VM G mX3_blame (d - 1) [.ref r0, .int 1, .int x1] h (.inl none) h2 ∧ (o = .inl (some (.int (-1))) ∧ h' = h2)) ∧ (¬ 12 < x2 → kH h r0 = 13 ∧ ∃ z6 h5, VM G mX3_isSpelled (d - 1) [.ref r0, .int x2, .int x1] h (.inl (some (.int z6))) h5 ∧ ((z6 = 0 → V G mX3_readWord d 59 [.ref r0, .int x1, .int (x2 + 1)] [] h5 o h') ∧ (¬ z6 = 0 → (o = .inl (some (.int x2)) ∧ h' = h5)))))) : V G mX3_readWord d 59 [.ref r0, .int x1, .int x2] [] h o h' := by
  have hdd : d - 1 + 1 ≤ d := by omega
  refine v_iload_n (pc' := 60) dX3_readWord_59 rfl rfl ?_
  refine v_bipush (pc' := 62) (v := 12) dX3_readWord_60 rfl kB_12 ?_
  refine v_icmp_gt (tgt := 82) (pc' := 65) dX3_readWord_62 (by decide) rfl ⟨fun c1 => ?_, fun c1 => ?_⟩
  · have T := T.1 c1
    refine v_aload_n (pc' := 83) dX3_readWord_82 rfl rfl ?_
    refine v_iconst (pc' := 84) (v := 1) dX3_readWord_83 rfl kI_1 ?_
    refine v_iload_n (pc' := 85) dX3_readWord_84 rfl rfl ?_
    obtain ⟨q4, T⟩ := T
    obtain ⟨h2, k3, T⟩ := T
    refine v_callV (pc' := 88) (M1 := mX3_blame) (as := [.int 1, .int x1]) (r := r0) (rest := []) 3 dX3_readWord_85 rfl ko_X3_75 kc_X3_blame ki_X3_blame ks_X3_blame (by decide) (by decide) hdd rfl rfl (le_l rfl) q4 k3 ?_
    refine v_iconst (pc' := 89) (v := (-1)) dX3_readWord_88 rfl kI_m1 ?_
    exact v_iret dX3_readWord_89 rfl T
  · have T := T.2 c1
    refine v_aload_n (pc' := 66) dX3_readWord_65 rfl rfl ?_
    refine v_iload_n (pc' := 67) dX3_readWord_66 rfl rfl ?_
    refine v_iload_n (pc' := 68) dX3_readWord_67 rfl rfl ?_
    obtain ⟨q8, T⟩ := T
    obtain ⟨z6, h5, k7, T⟩ := T
    refine v_callV (pc' := 71) (M1 := mX3_isSpelled) (as := [.int x2, .int x1]) (r := r0) (rest := []) 3 dX3_readWord_68 rfl ko_X3_104 kc_X3_isSpelled ki_X3_isSpelled ks_X3_isSpelled (by decide) (by decide) hdd rfl rfl (le_l rfl) q8 k7 ?_
    refine v_if_eq (tgt := 76) (pc' := 74) dX3_readWord_71 (by decide) rfl ⟨fun c9 => ?_, fun c9 => ?_⟩
    · have T := T.1 c9
      refine v_iinc (pc' := 79) (loc' := [.ref r0, .int x1, .int (x2 + 1)]) dX3_readWord_76 rfl rfl (kX_1 _) rfl ?_
      refine v_goto (pc' := 59) dX3_readWord_79 (by decide) ?_
      exact T
    · have T := T.2 c9
      refine v_iload_n (pc' := 75) dX3_readWord_74 rfl rfl ?_
      exact v_iret dX3_readWord_75 rfl T
theorem eX3_readNumbers {G : GG} {d : Nat} {h : Hp} {o : OU} {h' : Hp} (r0 : Nat) (x1 : Int32) (hd : 1 ≤ d) (T : ((x1 < 0 → V G mX3_readNumbers d 25 [.ref r0, .int x1, .int 0, .int 0, .int 0] [] h o h') ∧ (¬ x1 < 0 → ((6 < x1 → V G mX3_readNumbers d 25 [.ref r0, .int x1, .int 0, .int 0, .int 0] [] h o h') ∧ (¬ 6 < x1 → kH h r0 = 13 ∧ ∃ z4 h3, VM G mX3_readNumber (d - 1) [.ref r0, .int 0, .int 11] h (.inl (some (.int z4))) h3 ∧ V G mX3_readNumbers d 25 [.ref r0, .int x1, .int z4, .int 0, .int 0] [] h3 o h'))))) : VM G mX3_readNumbers d [.ref r0, .int x1] h o h' := by
  refine V.toM rfl rfl (le_l rfl) (cat_all rfl) ?_
  show V G mX3_readNumbers d 0 [.ref r0, .int x1, uV, uV, uV] [] h o h'
  have hdd : d - 1 + 1 ≤ d := by omega
  refine v_iconst (pc' := 1) (v := 0) dX3_readNumbers_0 rfl kI_0 ?_
  refine v_istore_n (pc' := 2) (loc' := [.ref r0, .int x1, .int 0, uV, uV]) dX3_readNumbers_1 rfl (lt_l rfl) rfl ?_
  refine v_iconst (pc' := 3) (v := 0) dX3_readNumbers_2 rfl kI_0 ?_
  refine v_istore_n (pc' := 4) (loc' := [.ref r0, .int x1, .int 0, .int 0, uV]) dX3_readNumbers_3 rfl (lt_l rfl) rfl ?_
  refine v_iconst (pc' := 5) (v := 0) dX3_readNumbers_4 rfl kI_0 ?_
  refine v_istore (pc' := 7) (loc' := [.ref r0, .int x1, .int 0, .int 0, .int 0]) dX3_readNumbers_5 rfl (lt_l rfl) rfl ?_
  refine v_iload_n (pc' := 8) dX3_readNumbers_7 rfl rfl ?_
  refine v_if_lt (tgt := 25) (pc' := 11) dX3_readNumbers_8 (by decide) rfl ⟨fun c1 => ?_, fun c1 => ?_⟩
  · have T := T.1 c1
    exact T
  · have T := T.2 c1
    refine v_iload_n (pc' := 12) dX3_readNumbers_11 rfl rfl ?_
    refine v_bipush (pc' := 14) (v := 6) dX3_readNumbers_12 rfl kB_6 ?_
    refine v_icmp_gt (tgt := 25) (pc' := 17) dX3_readNumbers_14 (by decide) rfl ⟨fun c2 => ?_, fun c2 => ?_⟩
    · have T := T.1 c2
      exact T
    · have T := T.2 c2
      refine v_aload_n (pc' := 18) dX3_readNumbers_17 rfl rfl ?_
      refine v_iconst (pc' := 19) (v := 0) dX3_readNumbers_18 rfl kI_0 ?_
      refine v_bipush (pc' := 21) (v := 11) dX3_readNumbers_19 rfl kB_11 ?_
      obtain ⟨q6, T⟩ := T
      obtain ⟨z4, h3, k5, T⟩ := T
      refine v_callV (pc' := 24) (M1 := mX3_readNumber) (as := [.int 0, .int 11]) (r := r0) (rest := []) 3 dX3_readNumbers_21 rfl ko_X3_97 kc_X3_readNumber ki_X3_readNumber ks_X3_readNumber (by decide) (by decide) hdd rfl rfl (le_l rfl) q6 k5 ?_
      refine v_istore_n (pc' := 25) (loc' := [.ref r0, .int x1, .int z4, .int 0, .int 0]) dX3_readNumbers_24 rfl (lt_l rfl) rfl ?_
      exact T
theorem bX3_readNumbers_25 {G : GG} {d : Nat} {h : Hp} {o : OU} {h' : Hp} (r0 : Nat) (x1 : Int32) (x2 : Int32) (x3 : Int32) (x4 : Int32) (hd : 1 ≤ d) (T : ((x1 = 0 → kH h r0 = 13 ∧ ∃ z3 h2, VM G mX3_readNumber (d - 1) [.ref r0, .int 1, .int 99] h (.inl (some (.int z3))) h2 ∧ V G mX3_readNumbers d 194 [.ref r0, .int x1, .int x2, .int z3, .int x4] [] h2 o h') ∧ (x1 = 1 → kH h r0 = 13 ∧ ∃ z8 h7, VM G mX3_readNumber (d - 1) [.ref r0, .int 1, .int 99] h (.inl (some (.int z8))) h7 ∧ V G mX3_readNumbers d 194 [.ref r0, .int x1, .int x2, .int z8, .int x4] [] h7 o h') ∧ (x1 = 2 → kH h r0 = 13 ∧ ∃ z13 h12, VM G mX3_readNumber (d - 1) [.ref r0, .int 1, .int 99] h (.inl (some (.int z13))) h12 ∧ kH h12 r0 = 13 ∧ ∃ z17 h16, VM G mX3_readNumber (d - 1) [.ref r0, .int 0, .int 11] h12 (.inl (some (.int z17))) h16 ∧ V G mX3_readNumbers d 194 [.ref r0, .int x1, .int x2, .int z13, .int z17] [] h16 o h') ∧ (x1 = 3 → kH h r0 = 13 ∧ ∃ z22 h21, VM G mX3_readNumber (d - 1) [.ref r0, .int 0, .int 99] h (.inl (some (.int z22))) h21 ∧ V G mX3_readNumbers d 194 [.ref r0, .int x1, .int x2, .int z22, .int x4] [] h21 o h') ∧ (x1 = 4 → kH h r0 = 13 ∧ ∃ z27 h26, VM G mX3_readNumber (d - 1) [.ref r0, .int 0, .int 31] h (.inl (some (.int z27))) h26 ∧ kH h26 r0 = 13 ∧ ∃ z31 h30, VM G mX3_readNumber (d - 1) [.ref r0, .int 0, .int 99] h26 (.inl (some (.int z31))) h30 ∧ V G mX3_readNumbers d 194 [.ref r0, .int x1, .int x2, .int z27, .int z31] [] h30 o h') ∧ (x1 = 5 → V G mX3_readNumbers d 194 [.ref r0, .int x1, .int x2, .int x3, .int x4] [] h o h') ∧ (x1 = 6 → kH h r0 = 13 ∧ ∃ z37 h36, VM G mX3_readNumber (d - 1) [.ref r0, .int 1, .int 99] h (.inl (some (.int z37))) h36 ∧ V G mX3_readNumbers d 194 [.ref r0, .int x1, .int x2, .int z37, .int x4] [] h36 o h') ∧ (x1 = 7 → V G mX3_readNumbers d 194 [.ref r0, .int x1, .int x2, .int x3, .int x4] [] h o h') ∧ (x1 = 8 → kH h r0 = 13 ∧ ∃ z43 h42, VM G mX3_readNumber (d - 1) [.ref r0, .int 0, .int 15] h (.inl (some (.int z43))) h42 ∧ V G mX3_readNumbers d 194 [.ref r0, .int x1, .int z43, .int x3, .int x4] [] h42 o h') ∧ (x1 = 9 → V G mX3_readNumbers d 194 [.ref r0, .int x1, .int x2, .int x3, .int x4] [] h o h') ∧ (x1 = 10 → V G mX3_readNumbers d 194 [.ref r0, .int x1, .int x2, .int x3, .int x4] [] h o h') ∧ (x1 = 11 → kH h r0 = 13 ∧ ∃ z50 h49, VM G mX3_readNumber (d - 1) [.ref r0, .int 0, .int 60] h (.inl (some (.int z50))) h49 ∧ V G mX3_readNumbers d 194 [.ref r0, .int x1, .int z50, .int x3, .int x4] [] h49 o h') ∧ (x1 = 12 → kH h r0 = 13 ∧ ∃ z55 h54, VM G mX3_readNumber (d - 1) [.ref r0, .int 6, .int 16] h (.inl (some (.int z55))) h54 ∧ kH h54 r0 = 13 ∧ kH h54 (rH h54 r0 0) = 14 ∧ (o = .inl none ∧ h' = (h54.1, (upI h54.2 (rH h54 r0 0) 0 z55)))) ∧ (¬ x1 = 0 → ¬ x1 = 1 → ¬ x1 = 2 → ¬ x1 = 3 → ¬ x1 = 4 → ¬ x1 = 5 → ¬ x1 = 6 → ¬ x1 = 7 → ¬ x1 = 8 → ¬ x1 = 9 → ¬ x1 = 10 → ¬ x1 = 11 → ¬ x1 = 12 → V G mX3_readNumbers d 194 [.ref r0, .int x1, .int x2, .int x3, .int x4] [] h o h'))) : V G mX3_readNumbers d 25 [.ref r0, .int x1, .int x2, .int x3, .int x4] [] h o h' := by
  have hdd : d - 1 + 1 ≤ d := by omega
  refine v_iload_n (pc' := 26) dX3_readNumbers_25 rfl rfl ?_
  by_cases c1 : x1 = 0
  · have T := T.1 c1
    refine v_switchIn (off := 66) (pc' := 92) dX3_readNumbers_26 (by rw [c1]; decide) (by rw [c1]; decide) (by rw [c1]; rfl) (by decide) ?_
    refine v_aload_n (pc' := 93) dX3_readNumbers_92 rfl rfl ?_
    refine v_iconst (pc' := 94) (v := 1) dX3_readNumbers_93 rfl kI_1 ?_
    refine v_bipush (pc' := 96) (v := 99) dX3_readNumbers_94 rfl kB_99 ?_
    obtain ⟨q5, T⟩ := T
    obtain ⟨z3, h2, k4, T⟩ := T
    refine v_callV (pc' := 99) (M1 := mX3_readNumber) (as := [.int 1, .int 99]) (r := r0) (rest := []) 3 dX3_readNumbers_96 rfl ko_X3_97 kc_X3_readNumber ki_X3_readNumber ks_X3_readNumber (by decide) (by decide) hdd rfl rfl (le_l rfl) q5 k4 ?_
    refine v_istore_n (pc' := 100) (loc' := [.ref r0, .int x1, .int x2, .int z3, .int x4]) dX3_readNumbers_99 rfl (lt_l rfl) rfl ?_
    refine v_goto (pc' := 194) dX3_readNumbers_100 (by decide) ?_
    exact T
  by_cases c6 : x1 = 1
  · have T := T.2.1 c6
    refine v_switchIn (off := 66) (pc' := 92) dX3_readNumbers_26 (by rw [c6]; decide) (by rw [c6]; decide) (by rw [c6]; rfl) (by decide) ?_
    refine v_aload_n (pc' := 93) dX3_readNumbers_92 rfl rfl ?_
    refine v_iconst (pc' := 94) (v := 1) dX3_readNumbers_93 rfl kI_1 ?_
    refine v_bipush (pc' := 96) (v := 99) dX3_readNumbers_94 rfl kB_99 ?_
    obtain ⟨q10, T⟩ := T
    obtain ⟨z8, h7, k9, T⟩ := T
    refine v_callV (pc' := 99) (M1 := mX3_readNumber) (as := [.int 1, .int 99]) (r := r0) (rest := []) 3 dX3_readNumbers_96 rfl ko_X3_97 kc_X3_readNumber ki_X3_readNumber ks_X3_readNumber (by decide) (by decide) hdd rfl rfl (le_l rfl) q10 k9 ?_
    refine v_istore_n (pc' := 100) (loc' := [.ref r0, .int x1, .int x2, .int z8, .int x4]) dX3_readNumbers_99 rfl (lt_l rfl) rfl ?_
    refine v_goto (pc' := 194) dX3_readNumbers_100 (by decide) ?_
    exact T
  by_cases c11 : x1 = 2
  · have T := T.2.2.1 c11
    refine v_switchIn (off := 77) (pc' := 103) dX3_readNumbers_26 (by rw [c11]; decide) (by rw [c11]; decide) (by rw [c11]; rfl) (by decide) ?_
    refine v_aload_n (pc' := 104) dX3_readNumbers_103 rfl rfl ?_
    refine v_iconst (pc' := 105) (v := 1) dX3_readNumbers_104 rfl kI_1 ?_
    refine v_bipush (pc' := 107) (v := 99) dX3_readNumbers_105 rfl kB_99 ?_
    obtain ⟨q15, T⟩ := T
    obtain ⟨z13, h12, k14, T⟩ := T
    refine v_callV (pc' := 110) (M1 := mX3_readNumber) (as := [.int 1, .int 99]) (r := r0) (rest := []) 3 dX3_readNumbers_107 rfl ko_X3_97 kc_X3_readNumber ki_X3_readNumber ks_X3_readNumber (by decide) (by decide) hdd rfl rfl (le_l rfl) q15 k14 ?_
    refine v_istore_n (pc' := 111) (loc' := [.ref r0, .int x1, .int x2, .int z13, .int x4]) dX3_readNumbers_110 rfl (lt_l rfl) rfl ?_
    refine v_aload_n (pc' := 112) dX3_readNumbers_111 rfl rfl ?_
    refine v_iconst (pc' := 113) (v := 0) dX3_readNumbers_112 rfl kI_0 ?_
    refine v_bipush (pc' := 115) (v := 11) dX3_readNumbers_113 rfl kB_11 ?_
    obtain ⟨q19, T⟩ := T
    obtain ⟨z17, h16, k18, T⟩ := T
    refine v_callV (pc' := 118) (M1 := mX3_readNumber) (as := [.int 0, .int 11]) (r := r0) (rest := []) 3 dX3_readNumbers_115 rfl ko_X3_97 kc_X3_readNumber ki_X3_readNumber ks_X3_readNumber (by decide) (by decide) hdd rfl rfl (le_l rfl) q19 k18 ?_
    refine v_istore (pc' := 120) (loc' := [.ref r0, .int x1, .int x2, .int z13, .int z17]) dX3_readNumbers_118 rfl (lt_l rfl) rfl ?_
    refine v_goto (pc' := 194) dX3_readNumbers_120 (by decide) ?_
    exact T
  by_cases c20 : x1 = 3
  · have T := T.2.2.2.1 c20
    refine v_switchIn (off := 97) (pc' := 123) dX3_readNumbers_26 (by rw [c20]; decide) (by rw [c20]; decide) (by rw [c20]; rfl) (by decide) ?_
    refine v_aload_n (pc' := 124) dX3_readNumbers_123 rfl rfl ?_
    refine v_iconst (pc' := 125) (v := 0) dX3_readNumbers_124 rfl kI_0 ?_
    refine v_bipush (pc' := 127) (v := 99) dX3_readNumbers_125 rfl kB_99 ?_
    obtain ⟨q24, T⟩ := T
    obtain ⟨z22, h21, k23, T⟩ := T
    refine v_callV (pc' := 130) (M1 := mX3_readNumber) (as := [.int 0, .int 99]) (r := r0) (rest := []) 3 dX3_readNumbers_127 rfl ko_X3_97 kc_X3_readNumber ki_X3_readNumber ks_X3_readNumber (by decide) (by decide) hdd rfl rfl (le_l rfl) q24 k23 ?_
    refine v_istore_n (pc' := 131) (loc' := [.ref r0, .int x1, .int x2, .int z22, .int x4]) dX3_readNumbers_130 rfl (lt_l rfl) rfl ?_
    refine v_goto (pc' := 194) dX3_readNumbers_131 (by decide) ?_
    exact T
  by_cases c25 : x1 = 4
  · have T := T.2.2.2.2.1 c25
    refine v_switchIn (off := 108) (pc' := 134) dX3_readNumbers_26 (by rw [c25]; decide) (by rw [c25]; decide) (by rw [c25]; rfl) (by decide) ?_
    refine v_aload_n (pc' := 135) dX3_readNumbers_134 rfl rfl ?_
    refine v_iconst (pc' := 136) (v := 0) dX3_readNumbers_135 rfl kI_0 ?_
    refine v_bipush (pc' := 138) (v := 31) dX3_readNumbers_136 rfl kB_31 ?_
    obtain ⟨q29, T⟩ := T
    obtain ⟨z27, h26, k28, T⟩ := T
    refine v_callV (pc' := 141) (M1 := mX3_readNumber) (as := [.int 0, .int 31]) (r := r0) (rest := []) 3 dX3_readNumbers_138 rfl ko_X3_97 kc_X3_readNumber ki_X3_readNumber ks_X3_readNumber (by decide) (by decide) hdd rfl rfl (le_l rfl) q29 k28 ?_
    refine v_istore_n (pc' := 142) (loc' := [.ref r0, .int x1, .int x2, .int z27, .int x4]) dX3_readNumbers_141 rfl (lt_l rfl) rfl ?_
    refine v_aload_n (pc' := 143) dX3_readNumbers_142 rfl rfl ?_
    refine v_iconst (pc' := 144) (v := 0) dX3_readNumbers_143 rfl kI_0 ?_
    refine v_bipush (pc' := 146) (v := 99) dX3_readNumbers_144 rfl kB_99 ?_
    obtain ⟨q33, T⟩ := T
    obtain ⟨z31, h30, k32, T⟩ := T
    refine v_callV (pc' := 149) (M1 := mX3_readNumber) (as := [.int 0, .int 99]) (r := r0) (rest := []) 3 dX3_readNumbers_146 rfl ko_X3_97 kc_X3_readNumber ki_X3_readNumber ks_X3_readNumber (by decide) (by decide) hdd rfl rfl (le_l rfl) q33 k32 ?_
    refine v_istore (pc' := 151) (loc' := [.ref r0, .int x1, .int x2, .int z27, .int z31]) dX3_readNumbers_149 rfl (lt_l rfl) rfl ?_
    refine v_goto (pc' := 194) dX3_readNumbers_151 (by decide) ?_
    exact T
  by_cases c34 : x1 = 5
  · have T := T.2.2.2.2.2.1 c34
    refine v_switchIn (off := 168) (pc' := 194) dX3_readNumbers_26 (by rw [c34]; decide) (by rw [c34]; decide) (by rw [c34]; rfl) (by decide) ?_
    exact T
  by_cases c35 : x1 = 6
  · have T := T.2.2.2.2.2.2.1 c35
    refine v_switchIn (off := 66) (pc' := 92) dX3_readNumbers_26 (by rw [c35]; decide) (by rw [c35]; decide) (by rw [c35]; rfl) (by decide) ?_
    refine v_aload_n (pc' := 93) dX3_readNumbers_92 rfl rfl ?_
    refine v_iconst (pc' := 94) (v := 1) dX3_readNumbers_93 rfl kI_1 ?_
    refine v_bipush (pc' := 96) (v := 99) dX3_readNumbers_94 rfl kB_99 ?_
    obtain ⟨q39, T⟩ := T
    obtain ⟨z37, h36, k38, T⟩ := T
    refine v_callV (pc' := 99) (M1 := mX3_readNumber) (as := [.int 1, .int 99]) (r := r0) (rest := []) 3 dX3_readNumbers_96 rfl ko_X3_97 kc_X3_readNumber ki_X3_readNumber ks_X3_readNumber (by decide) (by decide) hdd rfl rfl (le_l rfl) q39 k38 ?_
    refine v_istore_n (pc' := 100) (loc' := [.ref r0, .int x1, .int x2, .int z37, .int x4]) dX3_readNumbers_99 rfl (lt_l rfl) rfl ?_
    refine v_goto (pc' := 194) dX3_readNumbers_100 (by decide) ?_
    exact T
  by_cases c40 : x1 = 7
  · have T := T.2.2.2.2.2.2.2.1 c40
    refine v_switchIn (off := 168) (pc' := 194) dX3_readNumbers_26 (by rw [c40]; decide) (by rw [c40]; decide) (by rw [c40]; rfl) (by decide) ?_
    exact T
  by_cases c41 : x1 = 8
  · have T := T.2.2.2.2.2.2.2.2.1 c41
    refine v_switchIn (off := 128) (pc' := 154) dX3_readNumbers_26 (by rw [c41]; decide) (by rw [c41]; decide) (by rw [c41]; rfl) (by decide) ?_
    refine v_aload_n (pc' := 155) dX3_readNumbers_154 rfl rfl ?_
    refine v_iconst (pc' := 156) (v := 0) dX3_readNumbers_155 rfl kI_0 ?_
    refine v_bipush (pc' := 158) (v := 15) dX3_readNumbers_156 rfl kB_15 ?_
    obtain ⟨q45, T⟩ := T
    obtain ⟨z43, h42, k44, T⟩ := T
    refine v_callV (pc' := 161) (M1 := mX3_readNumber) (as := [.int 0, .int 15]) (r := r0) (rest := []) 3 dX3_readNumbers_158 rfl ko_X3_97 kc_X3_readNumber ki_X3_readNumber ks_X3_readNumber (by decide) (by decide) hdd rfl rfl (le_l rfl) q45 k44 ?_
    refine v_istore_n (pc' := 162) (loc' := [.ref r0, .int x1, .int z43, .int x3, .int x4]) dX3_readNumbers_161 rfl (lt_l rfl) rfl ?_
    refine v_goto (pc' := 194) dX3_readNumbers_162 (by decide) ?_
    exact T
  by_cases c46 : x1 = 9
  · have T := T.2.2.2.2.2.2.2.2.2.1 c46
    refine v_switchIn (off := 168) (pc' := 194) dX3_readNumbers_26 (by rw [c46]; decide) (by rw [c46]; decide) (by rw [c46]; rfl) (by decide) ?_
    exact T
  by_cases c47 : x1 = 10
  · have T := T.2.2.2.2.2.2.2.2.2.2.1 c47
    refine v_switchIn (off := 168) (pc' := 194) dX3_readNumbers_26 (by rw [c47]; decide) (by rw [c47]; decide) (by rw [c47]; rfl) (by decide) ?_
    exact T
  by_cases c48 : x1 = 11
  · have T := T.2.2.2.2.2.2.2.2.2.2.2.1 c48
    refine v_switchIn (off := 139) (pc' := 165) dX3_readNumbers_26 (by rw [c48]; decide) (by rw [c48]; decide) (by rw [c48]; rfl) (by decide) ?_
    refine v_aload_n (pc' := 166) dX3_readNumbers_165 rfl rfl ?_
    refine v_iconst (pc' := 167) (v := 0) dX3_readNumbers_166 rfl kI_0 ?_
    refine v_bipush (pc' := 169) (v := 60) dX3_readNumbers_167 rfl kB_60 ?_
    obtain ⟨q52, T⟩ := T
    obtain ⟨z50, h49, k51, T⟩ := T
    refine v_callV (pc' := 172) (M1 := mX3_readNumber) (as := [.int 0, .int 60]) (r := r0) (rest := []) 3 dX3_readNumbers_169 rfl ko_X3_97 kc_X3_readNumber ki_X3_readNumber ks_X3_readNumber (by decide) (by decide) hdd rfl rfl (le_l rfl) q52 k51 ?_
    refine v_istore_n (pc' := 173) (loc' := [.ref r0, .int x1, .int z50, .int x3, .int x4]) dX3_readNumbers_172 rfl (lt_l rfl) rfl ?_
    refine v_goto (pc' := 194) dX3_readNumbers_173 (by decide) ?_
    exact T
  by_cases c53 : x1 = 12
  · have T := T.2.2.2.2.2.2.2.2.2.2.2.2.1 c53
    refine v_switchIn (off := 150) (pc' := 176) dX3_readNumbers_26 (by rw [c53]; decide) (by rw [c53]; decide) (by rw [c53]; rfl) (by decide) ?_
    refine v_aload_n (pc' := 177) dX3_readNumbers_176 rfl rfl ?_
    refine v_bipush (pc' := 179) (v := 6) dX3_readNumbers_177 rfl kB_6 ?_
    refine v_bipush (pc' := 181) (v := 16) dX3_readNumbers_179 rfl kB_16 ?_
    obtain ⟨q57, T⟩ := T
    obtain ⟨z55, h54, k56, T⟩ := T
    refine v_callV (pc' := 184) (M1 := mX3_readNumber) (as := [.int 6, .int 16]) (r := r0) (rest := []) 3 dX3_readNumbers_181 rfl ko_X3_97 kc_X3_readNumber ki_X3_readNumber ks_X3_readNumber (by decide) (by decide) hdd rfl rfl (le_l rfl) q57 k56 ?_
    refine v_istore_n (pc' := 185) (loc' := [.ref r0, .int x1, .int z55, .int x3, .int x4]) dX3_readNumbers_184 rfl (lt_l rfl) rfl ?_
    refine v_aload_n (pc' := 186) dX3_readNumbers_185 rfl rfl ?_
    obtain ⟨q58, T⟩ := T
    refine v_getR (pc' := 189) 3 0 dX3_readNumbers_186 rfl (by decide) (by decide) rfl kf_X3_12 q58 ?_
    refine v_iload_n (pc' := 190) dX3_readNumbers_189 rfl rfl ?_
    obtain ⟨q59, T⟩ := T
    refine v_putI (pc' := 193) 4 0 dX3_readNumbers_190 rfl (by decide) (by decide) rfl rfl kf_X3_116 q59 ?_
    exact v_vret dX3_readNumbers_193 rfl T
  have T := T.2.2.2.2.2.2.2.2.2.2.2.2.2 c1 c6 c11 c20 c25 c34 c35 c40 c41 c46 c47 c48 c53
  refine v_switchOut (pc' := 194) dX3_readNumbers_26 (sw_out (n := 12) (by decide) (fun k hk => by rcases (show k = 0 ∨ k = 1 ∨ k = 2 ∨ k = 3 ∨ k = 4 ∨ k = 5 ∨ k = 6 ∨ k = 7 ∨ k = 8 ∨ k = 9 ∨ k = 10 ∨ k = 11 ∨ k = 12 by omega) with rfl | rfl | rfl | rfl | rfl | rfl | rfl | rfl | rfl | rfl | rfl | rfl | rfl <;> assumption)) (by decide) ?_
  exact T
theorem bX3_readNumbers_194 {G : GG} {d : Nat} {h : Hp} {o : OU} {h' : Hp} (r0 : Nat) (x1 : Int32) (x2 : Int32) (x3 : Int32) (x4 : Int32) (hd : 1 ≤ d) (T : kH h r0 = 13 ∧ kH h (rH h r0 0) = 14 ∧ ∃ h2, VM G mX4_add (d - 1) [.ref (rH h r0 0), .int x1, .int x2, .int x3, .int x4] h (.inl none) h2 ∧ (o = .inl none ∧ h' = h2)) : V G mX3_readNumbers d 194 [.ref r0, .int x1, .int x2, .int x3, .int x4] [] h o h' := by
  have hdd : d - 1 + 1 ≤ d := by omega
  refine v_aload_n (pc' := 195) dX3_readNumbers_194 rfl rfl ?_
  obtain ⟨q1, T⟩ := T
  refine v_getR (pc' := 198) 3 0 dX3_readNumbers_195 rfl (by decide) (by decide) rfl kf_X3_12 q1 ?_
  refine v_iload_n (pc' := 199) dX3_readNumbers_198 rfl rfl ?_
  refine v_iload_n (pc' := 200) dX3_readNumbers_199 rfl rfl ?_
  refine v_iload_n (pc' := 201) dX3_readNumbers_200 rfl rfl ?_
  refine v_iload (pc' := 203) dX3_readNumbers_201 rfl rfl ?_
  obtain ⟨q4, T⟩ := T
  obtain ⟨h2, k3, T⟩ := T
  refine v_callV (pc' := 206) (M1 := mX4_add) (as := [.int x1, .int x2, .int x3, .int x4]) (r := (rH h r0 0)) (rest := []) 4 dX3_readNumbers_203 rfl ko_X3_119 kc_X4_add ki_X4_add ks_X4_add (by decide) (by decide) hdd rfl rfl (le_l rfl) q4 k3 ?_
  exact v_vret dX3_readNumbers_206 rfl T
