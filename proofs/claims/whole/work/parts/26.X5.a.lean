theorem dX5_init_0 : decode cX5_init 0 = .ok (.aload_n 0, 1) := by decide +kernel
theorem dX5_init_1 : decode cX5_init 1 = .ok (.invokespecial 3, 3) := by decide +kernel
theorem dX5_init_4 : decode cX5_init 4 = .ok (.aload_n 0, 1) := by decide +kernel
theorem dX5_init_5 : decode cX5_init 5 = .ok (.sipush 512, 3) := by decide +kernel
theorem dX5_init_8 : decode cX5_init 8 = .ok (.newarray .byte, 2) := by decide +kernel
theorem dX5_init_10 : decode cX5_init 10 = .ok (.putfield 9, 3) := by decide +kernel
theorem dX5_init_13 : decode cX5_init 13 = .ok (.aload_n 0, 1) := by decide +kernel
theorem dX5_init_14 : decode cX5_init 14 = .ok (.sipush 256, 3) := by decide +kernel
theorem dX5_init_17 : decode cX5_init 17 = .ok (.newarray .int, 2) := by decide +kernel
theorem dX5_init_19 : decode cX5_init 19 = .ok (.putfield 15, 3) := by decide +kernel
theorem dX5_init_22 : decode cX5_init 22 = .ok (.aload_n 0, 1) := by decide +kernel
theorem dX5_init_23 : decode cX5_init 23 = .ok (.sipush 256, 3) := by decide +kernel
theorem dX5_init_26 : decode cX5_init 26 = .ok (.newarray .int, 2) := by decide +kernel
theorem dX5_init_28 : decode cX5_init 28 = .ok (.putfield 19, 3) := by decide +kernel
theorem dX5_init_31 : decode cX5_init 31 = .ok (.aload_n 0, 1) := by decide +kernel
theorem dX5_init_32 : decode cX5_init 32 = .ok (.sipush 256, 3) := by decide +kernel
theorem dX5_init_35 : decode cX5_init 35 = .ok (.newarray .int, 2) := by decide +kernel
theorem dX5_init_37 : decode cX5_init 37 = .ok (.putfield 22, 3) := by decide +kernel
theorem dX5_init_40 : decode cX5_init 40 = .ok (.aload_n 0, 1) := by decide +kernel
theorem dX5_init_41 : decode cX5_init 41 = .ok (.sipush 4096, 3) := by decide +kernel
theorem dX5_init_44 : decode cX5_init 44 = .ok (.newarray .byte, 2) := by decide +kernel
theorem dX5_init_46 : decode cX5_init 46 = .ok (.putfield 25, 3) := by decide +kernel
theorem dX5_init_49 : decode cX5_init 49 = .ok (.aload_n 0, 1) := by decide +kernel
theorem dX5_init_50 : decode cX5_init 50 = .ok (.sipush 1024, 3) := by decide +kernel
theorem dX5_init_53 : decode cX5_init 53 = .ok (.newarray .int, 2) := by decide +kernel
theorem dX5_init_55 : decode cX5_init 55 = .ok (.putfield 28, 3) := by decide +kernel
theorem dX5_init_58 : decode cX5_init 58 = .ok (.aload_n 0, 1) := by decide +kernel
theorem dX5_init_59 : decode cX5_init 59 = .ok (.sipush 256, 3) := by decide +kernel
theorem dX5_init_62 : decode cX5_init 62 = .ok (.newarray .int, 2) := by decide +kernel
theorem dX5_init_64 : decode cX5_init 64 = .ok (.putfield 31, 3) := by decide +kernel
theorem dX5_init_67 : decode cX5_init 67 = .ok (.aload_n 0, 1) := by decide +kernel
theorem dX5_init_68 : decode cX5_init 68 = .ok (.bipush 64, 2) := by decide +kernel
theorem dX5_init_70 : decode cX5_init 70 = .ok (.newarray .int, 2) := by decide +kernel
theorem dX5_init_72 : decode cX5_init 72 = .ok (.putfield 34, 3) := by decide +kernel
theorem dX5_init_75 : decode cX5_init 75 = .ok (.aload_n 0, 1) := by decide +kernel
theorem dX5_init_76 : decode cX5_init 76 = .ok (.bipush 64, 2) := by decide +kernel
theorem dX5_init_78 : decode cX5_init 78 = .ok (.newarray .int, 2) := by decide +kernel
theorem dX5_init_80 : decode cX5_init 80 = .ok (.putfield 37, 3) := by decide +kernel
theorem dX5_init_83 : decode cX5_init 83 = .ok (.aload_n 0, 1) := by decide +kernel
theorem dX5_init_84 : decode cX5_init 84 = .ok (.bipush 16, 2) := by decide +kernel
theorem dX5_init_86 : decode cX5_init 86 = .ok (.invokevirtual 40, 3) := by decide +kernel
theorem dX5_init_89 : decode cX5_init 89 = .ok (.return_, 1) := by decide +kernel
theorem dX5_begin_0 : decode cX5_begin 0 = .ok (.aload_n 0, 1) := by decide +kernel
theorem dX5_begin_1 : decode cX5_begin 1 = .ok (.iload_n 1, 1) := by decide +kernel
theorem dX5_begin_2 : decode cX5_begin 2 = .ok (.putfield 44, 3) := by decide +kernel
theorem dX5_begin_5 : decode cX5_begin 5 = .ok (.iconst 0, 1) := by decide +kernel
theorem dX5_begin_6 : decode cX5_begin 6 = .ok (.istore_n 2, 1) := by decide +kernel
theorem dX5_begin_7 : decode cX5_begin 7 = .ok (.iload_n 2, 1) := by decide +kernel
theorem dX5_begin_8 : decode cX5_begin 8 = .ok (.aload_n 0, 1) := by decide +kernel
theorem dX5_begin_9 : decode cX5_begin 9 = .ok (.getfield 9, 3) := by decide +kernel
theorem dX5_begin_12 : decode cX5_begin 12 = .ok (.arraylength, 1) := by decide +kernel
theorem dX5_begin_13 : decode cX5_begin 13 = .ok (.if_icmp .ge 16, 3) := by decide +kernel
theorem dX5_begin_16 : decode cX5_begin 16 = .ok (.aload_n 0, 1) := by decide +kernel
theorem dX5_begin_17 : decode cX5_begin 17 = .ok (.getfield 9, 3) := by decide +kernel
theorem dX5_begin_20 : decode cX5_begin 20 = .ok (.iload_n 2, 1) := by decide +kernel
theorem dX5_begin_21 : decode cX5_begin 21 = .ok (.iconst 0, 1) := by decide +kernel
theorem dX5_begin_22 : decode cX5_begin 22 = .ok (.bastore, 1) := by decide +kernel
theorem dX5_begin_23 : decode cX5_begin 23 = .ok (.iinc 2 1, 3) := by decide +kernel
theorem dX5_begin_26 : decode cX5_begin 26 = .ok (.goto (-19), 3) := by decide +kernel
theorem dX5_begin_29 : decode cX5_begin 29 = .ok (.iconst 0, 1) := by decide +kernel
theorem dX5_begin_30 : decode cX5_begin 30 = .ok (.istore_n 2, 1) := by decide +kernel
theorem dX5_begin_31 : decode cX5_begin 31 = .ok (.iload_n 2, 1) := by decide +kernel
theorem dX5_begin_32 : decode cX5_begin 32 = .ok (.iconst 4, 1) := by decide +kernel
theorem dX5_begin_33 : decode cX5_begin 33 = .ok (.if_icmp .gt 16, 3) := by decide +kernel
theorem dX5_begin_36 : decode cX5_begin 36 = .ok (.aload_n 0, 1) := by decide +kernel
theorem dX5_begin_37 : decode cX5_begin 37 = .ok (.getfield 9, 3) := by decide +kernel
theorem dX5_begin_40 : decode cX5_begin 40 = .ok (.iload_n 2, 1) := by decide +kernel
theorem dX5_begin_41 : decode cX5_begin 41 = .ok (.iconst 1, 1) := by decide +kernel
theorem dX5_begin_42 : decode cX5_begin 42 = .ok (.bastore, 1) := by decide +kernel
theorem dX5_begin_43 : decode cX5_begin 43 = .ok (.iinc 2 1, 3) := by decide +kernel
theorem dX5_begin_46 : decode cX5_begin 46 = .ok (.goto (-15), 3) := by decide +kernel
theorem dX5_begin_49 : decode cX5_begin 49 = .ok (.aload_n 0, 1) := by decide +kernel
theorem dX5_begin_50 : decode cX5_begin 50 = .ok (.getfield 9, 3) := by decide +kernel
theorem dX5_begin_53 : decode cX5_begin 53 = .ok (.bipush 16, 2) := by decide +kernel
theorem dX5_begin_55 : decode cX5_begin 55 = .ok (.iconst 1, 1) := by decide +kernel
theorem dX5_begin_56 : decode cX5_begin 56 = .ok (.bastore, 1) := by decide +kernel
theorem dX5_begin_57 : decode cX5_begin 57 = .ok (.aload_n 0, 1) := by decide +kernel
theorem dX5_begin_58 : decode cX5_begin 58 = .ok (.getfield 9, 3) := by decide +kernel
theorem dX5_begin_61 : decode cX5_begin 61 = .ok (.bipush 17, 2) := by decide +kernel
theorem dX5_begin_63 : decode cX5_begin 63 = .ok (.iconst 2, 1) := by decide +kernel
theorem dX5_begin_64 : decode cX5_begin 64 = .ok (.bastore, 1) := by decide +kernel
theorem dX5_begin_65 : decode cX5_begin 65 = .ok (.aload_n 0, 1) := by decide +kernel
theorem dX5_begin_66 : decode cX5_begin 66 = .ok (.getfield 9, 3) := by decide +kernel
theorem dX5_begin_69 : decode cX5_begin 69 = .ok (.bipush 18, 2) := by decide +kernel
theorem dX5_begin_71 : decode cX5_begin 71 = .ok (.iconst 4, 1) := by decide +kernel
theorem dX5_begin_72 : decode cX5_begin 72 = .ok (.bastore, 1) := by decide +kernel
theorem dX5_begin_73 : decode cX5_begin 73 = .ok (.aload_n 0, 1) := by decide +kernel
theorem dX5_begin_74 : decode cX5_begin 74 = .ok (.invokevirtual 48, 3) := by decide +kernel
theorem dX5_begin_77 : decode cX5_begin 77 = .ok (.aload_n 0, 1) := by decide +kernel
theorem dX5_begin_78 : decode cX5_begin 78 = .ok (.invokevirtual 51, 3) := by decide +kernel
theorem dX5_begin_81 : decode cX5_begin 81 = .ok (.return_, 1) := by decide +kernel
theorem dX5_allOnDisk_0 : decode cX5_allOnDisk 0 = .ok (.aload_n 0, 1) := by decide +kernel
theorem dX5_allOnDisk_1 : decode cX5_allOnDisk 1 = .ok (.getfield 9, 3) := by decide +kernel
theorem dX5_allOnDisk_4 : decode cX5_allOnDisk 4 = .ok (.iconst 0, 1) := by decide +kernel
theorem dX5_allOnDisk_5 : decode cX5_allOnDisk 5 = .ok (.aload_n 0, 1) := by decide +kernel
theorem dX5_allOnDisk_6 : decode cX5_allOnDisk 6 = .ok (.getfield 9, 3) := by decide +kernel
theorem dX5_allOnDisk_9 : decode cX5_allOnDisk 9 = .ok (.sipush 256, 3) := by decide +kernel
theorem dX5_allOnDisk_12 : decode cX5_allOnDisk 12 = .ok (.sipush 256, 3) := by decide +kernel
theorem dX5_allOnDisk_15 : decode cX5_allOnDisk 15 = .ok (.invokestatic 54, 3) := by decide +kernel
theorem dX5_allOnDisk_18 : decode cX5_allOnDisk 18 = .ok (.aload_n 0, 1) := by decide +kernel
theorem dX5_allOnDisk_19 : decode cX5_allOnDisk 19 = .ok (.iconst 0, 1) := by decide +kernel
theorem dX5_allOnDisk_20 : decode cX5_allOnDisk 20 = .ok (.putfield 60, 3) := by decide +kernel
theorem dX5_allOnDisk_23 : decode cX5_allOnDisk 23 = .ok (.aload_n 0, 1) := by decide +kernel
theorem dX5_allOnDisk_24 : decode cX5_allOnDisk 24 = .ok (.iconst 0, 1) := by decide +kernel
theorem dX5_allOnDisk_25 : decode cX5_allOnDisk 25 = .ok (.putfield 63, 3) := by decide +kernel
theorem dX5_allOnDisk_28 : decode cX5_allOnDisk 28 = .ok (.return_, 1) := by decide +kernel
theorem dX5_forgetCounts_0 : decode cX5_forgetCounts 0 = .ok (.aload_n 0, 1) := by decide +kernel
theorem dX5_forgetCounts_1 : decode cX5_forgetCounts 1 = .ok (.iconst 0, 1) := by decide +kernel
theorem dX5_forgetCounts_2 : decode cX5_forgetCounts 2 = .ok (.putfield 66, 3) := by decide +kernel
theorem dX5_forgetCounts_5 : decode cX5_forgetCounts 5 = .ok (.aload_n 0, 1) := by decide +kernel
theorem dX5_forgetCounts_6 : decode cX5_forgetCounts 6 = .ok (.iconst 0, 1) := by decide +kernel
theorem dX5_forgetCounts_7 : decode cX5_forgetCounts 7 = .ok (.putfield 69, 3) := by decide +kernel
theorem dX5_forgetCounts_10 : decode cX5_forgetCounts 10 = .ok (.aload_n 0, 1) := by decide +kernel
theorem dX5_forgetCounts_11 : decode cX5_forgetCounts 11 = .ok (.iconst 0, 1) := by decide +kernel
theorem dX5_forgetCounts_12 : decode cX5_forgetCounts 12 = .ok (.putfield 72, 3) := by decide +kernel
theorem dX5_forgetCounts_15 : decode cX5_forgetCounts 15 = .ok (.aload_n 0, 1) := by decide +kernel
theorem dX5_forgetCounts_16 : decode cX5_forgetCounts 16 = .ok (.iconst 0, 1) := by decide +kernel
theorem dX5_forgetCounts_17 : decode cX5_forgetCounts 17 = .ok (.putfield 75, 3) := by decide +kernel
theorem dX5_forgetCounts_20 : decode cX5_forgetCounts 20 = .ok (.return_, 1) := by decide +kernel
theorem dX5_crash_0 : decode cX5_crash 0 = .ok (.aload_n 0, 1) := by decide +kernel
theorem dX5_crash_1 : decode cX5_crash 1 = .ok (.getfield 9, 3) := by decide +kernel
theorem dX5_crash_4 : decode cX5_crash 4 = .ok (.sipush 256, 3) := by decide +kernel
theorem dX5_crash_7 : decode cX5_crash 7 = .ok (.aload_n 0, 1) := by decide +kernel
theorem dX5_crash_8 : decode cX5_crash 8 = .ok (.getfield 9, 3) := by decide +kernel
theorem dX5_crash_11 : decode cX5_crash 11 = .ok (.iconst 0, 1) := by decide +kernel
theorem dX5_crash_12 : decode cX5_crash 12 = .ok (.sipush 256, 3) := by decide +kernel
theorem dX5_crash_15 : decode cX5_crash 15 = .ok (.invokestatic 54, 3) := by decide +kernel
theorem dX5_crash_18 : decode cX5_crash 18 = .ok (.aload_n 0, 1) := by decide +kernel
theorem dX5_crash_19 : decode cX5_crash 19 = .ok (.iconst 0, 1) := by decide +kernel
theorem dX5_crash_20 : decode cX5_crash 20 = .ok (.putfield 60, 3) := by decide +kernel
theorem dX5_crash_23 : decode cX5_crash 23 = .ok (.aload_n 0, 1) := by decide +kernel
theorem dX5_crash_24 : decode cX5_crash 24 = .ok (.iconst 0, 1) := by decide +kernel
theorem dX5_crash_25 : decode cX5_crash 25 = .ok (.putfield 63, 3) := by decide +kernel
theorem dX5_crash_28 : decode cX5_crash 28 = .ok (.aload_n 0, 1) := by decide +kernel
theorem dX5_crash_29 : decode cX5_crash 29 = .ok (.dup, 1) := by decide +kernel
theorem dX5_crash_30 : decode cX5_crash 30 = .ok (.getfield 72, 3) := by decide +kernel
theorem dX5_crash_33 : decode cX5_crash 33 = .ok (.iconst 1, 1) := by decide +kernel
theorem dX5_crash_34 : decode cX5_crash 34 = .ok (.iadd, 1) := by decide +kernel
theorem dX5_crash_35 : decode cX5_crash 35 = .ok (.putfield 72, 3) := by decide +kernel
theorem dX5_crash_38 : decode cX5_crash 38 = .ok (.return_, 1) := by decide +kernel
theorem dX5_copyFrom_0 : decode cX5_copyFrom 0 = .ok (.aload_n 0, 1) := by decide +kernel
theorem dX5_copyFrom_1 : decode cX5_copyFrom 1 = .ok (.aload_n 1, 1) := by decide +kernel
theorem dX5_copyFrom_2 : decode cX5_copyFrom 2 = .ok (.getfield 44, 3) := by decide +kernel
theorem dX5_copyFrom_5 : decode cX5_copyFrom 5 = .ok (.putfield 44, 3) := by decide +kernel
theorem dX5_copyFrom_8 : decode cX5_copyFrom 8 = .ok (.aload_n 1, 1) := by decide +kernel
theorem dX5_copyFrom_9 : decode cX5_copyFrom 9 = .ok (.getfield 9, 3) := by decide +kernel
theorem dX5_copyFrom_12 : decode cX5_copyFrom 12 = .ok (.iconst 0, 1) := by decide +kernel
theorem dX5_copyFrom_13 : decode cX5_copyFrom 13 = .ok (.aload_n 0, 1) := by decide +kernel
theorem dX5_copyFrom_14 : decode cX5_copyFrom 14 = .ok (.getfield 9, 3) := by decide +kernel
theorem dX5_copyFrom_17 : decode cX5_copyFrom 17 = .ok (.iconst 0, 1) := by decide +kernel
theorem dX5_copyFrom_18 : decode cX5_copyFrom 18 = .ok (.aload_n 0, 1) := by decide +kernel
theorem dX5_copyFrom_19 : decode cX5_copyFrom 19 = .ok (.getfield 9, 3) := by decide +kernel
theorem dX5_copyFrom_22 : decode cX5_copyFrom 22 = .ok (.arraylength, 1) := by decide +kernel
theorem dX5_copyFrom_23 : decode cX5_copyFrom 23 = .ok (.invokestatic 54, 3) := by decide +kernel
theorem dX5_copyFrom_26 : decode cX5_copyFrom 26 = .ok (.aload_n 0, 1) := by decide +kernel
theorem dX5_copyFrom_27 : decode cX5_copyFrom 27 = .ok (.aload_n 1, 1) := by decide +kernel
theorem dX5_copyFrom_28 : decode cX5_copyFrom 28 = .ok (.getfield 60, 3) := by decide +kernel
theorem dX5_copyFrom_31 : decode cX5_copyFrom 31 = .ok (.putfield 60, 3) := by decide +kernel
theorem dX5_copyFrom_34 : decode cX5_copyFrom 34 = .ok (.aload_n 1, 1) := by decide +kernel
theorem dX5_copyFrom_35 : decode cX5_copyFrom 35 = .ok (.getfield 15, 3) := by decide +kernel
theorem dX5_copyFrom_38 : decode cX5_copyFrom 38 = .ok (.iconst 0, 1) := by decide +kernel
theorem dX5_copyFrom_39 : decode cX5_copyFrom 39 = .ok (.aload_n 0, 1) := by decide +kernel
theorem dX5_copyFrom_40 : decode cX5_copyFrom 40 = .ok (.getfield 15, 3) := by decide +kernel
theorem dX5_copyFrom_43 : decode cX5_copyFrom 43 = .ok (.iconst 0, 1) := by decide +kernel
theorem dX5_copyFrom_44 : decode cX5_copyFrom 44 = .ok (.aload_n 0, 1) := by decide +kernel
theorem dX5_copyFrom_45 : decode cX5_copyFrom 45 = .ok (.getfield 60, 3) := by decide +kernel
theorem dX5_copyFrom_48 : decode cX5_copyFrom 48 = .ok (.invokestatic 54, 3) := by decide +kernel
theorem dX5_copyFrom_51 : decode cX5_copyFrom 51 = .ok (.aload_n 1, 1) := by decide +kernel
theorem dX5_copyFrom_52 : decode cX5_copyFrom 52 = .ok (.getfield 19, 3) := by decide +kernel
theorem dX5_copyFrom_55 : decode cX5_copyFrom 55 = .ok (.iconst 0, 1) := by decide +kernel
theorem dX5_copyFrom_56 : decode cX5_copyFrom 56 = .ok (.aload_n 0, 1) := by decide +kernel
theorem dX5_copyFrom_57 : decode cX5_copyFrom 57 = .ok (.getfield 19, 3) := by decide +kernel
theorem dX5_copyFrom_60 : decode cX5_copyFrom 60 = .ok (.iconst 0, 1) := by decide +kernel
theorem dX5_copyFrom_61 : decode cX5_copyFrom 61 = .ok (.aload_n 0, 1) := by decide +kernel
theorem dX5_copyFrom_62 : decode cX5_copyFrom 62 = .ok (.getfield 60, 3) := by decide +kernel
theorem dX5_copyFrom_65 : decode cX5_copyFrom 65 = .ok (.invokestatic 54, 3) := by decide +kernel
theorem dX5_copyFrom_68 : decode cX5_copyFrom 68 = .ok (.aload_n 1, 1) := by decide +kernel
theorem dX5_copyFrom_69 : decode cX5_copyFrom 69 = .ok (.getfield 22, 3) := by decide +kernel
theorem dX5_copyFrom_72 : decode cX5_copyFrom 72 = .ok (.iconst 0, 1) := by decide +kernel
theorem dX5_copyFrom_73 : decode cX5_copyFrom 73 = .ok (.aload_n 0, 1) := by decide +kernel
theorem dX5_copyFrom_74 : decode cX5_copyFrom 74 = .ok (.getfield 22, 3) := by decide +kernel
theorem dX5_copyFrom_77 : decode cX5_copyFrom 77 = .ok (.iconst 0, 1) := by decide +kernel
theorem dX5_copyFrom_78 : decode cX5_copyFrom 78 = .ok (.aload_n 0, 1) := by decide +kernel
theorem dX5_copyFrom_79 : decode cX5_copyFrom 79 = .ok (.getfield 60, 3) := by decide +kernel
theorem dX5_copyFrom_82 : decode cX5_copyFrom 82 = .ok (.invokestatic 54, 3) := by decide +kernel
theorem dX5_copyFrom_85 : decode cX5_copyFrom 85 = .ok (.aload_n 1, 1) := by decide +kernel
theorem dX5_copyFrom_86 : decode cX5_copyFrom 86 = .ok (.getfield 25, 3) := by decide +kernel
theorem dX5_copyFrom_89 : decode cX5_copyFrom 89 = .ok (.iconst 0, 1) := by decide +kernel
theorem dX5_copyFrom_90 : decode cX5_copyFrom 90 = .ok (.aload_n 0, 1) := by decide +kernel
theorem dX5_copyFrom_91 : decode cX5_copyFrom 91 = .ok (.getfield 25, 3) := by decide +kernel
theorem dX5_copyFrom_94 : decode cX5_copyFrom 94 = .ok (.iconst 0, 1) := by decide +kernel
theorem dX5_copyFrom_95 : decode cX5_copyFrom 95 = .ok (.aload_n 0, 1) := by decide +kernel
theorem dX5_copyFrom_96 : decode cX5_copyFrom 96 = .ok (.getfield 60, 3) := by decide +kernel
theorem dX5_copyFrom_99 : decode cX5_copyFrom 99 = .ok (.bipush 16, 2) := by decide +kernel
theorem dX5_copyFrom_101 : decode cX5_copyFrom 101 = .ok (.imul, 1) := by decide +kernel
theorem dX5_copyFrom_102 : decode cX5_copyFrom 102 = .ok (.invokestatic 54, 3) := by decide +kernel
theorem dX5_copyFrom_105 : decode cX5_copyFrom 105 = .ok (.aload_n 1, 1) := by decide +kernel
theorem dX5_copyFrom_106 : decode cX5_copyFrom 106 = .ok (.getfield 28, 3) := by decide +kernel
theorem dX5_copyFrom_109 : decode cX5_copyFrom 109 = .ok (.iconst 0, 1) := by decide +kernel
theorem dX5_copyFrom_110 : decode cX5_copyFrom 110 = .ok (.aload_n 0, 1) := by decide +kernel
theorem dX5_copyFrom_111 : decode cX5_copyFrom 111 = .ok (.getfield 28, 3) := by decide +kernel
theorem dX5_copyFrom_114 : decode cX5_copyFrom 114 = .ok (.iconst 0, 1) := by decide +kernel
theorem dX5_copyFrom_115 : decode cX5_copyFrom 115 = .ok (.aload_n 0, 1) := by decide +kernel
theorem dX5_copyFrom_116 : decode cX5_copyFrom 116 = .ok (.getfield 60, 3) := by decide +kernel
theorem dX5_copyFrom_119 : decode cX5_copyFrom 119 = .ok (.iconst 4, 1) := by decide +kernel
theorem dX5_copyFrom_120 : decode cX5_copyFrom 120 = .ok (.imul, 1) := by decide +kernel
theorem dX5_copyFrom_121 : decode cX5_copyFrom 121 = .ok (.invokestatic 54, 3) := by decide +kernel
theorem dX5_copyFrom_124 : decode cX5_copyFrom 124 = .ok (.aload_n 1, 1) := by decide +kernel
theorem dX5_copyFrom_125 : decode cX5_copyFrom 125 = .ok (.getfield 31, 3) := by decide +kernel
theorem dX5_copyFrom_128 : decode cX5_copyFrom 128 = .ok (.iconst 0, 1) := by decide +kernel
theorem dX5_copyFrom_129 : decode cX5_copyFrom 129 = .ok (.aload_n 0, 1) := by decide +kernel
theorem dX5_copyFrom_130 : decode cX5_copyFrom 130 = .ok (.getfield 31, 3) := by decide +kernel
theorem dX5_copyFrom_133 : decode cX5_copyFrom 133 = .ok (.iconst 0, 1) := by decide +kernel
theorem dX5_copyFrom_134 : decode cX5_copyFrom 134 = .ok (.aload_n 0, 1) := by decide +kernel
theorem dX5_copyFrom_135 : decode cX5_copyFrom 135 = .ok (.getfield 60, 3) := by decide +kernel
theorem dX5_copyFrom_138 : decode cX5_copyFrom 138 = .ok (.invokestatic 54, 3) := by decide +kernel
theorem dX5_copyFrom_141 : decode cX5_copyFrom 141 = .ok (.aload_n 0, 1) := by decide +kernel
theorem dX5_copyFrom_142 : decode cX5_copyFrom 142 = .ok (.aload_n 1, 1) := by decide +kernel
theorem dX5_copyFrom_143 : decode cX5_copyFrom 143 = .ok (.getfield 63, 3) := by decide +kernel
theorem dX5_copyFrom_146 : decode cX5_copyFrom 146 = .ok (.putfield 63, 3) := by decide +kernel
theorem dX5_copyFrom_149 : decode cX5_copyFrom 149 = .ok (.aload_n 1, 1) := by decide +kernel
theorem dX5_copyFrom_150 : decode cX5_copyFrom 150 = .ok (.getfield 34, 3) := by decide +kernel
theorem dX5_copyFrom_153 : decode cX5_copyFrom 153 = .ok (.iconst 0, 1) := by decide +kernel
theorem dX5_copyFrom_154 : decode cX5_copyFrom 154 = .ok (.aload_n 0, 1) := by decide +kernel
theorem dX5_copyFrom_155 : decode cX5_copyFrom 155 = .ok (.getfield 34, 3) := by decide +kernel
theorem dX5_copyFrom_158 : decode cX5_copyFrom 158 = .ok (.iconst 0, 1) := by decide +kernel
theorem dX5_copyFrom_159 : decode cX5_copyFrom 159 = .ok (.aload_n 0, 1) := by decide +kernel
theorem dX5_copyFrom_160 : decode cX5_copyFrom 160 = .ok (.getfield 63, 3) := by decide +kernel
theorem dX5_copyFrom_163 : decode cX5_copyFrom 163 = .ok (.invokestatic 54, 3) := by decide +kernel
theorem dX5_copyFrom_166 : decode cX5_copyFrom 166 = .ok (.aload_n 1, 1) := by decide +kernel
theorem dX5_copyFrom_167 : decode cX5_copyFrom 167 = .ok (.getfield 37, 3) := by decide +kernel
theorem dX5_copyFrom_170 : decode cX5_copyFrom 170 = .ok (.iconst 0, 1) := by decide +kernel
theorem dX5_copyFrom_171 : decode cX5_copyFrom 171 = .ok (.aload_n 0, 1) := by decide +kernel
theorem dX5_copyFrom_172 : decode cX5_copyFrom 172 = .ok (.getfield 37, 3) := by decide +kernel
theorem dX5_copyFrom_175 : decode cX5_copyFrom 175 = .ok (.iconst 0, 1) := by decide +kernel
theorem dX5_copyFrom_176 : decode cX5_copyFrom 176 = .ok (.aload_n 0, 1) := by decide +kernel
theorem dX5_copyFrom_177 : decode cX5_copyFrom 177 = .ok (.getfield 63, 3) := by decide +kernel
theorem dX5_copyFrom_180 : decode cX5_copyFrom 180 = .ok (.invokestatic 54, 3) := by decide +kernel
theorem dX5_copyFrom_183 : decode cX5_copyFrom 183 = .ok (.aload_n 0, 1) := by decide +kernel
theorem dX5_copyFrom_184 : decode cX5_copyFrom 184 = .ok (.aload_n 1, 1) := by decide +kernel
theorem dX5_copyFrom_185 : decode cX5_copyFrom 185 = .ok (.getfield 66, 3) := by decide +kernel
theorem dX5_copyFrom_188 : decode cX5_copyFrom 188 = .ok (.putfield 66, 3) := by decide +kernel
theorem dX5_copyFrom_191 : decode cX5_copyFrom 191 = .ok (.aload_n 0, 1) := by decide +kernel
theorem dX5_copyFrom_192 : decode cX5_copyFrom 192 = .ok (.aload_n 1, 1) := by decide +kernel
theorem dX5_copyFrom_193 : decode cX5_copyFrom 193 = .ok (.getfield 69, 3) := by decide +kernel
theorem dX5_copyFrom_196 : decode cX5_copyFrom 196 = .ok (.putfield 69, 3) := by decide +kernel
theorem dX5_copyFrom_199 : decode cX5_copyFrom 199 = .ok (.aload_n 0, 1) := by decide +kernel
theorem dX5_copyFrom_200 : decode cX5_copyFrom 200 = .ok (.aload_n 1, 1) := by decide +kernel
theorem dX5_copyFrom_201 : decode cX5_copyFrom 201 = .ok (.getfield 72, 3) := by decide +kernel
theorem dX5_copyFrom_204 : decode cX5_copyFrom 204 = .ok (.putfield 72, 3) := by decide +kernel
theorem dX5_copyFrom_207 : decode cX5_copyFrom 207 = .ok (.aload_n 0, 1) := by decide +kernel
theorem dX5_copyFrom_208 : decode cX5_copyFrom 208 = .ok (.aload_n 1, 1) := by decide +kernel
theorem dX5_copyFrom_209 : decode cX5_copyFrom 209 = .ok (.getfield 75, 3) := by decide +kernel
theorem dX5_copyFrom_212 : decode cX5_copyFrom 212 = .ok (.putfield 75, 3) := by decide +kernel
theorem dX5_copyFrom_215 : decode cX5_copyFrom 215 = .ok (.return_, 1) := by decide +kernel
theorem dX5_at_0 : decode cX5_at 0 = .ok (.iload_n 1, 1) := by decide +kernel
theorem dX5_at_1 : decode cX5_at 1 = .ok (.ifCond .lt 28, 3) := by decide +kernel
theorem dX5_at_4 : decode cX5_at 4 = .ok (.iload_n 1, 1) := by decide +kernel
theorem dX5_at_5 : decode cX5_at 5 = .ok (.iconst 1, 1) := by decide +kernel
theorem dX5_at_6 : decode cX5_at 6 = .ok (.if_icmp .gt 23, 3) := by decide +kernel
theorem dX5_at_9 : decode cX5_at 9 = .ok (.iload_n 2, 1) := by decide +kernel
theorem dX5_at_10 : decode cX5_at 10 = .ok (.ifCond .lt 19, 3) := by decide +kernel
theorem dX5_at_13 : decode cX5_at 13 = .ok (.iload_n 2, 1) := by decide +kernel
theorem dX5_at_14 : decode cX5_at 14 = .ok (.bipush 16, 2) := by decide +kernel
theorem dX5_at_16 : decode cX5_at 16 = .ok (.if_icmp .ge 13, 3) := by decide +kernel
theorem dX5_at_19 : decode cX5_at 19 = .ok (.iload_n 3, 1) := by decide +kernel
theorem dX5_at_20 : decode cX5_at 20 = .ok (.ifCond .lt 9, 3) := by decide +kernel
theorem dX5_at_23 : decode cX5_at 23 = .ok (.iload_n 3, 1) := by decide +kernel
theorem dX5_at_24 : decode cX5_at 24 = .ok (.bipush 16, 2) := by decide +kernel
theorem dX5_at_26 : decode cX5_at 26 = .ok (.if_icmp .lt 5, 3) := by decide +kernel
theorem dX5_at_29 : decode cX5_at 29 = .ok (.iconst 0, 1) := by decide +kernel
theorem dX5_at_30 : decode cX5_at 30 = .ok (.ireturn, 1) := by decide +kernel
theorem dX5_at_31 : decode cX5_at 31 = .ok (.aload_n 0, 1) := by decide +kernel
theorem dX5_at_32 : decode cX5_at 32 = .ok (.getfield 9, 3) := by decide +kernel
theorem dX5_at_35 : decode cX5_at 35 = .ok (.iload_n 1, 1) := by decide +kernel
theorem dX5_at_36 : decode cX5_at 36 = .ok (.sipush 256, 3) := by decide +kernel
theorem dX5_at_39 : decode cX5_at 39 = .ok (.imul, 1) := by decide +kernel
theorem dX5_at_40 : decode cX5_at 40 = .ok (.iload_n 2, 1) := by decide +kernel
theorem dX5_at_41 : decode cX5_at 41 = .ok (.bipush 16, 2) := by decide +kernel
theorem dX5_at_43 : decode cX5_at 43 = .ok (.imul, 1) := by decide +kernel
theorem dX5_at_44 : decode cX5_at 44 = .ok (.iadd, 1) := by decide +kernel
theorem dX5_at_45 : decode cX5_at 45 = .ok (.iload_n 3, 1) := by decide +kernel
theorem dX5_at_46 : decode cX5_at 46 = .ok (.iadd, 1) := by decide +kernel
theorem dX5_at_47 : decode cX5_at 47 = .ok (.baload, 1) := by decide +kernel
theorem dX5_at_48 : decode cX5_at 48 = .ok (.ireturn, 1) := by decide +kernel
theorem dX5_nodeField_0 : decode cX5_nodeField 0 = .ok (.iload_n 1, 1) := by decide +kernel
theorem dX5_nodeField_1 : decode cX5_nodeField 1 = .ok (.ifCond .lt 27, 3) := by decide +kernel
theorem dX5_nodeField_4 : decode cX5_nodeField 4 = .ok (.iload_n 1, 1) := by decide +kernel
theorem dX5_nodeField_5 : decode cX5_nodeField 5 = .ok (.iconst 1, 1) := by decide +kernel
theorem dX5_nodeField_6 : decode cX5_nodeField 6 = .ok (.if_icmp .gt 22, 3) := by decide +kernel
theorem dX5_nodeField_9 : decode cX5_nodeField 9 = .ok (.iload_n 2, 1) := by decide +kernel
theorem dX5_nodeField_10 : decode cX5_nodeField 10 = .ok (.ifCond .lt 18, 3) := by decide +kernel
theorem dX5_nodeField_13 : decode cX5_nodeField 13 = .ok (.iload_n 2, 1) := by decide +kernel
theorem dX5_nodeField_14 : decode cX5_nodeField 14 = .ok (.bipush 12, 2) := by decide +kernel
theorem dX5_nodeField_16 : decode cX5_nodeField 16 = .ok (.if_icmp .ge 12, 3) := by decide +kernel
theorem dX5_nodeField_19 : decode cX5_nodeField 19 = .ok (.iload_n 3, 1) := by decide +kernel
theorem dX5_nodeField_20 : decode cX5_nodeField 20 = .ok (.ifCond .lt 8, 3) := by decide +kernel
theorem dX5_nodeField_23 : decode cX5_nodeField 23 = .ok (.iload_n 3, 1) := by decide +kernel
theorem dX5_nodeField_24 : decode cX5_nodeField 24 = .ok (.iconst 3, 1) := by decide +kernel
theorem dX5_nodeField_25 : decode cX5_nodeField 25 = .ok (.if_icmp .le 5, 3) := by decide +kernel
theorem dX5_nodeField_28 : decode cX5_nodeField 28 = .ok (.iconst 0, 1) := by decide +kernel
theorem dX5_nodeField_29 : decode cX5_nodeField 29 = .ok (.ireturn, 1) := by decide +kernel
theorem dX5_nodeField_30 : decode cX5_nodeField 30 = .ok (.aload_n 0, 1) := by decide +kernel
theorem dX5_nodeField_31 : decode cX5_nodeField 31 = .ok (.getfield 9, 3) := by decide +kernel
theorem dX5_nodeField_34 : decode cX5_nodeField 34 = .ok (.iload_n 1, 1) := by decide +kernel
theorem dX5_nodeField_35 : decode cX5_nodeField 35 = .ok (.sipush 256, 3) := by decide +kernel
theorem dX5_nodeField_38 : decode cX5_nodeField 38 = .ok (.imul, 1) := by decide +kernel
theorem dX5_nodeField_39 : decode cX5_nodeField 39 = .ok (.bipush 16, 2) := by decide +kernel
theorem dX5_nodeField_41 : decode cX5_nodeField 41 = .ok (.iadd, 1) := by decide +kernel
theorem dX5_nodeField_42 : decode cX5_nodeField 42 = .ok (.iload_n 2, 1) := by decide +kernel
theorem dX5_nodeField_43 : decode cX5_nodeField 43 = .ok (.iconst 4, 1) := by decide +kernel
theorem dX5_nodeField_44 : decode cX5_nodeField 44 = .ok (.imul, 1) := by decide +kernel
theorem dX5_nodeField_45 : decode cX5_nodeField 45 = .ok (.iadd, 1) := by decide +kernel
theorem dX5_nodeField_46 : decode cX5_nodeField 46 = .ok (.iload_n 3, 1) := by decide +kernel
theorem dX5_nodeField_47 : decode cX5_nodeField 47 = .ok (.iadd, 1) := by decide +kernel
theorem dX5_nodeField_48 : decode cX5_nodeField 48 = .ok (.baload, 1) := by decide +kernel
theorem dX5_nodeField_49 : decode cX5_nodeField 49 = .ok (.ireturn, 1) := by decide +kernel
theorem dX5_isDirectory_0 : decode cX5_isDirectory 0 = .ok (.iload_n 1, 1) := by decide +kernel
theorem dX5_isDirectory_1 : decode cX5_isDirectory 1 = .ok (.ifCond .lt 18, 3) := by decide +kernel
theorem dX5_isDirectory_4 : decode cX5_isDirectory 4 = .ok (.iload_n 1, 1) := by decide +kernel
theorem dX5_isDirectory_5 : decode cX5_isDirectory 5 = .ok (.iconst 1, 1) := by decide +kernel
theorem dX5_isDirectory_6 : decode cX5_isDirectory 6 = .ok (.if_icmp .gt 13, 3) := by decide +kernel
theorem dX5_isDirectory_9 : decode cX5_isDirectory 9 = .ok (.iload_n 2, 1) := by decide +kernel
theorem dX5_isDirectory_10 : decode cX5_isDirectory 10 = .ok (.ifCond .lt 9, 3) := by decide +kernel
theorem dX5_isDirectory_13 : decode cX5_isDirectory 13 = .ok (.iload_n 2, 1) := by decide +kernel
theorem dX5_isDirectory_14 : decode cX5_isDirectory 14 = .ok (.bipush 12, 2) := by decide +kernel
theorem dX5_isDirectory_16 : decode cX5_isDirectory 16 = .ok (.if_icmp .lt 5, 3) := by decide +kernel
theorem dX5_isDirectory_19 : decode cX5_isDirectory 19 = .ok (.iconst 0, 1) := by decide +kernel
theorem dX5_isDirectory_20 : decode cX5_isDirectory 20 = .ok (.ireturn, 1) := by decide +kernel
theorem dX5_isDirectory_21 : decode cX5_isDirectory 21 = .ok (.iload_n 1, 1) := by decide +kernel
theorem dX5_isDirectory_22 : decode cX5_isDirectory 22 = .ok (.sipush 256, 3) := by decide +kernel
theorem dX5_isDirectory_25 : decode cX5_isDirectory 25 = .ok (.imul, 1) := by decide +kernel
theorem dX5_isDirectory_26 : decode cX5_isDirectory 26 = .ok (.bipush 16, 2) := by decide +kernel
theorem dX5_isDirectory_28 : decode cX5_isDirectory 28 = .ok (.iadd, 1) := by decide +kernel
theorem dX5_isDirectory_29 : decode cX5_isDirectory 29 = .ok (.iload_n 2, 1) := by decide +kernel
theorem dX5_isDirectory_30 : decode cX5_isDirectory 30 = .ok (.iconst 4, 1) := by decide +kernel
theorem dX5_isDirectory_31 : decode cX5_isDirectory 31 = .ok (.imul, 1) := by decide +kernel
theorem dX5_isDirectory_32 : decode cX5_isDirectory 32 = .ok (.iadd, 1) := by decide +kernel
theorem dX5_isDirectory_33 : decode cX5_isDirectory 33 = .ok (.istore_n 3, 1) := by decide +kernel
theorem dX5_isDirectory_34 : decode cX5_isDirectory 34 = .ok (.aload_n 0, 1) := by decide +kernel
theorem dX5_isDirectory_35 : decode cX5_isDirectory 35 = .ok (.getfield 9, 3) := by decide +kernel
theorem dX5_isDirectory_38 : decode cX5_isDirectory 38 = .ok (.iload_n 3, 1) := by decide +kernel
theorem dX5_isDirectory_39 : decode cX5_isDirectory 39 = .ok (.iconst 0, 1) := by decide +kernel
theorem dX5_isDirectory_40 : decode cX5_isDirectory 40 = .ok (.iadd, 1) := by decide +kernel
theorem dX5_isDirectory_41 : decode cX5_isDirectory 41 = .ok (.baload, 1) := by decide +kernel
theorem dX5_isDirectory_42 : decode cX5_isDirectory 42 = .ok (.ifCond .eq 19, 3) := by decide +kernel
theorem dX5_isDirectory_45 : decode cX5_isDirectory 45 = .ok (.aload_n 0, 1) := by decide +kernel
theorem dX5_isDirectory_46 : decode cX5_isDirectory 46 = .ok (.getfield 9, 3) := by decide +kernel
theorem dX5_isDirectory_49 : decode cX5_isDirectory 49 = .ok (.iload_n 3, 1) := by decide +kernel
theorem dX5_isDirectory_50 : decode cX5_isDirectory 50 = .ok (.iconst 1, 1) := by decide +kernel
theorem dX5_isDirectory_51 : decode cX5_isDirectory 51 = .ok (.iadd, 1) := by decide +kernel
theorem dX5_isDirectory_52 : decode cX5_isDirectory 52 = .ok (.baload, 1) := by decide +kernel
theorem dX5_isDirectory_53 : decode cX5_isDirectory 53 = .ok (.iconst 2, 1) := by decide +kernel
theorem dX5_isDirectory_54 : decode cX5_isDirectory 54 = .ok (.if_icmp .ne 7, 3) := by decide +kernel
theorem dX5_isDirectory_57 : decode cX5_isDirectory 57 = .ok (.iconst 1, 1) := by decide +kernel
theorem dX5_isDirectory_58 : decode cX5_isDirectory 58 = .ok (.goto 4, 3) := by decide +kernel
theorem dX5_isDirectory_61 : decode cX5_isDirectory 61 = .ok (.iconst 0, 1) := by decide +kernel
theorem dX5_isDirectory_62 : decode cX5_isDirectory 62 = .ok (.ireturn, 1) := by decide +kernel
theorem dX5_putField_0 : decode cX5_putField 0 = .ok (.aload_n 0, 1) := by decide +kernel
theorem dX5_putField_1 : decode cX5_putField 1 = .ok (.iconst 1, 1) := by decide +kernel
theorem dX5_putField_2 : decode cX5_putField 2 = .ok (.iload_n 1, 1) := by decide +kernel
theorem dX5_putField_3 : decode cX5_putField 3 = .ok (.iconst 4, 1) := by decide +kernel
theorem dX5_putField_4 : decode cX5_putField 4 = .ok (.idiv, 1) := by decide +kernel
theorem dX5_putField_5 : decode cX5_putField 5 = .ok (.iadd, 1) := by decide +kernel
theorem dX5_putField_6 : decode cX5_putField 6 = .ok (.iload_n 1, 1) := by decide +kernel
theorem dX5_putField_7 : decode cX5_putField 7 = .ok (.iconst 4, 1) := by decide +kernel
theorem dX5_putField_8 : decode cX5_putField 8 = .ok (.irem, 1) := by decide +kernel
theorem dX5_putField_9 : decode cX5_putField 9 = .ok (.iconst 4, 1) := by decide +kernel
theorem dX5_putField_10 : decode cX5_putField 10 = .ok (.imul, 1) := by decide +kernel
theorem dX5_putField_11 : decode cX5_putField 11 = .ok (.iload_n 2, 1) := by decide +kernel
theorem dX5_putField_12 : decode cX5_putField 12 = .ok (.iadd, 1) := by decide +kernel
theorem dX5_putField_13 : decode cX5_putField 13 = .ok (.iload_n 3, 1) := by decide +kernel
theorem dX5_putField_14 : decode cX5_putField 14 = .ok (.invokevirtual 78, 3) := by decide +kernel
theorem dX5_putField_17 : decode cX5_putField 17 = .ok (.ireturn, 1) := by decide +kernel
theorem dX5_put_0 : decode cX5_put 0 = .ok (.iload_n 1, 1) := by decide +kernel
theorem dX5_put_1 : decode cX5_put 1 = .ok (.ifCond .lt 29, 3) := by decide +kernel
theorem dX5_put_4 : decode cX5_put 4 = .ok (.iload_n 1, 1) := by decide +kernel
theorem dX5_put_5 : decode cX5_put 5 = .ok (.bipush 16, 2) := by decide +kernel
theorem dX5_put_7 : decode cX5_put 7 = .ok (.if_icmp .ge 23, 3) := by decide +kernel
theorem dX5_put_10 : decode cX5_put 10 = .ok (.iload_n 2, 1) := by decide +kernel
theorem dX5_put_11 : decode cX5_put 11 = .ok (.ifCond .lt 19, 3) := by decide +kernel
theorem dX5_put_14 : decode cX5_put 14 = .ok (.iload_n 2, 1) := by decide +kernel
theorem dX5_put_15 : decode cX5_put 15 = .ok (.bipush 16, 2) := by decide +kernel
theorem dX5_put_17 : decode cX5_put 17 = .ok (.if_icmp .gt 13, 3) := by decide +kernel
theorem dX5_put_20 : decode cX5_put 20 = .ok (.aload_n 0, 1) := by decide +kernel
theorem dX5_put_21 : decode cX5_put 21 = .ok (.getfield 60, 3) := by decide +kernel
theorem dX5_put_24 : decode cX5_put 24 = .ok (.sipush 256, 3) := by decide +kernel
theorem dX5_put_27 : decode cX5_put 27 = .ok (.if_icmp .lt 5, 3) := by decide +kernel
theorem dX5_put_30 : decode cX5_put 30 = .ok (.iconst (-1), 1) := by decide +kernel
theorem dX5_put_31 : decode cX5_put 31 = .ok (.ireturn, 1) := by decide +kernel
theorem dX5_put_32 : decode cX5_put 32 = .ok (.iload_n 1, 1) := by decide +kernel
theorem dX5_put_33 : decode cX5_put 33 = .ok (.bipush 16, 2) := by decide +kernel
theorem dX5_put_35 : decode cX5_put 35 = .ok (.imul, 1) := by decide +kernel
theorem dX5_put_36 : decode cX5_put 36 = .ok (.iload_n 2, 1) := by decide +kernel
theorem dX5_put_37 : decode cX5_put 37 = .ok (.bipush 16, 2) := by decide +kernel
theorem dX5_put_39 : decode cX5_put 39 = .ok (.if_icmp .ne 7, 3) := by decide +kernel
theorem dX5_put_42 : decode cX5_put 42 = .ok (.iconst 0, 1) := by decide +kernel
theorem dX5_put_43 : decode cX5_put 43 = .ok (.goto 4, 3) := by decide +kernel
theorem dX5_put_46 : decode cX5_put 46 = .ok (.iload_n 2, 1) := by decide +kernel
theorem dX5_put_47 : decode cX5_put 47 = .ok (.iadd, 1) := by decide +kernel
theorem dX5_put_48 : decode cX5_put 48 = .ok (.istore 4, 2) := by decide +kernel
theorem dX5_put_50 : decode cX5_put 50 = .ok (.iload_n 1, 1) := by decide +kernel
theorem dX5_put_51 : decode cX5_put 51 = .ok (.bipush 16, 2) := by decide +kernel
theorem dX5_put_53 : decode cX5_put 53 = .ok (.imul, 1) := by decide +kernel
theorem dX5_put_54 : decode cX5_put 54 = .ok (.iload_n 2, 1) := by decide +kernel
theorem dX5_put_55 : decode cX5_put 55 = .ok (.bipush 16, 2) := by decide +kernel
theorem dX5_put_57 : decode cX5_put 57 = .ok (.if_icmp .ne 8, 3) := by decide +kernel
theorem dX5_put_60 : decode cX5_put 60 = .ok (.bipush 15, 2) := by decide +kernel
theorem dX5_put_62 : decode cX5_put 62 = .ok (.goto 4, 3) := by decide +kernel
theorem dX5_put_65 : decode cX5_put 65 = .ok (.iload_n 2, 1) := by decide +kernel
theorem dX5_put_66 : decode cX5_put 66 = .ok (.iadd, 1) := by decide +kernel
theorem dX5_put_67 : decode cX5_put 67 = .ok (.istore 5, 2) := by decide +kernel
theorem dX5_put_69 : decode cX5_put 69 = .ok (.iconst 1, 1) := by decide +kernel
theorem dX5_put_70 : decode cX5_put 70 = .ok (.istore 6, 2) := by decide +kernel
theorem dX5_put_72 : decode cX5_put 72 = .ok (.iload 4, 2) := by decide +kernel
theorem dX5_put_74 : decode cX5_put 74 = .ok (.istore 7, 2) := by decide +kernel
theorem dX5_put_76 : decode cX5_put 76 = .ok (.iload 7, 2) := by decide +kernel
theorem dX5_put_78 : decode cX5_put 78 = .ok (.iload 5, 2) := by decide +kernel
theorem dX5_put_80 : decode cX5_put 80 = .ok (.if_icmp .gt 32, 3) := by decide +kernel
theorem dX5_put_83 : decode cX5_put 83 = .ok (.iload 6, 2) := by decide +kernel
theorem dX5_put_85 : decode cX5_put 85 = .ok (.ifCond .eq 18, 3) := by decide +kernel
theorem dX5_put_88 : decode cX5_put 88 = .ok (.aload_n 0, 1) := by decide +kernel
theorem dX5_put_89 : decode cX5_put 89 = .ok (.getfield 9, 3) := by decide +kernel
theorem dX5_put_92 : decode cX5_put 92 = .ok (.iload 7, 2) := by decide +kernel
theorem dX5_put_94 : decode cX5_put 94 = .ok (.baload, 1) := by decide +kernel
theorem dX5_put_95 : decode cX5_put 95 = .ok (.iload_n 3, 1) := by decide +kernel
theorem dX5_put_96 : decode cX5_put 96 = .ok (.if_icmp .ne 7, 3) := by decide +kernel
theorem dX5_put_99 : decode cX5_put 99 = .ok (.iconst 1, 1) := by decide +kernel
theorem dX5_put_100 : decode cX5_put 100 = .ok (.goto 4, 3) := by decide +kernel
theorem dX5_put_103 : decode cX5_put 103 = .ok (.iconst 0, 1) := by decide +kernel
theorem dX5_put_104 : decode cX5_put 104 = .ok (.istore 6, 2) := by decide +kernel
theorem dX5_put_106 : decode cX5_put 106 = .ok (.iinc 7 1, 3) := by decide +kernel
theorem dX5_put_109 : decode cX5_put 109 = .ok (.goto (-33), 3) := by decide +kernel
theorem dX5_put_112 : decode cX5_put 112 = .ok (.iload 6, 2) := by decide +kernel
theorem dX5_put_114 : decode cX5_put 114 = .ok (.ifCond .eq 5, 3) := by decide +kernel
theorem dX5_put_117 : decode cX5_put 117 = .ok (.iconst (-1), 1) := by decide +kernel
theorem dX5_put_118 : decode cX5_put 118 = .ok (.ireturn, 1) := by decide +kernel
theorem dX5_put_119 : decode cX5_put 119 = .ok (.aload_n 0, 1) := by decide +kernel
theorem dX5_put_120 : decode cX5_put 120 = .ok (.getfield 60, 3) := by decide +kernel
theorem dX5_put_123 : decode cX5_put 123 = .ok (.istore 7, 2) := by decide +kernel
theorem dX5_put_125 : decode cX5_put 125 = .ok (.iload 4, 2) := by decide +kernel
theorem dX5_put_127 : decode cX5_put 127 = .ok (.istore 8, 2) := by decide +kernel
theorem dX5_put_129 : decode cX5_put 129 = .ok (.iload 8, 2) := by decide +kernel
theorem dX5_put_131 : decode cX5_put 131 = .ok (.iload 5, 2) := by decide +kernel
theorem dX5_put_133 : decode cX5_put 133 = .ok (.if_icmp .gt 43, 3) := by decide +kernel
theorem dX5_put_136 : decode cX5_put 136 = .ok (.aload_n 0, 1) := by decide +kernel
theorem dX5_put_137 : decode cX5_put 137 = .ok (.getfield 25, 3) := by decide +kernel
theorem dX5_put_140 : decode cX5_put 140 = .ok (.iload 7, 2) := by decide +kernel
theorem dX5_put_142 : decode cX5_put 142 = .ok (.bipush 16, 2) := by decide +kernel
theorem dX5_put_144 : decode cX5_put 144 = .ok (.imul, 1) := by decide +kernel
theorem dX5_put_145 : decode cX5_put 145 = .ok (.iload 8, 2) := by decide +kernel
theorem dX5_put_147 : decode cX5_put 147 = .ok (.iadd, 1) := by decide +kernel
theorem dX5_put_148 : decode cX5_put 148 = .ok (.iload_n 1, 1) := by decide +kernel
theorem dX5_put_149 : decode cX5_put 149 = .ok (.bipush 16, 2) := by decide +kernel
theorem dX5_put_151 : decode cX5_put 151 = .ok (.imul, 1) := by decide +kernel
theorem dX5_put_152 : decode cX5_put 152 = .ok (.isub, 1) := by decide +kernel
theorem dX5_put_153 : decode cX5_put 153 = .ok (.aload_n 0, 1) := by decide +kernel
theorem dX5_put_154 : decode cX5_put 154 = .ok (.getfield 9, 3) := by decide +kernel
theorem dX5_put_157 : decode cX5_put 157 = .ok (.iload 8, 2) := by decide +kernel
theorem dX5_put_159 : decode cX5_put 159 = .ok (.baload, 1) := by decide +kernel
theorem dX5_put_160 : decode cX5_put 160 = .ok (.bastore, 1) := by decide +kernel
theorem dX5_put_161 : decode cX5_put 161 = .ok (.aload_n 0, 1) := by decide +kernel
theorem dX5_put_162 : decode cX5_put 162 = .ok (.getfield 9, 3) := by decide +kernel
theorem dX5_put_165 : decode cX5_put 165 = .ok (.iload 8, 2) := by decide +kernel
theorem dX5_put_167 : decode cX5_put 167 = .ok (.iload_n 3, 1) := by decide +kernel
theorem dX5_put_168 : decode cX5_put 168 = .ok (.i2b, 1) := by decide +kernel
theorem dX5_put_169 : decode cX5_put 169 = .ok (.bastore, 1) := by decide +kernel
theorem dX5_put_170 : decode cX5_put 170 = .ok (.iinc 8 1, 3) := by decide +kernel
theorem dX5_put_173 : decode cX5_put 173 = .ok (.goto (-44), 3) := by decide +kernel
theorem dX5_put_176 : decode cX5_put 176 = .ok (.aload_n 0, 1) := by decide +kernel
theorem dX5_put_177 : decode cX5_put 177 = .ok (.getfield 15, 3) := by decide +kernel
theorem dX5_put_180 : decode cX5_put 180 = .ok (.iload 7, 2) := by decide +kernel
theorem dX5_put_182 : decode cX5_put 182 = .ok (.iload_n 1, 1) := by decide +kernel
theorem dX5_put_183 : decode cX5_put 183 = .ok (.iastore, 1) := by decide +kernel
theorem dX5_put_184 : decode cX5_put 184 = .ok (.aload_n 0, 1) := by decide +kernel
theorem dX5_put_185 : decode cX5_put 185 = .ok (.getfield 19, 3) := by decide +kernel
theorem dX5_put_188 : decode cX5_put 188 = .ok (.iload 7, 2) := by decide +kernel
theorem dX5_put_190 : decode cX5_put 190 = .ok (.iload_n 2, 1) := by decide +kernel
theorem dX5_put_191 : decode cX5_put 191 = .ok (.iastore, 1) := by decide +kernel
theorem dX5_put_192 : decode cX5_put 192 = .ok (.aload_n 0, 1) := by decide +kernel
theorem dX5_put_193 : decode cX5_put 193 = .ok (.getfield 22, 3) := by decide +kernel
theorem dX5_put_196 : decode cX5_put 196 = .ok (.iload 7, 2) := by decide +kernel
theorem dX5_put_198 : decode cX5_put 198 = .ok (.iload_n 3, 1) := by decide +kernel
theorem dX5_put_199 : decode cX5_put 199 = .ok (.iastore, 1) := by decide +kernel
theorem dX5_put_200 : decode cX5_put 200 = .ok (.iconst 0, 1) := by decide +kernel
theorem dX5_put_201 : decode cX5_put 201 = .ok (.istore 8, 2) := by decide +kernel
theorem dX5_put_203 : decode cX5_put 203 = .ok (.iload 8, 2) := by decide +kernel
theorem dX5_put_205 : decode cX5_put 205 = .ok (.iconst 4, 1) := by decide +kernel
theorem dX5_put_206 : decode cX5_put 206 = .ok (.if_icmp .ge 22, 3) := by decide +kernel
theorem dX5_put_209 : decode cX5_put 209 = .ok (.aload_n 0, 1) := by decide +kernel
theorem dX5_put_210 : decode cX5_put 210 = .ok (.getfield 28, 3) := by decide +kernel
theorem dX5_put_213 : decode cX5_put 213 = .ok (.iload 7, 2) := by decide +kernel
theorem dX5_put_215 : decode cX5_put 215 = .ok (.iconst 4, 1) := by decide +kernel
theorem dX5_put_216 : decode cX5_put 216 = .ok (.imul, 1) := by decide +kernel
theorem dX5_put_217 : decode cX5_put 217 = .ok (.iload 8, 2) := by decide +kernel
theorem dX5_put_219 : decode cX5_put 219 = .ok (.iadd, 1) := by decide +kernel
theorem dX5_put_220 : decode cX5_put 220 = .ok (.iconst (-1), 1) := by decide +kernel
theorem dX5_put_221 : decode cX5_put 221 = .ok (.iastore, 1) := by decide +kernel
theorem dX5_put_222 : decode cX5_put 222 = .ok (.iinc 8 1, 3) := by decide +kernel
theorem dX5_put_225 : decode cX5_put 225 = .ok (.goto (-22), 3) := by decide +kernel
theorem dX5_put_228 : decode cX5_put 228 = .ok (.aload_n 0, 1) := by decide +kernel
theorem dX5_put_229 : decode cX5_put 229 = .ok (.getfield 31, 3) := by decide +kernel
theorem dX5_put_232 : decode cX5_put 232 = .ok (.iload 7, 2) := by decide +kernel
theorem dX5_put_234 : decode cX5_put 234 = .ok (.iconst (-1), 1) := by decide +kernel
theorem dX5_put_235 : decode cX5_put 235 = .ok (.iastore, 1) := by decide +kernel
theorem dX5_put_236 : decode cX5_put 236 = .ok (.aload_n 0, 1) := by decide +kernel
theorem dX5_put_237 : decode cX5_put 237 = .ok (.dup, 1) := by decide +kernel
theorem dX5_put_238 : decode cX5_put 238 = .ok (.getfield 60, 3) := by decide +kernel
theorem dX5_put_241 : decode cX5_put 241 = .ok (.iconst 1, 1) := by decide +kernel
theorem dX5_put_242 : decode cX5_put 242 = .ok (.iadd, 1) := by decide +kernel
theorem dX5_put_243 : decode cX5_put 243 = .ok (.putfield 60, 3) := by decide +kernel
theorem dX5_put_246 : decode cX5_put 246 = .ok (.aload_n 0, 1) := by decide +kernel
theorem dX5_put_247 : decode cX5_put 247 = .ok (.dup, 1) := by decide +kernel
theorem dX5_put_248 : decode cX5_put 248 = .ok (.getfield 75, 3) := by decide +kernel
theorem dX5_put_251 : decode cX5_put 251 = .ok (.iconst 1, 1) := by decide +kernel
theorem dX5_put_252 : decode cX5_put 252 = .ok (.iadd, 1) := by decide +kernel
theorem dX5_put_253 : decode cX5_put 253 = .ok (.putfield 75, 3) := by decide +kernel
theorem dX5_put_256 : decode cX5_put 256 = .ok (.iload 7, 2) := by decide +kernel
theorem dX5_put_258 : decode cX5_put 258 = .ok (.ireturn, 1) := by decide +kernel
theorem dX5_need_0 : decode cX5_need 0 = .ok (.iload_n 1, 1) := by decide +kernel
theorem dX5_need_1 : decode cX5_need 1 = .ok (.ifCond .lt 20, 3) := by decide +kernel
theorem dX5_need_4 : decode cX5_need 4 = .ok (.iload_n 1, 1) := by decide +kernel
theorem dX5_need_5 : decode cX5_need 5 = .ok (.aload_n 0, 1) := by decide +kernel
theorem dX5_need_6 : decode cX5_need 6 = .ok (.getfield 60, 3) := by decide +kernel
theorem dX5_need_9 : decode cX5_need 9 = .ok (.if_icmp .ge 12, 3) := by decide +kernel
theorem dX5_need_12 : decode cX5_need 12 = .ok (.iload_n 2, 1) := by decide +kernel
theorem dX5_need_13 : decode cX5_need 13 = .ok (.ifCond .lt 8, 3) := by decide +kernel
theorem dX5_need_16 : decode cX5_need 16 = .ok (.iload_n 2, 1) := by decide +kernel
theorem dX5_need_17 : decode cX5_need 17 = .ok (.iload_n 1, 1) := by decide +kernel
theorem dX5_need_18 : decode cX5_need 18 = .ok (.if_icmp .lt 4, 3) := by decide +kernel
theorem dX5_need_21 : decode cX5_need 21 = .ok (.return_, 1) := by decide +kernel
theorem dX5_need_22 : decode cX5_need 22 = .ok (.iload_n 1, 1) := by decide +kernel
theorem dX5_need_23 : decode cX5_need 23 = .ok (.iconst 4, 1) := by decide +kernel
theorem dX5_need_24 : decode cX5_need 24 = .ok (.imul, 1) := by decide +kernel
theorem dX5_need_25 : decode cX5_need 25 = .ok (.istore_n 3, 1) := by decide +kernel
theorem dX5_need_26 : decode cX5_need 26 = .ok (.iload_n 3, 1) := by decide +kernel
theorem dX5_need_27 : decode cX5_need 27 = .ok (.iload_n 1, 1) := by decide +kernel
theorem dX5_need_28 : decode cX5_need 28 = .ok (.iconst 1, 1) := by decide +kernel
theorem dX5_need_29 : decode cX5_need 29 = .ok (.iadd, 1) := by decide +kernel
theorem dX5_need_30 : decode cX5_need 30 = .ok (.iconst 4, 1) := by decide +kernel
theorem dX5_need_31 : decode cX5_need 31 = .ok (.imul, 1) := by decide +kernel
theorem dX5_need_32 : decode cX5_need 32 = .ok (.if_icmp .ge 27, 3) := by decide +kernel
theorem dX5_need_35 : decode cX5_need 35 = .ok (.aload_n 0, 1) := by decide +kernel
theorem dX5_need_36 : decode cX5_need 36 = .ok (.getfield 28, 3) := by decide +kernel
theorem dX5_need_39 : decode cX5_need 39 = .ok (.iload_n 3, 1) := by decide +kernel
theorem dX5_need_40 : decode cX5_need 40 = .ok (.iaload, 1) := by decide +kernel
theorem dX5_need_41 : decode cX5_need 41 = .ok (.iconst (-1), 1) := by decide +kernel
theorem dX5_need_42 : decode cX5_need 42 = .ok (.if_icmp .ne 11, 3) := by decide +kernel
theorem dX5_need_45 : decode cX5_need 45 = .ok (.aload_n 0, 1) := by decide +kernel
theorem dX5_need_46 : decode cX5_need 46 = .ok (.getfield 28, 3) := by decide +kernel
theorem dX5_need_49 : decode cX5_need 49 = .ok (.iload_n 3, 1) := by decide +kernel
theorem dX5_need_50 : decode cX5_need 50 = .ok (.iload_n 2, 1) := by decide +kernel
theorem dX5_need_51 : decode cX5_need 51 = .ok (.iastore, 1) := by decide +kernel
theorem dX5_need_52 : decode cX5_need 52 = .ok (.return_, 1) := by decide +kernel
theorem dX5_need_53 : decode cX5_need 53 = .ok (.iinc 3 1, 3) := by decide +kernel
theorem dX5_need_56 : decode cX5_need 56 = .ok (.goto (-30), 3) := by decide +kernel
theorem dX5_need_59 : decode cX5_need 59 = .ok (.return_, 1) := by decide +kernel
theorem dX5_needAllOf_0 : decode cX5_needAllOf 0 = .ok (.iload_n 1, 1) := by decide +kernel
theorem dX5_needAllOf_1 : decode cX5_needAllOf 1 = .ok (.ifCond .lt 18, 3) := by decide +kernel
theorem dX5_needAllOf_4 : decode cX5_needAllOf 4 = .ok (.iload_n 1, 1) := by decide +kernel
theorem dX5_needAllOf_5 : decode cX5_needAllOf 5 = .ok (.aload_n 0, 1) := by decide +kernel
theorem dX5_needAllOf_6 : decode cX5_needAllOf 6 = .ok (.getfield 60, 3) := by decide +kernel
theorem dX5_needAllOf_9 : decode cX5_needAllOf 9 = .ok (.if_icmp .ge 10, 3) := by decide +kernel
theorem dX5_needAllOf_12 : decode cX5_needAllOf 12 = .ok (.aload_n 0, 1) := by decide +kernel
theorem dX5_needAllOf_13 : decode cX5_needAllOf 13 = .ok (.getfield 31, 3) := by decide +kernel
theorem dX5_needAllOf_16 : decode cX5_needAllOf 16 = .ok (.iload_n 1, 1) := by decide +kernel
theorem dX5_needAllOf_17 : decode cX5_needAllOf 17 = .ok (.iload_n 2, 1) := by decide +kernel
theorem dX5_needAllOf_18 : decode cX5_needAllOf 18 = .ok (.iastore, 1) := by decide +kernel
theorem dX5_needAllOf_19 : decode cX5_needAllOf 19 = .ok (.return_, 1) := by decide +kernel
theorem dX5_putOff_0 : decode cX5_putOff 0 = .ok (.iload_n 2, 1) := by decide +kernel
theorem dX5_putOff_1 : decode cX5_putOff 1 = .ok (.iconst (-1), 1) := by decide +kernel
theorem dX5_putOff_2 : decode cX5_putOff 2 = .ok (.if_icmp .eq 42, 3) := by decide +kernel
theorem dX5_putOff_5 : decode cX5_putOff 5 = .ok (.aload_n 0, 1) := by decide +kernel
theorem dX5_putOff_6 : decode cX5_putOff 6 = .ok (.getfield 63, 3) := by decide +kernel
theorem dX5_putOff_9 : decode cX5_putOff 9 = .ok (.bipush 64, 2) := by decide +kernel
theorem dX5_putOff_11 : decode cX5_putOff 11 = .ok (.if_icmp .ge 33, 3) := by decide +kernel
theorem dX5_putOff_14 : decode cX5_putOff 14 = .ok (.aload_n 0, 1) := by decide +kernel
theorem dX5_putOff_15 : decode cX5_putOff 15 = .ok (.getfield 37, 3) := by decide +kernel
theorem dX5_putOff_18 : decode cX5_putOff 18 = .ok (.aload_n 0, 1) := by decide +kernel
theorem dX5_putOff_19 : decode cX5_putOff 19 = .ok (.getfield 63, 3) := by decide +kernel
theorem dX5_putOff_22 : decode cX5_putOff 22 = .ok (.iload_n 1, 1) := by decide +kernel
theorem dX5_putOff_23 : decode cX5_putOff 23 = .ok (.iastore, 1) := by decide +kernel
theorem dX5_putOff_24 : decode cX5_putOff 24 = .ok (.aload_n 0, 1) := by decide +kernel
theorem dX5_putOff_25 : decode cX5_putOff 25 = .ok (.getfield 34, 3) := by decide +kernel
theorem dX5_putOff_28 : decode cX5_putOff 28 = .ok (.aload_n 0, 1) := by decide +kernel
theorem dX5_putOff_29 : decode cX5_putOff 29 = .ok (.getfield 63, 3) := by decide +kernel
theorem dX5_putOff_32 : decode cX5_putOff 32 = .ok (.iload_n 2, 1) := by decide +kernel
theorem dX5_putOff_33 : decode cX5_putOff 33 = .ok (.iastore, 1) := by decide +kernel
theorem dX5_putOff_34 : decode cX5_putOff 34 = .ok (.aload_n 0, 1) := by decide +kernel
theorem dX5_putOff_35 : decode cX5_putOff 35 = .ok (.dup, 1) := by decide +kernel
theorem dX5_putOff_36 : decode cX5_putOff 36 = .ok (.getfield 63, 3) := by decide +kernel
theorem dX5_putOff_39 : decode cX5_putOff 39 = .ok (.iconst 1, 1) := by decide +kernel
theorem dX5_putOff_40 : decode cX5_putOff 40 = .ok (.iadd, 1) := by decide +kernel
theorem dX5_putOff_41 : decode cX5_putOff 41 = .ok (.putfield 63, 3) := by decide +kernel
theorem dX5_putOff_44 : decode cX5_putOff 44 = .ok (.return_, 1) := by decide +kernel
theorem dX5_setLinks_0 : decode cX5_setLinks 0 = .ok (.iconst 1, 1) := by decide +kernel
theorem dX5_setLinks_1 : decode cX5_setLinks 1 = .ok (.iload_n 1, 1) := by decide +kernel
theorem dX5_setLinks_2 : decode cX5_setLinks 2 = .ok (.iconst 4, 1) := by decide +kernel
theorem dX5_setLinks_3 : decode cX5_setLinks 3 = .ok (.idiv, 1) := by decide +kernel
theorem dX5_setLinks_4 : decode cX5_setLinks 4 = .ok (.iadd, 1) := by decide +kernel
theorem dX5_setLinks_5 : decode cX5_setLinks 5 = .ok (.istore_n 3, 1) := by decide +kernel
theorem dX5_setLinks_6 : decode cX5_setLinks 6 = .ok (.iload_n 1, 1) := by decide +kernel
theorem dX5_setLinks_7 : decode cX5_setLinks 7 = .ok (.iconst 4, 1) := by decide +kernel
theorem dX5_setLinks_8 : decode cX5_setLinks 8 = .ok (.irem, 1) := by decide +kernel
theorem dX5_setLinks_9 : decode cX5_setLinks 9 = .ok (.iconst 4, 1) := by decide +kernel
theorem dX5_setLinks_10 : decode cX5_setLinks 10 = .ok (.imul, 1) := by decide +kernel
theorem dX5_setLinks_11 : decode cX5_setLinks 11 = .ok (.istore 4, 2) := by decide +kernel
theorem dX5_setLinks_13 : decode cX5_setLinks 13 = .ok (.aload_n 0, 1) := by decide +kernel
theorem dX5_setLinks_14 : decode cX5_setLinks 14 = .ok (.iload_n 3, 1) := by decide +kernel
theorem dX5_setLinks_15 : decode cX5_setLinks 15 = .ok (.iload 4, 2) := by decide +kernel
theorem dX5_setLinks_17 : decode cX5_setLinks 17 = .ok (.iconst 0, 1) := by decide +kernel
theorem dX5_setLinks_18 : decode cX5_setLinks 18 = .ok (.iadd, 1) := by decide +kernel
theorem dX5_setLinks_19 : decode cX5_setLinks 19 = .ok (.iload_n 2, 1) := by decide +kernel
theorem dX5_setLinks_20 : decode cX5_setLinks 20 = .ok (.invokevirtual 78, 3) := by decide +kernel
theorem dX5_setLinks_23 : decode cX5_setLinks 23 = .ok (.pop, 1) := by decide +kernel
theorem dX5_setLinks_24 : decode cX5_setLinks 24 = .ok (.iload_n 2, 1) := by decide +kernel
theorem dX5_setLinks_25 : decode cX5_setLinks 25 = .ok (.ifCond .eq 4, 3) := by decide +kernel
theorem dX5_setLinks_28 : decode cX5_setLinks 28 = .ok (.return_, 1) := by decide +kernel
theorem dX5_setLinks_29 : decode cX5_setLinks 29 = .ok (.aload_n 0, 1) := by decide +kernel
theorem dX5_setLinks_30 : decode cX5_setLinks 30 = .ok (.iload_n 3, 1) := by decide +kernel
theorem dX5_setLinks_31 : decode cX5_setLinks 31 = .ok (.iload 4, 2) := by decide +kernel
theorem dX5_setLinks_33 : decode cX5_setLinks 33 = .ok (.iconst 1, 1) := by decide +kernel
theorem dX5_setLinks_34 : decode cX5_setLinks 34 = .ok (.iadd, 1) := by decide +kernel
theorem dX5_setLinks_35 : decode cX5_setLinks 35 = .ok (.iconst 0, 1) := by decide +kernel
theorem dX5_setLinks_36 : decode cX5_setLinks 36 = .ok (.invokevirtual 78, 3) := by decide +kernel
theorem dX5_setLinks_39 : decode cX5_setLinks 39 = .ok (.pop, 1) := by decide +kernel
theorem dX5_setLinks_40 : decode cX5_setLinks 40 = .ok (.iconst 2, 1) := by decide +kernel
theorem dX5_setLinks_41 : decode cX5_setLinks 41 = .ok (.istore 5, 2) := by decide +kernel
theorem dX5_setLinks_43 : decode cX5_setLinks 43 = .ok (.iload 5, 2) := by decide +kernel
theorem dX5_setLinks_45 : decode cX5_setLinks 45 = .ok (.iconst 3, 1) := by decide +kernel
theorem dX5_setLinks_46 : decode cX5_setLinks 46 = .ok (.if_icmp .gt 44, 3) := by decide +kernel
theorem dX5_setLinks_49 : decode cX5_setLinks 49 = .ok (.aload_n 0, 1) := by decide +kernel
theorem dX5_setLinks_50 : decode cX5_setLinks 50 = .ok (.iconst 0, 1) := by decide +kernel
theorem dX5_setLinks_51 : decode cX5_setLinks 51 = .ok (.iload_n 1, 1) := by decide +kernel
theorem dX5_setLinks_52 : decode cX5_setLinks 52 = .ok (.iload 5, 2) := by decide +kernel
theorem dX5_setLinks_54 : decode cX5_setLinks 54 = .ok (.invokevirtual 82, 3) := by decide +kernel
theorem dX5_setLinks_57 : decode cX5_setLinks 57 = .ok (.istore 6, 2) := by decide +kernel
theorem dX5_setLinks_59 : decode cX5_setLinks 59 = .ok (.iload 6, 2) := by decide +kernel
theorem dX5_setLinks_61 : decode cX5_setLinks 61 = .ok (.ifCond .eq 23, 3) := by decide +kernel
theorem dX5_setLinks_64 : decode cX5_setLinks 64 = .ok (.aload_n 0, 1) := by decide +kernel
theorem dX5_setLinks_65 : decode cX5_setLinks 65 = .ok (.bipush 100, 2) := by decide +kernel
theorem dX5_setLinks_67 : decode cX5_setLinks 67 = .ok (.iload 6, 2) := by decide +kernel
theorem dX5_setLinks_69 : decode cX5_setLinks 69 = .ok (.iadd, 1) := by decide +kernel
theorem dX5_setLinks_70 : decode cX5_setLinks 70 = .ok (.aload_n 0, 1) := by decide +kernel
theorem dX5_setLinks_71 : decode cX5_setLinks 71 = .ok (.iload_n 3, 1) := by decide +kernel
theorem dX5_setLinks_72 : decode cX5_setLinks 72 = .ok (.iload 4, 2) := by decide +kernel
theorem dX5_setLinks_74 : decode cX5_setLinks 74 = .ok (.iload 5, 2) := by decide +kernel
theorem dX5_setLinks_76 : decode cX5_setLinks 76 = .ok (.iadd, 1) := by decide +kernel
theorem dX5_setLinks_77 : decode cX5_setLinks 77 = .ok (.iconst 0, 1) := by decide +kernel
theorem dX5_setLinks_78 : decode cX5_setLinks 78 = .ok (.invokevirtual 78, 3) := by decide +kernel
theorem dX5_setLinks_81 : decode cX5_setLinks 81 = .ok (.invokevirtual 85, 3) := by decide +kernel
theorem dX5_setLinks_84 : decode cX5_setLinks 84 = .ok (.iinc 5 1, 3) := by decide +kernel
theorem dX5_setLinks_87 : decode cX5_setLinks 87 = .ok (.goto (-44), 3) := by decide +kernel
theorem dX5_setLinks_90 : decode cX5_setLinks 90 = .ok (.return_, 1) := by decide +kernel
theorem dX5_doPutOff_0 : decode cX5_doPutOff 0 = .ok (.iload_n 1, 1) := by decide +kernel
theorem dX5_doPutOff_1 : decode cX5_doPutOff 1 = .ok (.bipush 100, 2) := by decide +kernel
theorem dX5_doPutOff_3 : decode cX5_doPutOff 3 = .ok (.if_icmp .lt 15, 3) := by decide +kernel
theorem dX5_doPutOff_6 : decode cX5_doPutOff 6 = .ok (.aload_n 0, 1) := by decide +kernel
theorem dX5_doPutOff_7 : decode cX5_doPutOff 7 = .ok (.iconst 0, 1) := by decide +kernel
theorem dX5_doPutOff_8 : decode cX5_doPutOff 8 = .ok (.iload_n 1, 1) := by decide +kernel
theorem dX5_doPutOff_9 : decode cX5_doPutOff 9 = .ok (.bipush 100, 2) := by decide +kernel
theorem dX5_doPutOff_11 : decode cX5_doPutOff 11 = .ok (.isub, 1) := by decide +kernel
theorem dX5_doPutOff_12 : decode cX5_doPutOff 12 = .ok (.iconst 0, 1) := by decide +kernel
theorem dX5_doPutOff_13 : decode cX5_doPutOff 13 = .ok (.invokevirtual 78, 3) := by decide +kernel
theorem dX5_doPutOff_16 : decode cX5_doPutOff 16 = .ok (.pop, 1) := by decide +kernel
theorem dX5_doPutOff_17 : decode cX5_doPutOff 17 = .ok (.return_, 1) := by decide +kernel
theorem dX5_doPutOff_18 : decode cX5_doPutOff 18 = .ok (.aload_n 0, 1) := by decide +kernel
theorem dX5_doPutOff_19 : decode cX5_doPutOff 19 = .ok (.iconst 0, 1) := by decide +kernel
theorem dX5_doPutOff_20 : decode cX5_doPutOff 20 = .ok (.iload_n 1, 1) := by decide +kernel
theorem dX5_doPutOff_21 : decode cX5_doPutOff 21 = .ok (.iconst 0, 1) := by decide +kernel
theorem dX5_doPutOff_22 : decode cX5_doPutOff 22 = .ok (.invokevirtual 82, 3) := by decide +kernel
theorem dX5_doPutOff_25 : decode cX5_doPutOff 25 = .ok (.istore_n 2, 1) := by decide +kernel
theorem dX5_doPutOff_26 : decode cX5_doPutOff 26 = .ok (.iload_n 2, 1) := by decide +kernel
theorem dX5_doPutOff_27 : decode cX5_doPutOff 27 = .ok (.ifCond .le 11, 3) := by decide +kernel
theorem dX5_doPutOff_30 : decode cX5_doPutOff 30 = .ok (.aload_n 0, 1) := by decide +kernel
theorem dX5_doPutOff_31 : decode cX5_doPutOff 31 = .ok (.iload_n 1, 1) := by decide +kernel
theorem dX5_doPutOff_32 : decode cX5_doPutOff 32 = .ok (.iload_n 2, 1) := by decide +kernel
theorem dX5_doPutOff_33 : decode cX5_doPutOff 33 = .ok (.iconst 1, 1) := by decide +kernel
theorem dX5_doPutOff_34 : decode cX5_doPutOff 34 = .ok (.isub, 1) := by decide +kernel
theorem dX5_doPutOff_35 : decode cX5_doPutOff 35 = .ok (.invokevirtual 89, 3) := by decide +kernel
theorem dX5_doPutOff_38 : decode cX5_doPutOff 38 = .ok (.return_, 1) := by decide +kernel
theorem dX5_countPutOff_0 : decode cX5_countPutOff 0 = .ok (.iconst 0, 1) := by decide +kernel
theorem dX5_countPutOff_1 : decode cX5_countPutOff 1 = .ok (.istore_n 2, 1) := by decide +kernel
theorem dX5_countPutOff_2 : decode cX5_countPutOff 2 = .ok (.iconst 0, 1) := by decide +kernel
theorem dX5_countPutOff_3 : decode cX5_countPutOff 3 = .ok (.istore_n 3, 1) := by decide +kernel
theorem dX5_countPutOff_4 : decode cX5_countPutOff 4 = .ok (.iload_n 3, 1) := by decide +kernel
theorem dX5_countPutOff_5 : decode cX5_countPutOff 5 = .ok (.aload_n 0, 1) := by decide +kernel
theorem dX5_countPutOff_6 : decode cX5_countPutOff 6 = .ok (.getfield 63, 3) := by decide +kernel
theorem dX5_countPutOff_9 : decode cX5_countPutOff 9 = .ok (.if_icmp .ge 22, 3) := by decide +kernel
theorem dX5_countPutOff_12 : decode cX5_countPutOff 12 = .ok (.aload_n 0, 1) := by decide +kernel
theorem dX5_countPutOff_13 : decode cX5_countPutOff 13 = .ok (.getfield 37, 3) := by decide +kernel
theorem dX5_countPutOff_16 : decode cX5_countPutOff 16 = .ok (.iload_n 3, 1) := by decide +kernel
theorem dX5_countPutOff_17 : decode cX5_countPutOff 17 = .ok (.iaload, 1) := by decide +kernel
theorem dX5_countPutOff_18 : decode cX5_countPutOff 18 = .ok (.iload_n 1, 1) := by decide +kernel
theorem dX5_countPutOff_19 : decode cX5_countPutOff 19 = .ok (.if_icmp .ne 6, 3) := by decide +kernel
theorem dX5_countPutOff_22 : decode cX5_countPutOff 22 = .ok (.iinc 2 1, 3) := by decide +kernel
theorem dX5_countPutOff_25 : decode cX5_countPutOff 25 = .ok (.iinc 3 1, 3) := by decide +kernel
theorem dX5_countPutOff_28 : decode cX5_countPutOff 28 = .ok (.goto (-24), 3) := by decide +kernel
theorem dX5_countPutOff_31 : decode cX5_countPutOff 31 = .ok (.iload_n 2, 1) := by decide +kernel
theorem dX5_countPutOff_32 : decode cX5_countPutOff 32 = .ok (.ireturn, 1) := by decide +kernel
theorem dX5_latestOf_0 : decode cX5_latestOf 0 = .ok (.aload_n 0, 1) := by decide +kernel
theorem dX5_latestOf_1 : decode cX5_latestOf 1 = .ok (.getfield 60, 3) := by decide +kernel
theorem dX5_latestOf_4 : decode cX5_latestOf 4 = .ok (.iconst 1, 1) := by decide +kernel
theorem dX5_latestOf_5 : decode cX5_latestOf 5 = .ok (.isub, 1) := by decide +kernel
theorem dX5_latestOf_6 : decode cX5_latestOf 6 = .ok (.istore_n 3, 1) := by decide +kernel
theorem dX5_latestOf_7 : decode cX5_latestOf 7 = .ok (.iload_n 3, 1) := by decide +kernel
theorem dX5_latestOf_8 : decode cX5_latestOf 8 = .ok (.ifCond .lt 31, 3) := by decide +kernel
theorem dX5_latestOf_11 : decode cX5_latestOf 11 = .ok (.aload_n 0, 1) := by decide +kernel
theorem dX5_latestOf_12 : decode cX5_latestOf 12 = .ok (.getfield 15, 3) := by decide +kernel
theorem dX5_latestOf_15 : decode cX5_latestOf 15 = .ok (.iload_n 3, 1) := by decide +kernel
theorem dX5_latestOf_16 : decode cX5_latestOf 16 = .ok (.iaload, 1) := by decide +kernel
theorem dX5_latestOf_17 : decode cX5_latestOf 17 = .ok (.iload_n 1, 1) := by decide +kernel
theorem dX5_latestOf_18 : decode cX5_latestOf 18 = .ok (.if_icmp .ne 15, 3) := by decide +kernel
theorem dX5_latestOf_21 : decode cX5_latestOf 21 = .ok (.aload_n 0, 1) := by decide +kernel
theorem dX5_latestOf_22 : decode cX5_latestOf 22 = .ok (.getfield 19, 3) := by decide +kernel
theorem dX5_latestOf_25 : decode cX5_latestOf 25 = .ok (.iload_n 3, 1) := by decide +kernel
theorem dX5_latestOf_26 : decode cX5_latestOf 26 = .ok (.iaload, 1) := by decide +kernel
theorem dX5_latestOf_27 : decode cX5_latestOf 27 = .ok (.iload_n 2, 1) := by decide +kernel
theorem dX5_latestOf_28 : decode cX5_latestOf 28 = .ok (.if_icmp .ne 5, 3) := by decide +kernel
theorem dX5_latestOf_31 : decode cX5_latestOf 31 = .ok (.iload_n 3, 1) := by decide +kernel
theorem dX5_latestOf_32 : decode cX5_latestOf 32 = .ok (.ireturn, 1) := by decide +kernel
theorem dX5_latestOf_33 : decode cX5_latestOf 33 = .ok (.iinc 3 (-1), 3) := by decide +kernel
theorem dX5_latestOf_36 : decode cX5_latestOf 36 = .ok (.goto (-29), 3) := by decide +kernel
theorem dX5_latestOf_39 : decode cX5_latestOf 39 = .ok (.iconst (-1), 1) := by decide +kernel
theorem dX5_latestOf_40 : decode cX5_latestOf 40 = .ok (.ireturn, 1) := by decide +kernel
theorem dX5_dirtyBlocks_0 : decode cX5_dirtyBlocks 0 = .ok (.iconst 0, 1) := by decide +kernel
theorem dX5_dirtyBlocks_1 : decode cX5_dirtyBlocks 1 = .ok (.istore_n 1, 1) := by decide +kernel
theorem dX5_dirtyBlocks_2 : decode cX5_dirtyBlocks 2 = .ok (.iconst 0, 1) := by decide +kernel
theorem dX5_dirtyBlocks_3 : decode cX5_dirtyBlocks 3 = .ok (.istore_n 2, 1) := by decide +kernel
theorem dX5_dirtyBlocks_4 : decode cX5_dirtyBlocks 4 = .ok (.iload_n 2, 1) := by decide +kernel
theorem dX5_dirtyBlocks_5 : decode cX5_dirtyBlocks 5 = .ok (.aload_n 0, 1) := by decide +kernel
theorem dX5_dirtyBlocks_6 : decode cX5_dirtyBlocks 6 = .ok (.getfield 60, 3) := by decide +kernel
theorem dX5_dirtyBlocks_9 : decode cX5_dirtyBlocks 9 = .ok (.if_icmp .ge 20, 3) := by decide +kernel
theorem dX5_dirtyBlocks_12 : decode cX5_dirtyBlocks 12 = .ok (.iload_n 1, 1) := by decide +kernel
theorem dX5_dirtyBlocks_13 : decode cX5_dirtyBlocks 13 = .ok (.iconst 1, 1) := by decide +kernel
theorem dX5_dirtyBlocks_14 : decode cX5_dirtyBlocks 14 = .ok (.aload_n 0, 1) := by decide +kernel
theorem dX5_dirtyBlocks_15 : decode cX5_dirtyBlocks 15 = .ok (.getfield 15, 3) := by decide +kernel
theorem dX5_dirtyBlocks_18 : decode cX5_dirtyBlocks 18 = .ok (.iload_n 2, 1) := by decide +kernel
theorem dX5_dirtyBlocks_19 : decode cX5_dirtyBlocks 19 = .ok (.iaload, 1) := by decide +kernel
theorem dX5_dirtyBlocks_20 : decode cX5_dirtyBlocks 20 = .ok (.ishl, 1) := by decide +kernel
theorem dX5_dirtyBlocks_21 : decode cX5_dirtyBlocks 21 = .ok (.ior, 1) := by decide +kernel
theorem dX5_dirtyBlocks_22 : decode cX5_dirtyBlocks 22 = .ok (.istore_n 1, 1) := by decide +kernel
theorem dX5_dirtyBlocks_23 : decode cX5_dirtyBlocks 23 = .ok (.iinc 2 1, 3) := by decide +kernel
theorem dX5_dirtyBlocks_26 : decode cX5_dirtyBlocks 26 = .ok (.goto (-22), 3) := by decide +kernel
theorem dX5_dirtyBlocks_29 : decode cX5_dirtyBlocks 29 = .ok (.iload_n 1, 1) := by decide +kernel
theorem dX5_dirtyBlocks_30 : decode cX5_dirtyBlocks 30 = .ok (.ireturn, 1) := by decide +kernel
theorem dX5_firstPlace_0 : decode cX5_firstPlace 0 = .ok (.aload_n 0, 1) := by decide +kernel
theorem dX5_firstPlace_1 : decode cX5_firstPlace 1 = .ok (.getfield 19, 3) := by decide +kernel
theorem dX5_firstPlace_4 : decode cX5_firstPlace 4 = .ok (.iload_n 1, 1) := by decide +kernel
theorem dX5_firstPlace_5 : decode cX5_firstPlace 5 = .ok (.iaload, 1) := by decide +kernel
theorem dX5_firstPlace_6 : decode cX5_firstPlace 6 = .ok (.bipush 16, 2) := by decide +kernel
theorem dX5_firstPlace_8 : decode cX5_firstPlace 8 = .ok (.if_icmp .ne 7, 3) := by decide +kernel
theorem dX5_firstPlace_11 : decode cX5_firstPlace 11 = .ok (.iconst 0, 1) := by decide +kernel
theorem dX5_firstPlace_12 : decode cX5_firstPlace 12 = .ok (.goto 9, 3) := by decide +kernel
theorem dX5_firstPlace_15 : decode cX5_firstPlace 15 = .ok (.aload_n 0, 1) := by decide +kernel
theorem dX5_firstPlace_16 : decode cX5_firstPlace 16 = .ok (.getfield 19, 3) := by decide +kernel
theorem dX5_firstPlace_19 : decode cX5_firstPlace 19 = .ok (.iload_n 1, 1) := by decide +kernel
theorem dX5_firstPlace_20 : decode cX5_firstPlace 20 = .ok (.iaload, 1) := by decide +kernel
theorem dX5_firstPlace_21 : decode cX5_firstPlace 21 = .ok (.ireturn, 1) := by decide +kernel
theorem dX5_countNeeds_0 : decode cX5_countNeeds 0 = .ok (.iconst 0, 1) := by decide +kernel
theorem dX5_countNeeds_1 : decode cX5_countNeeds 1 = .ok (.istore_n 2, 1) := by decide +kernel
theorem dX5_countNeeds_2 : decode cX5_countNeeds 2 = .ok (.iload_n 1, 1) := by decide +kernel
theorem dX5_countNeeds_3 : decode cX5_countNeeds 3 = .ok (.iconst 4, 1) := by decide +kernel
theorem dX5_countNeeds_4 : decode cX5_countNeeds 4 = .ok (.imul, 1) := by decide +kernel
theorem dX5_countNeeds_5 : decode cX5_countNeeds 5 = .ok (.istore_n 3, 1) := by decide +kernel
theorem dX5_countNeeds_6 : decode cX5_countNeeds 6 = .ok (.iload_n 3, 1) := by decide +kernel
theorem dX5_countNeeds_7 : decode cX5_countNeeds 7 = .ok (.iload_n 1, 1) := by decide +kernel
theorem dX5_countNeeds_8 : decode cX5_countNeeds 8 = .ok (.iconst 1, 1) := by decide +kernel
theorem dX5_countNeeds_9 : decode cX5_countNeeds 9 = .ok (.iadd, 1) := by decide +kernel
theorem dX5_countNeeds_10 : decode cX5_countNeeds 10 = .ok (.iconst 4, 1) := by decide +kernel
theorem dX5_countNeeds_11 : decode cX5_countNeeds 11 = .ok (.imul, 1) := by decide +kernel
theorem dX5_countNeeds_12 : decode cX5_countNeeds 12 = .ok (.if_icmp .ge 22, 3) := by decide +kernel
theorem dX5_countNeeds_15 : decode cX5_countNeeds 15 = .ok (.aload_n 0, 1) := by decide +kernel
theorem dX5_countNeeds_16 : decode cX5_countNeeds 16 = .ok (.getfield 28, 3) := by decide +kernel
theorem dX5_countNeeds_19 : decode cX5_countNeeds 19 = .ok (.iload_n 3, 1) := by decide +kernel
theorem dX5_countNeeds_20 : decode cX5_countNeeds 20 = .ok (.iaload, 1) := by decide +kernel
theorem dX5_countNeeds_21 : decode cX5_countNeeds 21 = .ok (.iconst (-1), 1) := by decide +kernel
theorem dX5_countNeeds_22 : decode cX5_countNeeds 22 = .ok (.if_icmp .eq 6, 3) := by decide +kernel
theorem dX5_countNeeds_25 : decode cX5_countNeeds 25 = .ok (.iinc 2 1, 3) := by decide +kernel
theorem dX5_countNeeds_28 : decode cX5_countNeeds 28 = .ok (.iinc 3 1, 3) := by decide +kernel
theorem dX5_countNeeds_31 : decode cX5_countNeeds 31 = .ok (.goto (-25), 3) := by decide +kernel
theorem dX5_countNeeds_34 : decode cX5_countNeeds 34 = .ok (.iconst 0, 1) := by decide +kernel
theorem dX5_countNeeds_35 : decode cX5_countNeeds 35 = .ok (.istore_n 3, 1) := by decide +kernel
theorem dX5_countNeeds_36 : decode cX5_countNeeds 36 = .ok (.aload_n 0, 1) := by decide +kernel
theorem dX5_countNeeds_37 : decode cX5_countNeeds 37 = .ok (.getfield 31, 3) := by decide +kernel
theorem dX5_countNeeds_40 : decode cX5_countNeeds 40 = .ok (.iload_n 1, 1) := by decide +kernel
theorem dX5_countNeeds_41 : decode cX5_countNeeds 41 = .ok (.iaload, 1) := by decide +kernel
theorem dX5_countNeeds_42 : decode cX5_countNeeds 42 = .ok (.iconst (-1), 1) := by decide +kernel
theorem dX5_countNeeds_43 : decode cX5_countNeeds 43 = .ok (.if_icmp .eq 32, 3) := by decide +kernel
theorem dX5_countNeeds_46 : decode cX5_countNeeds 46 = .ok (.iload_n 3, 1) := by decide +kernel
theorem dX5_countNeeds_47 : decode cX5_countNeeds 47 = .ok (.iload_n 1, 1) := by decide +kernel
theorem dX5_countNeeds_48 : decode cX5_countNeeds 48 = .ok (.if_icmp .ge 27, 3) := by decide +kernel
theorem dX5_countNeeds_51 : decode cX5_countNeeds 51 = .ok (.aload_n 0, 1) := by decide +kernel
theorem dX5_countNeeds_52 : decode cX5_countNeeds 52 = .ok (.getfield 15, 3) := by decide +kernel
theorem dX5_countNeeds_55 : decode cX5_countNeeds 55 = .ok (.iload_n 3, 1) := by decide +kernel
theorem dX5_countNeeds_56 : decode cX5_countNeeds 56 = .ok (.iaload, 1) := by decide +kernel
theorem dX5_countNeeds_57 : decode cX5_countNeeds 57 = .ok (.aload_n 0, 1) := by decide +kernel
theorem dX5_countNeeds_58 : decode cX5_countNeeds 58 = .ok (.getfield 31, 3) := by decide +kernel
theorem dX5_countNeeds_61 : decode cX5_countNeeds 61 = .ok (.iload_n 1, 1) := by decide +kernel
theorem dX5_countNeeds_62 : decode cX5_countNeeds 62 = .ok (.iaload, 1) := by decide +kernel
theorem dX5_countNeeds_63 : decode cX5_countNeeds 63 = .ok (.if_icmp .ne 6, 3) := by decide +kernel
theorem dX5_countNeeds_66 : decode cX5_countNeeds 66 = .ok (.iinc 2 1, 3) := by decide +kernel
theorem dX5_countNeeds_69 : decode cX5_countNeeds 69 = .ok (.iinc 3 1, 3) := by decide +kernel
theorem dX5_countNeeds_72 : decode cX5_countNeeds 72 = .ok (.goto (-36), 3) := by decide +kernel
theorem dX5_countNeeds_75 : decode cX5_countNeeds 75 = .ok (.iload_n 2, 1) := by decide +kernel
theorem dX5_countNeeds_76 : decode cX5_countNeeds 76 = .ok (.ireturn, 1) := by decide +kernel
theorem dX5_blocksNeededBy_0 : decode cX5_blocksNeededBy 0 = .ok (.iconst 0, 1) := by decide +kernel
theorem dX5_blocksNeededBy_1 : decode cX5_blocksNeededBy 1 = .ok (.istore_n 2, 1) := by decide +kernel
theorem dX5_blocksNeededBy_2 : decode cX5_blocksNeededBy 2 = .ok (.iconst 0, 1) := by decide +kernel
theorem dX5_blocksNeededBy_3 : decode cX5_blocksNeededBy 3 = .ok (.istore_n 3, 1) := by decide +kernel
theorem dX5_blocksNeededBy_4 : decode cX5_blocksNeededBy 4 = .ok (.iconst 0, 1) := by decide +kernel
theorem dX5_blocksNeededBy_5 : decode cX5_blocksNeededBy 5 = .ok (.istore 4, 2) := by decide +kernel
theorem dX5_blocksNeededBy_7 : decode cX5_blocksNeededBy 7 = .ok (.iload 4, 2) := by decide +kernel
theorem dX5_blocksNeededBy_9 : decode cX5_blocksNeededBy 9 = .ok (.aload_n 0, 1) := by decide +kernel
theorem dX5_blocksNeededBy_10 : decode cX5_blocksNeededBy 10 = .ok (.getfield 60, 3) := by decide +kernel
theorem dX5_blocksNeededBy_13 : decode cX5_blocksNeededBy 13 = .ok (.if_icmp .ge 116, 3) := by decide +kernel
theorem dX5_blocksNeededBy_16 : decode cX5_blocksNeededBy 16 = .ok (.aload_n 0, 1) := by decide +kernel
theorem dX5_blocksNeededBy_17 : decode cX5_blocksNeededBy 17 = .ok (.getfield 15, 3) := by decide +kernel
theorem dX5_blocksNeededBy_20 : decode cX5_blocksNeededBy 20 = .ok (.iload 4, 2) := by decide +kernel
theorem dX5_blocksNeededBy_22 : decode cX5_blocksNeededBy 22 = .ok (.iaload, 1) := by decide +kernel
theorem dX5_blocksNeededBy_23 : decode cX5_blocksNeededBy 23 = .ok (.iload_n 1, 1) := by decide +kernel
theorem dX5_blocksNeededBy_24 : decode cX5_blocksNeededBy 24 = .ok (.if_icmp .ne 87, 3) := by decide +kernel
theorem dX5_blocksNeededBy_27 : decode cX5_blocksNeededBy 27 = .ok (.iload 4, 2) := by decide +kernel
theorem dX5_blocksNeededBy_29 : decode cX5_blocksNeededBy 29 = .ok (.iconst 4, 1) := by decide +kernel
theorem dX5_blocksNeededBy_30 : decode cX5_blocksNeededBy 30 = .ok (.imul, 1) := by decide +kernel
theorem dX5_blocksNeededBy_31 : decode cX5_blocksNeededBy 31 = .ok (.istore 5, 2) := by decide +kernel
theorem dX5_blocksNeededBy_33 : decode cX5_blocksNeededBy 33 = .ok (.iload 5, 2) := by decide +kernel
theorem dX5_blocksNeededBy_35 : decode cX5_blocksNeededBy 35 = .ok (.iload 4, 2) := by decide +kernel
theorem dX5_blocksNeededBy_37 : decode cX5_blocksNeededBy 37 = .ok (.iconst 1, 1) := by decide +kernel
theorem dX5_blocksNeededBy_38 : decode cX5_blocksNeededBy 38 = .ok (.iadd, 1) := by decide +kernel
theorem dX5_blocksNeededBy_39 : decode cX5_blocksNeededBy 39 = .ok (.iconst 4, 1) := by decide +kernel
theorem dX5_blocksNeededBy_40 : decode cX5_blocksNeededBy 40 = .ok (.imul, 1) := by decide +kernel
theorem dX5_blocksNeededBy_41 : decode cX5_blocksNeededBy 41 = .ok (.if_icmp .ge 41, 3) := by decide +kernel
theorem dX5_blocksNeededBy_44 : decode cX5_blocksNeededBy 44 = .ok (.iload_n 2, 1) := by decide +kernel
theorem dX5_blocksNeededBy_45 : decode cX5_blocksNeededBy 45 = .ok (.aload_n 0, 1) := by decide +kernel
theorem dX5_blocksNeededBy_46 : decode cX5_blocksNeededBy 46 = .ok (.getfield 28, 3) := by decide +kernel
theorem dX5_blocksNeededBy_49 : decode cX5_blocksNeededBy 49 = .ok (.iload 5, 2) := by decide +kernel
theorem dX5_blocksNeededBy_51 : decode cX5_blocksNeededBy 51 = .ok (.iaload, 1) := by decide +kernel
theorem dX5_blocksNeededBy_52 : decode cX5_blocksNeededBy 52 = .ok (.iconst (-1), 1) := by decide +kernel
theorem dX5_blocksNeededBy_53 : decode cX5_blocksNeededBy 53 = .ok (.if_icmp .ne 7, 3) := by decide +kernel
theorem dX5_blocksNeededBy_56 : decode cX5_blocksNeededBy 56 = .ok (.iconst 0, 1) := by decide +kernel
theorem dX5_blocksNeededBy_57 : decode cX5_blocksNeededBy 57 = .ok (.goto 17, 3) := by decide +kernel
theorem dX5_blocksNeededBy_60 : decode cX5_blocksNeededBy 60 = .ok (.iconst 1, 1) := by decide +kernel
theorem dX5_blocksNeededBy_61 : decode cX5_blocksNeededBy 61 = .ok (.aload_n 0, 1) := by decide +kernel
theorem dX5_blocksNeededBy_62 : decode cX5_blocksNeededBy 62 = .ok (.getfield 15, 3) := by decide +kernel
theorem dX5_blocksNeededBy_65 : decode cX5_blocksNeededBy 65 = .ok (.aload_n 0, 1) := by decide +kernel
theorem dX5_blocksNeededBy_66 : decode cX5_blocksNeededBy 66 = .ok (.getfield 28, 3) := by decide +kernel
theorem dX5_blocksNeededBy_69 : decode cX5_blocksNeededBy 69 = .ok (.iload 5, 2) := by decide +kernel
theorem dX5_blocksNeededBy_71 : decode cX5_blocksNeededBy 71 = .ok (.iaload, 1) := by decide +kernel
theorem dX5_blocksNeededBy_72 : decode cX5_blocksNeededBy 72 = .ok (.iaload, 1) := by decide +kernel
theorem dX5_blocksNeededBy_73 : decode cX5_blocksNeededBy 73 = .ok (.ishl, 1) := by decide +kernel
theorem dX5_blocksNeededBy_74 : decode cX5_blocksNeededBy 74 = .ok (.ior, 1) := by decide +kernel
theorem dX5_blocksNeededBy_75 : decode cX5_blocksNeededBy 75 = .ok (.istore_n 2, 1) := by decide +kernel
theorem dX5_blocksNeededBy_76 : decode cX5_blocksNeededBy 76 = .ok (.iinc 5 1, 3) := by decide +kernel
theorem dX5_blocksNeededBy_79 : decode cX5_blocksNeededBy 79 = .ok (.goto (-46), 3) := by decide +kernel
theorem dX5_blocksNeededBy_82 : decode cX5_blocksNeededBy 82 = .ok (.iload_n 2, 1) := by decide +kernel
theorem dX5_blocksNeededBy_83 : decode cX5_blocksNeededBy 83 = .ok (.aload_n 0, 1) := by decide +kernel
theorem dX5_blocksNeededBy_84 : decode cX5_blocksNeededBy 84 = .ok (.getfield 31, 3) := by decide +kernel
theorem dX5_blocksNeededBy_87 : decode cX5_blocksNeededBy 87 = .ok (.iload 4, 2) := by decide +kernel
theorem dX5_blocksNeededBy_89 : decode cX5_blocksNeededBy 89 = .ok (.iaload, 1) := by decide +kernel
theorem dX5_blocksNeededBy_90 : decode cX5_blocksNeededBy 90 = .ok (.iconst (-1), 1) := by decide +kernel
theorem dX5_blocksNeededBy_91 : decode cX5_blocksNeededBy 91 = .ok (.if_icmp .ne 7, 3) := by decide +kernel
theorem dX5_blocksNeededBy_94 : decode cX5_blocksNeededBy 94 = .ok (.iconst 0, 1) := by decide +kernel
theorem dX5_blocksNeededBy_95 : decode cX5_blocksNeededBy 95 = .ok (.goto 14, 3) := by decide +kernel
theorem dX5_blocksNeededBy_98 : decode cX5_blocksNeededBy 98 = .ok (.iload_n 3, 1) := by decide +kernel
theorem dX5_blocksNeededBy_99 : decode cX5_blocksNeededBy 99 = .ok (.iconst 1, 1) := by decide +kernel
theorem dX5_blocksNeededBy_100 : decode cX5_blocksNeededBy 100 = .ok (.aload_n 0, 1) := by decide +kernel
theorem dX5_blocksNeededBy_101 : decode cX5_blocksNeededBy 101 = .ok (.getfield 31, 3) := by decide +kernel
theorem dX5_blocksNeededBy_104 : decode cX5_blocksNeededBy 104 = .ok (.iload 4, 2) := by decide +kernel
theorem dX5_blocksNeededBy_106 : decode cX5_blocksNeededBy 106 = .ok (.iaload, 1) := by decide +kernel
theorem dX5_blocksNeededBy_107 : decode cX5_blocksNeededBy 107 = .ok (.ishl, 1) := by decide +kernel
theorem dX5_blocksNeededBy_108 : decode cX5_blocksNeededBy 108 = .ok (.iand, 1) := by decide +kernel
theorem dX5_blocksNeededBy_109 : decode cX5_blocksNeededBy 109 = .ok (.ior, 1) := by decide +kernel
theorem dX5_blocksNeededBy_110 : decode cX5_blocksNeededBy 110 = .ok (.istore_n 2, 1) := by decide +kernel
theorem dX5_blocksNeededBy_111 : decode cX5_blocksNeededBy 111 = .ok (.iload_n 3, 1) := by decide +kernel
theorem dX5_blocksNeededBy_112 : decode cX5_blocksNeededBy 112 = .ok (.iconst 1, 1) := by decide +kernel
theorem dX5_blocksNeededBy_113 : decode cX5_blocksNeededBy 113 = .ok (.aload_n 0, 1) := by decide +kernel
theorem dX5_blocksNeededBy_114 : decode cX5_blocksNeededBy 114 = .ok (.getfield 15, 3) := by decide +kernel
theorem dX5_blocksNeededBy_117 : decode cX5_blocksNeededBy 117 = .ok (.iload 4, 2) := by decide +kernel
theorem dX5_blocksNeededBy_119 : decode cX5_blocksNeededBy 119 = .ok (.iaload, 1) := by decide +kernel
theorem dX5_blocksNeededBy_120 : decode cX5_blocksNeededBy 120 = .ok (.ishl, 1) := by decide +kernel
theorem dX5_blocksNeededBy_121 : decode cX5_blocksNeededBy 121 = .ok (.ior, 1) := by decide +kernel
theorem dX5_blocksNeededBy_122 : decode cX5_blocksNeededBy 122 = .ok (.istore_n 3, 1) := by decide +kernel
theorem dX5_blocksNeededBy_123 : decode cX5_blocksNeededBy 123 = .ok (.iinc 4 1, 3) := by decide +kernel
theorem dX5_blocksNeededBy_126 : decode cX5_blocksNeededBy 126 = .ok (.goto (-119), 3) := by decide +kernel
theorem dX5_blocksNeededBy_129 : decode cX5_blocksNeededBy 129 = .ok (.iload_n 2, 1) := by decide +kernel
theorem dX5_blocksNeededBy_130 : decode cX5_blocksNeededBy 130 = .ok (.iconst 1, 1) := by decide +kernel
theorem dX5_blocksNeededBy_131 : decode cX5_blocksNeededBy 131 = .ok (.iload_n 1, 1) := by decide +kernel
theorem dX5_blocksNeededBy_132 : decode cX5_blocksNeededBy 132 = .ok (.ishl, 1) := by decide +kernel
theorem dX5_blocksNeededBy_133 : decode cX5_blocksNeededBy 133 = .ok (.iconst (-1), 1) := by decide +kernel
theorem dX5_blocksNeededBy_134 : decode cX5_blocksNeededBy 134 = .ok (.ixor, 1) := by decide +kernel
theorem dX5_blocksNeededBy_135 : decode cX5_blocksNeededBy 135 = .ok (.iand, 1) := by decide +kernel
theorem dX5_blocksNeededBy_136 : decode cX5_blocksNeededBy 136 = .ok (.ireturn, 1) := by decide +kernel
theorem eX5_init {G : GG} {d : Nat} {h : Hp} {o : OU} {h' : Hp} (r0 : Nat) (hd : 1 ≤ d) (T : r0 ≠ 0 ∧ (∀ h2 : Hp, h2 = (nwH h 2 512 512) → kH h2 r0 = 15 ∧ (∀ h5 : Hp, h5 = (sR h2 r0 1 (nH h)) → (∀ h7 : Hp, h7 = (nwH h5 1 256 256) → kH h7 r0 = 15 ∧ (∀ h10 : Hp, h10 = (sR h7 r0 3 (nH h5)) → (∀ h12 : Hp, h12 = (nwH h10 1 256 256) → kH h12 r0 = 15 ∧ (∀ h15 : Hp, h15 = (sR h12 r0 4 (nH h10)) → (∀ h17 : Hp, h17 = (nwH h15 1 256 256) → kH h17 r0 = 15 ∧ (∀ h20 : Hp, h20 = (sR h17 r0 5 (nH h15)) → (∀ h22 : Hp, h22 = (nwH h20 2 4096 4096) → kH h22 r0 = 15 ∧ (∀ h25 : Hp, h25 = (sR h22 r0 6 (nH h20)) → (∀ h27 : Hp, h27 = (nwH h25 1 1024 1024) → kH h27 r0 = 15 ∧ (∀ h30 : Hp, h30 = (sR h27 r0 7 (nH h25)) → (∀ h32 : Hp, h32 = (nwH h30 1 256 256) → kH h32 r0 = 15 ∧ (∀ h35 : Hp, h35 = (sR h32 r0 8 (nH h30)) → (∀ h37 : Hp, h37 = (nwH h35 1 64 64) → kH h37 r0 = 15 ∧ (∀ h40 : Hp, h40 = (sR h37 r0 10 (nH h35)) → (∀ h42 : Hp, h42 = (nwH h40 1 64 64) → kH h42 r0 = 15 ∧ (∀ h45 : Hp, h45 = (sR h42 r0 11 (nH h40)) → kH h45 r0 = 15 ∧ ∃ h47, VM G mX5_begin (d - 1) [.ref r0, .int 16] h45 (.inl none) h47 ∧ (o = .inl none ∧ h' = h47)))))))))))))))))))) : VM G mX5_init d [.ref r0] h o h' := by
  refine V.toM rfl rfl (le_l rfl) (cat_all rfl) ?_
  show V G mX5_init d 0 [.ref r0] [] h o h'
  have hdd : d - 1 + 1 ≤ d := by omega
  refine v_aload_n (pc' := 1) dX5_init_0 rfl rfl ?_
  obtain ⟨q1, T⟩ := T
  refine v_objInit (pc' := 4) dX5_init_1 rfl km_X5_3 kx_oi kx_oc hd (le_l rfl) q1 ?_
  refine v_aload_n (pc' := 5) dX5_init_4 rfl rfl ?_
  refine v_sipush (pc' := 8) (v := 512) dX5_init_5 rfl kS_512 ?_
  refine v_newa (pc' := 10) 2 (N := 512) dX5_init_8 rfl (by decide) rfl ka_byte (by decide) (by decide) (by decide) ?_
  show V G mX5_init d 10 [.ref r0] [.ref (nH h), .ref r0] (nwH h 2 512 512) o h'
  obtain ⟨h2, e3⟩ : ∃ z : Hp, z = (nwH h 2 512 512) := ⟨_, rfl⟩
  rw [← e3]
  have T := T h2 e3
  obtain ⟨q4, T⟩ := T
  refine v_putF (pc' := 13) 5 1 dX5_init_10 rfl (by decide) (by decide) rfl rfl rfl rfl kf_X5_9 q4 ?_
  show V G mX5_init d 13 [.ref r0] [] (sR h2 r0 1 (nH h)) o h'
  obtain ⟨h5, e6⟩ : ∃ z : Hp, z = (sR h2 r0 1 (nH h)) := ⟨_, rfl⟩
  rw [← e6]
  have T := T h5 e6
  refine v_aload_n (pc' := 14) dX5_init_13 rfl rfl ?_
  refine v_sipush (pc' := 17) (v := 256) dX5_init_14 rfl kS_256 ?_
  refine v_newa (pc' := 19) 1 (N := 256) dX5_init_17 rfl (by decide) rfl ka_int (by decide) (by decide) (by decide) ?_
  show V G mX5_init d 19 [.ref r0] [.ref (nH h5), .ref r0] (nwH h5 1 256 256) o h'
  obtain ⟨h7, e8⟩ : ∃ z : Hp, z = (nwH h5 1 256 256) := ⟨_, rfl⟩
  rw [← e8]
  have T := T h7 e8
  obtain ⟨q9, T⟩ := T
  refine v_putF (pc' := 22) 5 3 dX5_init_19 rfl (by decide) (by decide) rfl rfl rfl rfl kf_X5_15 q9 ?_
  show V G mX5_init d 22 [.ref r0] [] (sR h7 r0 3 (nH h5)) o h'
  obtain ⟨h10, e11⟩ : ∃ z : Hp, z = (sR h7 r0 3 (nH h5)) := ⟨_, rfl⟩
  rw [← e11]
  have T := T h10 e11
  refine v_aload_n (pc' := 23) dX5_init_22 rfl rfl ?_
  refine v_sipush (pc' := 26) (v := 256) dX5_init_23 rfl kS_256 ?_
  refine v_newa (pc' := 28) 1 (N := 256) dX5_init_26 rfl (by decide) rfl ka_int (by decide) (by decide) (by decide) ?_
  show V G mX5_init d 28 [.ref r0] [.ref (nH h10), .ref r0] (nwH h10 1 256 256) o h'
  obtain ⟨h12, e13⟩ : ∃ z : Hp, z = (nwH h10 1 256 256) := ⟨_, rfl⟩
  rw [← e13]
  have T := T h12 e13
  obtain ⟨q14, T⟩ := T
  refine v_putF (pc' := 31) 5 4 dX5_init_28 rfl (by decide) (by decide) rfl rfl rfl rfl kf_X5_19 q14 ?_
  show V G mX5_init d 31 [.ref r0] [] (sR h12 r0 4 (nH h10)) o h'
  obtain ⟨h15, e16⟩ : ∃ z : Hp, z = (sR h12 r0 4 (nH h10)) := ⟨_, rfl⟩
  rw [← e16]
  have T := T h15 e16
  refine v_aload_n (pc' := 32) dX5_init_31 rfl rfl ?_
  refine v_sipush (pc' := 35) (v := 256) dX5_init_32 rfl kS_256 ?_
  refine v_newa (pc' := 37) 1 (N := 256) dX5_init_35 rfl (by decide) rfl ka_int (by decide) (by decide) (by decide) ?_
  show V G mX5_init d 37 [.ref r0] [.ref (nH h15), .ref r0] (nwH h15 1 256 256) o h'
  obtain ⟨h17, e18⟩ : ∃ z : Hp, z = (nwH h15 1 256 256) := ⟨_, rfl⟩
  rw [← e18]
  have T := T h17 e18
  obtain ⟨q19, T⟩ := T
  refine v_putF (pc' := 40) 5 5 dX5_init_37 rfl (by decide) (by decide) rfl rfl rfl rfl kf_X5_22 q19 ?_
  show V G mX5_init d 40 [.ref r0] [] (sR h17 r0 5 (nH h15)) o h'
  obtain ⟨h20, e21⟩ : ∃ z : Hp, z = (sR h17 r0 5 (nH h15)) := ⟨_, rfl⟩
  rw [← e21]
  have T := T h20 e21
  refine v_aload_n (pc' := 41) dX5_init_40 rfl rfl ?_
  refine v_sipush (pc' := 44) (v := 4096) dX5_init_41 rfl kS_4096 ?_
  refine v_newa (pc' := 46) 2 (N := 4096) dX5_init_44 rfl (by decide) rfl ka_byte (by decide) (by decide) (by decide) ?_
  show V G mX5_init d 46 [.ref r0] [.ref (nH h20), .ref r0] (nwH h20 2 4096 4096) o h'
  obtain ⟨h22, e23⟩ : ∃ z : Hp, z = (nwH h20 2 4096 4096) := ⟨_, rfl⟩
  rw [← e23]
  have T := T h22 e23
  obtain ⟨q24, T⟩ := T
  refine v_putF (pc' := 49) 5 6 dX5_init_46 rfl (by decide) (by decide) rfl rfl rfl rfl kf_X5_25 q24 ?_
  show V G mX5_init d 49 [.ref r0] [] (sR h22 r0 6 (nH h20)) o h'
  obtain ⟨h25, e26⟩ : ∃ z : Hp, z = (sR h22 r0 6 (nH h20)) := ⟨_, rfl⟩
  rw [← e26]
  have T := T h25 e26
  refine v_aload_n (pc' := 50) dX5_init_49 rfl rfl ?_
  refine v_sipush (pc' := 53) (v := 1024) dX5_init_50 rfl kS_1024 ?_
  refine v_newa (pc' := 55) 1 (N := 1024) dX5_init_53 rfl (by decide) rfl ka_int (by decide) (by decide) (by decide) ?_
  show V G mX5_init d 55 [.ref r0] [.ref (nH h25), .ref r0] (nwH h25 1 1024 1024) o h'
  obtain ⟨h27, e28⟩ : ∃ z : Hp, z = (nwH h25 1 1024 1024) := ⟨_, rfl⟩
  rw [← e28]
  have T := T h27 e28
  obtain ⟨q29, T⟩ := T
  refine v_putF (pc' := 58) 5 7 dX5_init_55 rfl (by decide) (by decide) rfl rfl rfl rfl kf_X5_28 q29 ?_
  show V G mX5_init d 58 [.ref r0] [] (sR h27 r0 7 (nH h25)) o h'
  obtain ⟨h30, e31⟩ : ∃ z : Hp, z = (sR h27 r0 7 (nH h25)) := ⟨_, rfl⟩
  rw [← e31]
  have T := T h30 e31
  refine v_aload_n (pc' := 59) dX5_init_58 rfl rfl ?_
  refine v_sipush (pc' := 62) (v := 256) dX5_init_59 rfl kS_256 ?_
  refine v_newa (pc' := 64) 1 (N := 256) dX5_init_62 rfl (by decide) rfl ka_int (by decide) (by decide) (by decide) ?_
  show V G mX5_init d 64 [.ref r0] [.ref (nH h30), .ref r0] (nwH h30 1 256 256) o h'
  obtain ⟨h32, e33⟩ : ∃ z : Hp, z = (nwH h30 1 256 256) := ⟨_, rfl⟩
  rw [← e33]
  have T := T h32 e33
  obtain ⟨q34, T⟩ := T
  refine v_putF (pc' := 67) 5 8 dX5_init_64 rfl (by decide) (by decide) rfl rfl rfl rfl kf_X5_31 q34 ?_
  show V G mX5_init d 67 [.ref r0] [] (sR h32 r0 8 (nH h30)) o h'
  obtain ⟨h35, e36⟩ : ∃ z : Hp, z = (sR h32 r0 8 (nH h30)) := ⟨_, rfl⟩
  rw [← e36]
  have T := T h35 e36
  refine v_aload_n (pc' := 68) dX5_init_67 rfl rfl ?_
  refine v_bipush (pc' := 70) (v := 64) dX5_init_68 rfl kB_64 ?_
  refine v_newa (pc' := 72) 1 (N := 64) dX5_init_70 rfl (by decide) rfl ka_int (by decide) (by decide) (by decide) ?_
  show V G mX5_init d 72 [.ref r0] [.ref (nH h35), .ref r0] (nwH h35 1 64 64) o h'
  obtain ⟨h37, e38⟩ : ∃ z : Hp, z = (nwH h35 1 64 64) := ⟨_, rfl⟩
  rw [← e38]
  have T := T h37 e38
  obtain ⟨q39, T⟩ := T
  refine v_putF (pc' := 75) 5 10 dX5_init_72 rfl (by decide) (by decide) rfl rfl rfl rfl kf_X5_34 q39 ?_
  show V G mX5_init d 75 [.ref r0] [] (sR h37 r0 10 (nH h35)) o h'
  obtain ⟨h40, e41⟩ : ∃ z : Hp, z = (sR h37 r0 10 (nH h35)) := ⟨_, rfl⟩
  rw [← e41]
  have T := T h40 e41
  refine v_aload_n (pc' := 76) dX5_init_75 rfl rfl ?_
  refine v_bipush (pc' := 78) (v := 64) dX5_init_76 rfl kB_64 ?_
  refine v_newa (pc' := 80) 1 (N := 64) dX5_init_78 rfl (by decide) rfl ka_int (by decide) (by decide) (by decide) ?_
  show V G mX5_init d 80 [.ref r0] [.ref (nH h40), .ref r0] (nwH h40 1 64 64) o h'
  obtain ⟨h42, e43⟩ : ∃ z : Hp, z = (nwH h40 1 64 64) := ⟨_, rfl⟩
  rw [← e43]
  have T := T h42 e43
  obtain ⟨q44, T⟩ := T
  refine v_putF (pc' := 83) 5 11 dX5_init_80 rfl (by decide) (by decide) rfl rfl rfl rfl kf_X5_37 q44 ?_
  show V G mX5_init d 83 [.ref r0] [] (sR h42 r0 11 (nH h40)) o h'
  obtain ⟨h45, e46⟩ : ∃ z : Hp, z = (sR h42 r0 11 (nH h40)) := ⟨_, rfl⟩
  rw [← e46]
  have T := T h45 e46
  refine v_aload_n (pc' := 84) dX5_init_83 rfl rfl ?_
  refine v_bipush (pc' := 86) (v := 16) dX5_init_84 rfl kB_16 ?_
  obtain ⟨q49, T⟩ := T
  obtain ⟨h47, k48, T⟩ := T
  refine v_callV (pc' := 89) (M1 := mX5_begin) (as := [.int 16]) (r := r0) (rest := []) 5 dX5_init_86 rfl ko_X5_40 kc_X5_begin ki_X5_begin ks_X5_begin (by decide) (by decide) hdd rfl rfl (le_l rfl) q49 k48 ?_
  exact v_vret dX5_init_89 rfl T
theorem eX5_begin {G : GG} {d : Nat} {h : Hp} {o : OU} {h' : Hp} (r0 : Nat) (x1 : Int32) (T : kH h r0 = 15 ∧ V G mX5_begin d 7 [.ref r0, uV, .int 0] [] (h.1, (upI h.2 r0 0 x1)) o h') : VM G mX5_begin d [.ref r0, .int x1] h o h' := by
  refine V.toM rfl rfl (le_l rfl) (cat_all rfl) ?_
  show V G mX5_begin d 0 [.ref r0, .int x1, uV] [] h o h'
  refine v_aload_n (pc' := 1) dX5_begin_0 rfl rfl ?_
  refine v_iload_n (pc' := 2) dX5_begin_1 rfl rfl ?_
  obtain ⟨q1, T⟩ := T
  refine v_putI (pc' := 5) 5 0 dX5_begin_2 rfl (by decide) (by decide) rfl rfl kf_X5_44 q1 ?_
  refine v_iconst (pc' := 6) (v := 0) dX5_begin_5 rfl kI_0 ?_
  refine v_istore_n (pc' := 7) (loc' := [.ref r0, .int x1, .int 0]) dX5_begin_6 rfl (lt_l rfl) rfl ?_
  exact V.drop (llp_r (llp_u (llp_r llp_nil))) T
theorem bX5_begin_7 {G : GG} {d : Nat} {h : Hp} {o : OU} {h' : Hp} (r0 : Nat) (x2 : Int32) (T : kH h r0 = 15 ∧ kH h (rH h r0 1) = 2 ∧ ((((lH h (rH h r0 1)).toInt32) ≤ x2 → V G mX5_begin d 31 [.ref r0, uV, .int 0] [] h o h') ∧ (¬ ((lH h (rH h r0 1)).toInt32) ≤ x2 → vp_in x2 (lH h (rH h r0 1)) ∧ V G mX5_begin d 7 [.ref r0, uV, .int (x2 + 1)] [] (h.1, (upI h.2 (rH h r0 1) x2.toNatClampNeg ((0 : Int32).toInt8.toInt32))) o h'))) : V G mX5_begin d 7 [.ref r0, uV, .int x2] [] h o h' := by
  refine v_iload_n (pc' := 8) dX5_begin_7 rfl rfl ?_
  refine v_aload_n (pc' := 9) dX5_begin_8 rfl rfl ?_
  obtain ⟨q1, T⟩ := T
  refine v_getR (pc' := 12) 5 1 dX5_begin_9 rfl (by decide) (by decide) rfl kf_X5_9 q1 ?_
  obtain ⟨q2, T⟩ := T
  refine v_alen (pc' := 13) dX5_begin_12 rfl q2 (by decide) rfl ?_
  refine v_icmp_ge (tgt := 29) (pc' := 16) dX5_begin_13 (by decide) rfl ⟨fun c3 => ?_, fun c3 => ?_⟩
  · have T := T.1 c3
    refine v_iconst (pc' := 30) (v := 0) dX5_begin_29 rfl kI_0 ?_
    refine v_istore_n (pc' := 31) (loc' := [.ref r0, uV, .int 0]) dX5_begin_30 rfl (lt_l rfl) rfl ?_
    exact T
  · have T := T.2 c3
    refine v_aload_n (pc' := 17) dX5_begin_16 rfl rfl ?_
    refine v_getR (pc' := 20) 5 1 dX5_begin_17 rfl (by decide) (by decide) rfl kf_X5_9 q1 ?_
    refine v_iload_n (pc' := 21) dX5_begin_20 rfl rfl ?_
    refine v_iconst (pc' := 22) (v := 0) dX5_begin_21 rfl kI_0 ?_
    obtain ⟨q4, T⟩ := T
    refine v_bast (pc' := 23) dX5_begin_22 rfl rfl q2 q4 ?_
    refine v_iinc (pc' := 26) (loc' := [.ref r0, uV, .int (x2 + 1)]) dX5_begin_23 rfl rfl (kX_1 _) rfl ?_
    refine v_goto (pc' := 7) dX5_begin_26 (by decide) ?_
    exact T
theorem bX5_begin_31 {G : GG} {d : Nat} {h : Hp} {o : OU} {h' : Hp} (r0 : Nat) (x2 : Int32) (hd : 1 ≤ d) (T : ((4 < x2 → kH h r0 = 15 ∧ kH h (rH h r0 1) = 2 ∧ vp_in 16 (lH h (rH h r0 1)) ∧ vp_in 17 (lH h (rH h r0 1)) ∧ vp_in 18 (lH h (rH h r0 1)) ∧ (∀ i7 : Nat → Nat → Int32, i7 = (upI (upI (upI h.2 (rH h r0 1) 16 ((1 : Int32).toInt8.toInt32)) (rH h r0 1) 17 ((2 : Int32).toInt8.toInt32)) (rH h r0 1) 18 ((4 : Int32).toInt8.toInt32)) → ∃ h9, VM G mX5_allOnDisk (d - 1) [.ref r0] (h.1, i7) (.inl none) h9 ∧ kH h9 r0 = 15 ∧ ∃ h11, VM G mX5_forgetCounts (d - 1) [.ref r0] h9 (.inl none) h11 ∧ (o = .inl none ∧ h' = h11))) ∧ (¬ 4 < x2 → kH h r0 = 15 ∧ kH h (rH h r0 1) = 2 ∧ vp_in x2 (lH h (rH h r0 1)) ∧ V G mX5_begin d 31 [.ref r0, uV, .int (x2 + 1)] [] (h.1, (upI h.2 (rH h r0 1) x2.toNatClampNeg ((1 : Int32).toInt8.toInt32))) o h'))) : V G mX5_begin d 31 [.ref r0, uV, .int x2] [] h o h' := by
  have hdd : d - 1 + 1 ≤ d := by omega
  refine v_iload_n (pc' := 32) dX5_begin_31 rfl rfl ?_
  refine v_iconst (pc' := 33) (v := 4) dX5_begin_32 rfl kI_4 ?_
  refine v_icmp_gt (tgt := 49) (pc' := 36) dX5_begin_33 (by decide) rfl ⟨fun c1 => ?_, fun c1 => ?_⟩
  · have T := T.1 c1
    refine v_aload_n (pc' := 50) dX5_begin_49 rfl rfl ?_
    obtain ⟨q2, T⟩ := T
    refine v_getR (pc' := 53) 5 1 dX5_begin_50 rfl (by decide) (by decide) rfl kf_X5_9 q2 ?_
    refine v_bipush (pc' := 55) (v := 16) dX5_begin_53 rfl kB_16 ?_
    refine v_iconst (pc' := 56) (v := 1) dX5_begin_55 rfl kI_1 ?_
    obtain ⟨q3, T⟩ := T
    obtain ⟨q4, T⟩ := T
    refine v_bast (pc' := 57) dX5_begin_56 rfl kN_16 q3 q4 ?_
    refine v_aload_n (pc' := 58) dX5_begin_57 rfl rfl ?_
    refine v_getR (pc' := 61) 5 1 dX5_begin_58 rfl (by decide) (by decide) rfl kf_X5_9 q2 ?_
    refine v_bipush (pc' := 63) (v := 17) dX5_begin_61 rfl kB_17 ?_
    refine v_iconst (pc' := 64) (v := 2) dX5_begin_63 rfl kI_2 ?_
    obtain ⟨q5, T⟩ := T
    refine v_bast (pc' := 65) dX5_begin_64 rfl kN_17 q3 q5 ?_
    refine v_aload_n (pc' := 66) dX5_begin_65 rfl rfl ?_
    refine v_getR (pc' := 69) 5 1 dX5_begin_66 rfl (by decide) (by decide) rfl kf_X5_9 q2 ?_
    refine v_bipush (pc' := 71) (v := 18) dX5_begin_69 rfl kB_18 ?_
    refine v_iconst (pc' := 72) (v := 4) dX5_begin_71 rfl kI_4 ?_
    obtain ⟨q6, T⟩ := T
    refine v_bast (pc' := 73) dX5_begin_72 rfl kN_18 q3 q6 ?_
    show V G mX5_begin d 73 [.ref r0, uV, .int x2] [] (h.1, (upI (upI (upI h.2 (rH h r0 1) 16 ((1 : Int32).toInt8.toInt32)) (rH h r0 1) 17 ((2 : Int32).toInt8.toInt32)) (rH h r0 1) 18 ((4 : Int32).toInt8.toInt32))) o h'
    obtain ⟨i7, e8⟩ : ∃ z : Nat → Nat → Int32, z = (upI (upI (upI h.2 (rH h r0 1) 16 ((1 : Int32).toInt8.toInt32)) (rH h r0 1) 17 ((2 : Int32).toInt8.toInt32)) (rH h r0 1) 18 ((4 : Int32).toInt8.toInt32)) := ⟨_, rfl⟩
    rw [← e8]
    have T := T i7 e8
    refine v_aload_n (pc' := 74) dX5_begin_73 rfl rfl ?_
    obtain ⟨h9, k10, T⟩ := T
    refine v_callV (pc' := 77) (M1 := mX5_allOnDisk) (as := []) (r := r0) (rest := []) 5 dX5_begin_74 rfl ko_X5_48 kc_X5_allOnDisk ki_X5_allOnDisk ks_X5_allOnDisk (by decide) (by decide) hdd rfl rfl (le_l rfl) q2 k10 ?_
    refine v_aload_n (pc' := 78) dX5_begin_77 rfl rfl ?_
    obtain ⟨q13, T⟩ := T
    obtain ⟨h11, k12, T⟩ := T
    refine v_callV (pc' := 81) (M1 := mX5_forgetCounts) (as := []) (r := r0) (rest := []) 5 dX5_begin_78 rfl ko_X5_51 kc_X5_forgetCounts ki_X5_forgetCounts ks_X5_forgetCounts (by decide) (by decide) hdd rfl rfl (le_l rfl) q13 k12 ?_
    exact v_vret dX5_begin_81 rfl T
  · have T := T.2 c1
    refine v_aload_n (pc' := 37) dX5_begin_36 rfl rfl ?_
    obtain ⟨q14, T⟩ := T
    refine v_getR (pc' := 40) 5 1 dX5_begin_37 rfl (by decide) (by decide) rfl kf_X5_9 q14 ?_
    refine v_iload_n (pc' := 41) dX5_begin_40 rfl rfl ?_
    refine v_iconst (pc' := 42) (v := 1) dX5_begin_41 rfl kI_1 ?_
    obtain ⟨q15, T⟩ := T
    obtain ⟨q16, T⟩ := T
    refine v_bast (pc' := 43) dX5_begin_42 rfl rfl q15 q16 ?_
    refine v_iinc (pc' := 46) (loc' := [.ref r0, uV, .int (x2 + 1)]) dX5_begin_43 rfl rfl (kX_1 _) rfl ?_
    refine v_goto (pc' := 31) dX5_begin_46 (by decide) ?_
    exact T
theorem eX5_allOnDisk {G : GG} {d : Nat} {h : Hp} {o : OU} {h' : Hp} (r0 : Nat) (hd : 1 ≤ d) (T : kH h r0 = 15 ∧ kH h (rH h r0 1) = 2 ∧ 0 + 256 ≤ lH h (rH h r0 1) ∧ 256 + 256 ≤ lH h (rH h r0 1) ∧ (o = .inl none ∧ h' = (h.1, (upI (upI (cpI h.2 (rH h r0 1) (rH h r0 1) 0 256 256) r0 2 0) r0 9 0)))) : VM G mX5_allOnDisk d [.ref r0] h o h' := by
  refine V.toM rfl rfl (le_l rfl) (cat_all rfl) ?_
  show V G mX5_allOnDisk d 0 [.ref r0] [] h o h'
  have hdd : d - 1 + 1 ≤ d := by omega
  refine v_aload_n (pc' := 1) dX5_allOnDisk_0 rfl rfl ?_
  obtain ⟨q1, T⟩ := T
  refine v_getR (pc' := 4) 5 1 dX5_allOnDisk_1 rfl (by decide) (by decide) rfl kf_X5_9 q1 ?_
  refine v_iconst (pc' := 5) (v := 0) dX5_allOnDisk_4 rfl kI_0 ?_
  refine v_aload_n (pc' := 6) dX5_allOnDisk_5 rfl rfl ?_
  refine v_getR (pc' := 9) 5 1 dX5_allOnDisk_6 rfl (by decide) (by decide) rfl kf_X5_9 q1 ?_
  refine v_sipush (pc' := 12) (v := 256) dX5_allOnDisk_9 rfl kS_256 ?_
  refine v_sipush (pc' := 15) (v := 256) dX5_allOnDisk_12 rfl kS_256 ?_
  obtain ⟨q2, T⟩ := T
  obtain ⟨q3, T⟩ := T
  obtain ⟨q4, T⟩ := T
  refine v_copy (pc' := 18) 2 dX5_allOnDisk_15 rfl km_X5_54 kx_acn kx_acs kx_aci hd (le_l rfl) (by decide) q2 q2 kN_0 kN_256 kN_256 (by decide) (by decide) (by decide) q3 q4 ?_
  refine v_aload_n (pc' := 19) dX5_allOnDisk_18 rfl rfl ?_
  refine v_iconst (pc' := 20) (v := 0) dX5_allOnDisk_19 rfl kI_0 ?_
  refine v_putI (pc' := 23) 5 2 dX5_allOnDisk_20 rfl (by decide) (by decide) rfl rfl kf_X5_60 q1 ?_
  refine v_aload_n (pc' := 24) dX5_allOnDisk_23 rfl rfl ?_
  refine v_iconst (pc' := 25) (v := 0) dX5_allOnDisk_24 rfl kI_0 ?_
  refine v_putI (pc' := 28) 5 9 dX5_allOnDisk_25 rfl (by decide) (by decide) rfl rfl kf_X5_63 q1 ?_
  exact v_vret dX5_allOnDisk_28 rfl T
theorem eX5_forgetCounts {G : GG} {d : Nat} {h : Hp} {o : OU} {h' : Hp} (r0 : Nat) (T : kH h r0 = 15 ∧ (o = .inl none ∧ h' = (h.1, (upI (upI (upI (upI h.2 r0 12 0) r0 13 0) r0 14 0) r0 15 0)))) : VM G mX5_forgetCounts d [.ref r0] h o h' := by
  refine V.toM rfl rfl (le_l rfl) (cat_all rfl) ?_
  show V G mX5_forgetCounts d 0 [.ref r0] [] h o h'
  refine v_aload_n (pc' := 1) dX5_forgetCounts_0 rfl rfl ?_
  refine v_iconst (pc' := 2) (v := 0) dX5_forgetCounts_1 rfl kI_0 ?_
  obtain ⟨q1, T⟩ := T
  refine v_putI (pc' := 5) 5 12 dX5_forgetCounts_2 rfl (by decide) (by decide) rfl rfl kf_X5_66 q1 ?_
  refine v_aload_n (pc' := 6) dX5_forgetCounts_5 rfl rfl ?_
  refine v_iconst (pc' := 7) (v := 0) dX5_forgetCounts_6 rfl kI_0 ?_
  refine v_putI (pc' := 10) 5 13 dX5_forgetCounts_7 rfl (by decide) (by decide) rfl rfl kf_X5_69 q1 ?_
  refine v_aload_n (pc' := 11) dX5_forgetCounts_10 rfl rfl ?_
  refine v_iconst (pc' := 12) (v := 0) dX5_forgetCounts_11 rfl kI_0 ?_
  refine v_putI (pc' := 15) 5 14 dX5_forgetCounts_12 rfl (by decide) (by decide) rfl rfl kf_X5_72 q1 ?_
  refine v_aload_n (pc' := 16) dX5_forgetCounts_15 rfl rfl ?_
  refine v_iconst (pc' := 17) (v := 0) dX5_forgetCounts_16 rfl kI_0 ?_
  refine v_putI (pc' := 20) 5 15 dX5_forgetCounts_17 rfl (by decide) (by decide) rfl rfl kf_X5_75 q1 ?_
  exact v_vret dX5_forgetCounts_20 rfl T
theorem eX5_crash {G : GG} {d : Nat} {h : Hp} {o : OU} {h' : Hp} (r0 : Nat) (hd : 1 ≤ d) (T : kH h r0 = 15 ∧ kH h (rH h r0 1) = 2 ∧ 256 + 256 ≤ lH h (rH h r0 1) ∧ 0 + 256 ≤ lH h (rH h r0 1) ∧ (∀ i5 : Nat → Nat → Int32, i5 = (upI (upI (upI (cpI h.2 (rH h r0 1) (rH h r0 1) 256 0 256) r0 2 0) r0 9 0) r0 14 (((upI (upI (cpI h.2 (rH h r0 1) (rH h r0 1) 256 0 256) r0 2 0) r0 9 0) r0 14) + 1)) → (o = .inl none ∧ h' = (h.1, i5)))) : VM G mX5_crash d [.ref r0] h o h' := by
  refine V.toM rfl rfl (le_l rfl) (cat_all rfl) ?_
  show V G mX5_crash d 0 [.ref r0] [] h o h'
  have hdd : d - 1 + 1 ≤ d := by omega
  refine v_aload_n (pc' := 1) dX5_crash_0 rfl rfl ?_
  obtain ⟨q1, T⟩ := T
  refine v_getR (pc' := 4) 5 1 dX5_crash_1 rfl (by decide) (by decide) rfl kf_X5_9 q1 ?_
  refine v_sipush (pc' := 7) (v := 256) dX5_crash_4 rfl kS_256 ?_
  refine v_aload_n (pc' := 8) dX5_crash_7 rfl rfl ?_
  refine v_getR (pc' := 11) 5 1 dX5_crash_8 rfl (by decide) (by decide) rfl kf_X5_9 q1 ?_
  refine v_iconst (pc' := 12) (v := 0) dX5_crash_11 rfl kI_0 ?_
  refine v_sipush (pc' := 15) (v := 256) dX5_crash_12 rfl kS_256 ?_
  obtain ⟨q2, T⟩ := T
  obtain ⟨q3, T⟩ := T
  obtain ⟨q4, T⟩ := T
  refine v_copy (pc' := 18) 2 dX5_crash_15 rfl km_X5_54 kx_acn kx_acs kx_aci hd (le_l rfl) (by decide) q2 q2 kN_256 kN_0 kN_256 (by decide) (by decide) (by decide) q3 q4 ?_
  refine v_aload_n (pc' := 19) dX5_crash_18 rfl rfl ?_
  refine v_iconst (pc' := 20) (v := 0) dX5_crash_19 rfl kI_0 ?_
  refine v_putI (pc' := 23) 5 2 dX5_crash_20 rfl (by decide) (by decide) rfl rfl kf_X5_60 q1 ?_
  refine v_aload_n (pc' := 24) dX5_crash_23 rfl rfl ?_
  refine v_iconst (pc' := 25) (v := 0) dX5_crash_24 rfl kI_0 ?_
  refine v_putI (pc' := 28) 5 9 dX5_crash_25 rfl (by decide) (by decide) rfl rfl kf_X5_63 q1 ?_
  refine v_aload_n (pc' := 29) dX5_crash_28 rfl rfl ?_
  refine v_dup (pc' := 30) dX5_crash_29 rfl rfl ?_
  refine v_getI (pc' := 33) 5 14 dX5_crash_30 rfl (by decide) (by decide) rfl kf_X5_72 q1 ?_
  refine v_iconst (pc' := 34) (v := 1) dX5_crash_33 rfl kI_1 ?_
  refine v_iadd (pc' := 35) dX5_crash_34 rfl ?_
  refine v_putI (pc' := 38) 5 14 dX5_crash_35 rfl (by decide) (by decide) rfl rfl kf_X5_72 q1 ?_
  show V G mX5_crash d 38 [.ref r0] [] (h.1, (upI (upI (upI (cpI h.2 (rH h r0 1) (rH h r0 1) 256 0 256) r0 2 0) r0 9 0) r0 14 (((upI (upI (cpI h.2 (rH h r0 1) (rH h r0 1) 256 0 256) r0 2 0) r0 9 0) r0 14) + 1))) o h'
  obtain ⟨i5, e6⟩ : ∃ z : Nat → Nat → Int32, z = (upI (upI (upI (cpI h.2 (rH h r0 1) (rH h r0 1) 256 0 256) r0 2 0) r0 9 0) r0 14 (((upI (upI (cpI h.2 (rH h r0 1) (rH h r0 1) 256 0 256) r0 2 0) r0 9 0) r0 14) + 1)) := ⟨_, rfl⟩
  rw [← e6]
  have T := T i5 e6
  exact v_vret dX5_crash_38 rfl T
theorem eX5_copyFrom {G : GG} {d : Nat} {h : Hp} {o : OU} {h' : Hp} (r0 : Nat) (r1 : Nat) (hd : 1 ≤ d) (T : kH h r1 = 15 ∧ kH h r0 = 15 ∧ kH h (rH h r0 1) = 2 ∧ kH h (rH h r1 1) = 2 ∧ ¬ ((lH h (rH h r0 1)).toInt32) < 0 ∧ 0 + ((lH h (rH h r0 1)).toInt32).toNatClampNeg ≤ lH h (rH h r1 1) ∧ 0 + ((lH h (rH h r0 1)).toInt32).toNatClampNeg ≤ lH h (rH h r0 1) ∧ (∀ i8 : Nat → Nat → Int32, i8 = (upI (cpI (upI h.2 r0 0 (h.2 r1 0)) (rH h r1 1) (rH h r0 1) 0 0 ((lH h (rH h r0 1)).toInt32).toNatClampNeg) r0 2 ((cpI (upI h.2 r0 0 (h.2 r1 0)) (rH h r1 1) (rH h r0 1) 0 0 ((lH h (rH h r0 1)).toInt32).toNatClampNeg) r1 2)) → kH h (rH h r1 3) = 1 ∧ kH h (rH h r0 3) = 1 ∧ ¬ (i8 r0 2) < 0 ∧ 0 + (i8 r0 2).toNatClampNeg ≤ lH h (rH h r1 3) ∧ 0 + (i8 r0 2).toNatClampNeg ≤ lH h (rH h r0 3) ∧ kH h (rH h r1 4) = 1 ∧ kH h (rH h r0 4) = 1 ∧ ¬ ((cpI i8 (rH h r1 3) (rH h r0 3) 0 0 (i8 r0 2).toNatClampNeg) r0 2) < 0 ∧ 0 + ((cpI i8 (rH h r1 3) (rH h r0 3) 0 0 (i8 r0 2).toNatClampNeg) r0 2).toNatClampNeg ≤ lH h (rH h r1 4) ∧ 0 + ((cpI i8 (rH h r1 3) (rH h r0 3) 0 0 (i8 r0 2).toNatClampNeg) r0 2).toNatClampNeg ≤ lH h (rH h r0 4) ∧ (∀ i20 : Nat → Nat → Int32, i20 = (cpI (cpI i8 (rH h r1 3) (rH h r0 3) 0 0 (i8 r0 2).toNatClampNeg) (rH h r1 4) (rH h r0 4) 0 0 ((cpI i8 (rH h r1 3) (rH h r0 3) 0 0 (i8 r0 2).toNatClampNeg) r0 2).toNatClampNeg) → kH h (rH h r1 5) = 1 ∧ kH h (rH h r0 5) = 1 ∧ ¬ (i20 r0 2) < 0 ∧ 0 + (i20 r0 2).toNatClampNeg ≤ lH h (rH h r1 5) ∧ 0 + (i20 r0 2).toNatClampNeg ≤ lH h (rH h r0 5) ∧ kH h (rH h r1 6) = 2 ∧ kH h (rH h r0 6) = 2 ∧ ¬ (((cpI i20 (rH h r1 5) (rH h r0 5) 0 0 (i20 r0 2).toNatClampNeg) r0 2) * 16) < 0 ∧ 0 + (((cpI i20 (rH h r1 5) (rH h r0 5) 0 0 (i20 r0 2).toNatClampNeg) r0 2) * 16).toNatClampNeg ≤ lH h (rH h r1 6) ∧ 0 + (((cpI i20 (rH h r1 5) (rH h r0 5) 0 0 (i20 r0 2).toNatClampNeg) r0 2) * 16).toNatClampNeg ≤ lH h (rH h r0 6) ∧ (∀ i32 : Nat → Nat → Int32, i32 = (cpI (cpI i20 (rH h r1 5) (rH h r0 5) 0 0 (i20 r0 2).toNatClampNeg) (rH h r1 6) (rH h r0 6) 0 0 (((cpI i20 (rH h r1 5) (rH h r0 5) 0 0 (i20 r0 2).toNatClampNeg) r0 2) * 16).toNatClampNeg) → kH h (rH h r1 7) = 1 ∧ kH h (rH h r0 7) = 1 ∧ ¬ ((i32 r0 2) * 4) < 0 ∧ 0 + ((i32 r0 2) * 4).toNatClampNeg ≤ lH h (rH h r1 7) ∧ 0 + ((i32 r0 2) * 4).toNatClampNeg ≤ lH h (rH h r0 7) ∧ kH h (rH h r1 8) = 1 ∧ kH h (rH h r0 8) = 1 ∧ ¬ ((cpI i32 (rH h r1 7) (rH h r0 7) 0 0 ((i32 r0 2) * 4).toNatClampNeg) r0 2) < 0 ∧ 0 + ((cpI i32 (rH h r1 7) (rH h r0 7) 0 0 ((i32 r0 2) * 4).toNatClampNeg) r0 2).toNatClampNeg ≤ lH h (rH h r1 8) ∧ 0 + ((cpI i32 (rH h r1 7) (rH h r0 7) 0 0 ((i32 r0 2) * 4).toNatClampNeg) r0 2).toNatClampNeg ≤ lH h (rH h r0 8) ∧ (∀ i44 : Nat → Nat → Int32, i44 = (cpI (cpI i32 (rH h r1 7) (rH h r0 7) 0 0 ((i32 r0 2) * 4).toNatClampNeg) (rH h r1 8) (rH h r0 8) 0 0 ((cpI i32 (rH h r1 7) (rH h r0 7) 0 0 ((i32 r0 2) * 4).toNatClampNeg) r0 2).toNatClampNeg) → kH h (rH h r1 10) = 1 ∧ kH h (rH h r0 10) = 1 ∧ ¬ ((upI i44 r0 9 (i44 r1 9)) r0 9) < 0 ∧ 0 + ((upI i44 r0 9 (i44 r1 9)) r0 9).toNatClampNeg ≤ lH h (rH h r1 10) ∧ 0 + ((upI i44 r0 9 (i44 r1 9)) r0 9).toNatClampNeg ≤ lH h (rH h r0 10) ∧ kH h (rH h r1 11) = 1 ∧ kH h (rH h r0 11) = 1 ∧ ¬ ((cpI (upI i44 r0 9 (i44 r1 9)) (rH h r1 10) (rH h r0 10) 0 0 ((upI i44 r0 9 (i44 r1 9)) r0 9).toNatClampNeg) r0 9) < 0 ∧ 0 + ((cpI (upI i44 r0 9 (i44 r1 9)) (rH h r1 10) (rH h r0 10) 0 0 ((upI i44 r0 9 (i44 r1 9)) r0 9).toNatClampNeg) r0 9).toNatClampNeg ≤ lH h (rH h r1 11) ∧ 0 + ((cpI (upI i44 r0 9 (i44 r1 9)) (rH h r1 10) (rH h r0 10) 0 0 ((upI i44 r0 9 (i44 r1 9)) r0 9).toNatClampNeg) r0 9).toNatClampNeg ≤ lH h (rH h r0 11) ∧ (∀ i56 : Nat → Nat → Int32, i56 = (cpI (cpI (upI i44 r0 9 (i44 r1 9)) (rH h r1 10) (rH h r0 10) 0 0 ((upI i44 r0 9 (i44 r1 9)) r0 9).toNatClampNeg) (rH h r1 11) (rH h r0 11) 0 0 ((cpI (upI i44 r0 9 (i44 r1 9)) (rH h r1 10) (rH h r0 10) 0 0 ((upI i44 r0 9 (i44 r1 9)) r0 9).toNatClampNeg) r0 9).toNatClampNeg) → (∀ i58 : Nat → Nat → Int32, i58 = (upI (upI (upI i56 r0 12 (i56 r1 12)) r0 13 ((upI i56 r0 12 (i56 r1 12)) r1 13)) r0 14 ((upI (upI i56 r0 12 (i56 r1 12)) r0 13 ((upI i56 r0 12 (i56 r1 12)) r1 13)) r1 14)) → (o = .inl none ∧ h' = (h.1, (upI i58 r0 15 (i58 r1 15))))))))))) : VM G mX5_copyFrom d [.ref r0, .ref r1] h o h' := by
  refine V.toM rfl rfl (le_l rfl) (cat_all rfl) ?_
  show V G mX5_copyFrom d 0 [.ref r0, .ref r1] [] h o h'
  have hdd : d - 1 + 1 ≤ d := by omega
  refine v_aload_n (pc' := 1) dX5_copyFrom_0 rfl rfl ?_
  refine v_aload_n (pc' := 2) dX5_copyFrom_1 rfl rfl ?_
  obtain ⟨q1, T⟩ := T
  refine v_getI (pc' := 5) 5 0 dX5_copyFrom_2 rfl (by decide) (by decide) rfl kf_X5_44 q1 ?_
  obtain ⟨q2, T⟩ := T
  refine v_putI (pc' := 8) 5 0 dX5_copyFrom_5 rfl (by decide) (by decide) rfl rfl kf_X5_44 q2 ?_
  refine v_aload_n (pc' := 9) dX5_copyFrom_8 rfl rfl ?_
  refine v_getR (pc' := 12) 5 1 dX5_copyFrom_9 rfl (by decide) (by decide) rfl kf_X5_9 q1 ?_
  refine v_iconst (pc' := 13) (v := 0) dX5_copyFrom_12 rfl kI_0 ?_
  refine v_aload_n (pc' := 14) dX5_copyFrom_13 rfl rfl ?_
  refine v_getR (pc' := 17) 5 1 dX5_copyFrom_14 rfl (by decide) (by decide) rfl kf_X5_9 q2 ?_
  refine v_iconst (pc' := 18) (v := 0) dX5_copyFrom_17 rfl kI_0 ?_
  refine v_aload_n (pc' := 19) dX5_copyFrom_18 rfl rfl ?_
  refine v_getR (pc' := 22) 5 1 dX5_copyFrom_19 rfl (by decide) (by decide) rfl kf_X5_9 q2 ?_
  obtain ⟨q3, T⟩ := T
  refine v_alen (pc' := 23) dX5_copyFrom_22 rfl q3 (by decide) rfl ?_
  obtain ⟨q4, T⟩ := T
  obtain ⟨q5, T⟩ := T
  obtain ⟨q6, T⟩ := T
  obtain ⟨q7, T⟩ := T
  refine v_copy (pc' := 26) 2 dX5_copyFrom_23 rfl km_X5_54 kx_acn kx_acs kx_aci hd (le_l rfl) (by decide) q4 q3 kN_0 kN_0 rfl (by decide) (by decide) q5 q6 q7 ?_
  refine v_aload_n (pc' := 27) dX5_copyFrom_26 rfl rfl ?_
  refine v_aload_n (pc' := 28) dX5_copyFrom_27 rfl rfl ?_
  refine v_getI (pc' := 31) 5 2 dX5_copyFrom_28 rfl (by decide) (by decide) rfl kf_X5_60 q1 ?_
  refine v_putI (pc' := 34) 5 2 dX5_copyFrom_31 rfl (by decide) (by decide) rfl rfl kf_X5_60 q2 ?_
  show V G mX5_copyFrom d 34 [.ref r0, .ref r1] [] (h.1, (upI (cpI (upI h.2 r0 0 (h.2 r1 0)) (rH h r1 1) (rH h r0 1) 0 0 ((lH h (rH h r0 1)).toInt32).toNatClampNeg) r0 2 ((cpI (upI h.2 r0 0 (h.2 r1 0)) (rH h r1 1) (rH h r0 1) 0 0 ((lH h (rH h r0 1)).toInt32).toNatClampNeg) r1 2))) o h'
  obtain ⟨i8, e9⟩ : ∃ z : Nat → Nat → Int32, z = (upI (cpI (upI h.2 r0 0 (h.2 r1 0)) (rH h r1 1) (rH h r0 1) 0 0 ((lH h (rH h r0 1)).toInt32).toNatClampNeg) r0 2 ((cpI (upI h.2 r0 0 (h.2 r1 0)) (rH h r1 1) (rH h r0 1) 0 0 ((lH h (rH h r0 1)).toInt32).toNatClampNeg) r1 2)) := ⟨_, rfl⟩
  rw [← e9]
  have T := T i8 e9
  refine v_aload_n (pc' := 35) dX5_copyFrom_34 rfl rfl ?_
  refine v_getR (pc' := 38) 5 3 dX5_copyFrom_35 rfl (by decide) (by decide) rfl kf_X5_15 q1 ?_
  refine v_iconst (pc' := 39) (v := 0) dX5_copyFrom_38 rfl kI_0 ?_
  refine v_aload_n (pc' := 40) dX5_copyFrom_39 rfl rfl ?_
  refine v_getR (pc' := 43) 5 3 dX5_copyFrom_40 rfl (by decide) (by decide) rfl kf_X5_15 q2 ?_
  refine v_iconst (pc' := 44) (v := 0) dX5_copyFrom_43 rfl kI_0 ?_
  refine v_aload_n (pc' := 45) dX5_copyFrom_44 rfl rfl ?_
  refine v_getI (pc' := 48) 5 2 dX5_copyFrom_45 rfl (by decide) (by decide) rfl kf_X5_60 q2 ?_
  obtain ⟨q10, T⟩ := T
  obtain ⟨q11, T⟩ := T
  obtain ⟨q12, T⟩ := T
  obtain ⟨q13, T⟩ := T
  obtain ⟨q14, T⟩ := T
  refine v_copy (pc' := 51) 1 dX5_copyFrom_48 rfl km_X5_54 kx_acn kx_acs kx_aci hd (le_l rfl) (by decide) q10 q11 kN_0 kN_0 rfl (by decide) (by decide) q12 q13 q14 ?_
  refine v_aload_n (pc' := 52) dX5_copyFrom_51 rfl rfl ?_
  refine v_getR (pc' := 55) 5 4 dX5_copyFrom_52 rfl (by decide) (by decide) rfl kf_X5_19 q1 ?_
  refine v_iconst (pc' := 56) (v := 0) dX5_copyFrom_55 rfl kI_0 ?_
  refine v_aload_n (pc' := 57) dX5_copyFrom_56 rfl rfl ?_
  refine v_getR (pc' := 60) 5 4 dX5_copyFrom_57 rfl (by decide) (by decide) rfl kf_X5_19 q2 ?_
  refine v_iconst (pc' := 61) (v := 0) dX5_copyFrom_60 rfl kI_0 ?_
  refine v_aload_n (pc' := 62) dX5_copyFrom_61 rfl rfl ?_
  refine v_getI (pc' := 65) 5 2 dX5_copyFrom_62 rfl (by decide) (by decide) rfl kf_X5_60 q2 ?_
  obtain ⟨q15, T⟩ := T
  obtain ⟨q16, T⟩ := T
  obtain ⟨q17, T⟩ := T
  obtain ⟨q18, T⟩ := T
  obtain ⟨q19, T⟩ := T
  refine v_copy (pc' := 68) 1 dX5_copyFrom_65 rfl km_X5_54 kx_acn kx_acs kx_aci hd (le_l rfl) (by decide) q15 q16 kN_0 kN_0 rfl (by decide) (by decide) q17 q18 q19 ?_
  show V G mX5_copyFrom d 68 [.ref r0, .ref r1] [] (h.1, (cpI (cpI i8 (rH h r1 3) (rH h r0 3) 0 0 (i8 r0 2).toNatClampNeg) (rH h r1 4) (rH h r0 4) 0 0 ((cpI i8 (rH h r1 3) (rH h r0 3) 0 0 (i8 r0 2).toNatClampNeg) r0 2).toNatClampNeg)) o h'
  obtain ⟨i20, e21⟩ : ∃ z : Nat → Nat → Int32, z = (cpI (cpI i8 (rH h r1 3) (rH h r0 3) 0 0 (i8 r0 2).toNatClampNeg) (rH h r1 4) (rH h r0 4) 0 0 ((cpI i8 (rH h r1 3) (rH h r0 3) 0 0 (i8 r0 2).toNatClampNeg) r0 2).toNatClampNeg) := ⟨_, rfl⟩
  rw [← e21]
  have T := T i20 e21
  refine v_aload_n (pc' := 69) dX5_copyFrom_68 rfl rfl ?_
  refine v_getR (pc' := 72) 5 5 dX5_copyFrom_69 rfl (by decide) (by decide) rfl kf_X5_22 q1 ?_
  refine v_iconst (pc' := 73) (v := 0) dX5_copyFrom_72 rfl kI_0 ?_
  refine v_aload_n (pc' := 74) dX5_copyFrom_73 rfl rfl ?_
  refine v_getR (pc' := 77) 5 5 dX5_copyFrom_74 rfl (by decide) (by decide) rfl kf_X5_22 q2 ?_
  refine v_iconst (pc' := 78) (v := 0) dX5_copyFrom_77 rfl kI_0 ?_
  refine v_aload_n (pc' := 79) dX5_copyFrom_78 rfl rfl ?_
  refine v_getI (pc' := 82) 5 2 dX5_copyFrom_79 rfl (by decide) (by decide) rfl kf_X5_60 q2 ?_
  obtain ⟨q22, T⟩ := T
  obtain ⟨q23, T⟩ := T
  obtain ⟨q24, T⟩ := T
  obtain ⟨q25, T⟩ := T
  obtain ⟨q26, T⟩ := T
  refine v_copy (pc' := 85) 1 dX5_copyFrom_82 rfl km_X5_54 kx_acn kx_acs kx_aci hd (le_l rfl) (by decide) q22 q23 kN_0 kN_0 rfl (by decide) (by decide) q24 q25 q26 ?_
  refine v_aload_n (pc' := 86) dX5_copyFrom_85 rfl rfl ?_
  refine v_getR (pc' := 89) 5 6 dX5_copyFrom_86 rfl (by decide) (by decide) rfl kf_X5_25 q1 ?_
  refine v_iconst (pc' := 90) (v := 0) dX5_copyFrom_89 rfl kI_0 ?_
  refine v_aload_n (pc' := 91) dX5_copyFrom_90 rfl rfl ?_
  refine v_getR (pc' := 94) 5 6 dX5_copyFrom_91 rfl (by decide) (by decide) rfl kf_X5_25 q2 ?_
  refine v_iconst (pc' := 95) (v := 0) dX5_copyFrom_94 rfl kI_0 ?_
  refine v_aload_n (pc' := 96) dX5_copyFrom_95 rfl rfl ?_
  refine v_getI (pc' := 99) 5 2 dX5_copyFrom_96 rfl (by decide) (by decide) rfl kf_X5_60 q2 ?_
  refine v_bipush (pc' := 101) (v := 16) dX5_copyFrom_99 rfl kB_16 ?_
  refine v_imul (pc' := 102) dX5_copyFrom_101 rfl ?_
  obtain ⟨q27, T⟩ := T
  obtain ⟨q28, T⟩ := T
  obtain ⟨q29, T⟩ := T
  obtain ⟨q30, T⟩ := T
  obtain ⟨q31, T⟩ := T
  refine v_copy (pc' := 105) 2 dX5_copyFrom_102 rfl km_X5_54 kx_acn kx_acs kx_aci hd (le_l rfl) (by decide) q27 q28 kN_0 kN_0 rfl (by decide) (by decide) q29 q30 q31 ?_
  show V G mX5_copyFrom d 105 [.ref r0, .ref r1] [] (h.1, (cpI (cpI i20 (rH h r1 5) (rH h r0 5) 0 0 (i20 r0 2).toNatClampNeg) (rH h r1 6) (rH h r0 6) 0 0 (((cpI i20 (rH h r1 5) (rH h r0 5) 0 0 (i20 r0 2).toNatClampNeg) r0 2) * 16).toNatClampNeg)) o h'
  obtain ⟨i32, e33⟩ : ∃ z : Nat → Nat → Int32, z = (cpI (cpI i20 (rH h r1 5) (rH h r0 5) 0 0 (i20 r0 2).toNatClampNeg) (rH h r1 6) (rH h r0 6) 0 0 (((cpI i20 (rH h r1 5) (rH h r0 5) 0 0 (i20 r0 2).toNatClampNeg) r0 2) * 16).toNatClampNeg) := ⟨_, rfl⟩
  rw [← e33]
  have T := T i32 e33
  refine v_aload_n (pc' := 106) dX5_copyFrom_105 rfl rfl ?_
  refine v_getR (pc' := 109) 5 7 dX5_copyFrom_106 rfl (by decide) (by decide) rfl kf_X5_28 q1 ?_
  refine v_iconst (pc' := 110) (v := 0) dX5_copyFrom_109 rfl kI_0 ?_
  refine v_aload_n (pc' := 111) dX5_copyFrom_110 rfl rfl ?_
  refine v_getR (pc' := 114) 5 7 dX5_copyFrom_111 rfl (by decide) (by decide) rfl kf_X5_28 q2 ?_
  refine v_iconst (pc' := 115) (v := 0) dX5_copyFrom_114 rfl kI_0 ?_
  refine v_aload_n (pc' := 116) dX5_copyFrom_115 rfl rfl ?_
  refine v_getI (pc' := 119) 5 2 dX5_copyFrom_116 rfl (by decide) (by decide) rfl kf_X5_60 q2 ?_
  refine v_iconst (pc' := 120) (v := 4) dX5_copyFrom_119 rfl kI_4 ?_
  refine v_imul (pc' := 121) dX5_copyFrom_120 rfl ?_
  obtain ⟨q34, T⟩ := T
  obtain ⟨q35, T⟩ := T
  obtain ⟨q36, T⟩ := T
  obtain ⟨q37, T⟩ := T
  obtain ⟨q38, T⟩ := T
  refine v_copy (pc' := 124) 1 dX5_copyFrom_121 rfl km_X5_54 kx_acn kx_acs kx_aci hd (le_l rfl) (by decide) q34 q35 kN_0 kN_0 rfl (by decide) (by decide) q36 q37 q38 ?_
  refine v_aload_n (pc' := 125) dX5_copyFrom_124 rfl rfl ?_
  refine v_getR (pc' := 128) 5 8 dX5_copyFrom_125 rfl (by decide) (by decide) rfl kf_X5_31 q1 ?_
  refine v_iconst (pc' := 129) (v := 0) dX5_copyFrom_128 rfl kI_0 ?_
  refine v_aload_n (pc' := 130) dX5_copyFrom_129 rfl rfl ?_
  refine v_getR (pc' := 133) 5 8 dX5_copyFrom_130 rfl (by decide) (by decide) rfl kf_X5_31 q2 ?_
  refine v_iconst (pc' := 134) (v := 0) dX5_copyFrom_133 rfl kI_0 ?_
  refine v_aload_n (pc' := 135) dX5_copyFrom_134 rfl rfl ?_
  refine v_getI (pc' := 138) 5 2 dX5_copyFrom_135 rfl (by decide) (by decide) rfl kf_X5_60 q2 ?_
  obtain ⟨q39, T⟩ := T
  obtain ⟨q40, T⟩ := T
  obtain ⟨q41, T⟩ := T
  obtain ⟨q42, T⟩ := T
  obtain ⟨q43, T⟩ := T
  refine v_copy (pc' := 141) 1 dX5_copyFrom_138 rfl km_X5_54 kx_acn kx_acs kx_aci hd (le_l rfl) (by decide) q39 q40 kN_0 kN_0 rfl (by decide) (by decide) q41 q42 q43 ?_
  show V G mX5_copyFrom d 141 [.ref r0, .ref r1] [] (h.1, (cpI (cpI i32 (rH h r1 7) (rH h r0 7) 0 0 ((i32 r0 2) * 4).toNatClampNeg) (rH h r1 8) (rH h r0 8) 0 0 ((cpI i32 (rH h r1 7) (rH h r0 7) 0 0 ((i32 r0 2) * 4).toNatClampNeg) r0 2).toNatClampNeg)) o h'
  obtain ⟨i44, e45⟩ : ∃ z : Nat → Nat → Int32, z = (cpI (cpI i32 (rH h r1 7) (rH h r0 7) 0 0 ((i32 r0 2) * 4).toNatClampNeg) (rH h r1 8) (rH h r0 8) 0 0 ((cpI i32 (rH h r1 7) (rH h r0 7) 0 0 ((i32 r0 2) * 4).toNatClampNeg) r0 2).toNatClampNeg) := ⟨_, rfl⟩
  rw [← e45]
  have T := T i44 e45
  refine v_aload_n (pc' := 142) dX5_copyFrom_141 rfl rfl ?_
  refine v_aload_n (pc' := 143) dX5_copyFrom_142 rfl rfl ?_
  refine v_getI (pc' := 146) 5 9 dX5_copyFrom_143 rfl (by decide) (by decide) rfl kf_X5_63 q1 ?_
  refine v_putI (pc' := 149) 5 9 dX5_copyFrom_146 rfl (by decide) (by decide) rfl rfl kf_X5_63 q2 ?_
  refine v_aload_n (pc' := 150) dX5_copyFrom_149 rfl rfl ?_
  refine v_getR (pc' := 153) 5 10 dX5_copyFrom_150 rfl (by decide) (by decide) rfl kf_X5_34 q1 ?_
  refine v_iconst (pc' := 154) (v := 0) dX5_copyFrom_153 rfl kI_0 ?_
  refine v_aload_n (pc' := 155) dX5_copyFrom_154 rfl rfl ?_
  refine v_getR (pc' := 158) 5 10 dX5_copyFrom_155 rfl (by decide) (by decide) rfl kf_X5_34 q2 ?_
  refine v_iconst (pc' := 159) (v := 0) dX5_copyFrom_158 rfl kI_0 ?_
  refine v_aload_n (pc' := 160) dX5_copyFrom_159 rfl rfl ?_
  refine v_getI (pc' := 163) 5 9 dX5_copyFrom_160 rfl (by decide) (by decide) rfl kf_X5_63 q2 ?_
  obtain ⟨q46, T⟩ := T
  obtain ⟨q47, T⟩ := T
  obtain ⟨q48, T⟩ := T
  obtain ⟨q49, T⟩ := T
  obtain ⟨q50, T⟩ := T
  refine v_copy (pc' := 166) 1 dX5_copyFrom_163 rfl km_X5_54 kx_acn kx_acs kx_aci hd (le_l rfl) (by decide) q46 q47 kN_0 kN_0 rfl (by decide) (by decide) q48 q49 q50 ?_
  refine v_aload_n (pc' := 167) dX5_copyFrom_166 rfl rfl ?_
  refine v_getR (pc' := 170) 5 11 dX5_copyFrom_167 rfl (by decide) (by decide) rfl kf_X5_37 q1 ?_
  refine v_iconst (pc' := 171) (v := 0) dX5_copyFrom_170 rfl kI_0 ?_
  refine v_aload_n (pc' := 172) dX5_copyFrom_171 rfl rfl ?_
  refine v_getR (pc' := 175) 5 11 dX5_copyFrom_172 rfl (by decide) (by decide) rfl kf_X5_37 q2 ?_
  refine v_iconst (pc' := 176) (v := 0) dX5_copyFrom_175 rfl kI_0 ?_
  refine v_aload_n (pc' := 177) dX5_copyFrom_176 rfl rfl ?_
  refine v_getI (pc' := 180) 5 9 dX5_copyFrom_177 rfl (by decide) (by decide) rfl kf_X5_63 q2 ?_
  obtain ⟨q51, T⟩ := T
  obtain ⟨q52, T⟩ := T
  obtain ⟨q53, T⟩ := T
  obtain ⟨q54, T⟩ := T
  obtain ⟨q55, T⟩ := T
  refine v_copy (pc' := 183) 1 dX5_copyFrom_180 rfl km_X5_54 kx_acn kx_acs kx_aci hd (le_l rfl) (by decide) q51 q52 kN_0 kN_0 rfl (by decide) (by decide) q53 q54 q55 ?_
  show V G mX5_copyFrom d 183 [.ref r0, .ref r1] [] (h.1, (cpI (cpI (upI i44 r0 9 (i44 r1 9)) (rH h r1 10) (rH h r0 10) 0 0 ((upI i44 r0 9 (i44 r1 9)) r0 9).toNatClampNeg) (rH h r1 11) (rH h r0 11) 0 0 ((cpI (upI i44 r0 9 (i44 r1 9)) (rH h r1 10) (rH h r0 10) 0 0 ((upI i44 r0 9 (i44 r1 9)) r0 9).toNatClampNeg) r0 9).toNatClampNeg)) o h'
  obtain ⟨i56, e57⟩ : ∃ z : Nat → Nat → Int32, z = (cpI (cpI (upI i44 r0 9 (i44 r1 9)) (rH h r1 10) (rH h r0 10) 0 0 ((upI i44 r0 9 (i44 r1 9)) r0 9).toNatClampNeg) (rH h r1 11) (rH h r0 11) 0 0 ((cpI (upI i44 r0 9 (i44 r1 9)) (rH h r1 10) (rH h r0 10) 0 0 ((upI i44 r0 9 (i44 r1 9)) r0 9).toNatClampNeg) r0 9).toNatClampNeg) := ⟨_, rfl⟩
  rw [← e57]
  have T := T i56 e57
  refine v_aload_n (pc' := 184) dX5_copyFrom_183 rfl rfl ?_
  refine v_aload_n (pc' := 185) dX5_copyFrom_184 rfl rfl ?_
  refine v_getI (pc' := 188) 5 12 dX5_copyFrom_185 rfl (by decide) (by decide) rfl kf_X5_66 q1 ?_
  refine v_putI (pc' := 191) 5 12 dX5_copyFrom_188 rfl (by decide) (by decide) rfl rfl kf_X5_66 q2 ?_
  refine v_aload_n (pc' := 192) dX5_copyFrom_191 rfl rfl ?_
  refine v_aload_n (pc' := 193) dX5_copyFrom_192 rfl rfl ?_
  refine v_getI (pc' := 196) 5 13 dX5_copyFrom_193 rfl (by decide) (by decide) rfl kf_X5_69 q1 ?_
  refine v_putI (pc' := 199) 5 13 dX5_copyFrom_196 rfl (by decide) (by decide) rfl rfl kf_X5_69 q2 ?_
  refine v_aload_n (pc' := 200) dX5_copyFrom_199 rfl rfl ?_
  refine v_aload_n (pc' := 201) dX5_copyFrom_200 rfl rfl ?_
  refine v_getI (pc' := 204) 5 14 dX5_copyFrom_201 rfl (by decide) (by decide) rfl kf_X5_72 q1 ?_
  refine v_putI (pc' := 207) 5 14 dX5_copyFrom_204 rfl (by decide) (by decide) rfl rfl kf_X5_72 q2 ?_
  show V G mX5_copyFrom d 207 [.ref r0, .ref r1] [] (h.1, (upI (upI (upI i56 r0 12 (i56 r1 12)) r0 13 ((upI i56 r0 12 (i56 r1 12)) r1 13)) r0 14 ((upI (upI i56 r0 12 (i56 r1 12)) r0 13 ((upI i56 r0 12 (i56 r1 12)) r1 13)) r1 14))) o h'
  obtain ⟨i58, e59⟩ : ∃ z : Nat → Nat → Int32, z = (upI (upI (upI i56 r0 12 (i56 r1 12)) r0 13 ((upI i56 r0 12 (i56 r1 12)) r1 13)) r0 14 ((upI (upI i56 r0 12 (i56 r1 12)) r0 13 ((upI i56 r0 12 (i56 r1 12)) r1 13)) r1 14)) := ⟨_, rfl⟩
  rw [← e59]
  have T := T i58 e59
  refine v_aload_n (pc' := 208) dX5_copyFrom_207 rfl rfl ?_
  refine v_aload_n (pc' := 209) dX5_copyFrom_208 rfl rfl ?_
  refine v_getI (pc' := 212) 5 15 dX5_copyFrom_209 rfl (by decide) (by decide) rfl kf_X5_75 q1 ?_
  refine v_putI (pc' := 215) 5 15 dX5_copyFrom_212 rfl (by decide) (by decide) rfl rfl kf_X5_75 q2 ?_
  exact v_vret dX5_copyFrom_215 rfl T
theorem eX5_at {G : GG} {d : Nat} {h : Hp} {o : OU} {h' : Hp} (r0 : Nat) (x1 : Int32) (x2 : Int32) (x3 : Int32) (T : ((x1 < 0 → (o = .inl (some (.int 0)) ∧ h' = h)) ∧ (¬ x1 < 0 → ((1 < x1 → (o = .inl (some (.int 0)) ∧ h' = h)) ∧ (¬ 1 < x1 → ((x2 < 0 → (o = .inl (some (.int 0)) ∧ h' = h)) ∧ (¬ x2 < 0 → ((16 ≤ x2 → (o = .inl (some (.int 0)) ∧ h' = h)) ∧ (¬ 16 ≤ x2 → ((x3 < 0 → (o = .inl (some (.int 0)) ∧ h' = h)) ∧ (¬ x3 < 0 → ((x3 < 16 → kH h r0 = 15 ∧ kH h (rH h r0 1) = 2 ∧ vp_in (((x1 * 256) + (x2 * 16)) + x3) (lH h (rH h r0 1)) ∧ (o = .inl (some (.int (h.2 (rH h r0 1) (((x1 * 256) + (x2 * 16)) + x3).toNatClampNeg))) ∧ h' = h)) ∧ (¬ x3 < 16 → (o = .inl (some (.int 0)) ∧ h' = h)))))))))))))) : VM G mX5_at d [.ref r0, .int x1, .int x2, .int x3] h o h' := by
  refine V.toM rfl rfl (le_l rfl) (cat_all rfl) ?_
  show V G mX5_at d 0 [.ref r0, .int x1, .int x2, .int x3] [] h o h'
  refine v_iload_n (pc' := 1) dX5_at_0 rfl rfl ?_
  refine v_if_lt (tgt := 29) (pc' := 4) dX5_at_1 (by decide) rfl ⟨fun c1 => ?_, fun c1 => ?_⟩
  · have T := T.1 c1
    refine v_iconst (pc' := 30) (v := 0) dX5_at_29 rfl kI_0 ?_
    exact v_iret dX5_at_30 rfl T
  · have T := T.2 c1
    refine v_iload_n (pc' := 5) dX5_at_4 rfl rfl ?_
    refine v_iconst (pc' := 6) (v := 1) dX5_at_5 rfl kI_1 ?_
    refine v_icmp_gt (tgt := 29) (pc' := 9) dX5_at_6 (by decide) rfl ⟨fun c2 => ?_, fun c2 => ?_⟩
    · have T := T.1 c2
      refine v_iconst (pc' := 30) (v := 0) dX5_at_29 rfl kI_0 ?_
      exact v_iret dX5_at_30 rfl T
    · have T := T.2 c2
      refine v_iload_n (pc' := 10) dX5_at_9 rfl rfl ?_
      refine v_if_lt (tgt := 29) (pc' := 13) dX5_at_10 (by decide) rfl ⟨fun c3 => ?_, fun c3 => ?_⟩
      · have T := T.1 c3
        refine v_iconst (pc' := 30) (v := 0) dX5_at_29 rfl kI_0 ?_
        exact v_iret dX5_at_30 rfl T
      · have T := T.2 c3
        refine v_iload_n (pc' := 14) dX5_at_13 rfl rfl ?_
        refine v_bipush (pc' := 16) (v := 16) dX5_at_14 rfl kB_16 ?_
        refine v_icmp_ge (tgt := 29) (pc' := 19) dX5_at_16 (by decide) rfl ⟨fun c4 => ?_, fun c4 => ?_⟩
        · have T := T.1 c4
          refine v_iconst (pc' := 30) (v := 0) dX5_at_29 rfl kI_0 ?_
          exact v_iret dX5_at_30 rfl T
        · have T := T.2 c4
          refine v_iload_n (pc' := 20) dX5_at_19 rfl rfl ?_
          refine v_if_lt (tgt := 29) (pc' := 23) dX5_at_20 (by decide) rfl ⟨fun c5 => ?_, fun c5 => ?_⟩
          · have T := T.1 c5
            refine v_iconst (pc' := 30) (v := 0) dX5_at_29 rfl kI_0 ?_
            exact v_iret dX5_at_30 rfl T
          · have T := T.2 c5
            refine v_iload_n (pc' := 24) dX5_at_23 rfl rfl ?_
            refine v_bipush (pc' := 26) (v := 16) dX5_at_24 rfl kB_16 ?_
            refine v_icmp_lt (tgt := 31) (pc' := 29) dX5_at_26 (by decide) rfl ⟨fun c6 => ?_, fun c6 => ?_⟩
            · have T := T.1 c6
              refine v_aload_n (pc' := 32) dX5_at_31 rfl rfl ?_
              obtain ⟨q7, T⟩ := T
              refine v_getR (pc' := 35) 5 1 dX5_at_32 rfl (by decide) (by decide) rfl kf_X5_9 q7 ?_
              refine v_iload_n (pc' := 36) dX5_at_35 rfl rfl ?_
              refine v_sipush (pc' := 39) (v := 256) dX5_at_36 rfl kS_256 ?_
              refine v_imul (pc' := 40) dX5_at_39 rfl ?_
              refine v_iload_n (pc' := 41) dX5_at_40 rfl rfl ?_
              refine v_bipush (pc' := 43) (v := 16) dX5_at_41 rfl kB_16 ?_
              refine v_imul (pc' := 44) dX5_at_43 rfl ?_
              refine v_iadd (pc' := 45) dX5_at_44 rfl ?_
              refine v_iload_n (pc' := 46) dX5_at_45 rfl rfl ?_
              refine v_iadd (pc' := 47) dX5_at_46 rfl ?_
              obtain ⟨q8, T⟩ := T
              obtain ⟨q9, T⟩ := T
              refine v_bald (pc' := 48) dX5_at_47 rfl rfl q8 q9 ?_
              exact v_iret dX5_at_48 rfl T
            · have T := T.2 c6
              refine v_iconst (pc' := 30) (v := 0) dX5_at_29 rfl kI_0 ?_
              exact v_iret dX5_at_30 rfl T
theorem eX5_nodeField {G : GG} {d : Nat} {h : Hp} {o : OU} {h' : Hp} (r0 : Nat) (x1 : Int32) (x2 : Int32) (x3 : Int32) (T : ((x1 < 0 → (o = .inl (some (.int 0)) ∧ h' = h)) ∧ (¬ x1 < 0 → ((1 < x1 → (o = .inl (some (.int 0)) ∧ h' = h)) ∧ (¬ 1 < x1 → ((x2 < 0 → (o = .inl (some (.int 0)) ∧ h' = h)) ∧ (¬ x2 < 0 → ((12 ≤ x2 → (o = .inl (some (.int 0)) ∧ h' = h)) ∧ (¬ 12 ≤ x2 → ((x3 < 0 → (o = .inl (some (.int 0)) ∧ h' = h)) ∧ (¬ x3 < 0 → ((x3 ≤ 3 → kH h r0 = 15 ∧ kH h (rH h r0 1) = 2 ∧ vp_in ((((x1 * 256) + 16) + (x2 * 4)) + x3) (lH h (rH h r0 1)) ∧ (o = .inl (some (.int (h.2 (rH h r0 1) ((((x1 * 256) + 16) + (x2 * 4)) + x3).toNatClampNeg))) ∧ h' = h)) ∧ (¬ x3 ≤ 3 → (o = .inl (some (.int 0)) ∧ h' = h)))))))))))))) : VM G mX5_nodeField d [.ref r0, .int x1, .int x2, .int x3] h o h' := by
  refine V.toM rfl rfl (le_l rfl) (cat_all rfl) ?_
  show V G mX5_nodeField d 0 [.ref r0, .int x1, .int x2, .int x3] [] h o h'
  refine v_iload_n (pc' := 1) dX5_nodeField_0 rfl rfl ?_
  refine v_if_lt (tgt := 28) (pc' := 4) dX5_nodeField_1 (by decide) rfl ⟨fun c1 => ?_, fun c1 => ?_⟩
  · have T := T.1 c1
    refine v_iconst (pc' := 29) (v := 0) dX5_nodeField_28 rfl kI_0 ?_
    exact v_iret dX5_nodeField_29 rfl T
  · have T := T.2 c1
    refine v_iload_n (pc' := 5) dX5_nodeField_4 rfl rfl ?_
    refine v_iconst (pc' := 6) (v := 1) dX5_nodeField_5 rfl kI_1 ?_
    refine v_icmp_gt (tgt := 28) (pc' := 9) dX5_nodeField_6 (by decide) rfl ⟨fun c2 => ?_, fun c2 => ?_⟩
    · have T := T.1 c2
      refine v_iconst (pc' := 29) (v := 0) dX5_nodeField_28 rfl kI_0 ?_
      exact v_iret dX5_nodeField_29 rfl T
    · have T := T.2 c2
      refine v_iload_n (pc' := 10) dX5_nodeField_9 rfl rfl ?_
      refine v_if_lt (tgt := 28) (pc' := 13) dX5_nodeField_10 (by decide) rfl ⟨fun c3 => ?_, fun c3 => ?_⟩
      · have T := T.1 c3
        refine v_iconst (pc' := 29) (v := 0) dX5_nodeField_28 rfl kI_0 ?_
        exact v_iret dX5_nodeField_29 rfl T
      · have T := T.2 c3
        refine v_iload_n (pc' := 14) dX5_nodeField_13 rfl rfl ?_
        refine v_bipush (pc' := 16) (v := 12) dX5_nodeField_14 rfl kB_12 ?_
        refine v_icmp_ge (tgt := 28) (pc' := 19) dX5_nodeField_16 (by decide) rfl ⟨fun c4 => ?_, fun c4 => ?_⟩
        · have T := T.1 c4
          refine v_iconst (pc' := 29) (v := 0) dX5_nodeField_28 rfl kI_0 ?_
          exact v_iret dX5_nodeField_29 rfl T
        · have T := T.2 c4
          refine v_iload_n (pc' := 20) dX5_nodeField_19 rfl rfl ?_
          refine v_if_lt (tgt := 28) (pc' := 23) dX5_nodeField_20 (by decide) rfl ⟨fun c5 => ?_, fun c5 => ?_⟩
          · have T := T.1 c5
            refine v_iconst (pc' := 29) (v := 0) dX5_nodeField_28 rfl kI_0 ?_
            exact v_iret dX5_nodeField_29 rfl T
          · have T := T.2 c5
            refine v_iload_n (pc' := 24) dX5_nodeField_23 rfl rfl ?_
            refine v_iconst (pc' := 25) (v := 3) dX5_nodeField_24 rfl kI_3 ?_
            refine v_icmp_le (tgt := 30) (pc' := 28) dX5_nodeField_25 (by decide) rfl ⟨fun c6 => ?_, fun c6 => ?_⟩
            · have T := T.1 c6
              refine v_aload_n (pc' := 31) dX5_nodeField_30 rfl rfl ?_
              obtain ⟨q7, T⟩ := T
              refine v_getR (pc' := 34) 5 1 dX5_nodeField_31 rfl (by decide) (by decide) rfl kf_X5_9 q7 ?_
              refine v_iload_n (pc' := 35) dX5_nodeField_34 rfl rfl ?_
              refine v_sipush (pc' := 38) (v := 256) dX5_nodeField_35 rfl kS_256 ?_
              refine v_imul (pc' := 39) dX5_nodeField_38 rfl ?_
              refine v_bipush (pc' := 41) (v := 16) dX5_nodeField_39 rfl kB_16 ?_
              refine v_iadd (pc' := 42) dX5_nodeField_41 rfl ?_
              refine v_iload_n (pc' := 43) dX5_nodeField_42 rfl rfl ?_
              refine v_iconst (pc' := 44) (v := 4) dX5_nodeField_43 rfl kI_4 ?_
              refine v_imul (pc' := 45) dX5_nodeField_44 rfl ?_
              refine v_iadd (pc' := 46) dX5_nodeField_45 rfl ?_
              refine v_iload_n (pc' := 47) dX5_nodeField_46 rfl rfl ?_
              refine v_iadd (pc' := 48) dX5_nodeField_47 rfl ?_
              obtain ⟨q8, T⟩ := T
              obtain ⟨q9, T⟩ := T
              refine v_bald (pc' := 49) dX5_nodeField_48 rfl rfl q8 q9 ?_
              exact v_iret dX5_nodeField_49 rfl T
            · have T := T.2 c6
              refine v_iconst (pc' := 29) (v := 0) dX5_nodeField_28 rfl kI_0 ?_
              exact v_iret dX5_nodeField_29 rfl T
theorem eX5_isDirectory {G : GG} {d : Nat} {h : Hp} {o : OU} {h' : Hp} (r0 : Nat) (x1 : Int32) (x2 : Int32) (T : ((x1 < 0 → (o = .inl (some (.int 0)) ∧ h' = h)) ∧ (¬ x1 < 0 → ((1 < x1 → (o = .inl (some (.int 0)) ∧ h' = h)) ∧ (¬ 1 < x1 → ((x2 < 0 → (o = .inl (some (.int 0)) ∧ h' = h)) ∧ (¬ x2 < 0 → ((x2 < 12 → kH h r0 = 15 ∧ kH h (rH h r0 1) = 2 ∧ vp_in ((((x1 * 256) + 16) + (x2 * 4)) + 0) (lH h (rH h r0 1)) ∧ (((h.2 (rH h r0 1) ((((x1 * 256) + 16) + (x2 * 4)) + 0).toNatClampNeg) = 0 → (o = .inl (some (.int 0)) ∧ h' = h)) ∧ (¬ (h.2 (rH h r0 1) ((((x1 * 256) + 16) + (x2 * 4)) + 0).toNatClampNeg) = 0 → vp_in ((((x1 * 256) + 16) + (x2 * 4)) + 1) (lH h (rH h r0 1)) ∧ ((¬ (h.2 (rH h r0 1) ((((x1 * 256) + 16) + (x2 * 4)) + 1).toNatClampNeg) = 2 → (o = .inl (some (.int 0)) ∧ h' = h)) ∧ ((h.2 (rH h r0 1) ((((x1 * 256) + 16) + (x2 * 4)) + 1).toNatClampNeg) = 2 → (o = .inl (some (.int 1)) ∧ h' = h)))))) ∧ (¬ x2 < 12 → (o = .inl (some (.int 0)) ∧ h' = h)))))))))) : VM G mX5_isDirectory d [.ref r0, .int x1, .int x2] h o h' := by
  refine V.toM rfl rfl (le_l rfl) (cat_all rfl) ?_
  show V G mX5_isDirectory d 0 [.ref r0, .int x1, .int x2, uV] [] h o h'
  refine v_iload_n (pc' := 1) dX5_isDirectory_0 rfl rfl ?_
  refine v_if_lt (tgt := 19) (pc' := 4) dX5_isDirectory_1 (by decide) rfl ⟨fun c1 => ?_, fun c1 => ?_⟩
  · have T := T.1 c1
    refine v_iconst (pc' := 20) (v := 0) dX5_isDirectory_19 rfl kI_0 ?_
    exact v_zret dX5_isDirectory_20 rfl (Or.inl rfl) T
  · have T := T.2 c1
    refine v_iload_n (pc' := 5) dX5_isDirectory_4 rfl rfl ?_
    refine v_iconst (pc' := 6) (v := 1) dX5_isDirectory_5 rfl kI_1 ?_
    refine v_icmp_gt (tgt := 19) (pc' := 9) dX5_isDirectory_6 (by decide) rfl ⟨fun c2 => ?_, fun c2 => ?_⟩
    · have T := T.1 c2
      refine v_iconst (pc' := 20) (v := 0) dX5_isDirectory_19 rfl kI_0 ?_
      exact v_zret dX5_isDirectory_20 rfl (Or.inl rfl) T
    · have T := T.2 c2
      refine v_iload_n (pc' := 10) dX5_isDirectory_9 rfl rfl ?_
      refine v_if_lt (tgt := 19) (pc' := 13) dX5_isDirectory_10 (by decide) rfl ⟨fun c3 => ?_, fun c3 => ?_⟩
      · have T := T.1 c3
        refine v_iconst (pc' := 20) (v := 0) dX5_isDirectory_19 rfl kI_0 ?_
        exact v_zret dX5_isDirectory_20 rfl (Or.inl rfl) T
      · have T := T.2 c3
        refine v_iload_n (pc' := 14) dX5_isDirectory_13 rfl rfl ?_
        refine v_bipush (pc' := 16) (v := 12) dX5_isDirectory_14 rfl kB_12 ?_
        refine v_icmp_lt (tgt := 21) (pc' := 19) dX5_isDirectory_16 (by decide) rfl ⟨fun c4 => ?_, fun c4 => ?_⟩
        · have T := T.1 c4
          refine v_iload_n (pc' := 22) dX5_isDirectory_21 rfl rfl ?_
          refine v_sipush (pc' := 25) (v := 256) dX5_isDirectory_22 rfl kS_256 ?_
          refine v_imul (pc' := 26) dX5_isDirectory_25 rfl ?_
          refine v_bipush (pc' := 28) (v := 16) dX5_isDirectory_26 rfl kB_16 ?_
          refine v_iadd (pc' := 29) dX5_isDirectory_28 rfl ?_
          refine v_iload_n (pc' := 30) dX5_isDirectory_29 rfl rfl ?_
          refine v_iconst (pc' := 31) (v := 4) dX5_isDirectory_30 rfl kI_4 ?_
          refine v_imul (pc' := 32) dX5_isDirectory_31 rfl ?_
          refine v_iadd (pc' := 33) dX5_isDirectory_32 rfl ?_
          refine v_istore_n (pc' := 34) (loc' := [.ref r0, .int x1, .int x2, .int (((x1 * 256) + 16) + (x2 * 4))]) dX5_isDirectory_33 rfl (lt_l rfl) rfl ?_
          refine v_aload_n (pc' := 35) dX5_isDirectory_34 rfl rfl ?_
          obtain ⟨q5, T⟩ := T
          refine v_getR (pc' := 38) 5 1 dX5_isDirectory_35 rfl (by decide) (by decide) rfl kf_X5_9 q5 ?_
          refine v_iload_n (pc' := 39) dX5_isDirectory_38 rfl rfl ?_
          refine v_iconst (pc' := 40) (v := 0) dX5_isDirectory_39 rfl kI_0 ?_
          refine v_iadd (pc' := 41) dX5_isDirectory_40 rfl ?_
          obtain ⟨q6, T⟩ := T
          obtain ⟨q7, T⟩ := T
          refine v_bald (pc' := 42) dX5_isDirectory_41 rfl rfl q6 q7 ?_
          refine v_if_eq (tgt := 61) (pc' := 45) dX5_isDirectory_42 (by decide) rfl ⟨fun c8 => ?_, fun c8 => ?_⟩
          · have T := T.1 c8
            refine v_iconst (pc' := 62) (v := 0) dX5_isDirectory_61 rfl kI_0 ?_
            exact v_zret dX5_isDirectory_62 rfl (Or.inl rfl) T
          · have T := T.2 c8
            refine v_aload_n (pc' := 46) dX5_isDirectory_45 rfl rfl ?_
            refine v_getR (pc' := 49) 5 1 dX5_isDirectory_46 rfl (by decide) (by decide) rfl kf_X5_9 q5 ?_
            refine v_iload_n (pc' := 50) dX5_isDirectory_49 rfl rfl ?_
            refine v_iconst (pc' := 51) (v := 1) dX5_isDirectory_50 rfl kI_1 ?_
            refine v_iadd (pc' := 52) dX5_isDirectory_51 rfl ?_
            obtain ⟨q9, T⟩ := T
            refine v_bald (pc' := 53) dX5_isDirectory_52 rfl rfl q6 q9 ?_
            refine v_iconst (pc' := 54) (v := 2) dX5_isDirectory_53 rfl kI_2 ?_
            refine v_icmp_ne (tgt := 61) (pc' := 57) dX5_isDirectory_54 (by decide) rfl ⟨fun c10 => ?_, fun c10 => ?_⟩
            · have T := T.1 c10
              refine v_iconst (pc' := 62) (v := 0) dX5_isDirectory_61 rfl kI_0 ?_
              exact v_zret dX5_isDirectory_62 rfl (Or.inl rfl) T
            · have T := T.2 c10
              refine v_iconst (pc' := 58) (v := 1) dX5_isDirectory_57 rfl kI_1 ?_
              refine v_goto (pc' := 62) dX5_isDirectory_58 (by decide) ?_
              exact v_zret dX5_isDirectory_62 rfl (Or.inr rfl) T
        · have T := T.2 c4
          refine v_iconst (pc' := 20) (v := 0) dX5_isDirectory_19 rfl kI_0 ?_
          exact v_zret dX5_isDirectory_20 rfl (Or.inl rfl) T
theorem eX5_putField {G : GG} {d : Nat} {h : Hp} {o : OU} {h' : Hp} (r0 : Nat) (x1 : Int32) (x2 : Int32) (x3 : Int32) (hd : 1 ≤ d) (T : kH h r0 = 15 ∧ ∃ z2 h1, VM G mX5_put (d - 1) [.ref r0, .int (1 + (x1 / 4)), .int (((x1 - x1 / 4 * 4) * 4) + x2), .int x3] h (.inl (some (.int z2))) h1 ∧ (o = .inl (some (.int z2)) ∧ h' = h1)) : VM G mX5_putField d [.ref r0, .int x1, .int x2, .int x3] h o h' := by
  refine V.toM rfl rfl (le_l rfl) (cat_all rfl) ?_
  show V G mX5_putField d 0 [.ref r0, .int x1, .int x2, .int x3] [] h o h'
  have hdd : d - 1 + 1 ≤ d := by omega
  refine v_aload_n (pc' := 1) dX5_putField_0 rfl rfl ?_
  refine v_iconst (pc' := 2) (v := 1) dX5_putField_1 rfl kI_1 ?_
  refine v_iload_n (pc' := 3) dX5_putField_2 rfl rfl ?_
  refine v_iconst (pc' := 4) (v := 4) dX5_putField_3 rfl kI_4 ?_
  refine v_idiv (pc' := 5) dX5_putField_4 rfl (by decide) ?_
  refine v_iadd (pc' := 6) dX5_putField_5 rfl ?_
  refine v_iload_n (pc' := 7) dX5_putField_6 rfl rfl ?_
  refine v_iconst (pc' := 8) (v := 4) dX5_putField_7 rfl kI_4 ?_
  refine v_irem (pc' := 9) dX5_putField_8 rfl (by decide) ?_
  refine v_iconst (pc' := 10) (v := 4) dX5_putField_9 rfl kI_4 ?_
  refine v_imul (pc' := 11) dX5_putField_10 rfl ?_
  refine v_iload_n (pc' := 12) dX5_putField_11 rfl rfl ?_
  refine v_iadd (pc' := 13) dX5_putField_12 rfl ?_
  refine v_iload_n (pc' := 14) dX5_putField_13 rfl rfl ?_
  obtain ⟨q4, T⟩ := T
  obtain ⟨z2, h1, k3, T⟩ := T
  refine v_callV (pc' := 17) (M1 := mX5_put) (as := [.int (1 + (x1 / 4)), .int (((x1 - x1 / 4 * 4) * 4) + x2), .int x3]) (r := r0) (rest := []) 5 dX5_putField_14 rfl ko_X5_78 kc_X5_put ki_X5_put ks_X5_put (by decide) (by decide) hdd rfl rfl (le_l rfl) q4 k3 ?_
  exact v_iret dX5_putField_17 rfl T
theorem eX5_put {G : GG} {d : Nat} {h : Hp} {o : OU} {h' : Hp} (r0 : Nat) (x1 : Int32) (x2 : Int32) (x3 : Int32) (T : ((x1 < 0 → (o = .inl (some (.int (-1))) ∧ h' = h)) ∧ (¬ x1 < 0 → ((16 ≤ x1 → (o = .inl (some (.int (-1))) ∧ h' = h)) ∧ (¬ 16 ≤ x1 → ((x2 < 0 → (o = .inl (some (.int (-1))) ∧ h' = h)) ∧ (¬ x2 < 0 → ((16 < x2 → (o = .inl (some (.int (-1))) ∧ h' = h)) ∧ (¬ 16 < x2 → kH h r0 = 15 ∧ (((h.2 r0 2) < 256 → ((¬ x2 = 16 → ((¬ x2 = 16 → V G mX5_put d 76 [.ref r0, .int x1, .int x2, .int x3, .int ((x1 * 16) + x2), .int ((x1 * 16) + x2), .int 1, .int ((x1 * 16) + x2), uV] [] h o h') ∧ (x2 = 16 → V G mX5_put d 76 [.ref r0, .int x1, .int x2, .int x3, .int ((x1 * 16) + x2), .int ((x1 * 16) + 15), .int 1, .int ((x1 * 16) + x2), uV] [] h o h'))) ∧ (x2 = 16 → ((¬ x2 = 16 → V G mX5_put d 76 [.ref r0, .int x1, .int x2, .int x3, .int ((x1 * 16) + 0), .int ((x1 * 16) + x2), .int 1, .int ((x1 * 16) + 0), uV] [] h o h') ∧ (x2 = 16 → V G mX5_put d 76 [.ref r0, .int x1, .int x2, .int x3, .int ((x1 * 16) + 0), .int ((x1 * 16) + 15), .int 1, .int ((x1 * 16) + 0), uV] [] h o h'))))) ∧ (¬ (h.2 r0 2) < 256 → (o = .inl (some (.int (-1))) ∧ h' = h)))))))))))) : VM G mX5_put d [.ref r0, .int x1, .int x2, .int x3] h o h' := by
  refine V.toM rfl rfl (le_l rfl) (cat_all rfl) ?_
  show V G mX5_put d 0 [.ref r0, .int x1, .int x2, .int x3, uV, uV, uV, uV, uV] [] h o h'
  refine v_iload_n (pc' := 1) dX5_put_0 rfl rfl ?_
  refine v_if_lt (tgt := 30) (pc' := 4) dX5_put_1 (by decide) rfl ⟨fun c1 => ?_, fun c1 => ?_⟩
  · have T := T.1 c1
    refine v_iconst (pc' := 31) (v := (-1)) dX5_put_30 rfl kI_m1 ?_
    exact v_iret dX5_put_31 rfl T
  · have T := T.2 c1
    refine v_iload_n (pc' := 5) dX5_put_4 rfl rfl ?_
    refine v_bipush (pc' := 7) (v := 16) dX5_put_5 rfl kB_16 ?_
    refine v_icmp_ge (tgt := 30) (pc' := 10) dX5_put_7 (by decide) rfl ⟨fun c2 => ?_, fun c2 => ?_⟩
    · have T := T.1 c2
      refine v_iconst (pc' := 31) (v := (-1)) dX5_put_30 rfl kI_m1 ?_
      exact v_iret dX5_put_31 rfl T
    · have T := T.2 c2
      refine v_iload_n (pc' := 11) dX5_put_10 rfl rfl ?_
      refine v_if_lt (tgt := 30) (pc' := 14) dX5_put_11 (by decide) rfl ⟨fun c3 => ?_, fun c3 => ?_⟩
      · have T := T.1 c3
        refine v_iconst (pc' := 31) (v := (-1)) dX5_put_30 rfl kI_m1 ?_
        exact v_iret dX5_put_31 rfl T
      · have T := T.2 c3
        refine v_iload_n (pc' := 15) dX5_put_14 rfl rfl ?_
        refine v_bipush (pc' := 17) (v := 16) dX5_put_15 rfl kB_16 ?_
        refine v_icmp_gt (tgt := 30) (pc' := 20) dX5_put_17 (by decide) rfl ⟨fun c4 => ?_, fun c4 => ?_⟩
        · have T := T.1 c4
          refine v_iconst (pc' := 31) (v := (-1)) dX5_put_30 rfl kI_m1 ?_
          exact v_iret dX5_put_31 rfl T
        · have T := T.2 c4
          refine v_aload_n (pc' := 21) dX5_put_20 rfl rfl ?_
          obtain ⟨q5, T⟩ := T
          refine v_getI (pc' := 24) 5 2 dX5_put_21 rfl (by decide) (by decide) rfl kf_X5_60 q5 ?_
          refine v_sipush (pc' := 27) (v := 256) dX5_put_24 rfl kS_256 ?_
          refine v_icmp_lt (tgt := 32) (pc' := 30) dX5_put_27 (by decide) rfl ⟨fun c6 => ?_, fun c6 => ?_⟩
          · have T := T.1 c6
            refine v_iload_n (pc' := 33) dX5_put_32 rfl rfl ?_
            refine v_bipush (pc' := 35) (v := 16) dX5_put_33 rfl kB_16 ?_
            refine v_imul (pc' := 36) dX5_put_35 rfl ?_
            refine v_iload_n (pc' := 37) dX5_put_36 rfl rfl ?_
            refine v_bipush (pc' := 39) (v := 16) dX5_put_37 rfl kB_16 ?_
            refine v_icmp_ne (tgt := 46) (pc' := 42) dX5_put_39 (by decide) rfl ⟨fun c7 => ?_, fun c7 => ?_⟩
            · have T := T.1 c7
              refine v_iload_n (pc' := 47) dX5_put_46 rfl rfl ?_
              refine v_iadd (pc' := 48) dX5_put_47 rfl ?_
              refine v_istore (pc' := 50) (loc' := [.ref r0, .int x1, .int x2, .int x3, .int ((x1 * 16) + x2), uV, uV, uV, uV]) dX5_put_48 rfl (lt_l rfl) rfl ?_
              refine v_iload_n (pc' := 51) dX5_put_50 rfl rfl ?_
              refine v_bipush (pc' := 53) (v := 16) dX5_put_51 rfl kB_16 ?_
              refine v_imul (pc' := 54) dX5_put_53 rfl ?_
              refine v_iload_n (pc' := 55) dX5_put_54 rfl rfl ?_
              refine v_bipush (pc' := 57) (v := 16) dX5_put_55 rfl kB_16 ?_
              refine v_icmp_ne (tgt := 65) (pc' := 60) dX5_put_57 (by decide) rfl ⟨fun c8 => ?_, fun c8 => ?_⟩
              · have T := T.1 c8
                refine v_iload_n (pc' := 66) dX5_put_65 rfl rfl ?_
                refine v_iadd (pc' := 67) dX5_put_66 rfl ?_
                refine v_istore (pc' := 69) (loc' := [.ref r0, .int x1, .int x2, .int x3, .int ((x1 * 16) + x2), .int ((x1 * 16) + x2), uV, uV, uV]) dX5_put_67 rfl (lt_l rfl) rfl ?_
                refine v_iconst (pc' := 70) (v := 1) dX5_put_69 rfl kI_1 ?_
                refine v_istore (pc' := 72) (loc' := [.ref r0, .int x1, .int x2, .int x3, .int ((x1 * 16) + x2), .int ((x1 * 16) + x2), .int 1, uV, uV]) dX5_put_70 rfl (lt_l rfl) rfl ?_
                refine v_iload (pc' := 74) dX5_put_72 rfl rfl ?_
                refine v_istore (pc' := 76) (loc' := [.ref r0, .int x1, .int x2, .int x3, .int ((x1 * 16) + x2), .int ((x1 * 16) + x2), .int 1, .int ((x1 * 16) + x2), uV]) dX5_put_74 rfl (lt_l rfl) rfl ?_
                exact T
              · have T := T.2 c8
                refine v_bipush (pc' := 62) (v := 15) dX5_put_60 rfl kB_15 ?_
                refine v_goto (pc' := 66) dX5_put_62 (by decide) ?_
                refine v_iadd (pc' := 67) dX5_put_66 rfl ?_
                refine v_istore (pc' := 69) (loc' := [.ref r0, .int x1, .int x2, .int x3, .int ((x1 * 16) + x2), .int ((x1 * 16) + 15), uV, uV, uV]) dX5_put_67 rfl (lt_l rfl) rfl ?_
                refine v_iconst (pc' := 70) (v := 1) dX5_put_69 rfl kI_1 ?_
                refine v_istore (pc' := 72) (loc' := [.ref r0, .int x1, .int x2, .int x3, .int ((x1 * 16) + x2), .int ((x1 * 16) + 15), .int 1, uV, uV]) dX5_put_70 rfl (lt_l rfl) rfl ?_
                refine v_iload (pc' := 74) dX5_put_72 rfl rfl ?_
                refine v_istore (pc' := 76) (loc' := [.ref r0, .int x1, .int x2, .int x3, .int ((x1 * 16) + x2), .int ((x1 * 16) + 15), .int 1, .int ((x1 * 16) + x2), uV]) dX5_put_74 rfl (lt_l rfl) rfl ?_
                exact T
            · have T := T.2 c7
              refine v_iconst (pc' := 43) (v := 0) dX5_put_42 rfl kI_0 ?_
              refine v_goto (pc' := 47) dX5_put_43 (by decide) ?_
              refine v_iadd (pc' := 48) dX5_put_47 rfl ?_
              refine v_istore (pc' := 50) (loc' := [.ref r0, .int x1, .int x2, .int x3, .int ((x1 * 16) + 0), uV, uV, uV, uV]) dX5_put_48 rfl (lt_l rfl) rfl ?_
              refine v_iload_n (pc' := 51) dX5_put_50 rfl rfl ?_
              refine v_bipush (pc' := 53) (v := 16) dX5_put_51 rfl kB_16 ?_
              refine v_imul (pc' := 54) dX5_put_53 rfl ?_
              refine v_iload_n (pc' := 55) dX5_put_54 rfl rfl ?_
              refine v_bipush (pc' := 57) (v := 16) dX5_put_55 rfl kB_16 ?_
              refine v_icmp_ne (tgt := 65) (pc' := 60) dX5_put_57 (by decide) rfl ⟨fun c9 => ?_, fun c9 => ?_⟩
              · have T := T.1 c9
                refine v_iload_n (pc' := 66) dX5_put_65 rfl rfl ?_
                refine v_iadd (pc' := 67) dX5_put_66 rfl ?_
                refine v_istore (pc' := 69) (loc' := [.ref r0, .int x1, .int x2, .int x3, .int ((x1 * 16) + 0), .int ((x1 * 16) + x2), uV, uV, uV]) dX5_put_67 rfl (lt_l rfl) rfl ?_
                refine v_iconst (pc' := 70) (v := 1) dX5_put_69 rfl kI_1 ?_
                refine v_istore (pc' := 72) (loc' := [.ref r0, .int x1, .int x2, .int x3, .int ((x1 * 16) + 0), .int ((x1 * 16) + x2), .int 1, uV, uV]) dX5_put_70 rfl (lt_l rfl) rfl ?_
                refine v_iload (pc' := 74) dX5_put_72 rfl rfl ?_
                refine v_istore (pc' := 76) (loc' := [.ref r0, .int x1, .int x2, .int x3, .int ((x1 * 16) + 0), .int ((x1 * 16) + x2), .int 1, .int ((x1 * 16) + 0), uV]) dX5_put_74 rfl (lt_l rfl) rfl ?_
                exact T
              · have T := T.2 c9
                refine v_bipush (pc' := 62) (v := 15) dX5_put_60 rfl kB_15 ?_
                refine v_goto (pc' := 66) dX5_put_62 (by decide) ?_
                refine v_iadd (pc' := 67) dX5_put_66 rfl ?_
                refine v_istore (pc' := 69) (loc' := [.ref r0, .int x1, .int x2, .int x3, .int ((x1 * 16) + 0), .int ((x1 * 16) + 15), uV, uV, uV]) dX5_put_67 rfl (lt_l rfl) rfl ?_
                refine v_iconst (pc' := 70) (v := 1) dX5_put_69 rfl kI_1 ?_
                refine v_istore (pc' := 72) (loc' := [.ref r0, .int x1, .int x2, .int x3, .int ((x1 * 16) + 0), .int ((x1 * 16) + 15), .int 1, uV, uV]) dX5_put_70 rfl (lt_l rfl) rfl ?_
                refine v_iload (pc' := 74) dX5_put_72 rfl rfl ?_
                refine v_istore (pc' := 76) (loc' := [.ref r0, .int x1, .int x2, .int x3, .int ((x1 * 16) + 0), .int ((x1 * 16) + 15), .int 1, .int ((x1 * 16) + 0), uV]) dX5_put_74 rfl (lt_l rfl) rfl ?_
                exact T
          · have T := T.2 c6
            refine v_iconst (pc' := 31) (v := (-1)) dX5_put_30 rfl kI_m1 ?_
            exact v_iret dX5_put_31 rfl T
theorem bX5_put_76 {G : GG} {d : Nat} {h : Hp} {o : OU} {h' : Hp} (r0 : Nat) (x1 : Int32) (x2 : Int32) (x3 : Int32) (x4 : Int32) (x5 : Int32) (x6 : Int32) (x7 : Int32) (T : ((x5 < x7 → ((x6 = 0 → kH h r0 = 15 ∧ V G mX5_put d 129 [.ref r0, .int x1, .int x2, .int x3, uV, .int x5, uV, .int (h.2 r0 2), .int x4] [] h o h') ∧ (¬ x6 = 0 → (o = .inl (some (.int (-1))) ∧ h' = h)))) ∧ (¬ x5 < x7 → ((x6 = 0 → V G mX5_put d 76 [.ref r0, .int x1, .int x2, .int x3, .int x4, .int x5, .int 0, .int (x7 + 1), uV] [] h o h') ∧ (¬ x6 = 0 → kH h r0 = 15 ∧ kH h (rH h r0 1) = 2 ∧ vp_in x7 (lH h (rH h r0 1)) ∧ ((¬ (h.2 (rH h r0 1) x7.toNatClampNeg) = x3 → V G mX5_put d 76 [.ref r0, .int x1, .int x2, .int x3, .int x4, .int x5, .int 0, .int (x7 + 1), uV] [] h o h') ∧ ((h.2 (rH h r0 1) x7.toNatClampNeg) = x3 → V G mX5_put d 76 [.ref r0, .int x1, .int x2, .int x3, .int x4, .int x5, .int 1, .int (x7 + 1), uV] [] h o h'))))))) : V G mX5_put d 76 [.ref r0, .int x1, .int x2, .int x3, .int x4, .int x5, .int x6, .int x7, uV] [] h o h' := by
  refine v_iload (pc' := 78) dX5_put_76 rfl rfl ?_
  refine v_iload (pc' := 80) dX5_put_78 rfl rfl ?_
  refine v_icmp_gt (tgt := 112) (pc' := 83) dX5_put_80 (by decide) rfl ⟨fun c1 => ?_, fun c1 => ?_⟩
  · have T := T.1 c1
    refine v_iload (pc' := 114) dX5_put_112 rfl rfl ?_
    refine v_if_eq (tgt := 119) (pc' := 117) dX5_put_114 (by decide) rfl ⟨fun c2 => ?_, fun c2 => ?_⟩
    · have T := T.1 c2
      refine v_aload_n (pc' := 120) dX5_put_119 rfl rfl ?_
      obtain ⟨q3, T⟩ := T
      refine v_getI (pc' := 123) 5 2 dX5_put_120 rfl (by decide) (by decide) rfl kf_X5_60 q3 ?_
      refine v_istore (pc' := 125) (loc' := [.ref r0, .int x1, .int x2, .int x3, .int x4, .int x5, .int x6, .int (h.2 r0 2), uV]) dX5_put_123 rfl (lt_l rfl) rfl ?_
      refine v_iload (pc' := 127) dX5_put_125 rfl rfl ?_
      refine v_istore (pc' := 129) (loc' := [.ref r0, .int x1, .int x2, .int x3, .int x4, .int x5, .int x6, .int (h.2 r0 2), .int x4]) dX5_put_127 rfl (lt_l rfl) rfl ?_
      exact V.drop (llp_r (llp_r (llp_r (llp_r (llp_u (llp_r (llp_u (llp_r (llp_r llp_nil))))))))) T
    · have T := T.2 c2
      refine v_iconst (pc' := 118) (v := (-1)) dX5_put_117 rfl kI_m1 ?_
      exact v_iret dX5_put_118 rfl T
  · have T := T.2 c1
    refine v_iload (pc' := 85) dX5_put_83 rfl rfl ?_
    refine v_if_eq (tgt := 103) (pc' := 88) dX5_put_85 (by decide) rfl ⟨fun c4 => ?_, fun c4 => ?_⟩
    · have T := T.1 c4
      refine v_iconst (pc' := 104) (v := 0) dX5_put_103 rfl kI_0 ?_
      refine v_istore (pc' := 106) (loc' := [.ref r0, .int x1, .int x2, .int x3, .int x4, .int x5, .int 0, .int x7, uV]) dX5_put_104 rfl (lt_l rfl) rfl ?_
      refine v_iinc (pc' := 109) (loc' := [.ref r0, .int x1, .int x2, .int x3, .int x4, .int x5, .int 0, .int (x7 + 1), uV]) dX5_put_106 rfl rfl (kX_1 _) rfl ?_
      refine v_goto (pc' := 76) dX5_put_109 (by decide) ?_
      exact T
    · have T := T.2 c4
      refine v_aload_n (pc' := 89) dX5_put_88 rfl rfl ?_
      obtain ⟨q5, T⟩ := T
      refine v_getR (pc' := 92) 5 1 dX5_put_89 rfl (by decide) (by decide) rfl kf_X5_9 q5 ?_
      refine v_iload (pc' := 94) dX5_put_92 rfl rfl ?_
      obtain ⟨q6, T⟩ := T
      obtain ⟨q7, T⟩ := T
      refine v_bald (pc' := 95) dX5_put_94 rfl rfl q6 q7 ?_
      refine v_iload_n (pc' := 96) dX5_put_95 rfl rfl ?_
      refine v_icmp_ne (tgt := 103) (pc' := 99) dX5_put_96 (by decide) rfl ⟨fun c8 => ?_, fun c8 => ?_⟩
      · have T := T.1 c8
        refine v_iconst (pc' := 104) (v := 0) dX5_put_103 rfl kI_0 ?_
        refine v_istore (pc' := 106) (loc' := [.ref r0, .int x1, .int x2, .int x3, .int x4, .int x5, .int 0, .int x7, uV]) dX5_put_104 rfl (lt_l rfl) rfl ?_
        refine v_iinc (pc' := 109) (loc' := [.ref r0, .int x1, .int x2, .int x3, .int x4, .int x5, .int 0, .int (x7 + 1), uV]) dX5_put_106 rfl rfl (kX_1 _) rfl ?_
        refine v_goto (pc' := 76) dX5_put_109 (by decide) ?_
        exact T
      · have T := T.2 c8
        refine v_iconst (pc' := 100) (v := 1) dX5_put_99 rfl kI_1 ?_
        refine v_goto (pc' := 104) dX5_put_100 (by decide) ?_
        refine v_istore (pc' := 106) (loc' := [.ref r0, .int x1, .int x2, .int x3, .int x4, .int x5, .int 1, .int x7, uV]) dX5_put_104 rfl (lt_l rfl) rfl ?_
        refine v_iinc (pc' := 109) (loc' := [.ref r0, .int x1, .int x2, .int x3, .int x4, .int x5, .int 1, .int (x7 + 1), uV]) dX5_put_106 rfl rfl (kX_1 _) rfl ?_
        refine v_goto (pc' := 76) dX5_put_109 (by decide) ?_
        exact T
theorem bX5_put_129 {G : GG} {d : Nat} {h : Hp} {o : OU} {h' : Hp} (r0 : Nat) (x1 : Int32) (x2 : Int32) (x3 : Int32) (x5 : Int32) (x7 : Int32) (x8 : Int32) (T : ((x5 < x8 → kH h r0 = 15 ∧ kH h (rH h r0 3) = 1 ∧ vp_in x7 (lH h (rH h r0 3)) ∧ kH h (rH h r0 4) = 1 ∧ vp_in x7 (lH h (rH h r0 4)) ∧ kH h (rH h r0 5) = 1 ∧ vp_in x7 (lH h (rH h r0 5)) ∧ V G mX5_put d 203 [.ref r0, uV, uV, uV, uV, uV, uV, .int x7, .int 0] [] (h.1, (upI (upI (upI h.2 (rH h r0 3) x7.toNatClampNeg x1) (rH h r0 4) x7.toNatClampNeg x2) (rH h r0 5) x7.toNatClampNeg x3)) o h') ∧ (¬ x5 < x8 → kH h r0 = 15 ∧ kH h (rH h r0 1) = 2 ∧ vp_in x8 (lH h (rH h r0 1)) ∧ kH h (rH h r0 6) = 2 ∧ vp_in (((x7 * 16) + x8) - (x1 * 16)) (lH h (rH h r0 6)) ∧ (∀ i14 : Nat → Nat → Int32, i14 = (upI (upI h.2 (rH h r0 6) (((x7 * 16) + x8) - (x1 * 16)).toNatClampNeg ((h.2 (rH h r0 1) x8.toNatClampNeg).toInt8.toInt32)) (rH h r0 1) x8.toNatClampNeg x3.toInt8.toInt32.toInt8.toInt32) → V G mX5_put d 129 [.ref r0, .int x1, .int x2, .int x3, uV, .int x5, uV, .int x7, .int (x8 + 1)] [] (h.1, i14) o h')))) : V G mX5_put d 129 [.ref r0, .int x1, .int x2, .int x3, uV, .int x5, uV, .int x7, .int x8] [] h o h' := by
  refine v_iload (pc' := 131) dX5_put_129 rfl rfl ?_
  refine v_iload (pc' := 133) dX5_put_131 rfl rfl ?_
  refine v_icmp_gt (tgt := 176) (pc' := 136) dX5_put_133 (by decide) rfl ⟨fun c1 => ?_, fun c1 => ?_⟩
  · have T := T.1 c1
    refine v_aload_n (pc' := 177) dX5_put_176 rfl rfl ?_
    obtain ⟨q2, T⟩ := T
    refine v_getR (pc' := 180) 5 3 dX5_put_177 rfl (by decide) (by decide) rfl kf_X5_15 q2 ?_
    refine v_iload (pc' := 182) dX5_put_180 rfl rfl ?_
    refine v_iload_n (pc' := 183) dX5_put_182 rfl rfl ?_
    obtain ⟨q3, T⟩ := T
    obtain ⟨q4, T⟩ := T
    refine v_iast (pc' := 184) dX5_put_183 rfl rfl q3 q4 ?_
    refine v_aload_n (pc' := 185) dX5_put_184 rfl rfl ?_
    refine v_getR (pc' := 188) 5 4 dX5_put_185 rfl (by decide) (by decide) rfl kf_X5_19 q2 ?_
    refine v_iload (pc' := 190) dX5_put_188 rfl rfl ?_
    refine v_iload_n (pc' := 191) dX5_put_190 rfl rfl ?_
    obtain ⟨q5, T⟩ := T
    obtain ⟨q6, T⟩ := T
    refine v_iast (pc' := 192) dX5_put_191 rfl rfl q5 q6 ?_
    refine v_aload_n (pc' := 193) dX5_put_192 rfl rfl ?_
    refine v_getR (pc' := 196) 5 5 dX5_put_193 rfl (by decide) (by decide) rfl kf_X5_22 q2 ?_
    refine v_iload (pc' := 198) dX5_put_196 rfl rfl ?_
    refine v_iload_n (pc' := 199) dX5_put_198 rfl rfl ?_
    obtain ⟨q7, T⟩ := T
    obtain ⟨q8, T⟩ := T
    refine v_iast (pc' := 200) dX5_put_199 rfl rfl q7 q8 ?_
    refine v_iconst (pc' := 201) (v := 0) dX5_put_200 rfl kI_0 ?_
    refine v_istore (pc' := 203) (loc' := [.ref r0, .int x1, .int x2, .int x3, uV, .int x5, uV, .int x7, .int 0]) dX5_put_201 rfl (lt_l rfl) rfl ?_
    exact V.drop (llp_r (llp_u (llp_u (llp_u (llp_r (llp_u (llp_r (llp_r (llp_r llp_nil))))))))) T
  · have T := T.2 c1
    refine v_aload_n (pc' := 137) dX5_put_136 rfl rfl ?_
    obtain ⟨q9, T⟩ := T
    refine v_getR (pc' := 140) 5 6 dX5_put_137 rfl (by decide) (by decide) rfl kf_X5_25 q9 ?_
    refine v_iload (pc' := 142) dX5_put_140 rfl rfl ?_
    refine v_bipush (pc' := 144) (v := 16) dX5_put_142 rfl kB_16 ?_
    refine v_imul (pc' := 145) dX5_put_144 rfl ?_
    refine v_iload (pc' := 147) dX5_put_145 rfl rfl ?_
    refine v_iadd (pc' := 148) dX5_put_147 rfl ?_
    refine v_iload_n (pc' := 149) dX5_put_148 rfl rfl ?_
    refine v_bipush (pc' := 151) (v := 16) dX5_put_149 rfl kB_16 ?_
    refine v_imul (pc' := 152) dX5_put_151 rfl ?_
    refine v_isub (pc' := 153) dX5_put_152 rfl ?_
    refine v_aload_n (pc' := 154) dX5_put_153 rfl rfl ?_
    refine v_getR (pc' := 157) 5 1 dX5_put_154 rfl (by decide) (by decide) rfl kf_X5_9 q9 ?_
    refine v_iload (pc' := 159) dX5_put_157 rfl rfl ?_
    obtain ⟨q10, T⟩ := T
    obtain ⟨q11, T⟩ := T
    refine v_bald (pc' := 160) dX5_put_159 rfl rfl q10 q11 ?_
    obtain ⟨q12, T⟩ := T
    obtain ⟨q13, T⟩ := T
    refine v_bast (pc' := 161) dX5_put_160 rfl rfl q12 q13 ?_
    refine v_aload_n (pc' := 162) dX5_put_161 rfl rfl ?_
    refine v_getR (pc' := 165) 5 1 dX5_put_162 rfl (by decide) (by decide) rfl kf_X5_9 q9 ?_
    refine v_iload (pc' := 167) dX5_put_165 rfl rfl ?_
    refine v_iload_n (pc' := 168) dX5_put_167 rfl rfl ?_
    refine v_i2b (pc' := 169) dX5_put_168 rfl ?_
    refine v_bast (pc' := 170) dX5_put_169 rfl rfl q10 q11 ?_
    show V G mX5_put d 170 [.ref r0, .int x1, .int x2, .int x3, uV, .int x5, uV, .int x7, .int x8] [] (h.1, (upI (upI h.2 (rH h r0 6) (((x7 * 16) + x8) - (x1 * 16)).toNatClampNeg ((h.2 (rH h r0 1) x8.toNatClampNeg).toInt8.toInt32)) (rH h r0 1) x8.toNatClampNeg x3.toInt8.toInt32.toInt8.toInt32)) o h'
    obtain ⟨i14, e15⟩ : ∃ z : Nat → Nat → Int32, z = (upI (upI h.2 (rH h r0 6) (((x7 * 16) + x8) - (x1 * 16)).toNatClampNeg ((h.2 (rH h r0 1) x8.toNatClampNeg).toInt8.toInt32)) (rH h r0 1) x8.toNatClampNeg x3.toInt8.toInt32.toInt8.toInt32) := ⟨_, rfl⟩
    rw [← e15]
    have T := T i14 e15
    refine v_iinc (pc' := 173) (loc' := [.ref r0, .int x1, .int x2, .int x3, uV, .int x5, uV, .int x7, .int (x8 + 1)]) dX5_put_170 rfl rfl (kX_1 _) rfl ?_
    refine v_goto (pc' := 129) dX5_put_173 (by decide) ?_
    exact T
theorem bX5_put_203 {G : GG} {d : Nat} {h : Hp} {o : OU} {h' : Hp} (r0 : Nat) (x7 : Int32) (x8 : Int32) (T : ((4 ≤ x8 → kH h r0 = 15 ∧ kH h (rH h r0 8) = 1 ∧ vp_in x7 (lH h (rH h r0 8)) ∧ (∀ i5 : Nat → Nat → Int32, i5 = (upI (upI (upI h.2 (rH h r0 8) x7.toNatClampNeg (-1)) r0 2 (((upI h.2 (rH h r0 8) x7.toNatClampNeg (-1)) r0 2) + 1)) r0 15 (((upI (upI h.2 (rH h r0 8) x7.toNatClampNeg (-1)) r0 2 (((upI h.2 (rH h r0 8) x7.toNatClampNeg (-1)) r0 2) + 1)) r0 15) + 1)) → (o = .inl (some (.int x7)) ∧ h' = (h.1, i5)))) ∧ (¬ 4 ≤ x8 → kH h r0 = 15 ∧ kH h (rH h r0 7) = 1 ∧ vp_in ((x7 * 4) + x8) (lH h (rH h r0 7)) ∧ V G mX5_put d 203 [.ref r0, uV, uV, uV, uV, uV, uV, .int x7, .int (x8 + 1)] [] (h.1, (upI h.2 (rH h r0 7) ((x7 * 4) + x8).toNatClampNeg (-1))) o h'))) : V G mX5_put d 203 [.ref r0, uV, uV, uV, uV, uV, uV, .int x7, .int x8] [] h o h' := by
  refine v_iload (pc' := 205) dX5_put_203 rfl rfl ?_
  refine v_iconst (pc' := 206) (v := 4) dX5_put_205 rfl kI_4 ?_
  refine v_icmp_ge (tgt := 228) (pc' := 209) dX5_put_206 (by decide) rfl ⟨fun c1 => ?_, fun c1 => ?_⟩
  · have T := T.1 c1
    refine v_aload_n (pc' := 229) dX5_put_228 rfl rfl ?_
    obtain ⟨q2, T⟩ := T
    refine v_getR (pc' := 232) 5 8 dX5_put_229 rfl (by decide) (by decide) rfl kf_X5_31 q2 ?_
    refine v_iload (pc' := 234) dX5_put_232 rfl rfl ?_
    refine v_iconst (pc' := 235) (v := (-1)) dX5_put_234 rfl kI_m1 ?_
    obtain ⟨q3, T⟩ := T
    obtain ⟨q4, T⟩ := T
    refine v_iast (pc' := 236) dX5_put_235 rfl rfl q3 q4 ?_
    refine v_aload_n (pc' := 237) dX5_put_236 rfl rfl ?_
    refine v_dup (pc' := 238) dX5_put_237 rfl rfl ?_
    refine v_getI (pc' := 241) 5 2 dX5_put_238 rfl (by decide) (by decide) rfl kf_X5_60 q2 ?_
    refine v_iconst (pc' := 242) (v := 1) dX5_put_241 rfl kI_1 ?_
    refine v_iadd (pc' := 243) dX5_put_242 rfl ?_
    refine v_putI (pc' := 246) 5 2 dX5_put_243 rfl (by decide) (by decide) rfl rfl kf_X5_60 q2 ?_
    refine v_aload_n (pc' := 247) dX5_put_246 rfl rfl ?_
    refine v_dup (pc' := 248) dX5_put_247 rfl rfl ?_
    refine v_getI (pc' := 251) 5 15 dX5_put_248 rfl (by decide) (by decide) rfl kf_X5_75 q2 ?_
    refine v_iconst (pc' := 252) (v := 1) dX5_put_251 rfl kI_1 ?_
    refine v_iadd (pc' := 253) dX5_put_252 rfl ?_
    refine v_putI (pc' := 256) 5 15 dX5_put_253 rfl (by decide) (by decide) rfl rfl kf_X5_75 q2 ?_
    show V G mX5_put d 256 [.ref r0, uV, uV, uV, uV, uV, uV, .int x7, .int x8] [] (h.1, (upI (upI (upI h.2 (rH h r0 8) x7.toNatClampNeg (-1)) r0 2 (((upI h.2 (rH h r0 8) x7.toNatClampNeg (-1)) r0 2) + 1)) r0 15 (((upI (upI h.2 (rH h r0 8) x7.toNatClampNeg (-1)) r0 2 (((upI h.2 (rH h r0 8) x7.toNatClampNeg (-1)) r0 2) + 1)) r0 15) + 1))) o h'
    obtain ⟨i5, e6⟩ : ∃ z : Nat → Nat → Int32, z = (upI (upI (upI h.2 (rH h r0 8) x7.toNatClampNeg (-1)) r0 2 (((upI h.2 (rH h r0 8) x7.toNatClampNeg (-1)) r0 2) + 1)) r0 15 (((upI (upI h.2 (rH h r0 8) x7.toNatClampNeg (-1)) r0 2 (((upI h.2 (rH h r0 8) x7.toNatClampNeg (-1)) r0 2) + 1)) r0 15) + 1)) := ⟨_, rfl⟩
    rw [← e6]
    have T := T i5 e6
    refine v_iload (pc' := 258) dX5_put_256 rfl rfl ?_
    exact v_iret dX5_put_258 rfl T
  · have T := T.2 c1
    refine v_aload_n (pc' := 210) dX5_put_209 rfl rfl ?_
    obtain ⟨q7, T⟩ := T
    refine v_getR (pc' := 213) 5 7 dX5_put_210 rfl (by decide) (by decide) rfl kf_X5_28 q7 ?_
    refine v_iload (pc' := 215) dX5_put_213 rfl rfl ?_
    refine v_iconst (pc' := 216) (v := 4) dX5_put_215 rfl kI_4 ?_
    refine v_imul (pc' := 217) dX5_put_216 rfl ?_
    refine v_iload (pc' := 219) dX5_put_217 rfl rfl ?_
    refine v_iadd (pc' := 220) dX5_put_219 rfl ?_
    refine v_iconst (pc' := 221) (v := (-1)) dX5_put_220 rfl kI_m1 ?_
    obtain ⟨q8, T⟩ := T
    obtain ⟨q9, T⟩ := T
    refine v_iast (pc' := 222) dX5_put_221 rfl rfl q8 q9 ?_
    refine v_iinc (pc' := 225) (loc' := [.ref r0, uV, uV, uV, uV, uV, uV, .int x7, .int (x8 + 1)]) dX5_put_222 rfl rfl (kX_1 _) rfl ?_
    refine v_goto (pc' := 203) dX5_put_225 (by decide) ?_
    exact T
theorem eX5_need {G : GG} {d : Nat} {h : Hp} {o : OU} {h' : Hp} (r0 : Nat) (x1 : Int32) (x2 : Int32) (T : ((x1 < 0 → (o = .inl none ∧ h' = h)) ∧ (¬ x1 < 0 → kH h r0 = 15 ∧ (((h.2 r0 2) ≤ x1 → (o = .inl none ∧ h' = h)) ∧ (¬ (h.2 r0 2) ≤ x1 → ((x2 < 0 → (o = .inl none ∧ h' = h)) ∧ (¬ x2 < 0 → ((x2 < x1 → V G mX5_need d 26 [.ref r0, .int x1, .int x2, .int (x1 * 4)] [] h o h') ∧ (¬ x2 < x1 → (o = .inl none ∧ h' = h)))))))))) : VM G mX5_need d [.ref r0, .int x1, .int x2] h o h' := by
  refine V.toM rfl rfl (le_l rfl) (cat_all rfl) ?_
  show V G mX5_need d 0 [.ref r0, .int x1, .int x2, uV] [] h o h'
  refine v_iload_n (pc' := 1) dX5_need_0 rfl rfl ?_
  refine v_if_lt (tgt := 21) (pc' := 4) dX5_need_1 (by decide) rfl ⟨fun c1 => ?_, fun c1 => ?_⟩
  · have T := T.1 c1
    exact v_vret dX5_need_21 rfl T
  · have T := T.2 c1
    refine v_iload_n (pc' := 5) dX5_need_4 rfl rfl ?_
    refine v_aload_n (pc' := 6) dX5_need_5 rfl rfl ?_
    obtain ⟨q2, T⟩ := T
    refine v_getI (pc' := 9) 5 2 dX5_need_6 rfl (by decide) (by decide) rfl kf_X5_60 q2 ?_
    refine v_icmp_ge (tgt := 21) (pc' := 12) dX5_need_9 (by decide) rfl ⟨fun c3 => ?_, fun c3 => ?_⟩
    · have T := T.1 c3
      exact v_vret dX5_need_21 rfl T
    · have T := T.2 c3
      refine v_iload_n (pc' := 13) dX5_need_12 rfl rfl ?_
      refine v_if_lt (tgt := 21) (pc' := 16) dX5_need_13 (by decide) rfl ⟨fun c4 => ?_, fun c4 => ?_⟩
      · have T := T.1 c4
        exact v_vret dX5_need_21 rfl T
      · have T := T.2 c4
        refine v_iload_n (pc' := 17) dX5_need_16 rfl rfl ?_
        refine v_iload_n (pc' := 18) dX5_need_17 rfl rfl ?_
        refine v_icmp_lt (tgt := 22) (pc' := 21) dX5_need_18 (by decide) rfl ⟨fun c5 => ?_, fun c5 => ?_⟩
        · have T := T.1 c5
          refine v_iload_n (pc' := 23) dX5_need_22 rfl rfl ?_
          refine v_iconst (pc' := 24) (v := 4) dX5_need_23 rfl kI_4 ?_
          refine v_imul (pc' := 25) dX5_need_24 rfl ?_
          refine v_istore_n (pc' := 26) (loc' := [.ref r0, .int x1, .int x2, .int (x1 * 4)]) dX5_need_25 rfl (lt_l rfl) rfl ?_
          exact T
        · have T := T.2 c5
          exact v_vret dX5_need_21 rfl T
theorem bX5_need_26 {G : GG} {d : Nat} {h : Hp} {o : OU} {h' : Hp} (r0 : Nat) (x1 : Int32) (x2 : Int32) (x3 : Int32) (T : ((((x1 + 1) * 4) ≤ x3 → (o = .inl none ∧ h' = h)) ∧ (¬ ((x1 + 1) * 4) ≤ x3 → kH h r0 = 15 ∧ kH h (rH h r0 7) = 1 ∧ vp_in x3 (lH h (rH h r0 7)) ∧ ((¬ (h.2 (rH h r0 7) x3.toNatClampNeg) = (-1) → V G mX5_need d 26 [.ref r0, .int x1, .int x2, .int (x3 + 1)] [] h o h') ∧ ((h.2 (rH h r0 7) x3.toNatClampNeg) = (-1) → (o = .inl none ∧ h' = (h.1, (upI h.2 (rH h r0 7) x3.toNatClampNeg x2)))))))) : V G mX5_need d 26 [.ref r0, .int x1, .int x2, .int x3] [] h o h' := by
  refine v_iload_n (pc' := 27) dX5_need_26 rfl rfl ?_
  refine v_iload_n (pc' := 28) dX5_need_27 rfl rfl ?_
  refine v_iconst (pc' := 29) (v := 1) dX5_need_28 rfl kI_1 ?_
  refine v_iadd (pc' := 30) dX5_need_29 rfl ?_
  refine v_iconst (pc' := 31) (v := 4) dX5_need_30 rfl kI_4 ?_
  refine v_imul (pc' := 32) dX5_need_31 rfl ?_
  refine v_icmp_ge (tgt := 59) (pc' := 35) dX5_need_32 (by decide) rfl ⟨fun c1 => ?_, fun c1 => ?_⟩
  · have T := T.1 c1
    exact v_vret dX5_need_59 rfl T
  · have T := T.2 c1
    refine v_aload_n (pc' := 36) dX5_need_35 rfl rfl ?_
    obtain ⟨q2, T⟩ := T
    refine v_getR (pc' := 39) 5 7 dX5_need_36 rfl (by decide) (by decide) rfl kf_X5_28 q2 ?_
    refine v_iload_n (pc' := 40) dX5_need_39 rfl rfl ?_
    obtain ⟨q3, T⟩ := T
    obtain ⟨q4, T⟩ := T
    refine v_iald (pc' := 41) dX5_need_40 rfl rfl q3 q4 ?_
    refine v_iconst (pc' := 42) (v := (-1)) dX5_need_41 rfl kI_m1 ?_
    refine v_icmp_ne (tgt := 53) (pc' := 45) dX5_need_42 (by decide) rfl ⟨fun c5 => ?_, fun c5 => ?_⟩
    · have T := T.1 c5
      refine v_iinc (pc' := 56) (loc' := [.ref r0, .int x1, .int x2, .int (x3 + 1)]) dX5_need_53 rfl rfl (kX_1 _) rfl ?_
      refine v_goto (pc' := 26) dX5_need_56 (by decide) ?_
      exact T
    · have T := T.2 c5
      refine v_aload_n (pc' := 46) dX5_need_45 rfl rfl ?_
      refine v_getR (pc' := 49) 5 7 dX5_need_46 rfl (by decide) (by decide) rfl kf_X5_28 q2 ?_
      refine v_iload_n (pc' := 50) dX5_need_49 rfl rfl ?_
      refine v_iload_n (pc' := 51) dX5_need_50 rfl rfl ?_
      refine v_iast (pc' := 52) dX5_need_51 rfl rfl q3 q4 ?_
      exact v_vret dX5_need_52 rfl T
theorem eX5_needAllOf {G : GG} {d : Nat} {h : Hp} {o : OU} {h' : Hp} (r0 : Nat) (x1 : Int32) (x2 : Int32) (T : ((x1 < 0 → (o = .inl none ∧ h' = h)) ∧ (¬ x1 < 0 → kH h r0 = 15 ∧ (((h.2 r0 2) ≤ x1 → (o = .inl none ∧ h' = h)) ∧ (¬ (h.2 r0 2) ≤ x1 → kH h (rH h r0 8) = 1 ∧ vp_in x1 (lH h (rH h r0 8)) ∧ (o = .inl none ∧ h' = (h.1, (upI h.2 (rH h r0 8) x1.toNatClampNeg x2)))))))) : VM G mX5_needAllOf d [.ref r0, .int x1, .int x2] h o h' := by
  refine V.toM rfl rfl (le_l rfl) (cat_all rfl) ?_
  show V G mX5_needAllOf d 0 [.ref r0, .int x1, .int x2] [] h o h'
  refine v_iload_n (pc' := 1) dX5_needAllOf_0 rfl rfl ?_
  refine v_if_lt (tgt := 19) (pc' := 4) dX5_needAllOf_1 (by decide) rfl ⟨fun c1 => ?_, fun c1 => ?_⟩
  · have T := T.1 c1
    exact v_vret dX5_needAllOf_19 rfl T
  · have T := T.2 c1
    refine v_iload_n (pc' := 5) dX5_needAllOf_4 rfl rfl ?_
    refine v_aload_n (pc' := 6) dX5_needAllOf_5 rfl rfl ?_
    obtain ⟨q2, T⟩ := T
    refine v_getI (pc' := 9) 5 2 dX5_needAllOf_6 rfl (by decide) (by decide) rfl kf_X5_60 q2 ?_
    refine v_icmp_ge (tgt := 19) (pc' := 12) dX5_needAllOf_9 (by decide) rfl ⟨fun c3 => ?_, fun c3 => ?_⟩
    · have T := T.1 c3
      exact v_vret dX5_needAllOf_19 rfl T
    · have T := T.2 c3
      refine v_aload_n (pc' := 13) dX5_needAllOf_12 rfl rfl ?_
      refine v_getR (pc' := 16) 5 8 dX5_needAllOf_13 rfl (by decide) (by decide) rfl kf_X5_31 q2 ?_
      refine v_iload_n (pc' := 17) dX5_needAllOf_16 rfl rfl ?_
      refine v_iload_n (pc' := 18) dX5_needAllOf_17 rfl rfl ?_
      obtain ⟨q4, T⟩ := T
      obtain ⟨q5, T⟩ := T
      refine v_iast (pc' := 19) dX5_needAllOf_18 rfl rfl q4 q5 ?_
      exact v_vret dX5_needAllOf_19 rfl T
theorem eX5_putOff {G : GG} {d : Nat} {h : Hp} {o : OU} {h' : Hp} (r0 : Nat) (x1 : Int32) (x2 : Int32) (T : ((x2 = (-1) → (o = .inl none ∧ h' = h)) ∧ (¬ x2 = (-1) → kH h r0 = 15 ∧ ((64 ≤ (h.2 r0 9) → (o = .inl none ∧ h' = h)) ∧ (¬ 64 ≤ (h.2 r0 9) → kH h (rH h r0 11) = 1 ∧ vp_in (h.2 r0 9) (lH h (rH h r0 11)) ∧ kH h (rH h r0 10) = 1 ∧ vp_in ((upI h.2 (rH h r0 11) (h.2 r0 9).toNatClampNeg x1) r0 9) (lH h (rH h r0 10)) ∧ (∀ i8 : Nat → Nat → Int32, i8 = (upI (upI h.2 (rH h r0 11) (h.2 r0 9).toNatClampNeg x1) (rH h r0 10) ((upI h.2 (rH h r0 11) (h.2 r0 9).toNatClampNeg x1) r0 9).toNatClampNeg x2) → (o = .inl none ∧ h' = (h.1, (upI i8 r0 9 ((i8 r0 9) + 1)))))))))) : VM G mX5_putOff d [.ref r0, .int x1, .int x2] h o h' := by
  refine V.toM rfl rfl (le_l rfl) (cat_all rfl) ?_
  show V G mX5_putOff d 0 [.ref r0, .int x1, .int x2] [] h o h'
  refine v_iload_n (pc' := 1) dX5_putOff_0 rfl rfl ?_
  refine v_iconst (pc' := 2) (v := (-1)) dX5_putOff_1 rfl kI_m1 ?_
  refine v_icmp_eq (tgt := 44) (pc' := 5) dX5_putOff_2 (by decide) rfl ⟨fun c1 => ?_, fun c1 => ?_⟩
  · have T := T.1 c1
    exact v_vret dX5_putOff_44 rfl T
  · have T := T.2 c1
    refine v_aload_n (pc' := 6) dX5_putOff_5 rfl rfl ?_
    obtain ⟨q2, T⟩ := T
    refine v_getI (pc' := 9) 5 9 dX5_putOff_6 rfl (by decide) (by decide) rfl kf_X5_63 q2 ?_
    refine v_bipush (pc' := 11) (v := 64) dX5_putOff_9 rfl kB_64 ?_
    refine v_icmp_ge (tgt := 44) (pc' := 14) dX5_putOff_11 (by decide) rfl ⟨fun c3 => ?_, fun c3 => ?_⟩
    · have T := T.1 c3
      exact v_vret dX5_putOff_44 rfl T
    · have T := T.2 c3
      refine v_aload_n (pc' := 15) dX5_putOff_14 rfl rfl ?_
      refine v_getR (pc' := 18) 5 11 dX5_putOff_15 rfl (by decide) (by decide) rfl kf_X5_37 q2 ?_
      refine v_aload_n (pc' := 19) dX5_putOff_18 rfl rfl ?_
      refine v_getI (pc' := 22) 5 9 dX5_putOff_19 rfl (by decide) (by decide) rfl kf_X5_63 q2 ?_
      refine v_iload_n (pc' := 23) dX5_putOff_22 rfl rfl ?_
      obtain ⟨q4, T⟩ := T
      obtain ⟨q5, T⟩ := T
      refine v_iast (pc' := 24) dX5_putOff_23 rfl rfl q4 q5 ?_
      refine v_aload_n (pc' := 25) dX5_putOff_24 rfl rfl ?_
      refine v_getR (pc' := 28) 5 10 dX5_putOff_25 rfl (by decide) (by decide) rfl kf_X5_34 q2 ?_
      refine v_aload_n (pc' := 29) dX5_putOff_28 rfl rfl ?_
      refine v_getI (pc' := 32) 5 9 dX5_putOff_29 rfl (by decide) (by decide) rfl kf_X5_63 q2 ?_
      refine v_iload_n (pc' := 33) dX5_putOff_32 rfl rfl ?_
      obtain ⟨q6, T⟩ := T
      obtain ⟨q7, T⟩ := T
      refine v_iast (pc' := 34) dX5_putOff_33 rfl rfl q6 q7 ?_
      show V G mX5_putOff d 34 [.ref r0, .int x1, .int x2] [] (h.1, (upI (upI h.2 (rH h r0 11) (h.2 r0 9).toNatClampNeg x1) (rH h r0 10) ((upI h.2 (rH h r0 11) (h.2 r0 9).toNatClampNeg x1) r0 9).toNatClampNeg x2)) o h'
      obtain ⟨i8, e9⟩ : ∃ z : Nat → Nat → Int32, z = (upI (upI h.2 (rH h r0 11) (h.2 r0 9).toNatClampNeg x1) (rH h r0 10) ((upI h.2 (rH h r0 11) (h.2 r0 9).toNatClampNeg x1) r0 9).toNatClampNeg x2) := ⟨_, rfl⟩
      rw [← e9]
      have T := T i8 e9
      refine v_aload_n (pc' := 35) dX5_putOff_34 rfl rfl ?_
      refine v_dup (pc' := 36) dX5_putOff_35 rfl rfl ?_
      refine v_getI (pc' := 39) 5 9 dX5_putOff_36 rfl (by decide) (by decide) rfl kf_X5_63 q2 ?_
      refine v_iconst (pc' := 40) (v := 1) dX5_putOff_39 rfl kI_1 ?_
      refine v_iadd (pc' := 41) dX5_putOff_40 rfl ?_
      refine v_putI (pc' := 44) 5 9 dX5_putOff_41 rfl (by decide) (by decide) rfl rfl kf_X5_63 q2 ?_
      exact v_vret dX5_putOff_44 rfl T
theorem eX5_setLinks {G : GG} {d : Nat} {h : Hp} {o : OU} {h' : Hp} (r0 : Nat) (x1 : Int32) (x2 : Int32) (hd : 1 ≤ d) (T : kH h r0 = 15 ∧ ∃ z2 h1, VM G mX5_put (d - 1) [.ref r0, .int (1 + (x1 / 4)), .int (((x1 - x1 / 4 * 4) * 4) + 0), .int x2] h (.inl (some (.int z2))) h1 ∧ ((x2 = 0 → kH h1 r0 = 15 ∧ ∃ z7 h6, VM G mX5_put (d - 1) [.ref r0, .int (1 + (x1 / 4)), .int (((x1 - x1 / 4 * 4) * 4) + 1), .int 0] h1 (.inl (some (.int z7))) h6 ∧ V G mX5_setLinks d 43 [.ref r0, .int x1, uV, .int (1 + (x1 / 4)), .int ((x1 - x1 / 4 * 4) * 4), .int 2, uV] [] h6 o h') ∧ (¬ x2 = 0 → (o = .inl none ∧ h' = h1)))) : VM G mX5_setLinks d [.ref r0, .int x1, .int x2] h o h' := by
  refine V.toM rfl rfl (le_l rfl) (cat_all rfl) ?_
  show V G mX5_setLinks d 0 [.ref r0, .int x1, .int x2, uV, uV, uV, uV] [] h o h'
  have hdd : d - 1 + 1 ≤ d := by omega
  refine v_iconst (pc' := 1) (v := 1) dX5_setLinks_0 rfl kI_1 ?_
  refine v_iload_n (pc' := 2) dX5_setLinks_1 rfl rfl ?_
  refine v_iconst (pc' := 3) (v := 4) dX5_setLinks_2 rfl kI_4 ?_
  refine v_idiv (pc' := 4) dX5_setLinks_3 rfl (by decide) ?_
  refine v_iadd (pc' := 5) dX5_setLinks_4 rfl ?_
  refine v_istore_n (pc' := 6) (loc' := [.ref r0, .int x1, .int x2, .int (1 + (x1 / 4)), uV, uV, uV]) dX5_setLinks_5 rfl (lt_l rfl) rfl ?_
  refine v_iload_n (pc' := 7) dX5_setLinks_6 rfl rfl ?_
  refine v_iconst (pc' := 8) (v := 4) dX5_setLinks_7 rfl kI_4 ?_
  refine v_irem (pc' := 9) dX5_setLinks_8 rfl (by decide) ?_
  refine v_iconst (pc' := 10) (v := 4) dX5_setLinks_9 rfl kI_4 ?_
  refine v_imul (pc' := 11) dX5_setLinks_10 rfl ?_
  refine v_istore (pc' := 13) (loc' := [.ref r0, .int x1, .int x2, .int (1 + (x1 / 4)), .int ((x1 - x1 / 4 * 4) * 4), uV, uV]) dX5_setLinks_11 rfl (lt_l rfl) rfl ?_
  refine v_aload_n (pc' := 14) dX5_setLinks_13 rfl rfl ?_
  refine v_iload_n (pc' := 15) dX5_setLinks_14 rfl rfl ?_
  refine v_iload (pc' := 17) dX5_setLinks_15 rfl rfl ?_
  refine v_iconst (pc' := 18) (v := 0) dX5_setLinks_17 rfl kI_0 ?_
  refine v_iadd (pc' := 19) dX5_setLinks_18 rfl ?_
  refine v_iload_n (pc' := 20) dX5_setLinks_19 rfl rfl ?_
  obtain ⟨q4, T⟩ := T
  obtain ⟨z2, h1, k3, T⟩ := T
  refine v_callV (pc' := 23) (M1 := mX5_put) (as := [.int (1 + (x1 / 4)), .int (((x1 - x1 / 4 * 4) * 4) + 0), .int x2]) (r := r0) (rest := []) 5 dX5_setLinks_20 rfl ko_X5_78 kc_X5_put ki_X5_put ks_X5_put (by decide) (by decide) hdd rfl rfl (le_l rfl) q4 k3 ?_
  refine v_pop (pc' := 24) dX5_setLinks_23 rfl rfl ?_
  refine v_iload_n (pc' := 25) dX5_setLinks_24 rfl rfl ?_
  refine v_if_eq (tgt := 29) (pc' := 28) dX5_setLinks_25 (by decide) rfl ⟨fun c5 => ?_, fun c5 => ?_⟩
  · have T := T.1 c5
    refine v_aload_n (pc' := 30) dX5_setLinks_29 rfl rfl ?_
    refine v_iload_n (pc' := 31) dX5_setLinks_30 rfl rfl ?_
    refine v_iload (pc' := 33) dX5_setLinks_31 rfl rfl ?_
    refine v_iconst (pc' := 34) (v := 1) dX5_setLinks_33 rfl kI_1 ?_
    refine v_iadd (pc' := 35) dX5_setLinks_34 rfl ?_
    refine v_iconst (pc' := 36) (v := 0) dX5_setLinks_35 rfl kI_0 ?_
    obtain ⟨q9, T⟩ := T
    obtain ⟨z7, h6, k8, T⟩ := T
    refine v_callV (pc' := 39) (M1 := mX5_put) (as := [.int (1 + (x1 / 4)), .int (((x1 - x1 / 4 * 4) * 4) + 1), .int 0]) (r := r0) (rest := []) 5 dX5_setLinks_36 rfl ko_X5_78 kc_X5_put ki_X5_put ks_X5_put (by decide) (by decide) hdd rfl rfl (le_l rfl) q9 k8 ?_
    refine v_pop (pc' := 40) dX5_setLinks_39 rfl rfl ?_
    refine v_iconst (pc' := 41) (v := 2) dX5_setLinks_40 rfl kI_2 ?_
    refine v_istore (pc' := 43) (loc' := [.ref r0, .int x1, .int x2, .int (1 + (x1 / 4)), .int ((x1 - x1 / 4 * 4) * 4), .int 2, uV]) dX5_setLinks_41 rfl (lt_l rfl) rfl ?_
    exact V.drop (llp_r (llp_r (llp_u (llp_r (llp_r (llp_r (llp_r llp_nil))))))) T
  · have T := T.2 c5
    exact v_vret dX5_setLinks_28 rfl T
theorem bX5_setLinks_43 {G : GG} {d : Nat} {h : Hp} {o : OU} {h' : Hp} (r0 : Nat) (x1 : Int32) (x3 : Int32) (x4 : Int32) (x5 : Int32) (hd : 1 ≤ d) (T : ((3 < x5 → (o = .inl none ∧ h' = h)) ∧ (¬ 3 < x5 → kH h r0 = 15 ∧ ∃ z3 h2, VM G mX5_nodeField (d - 1) [.ref r0, .int 0, .int x1, .int x5] h (.inl (some (.int z3))) h2 ∧ ((z3 = 0 → V G mX5_setLinks d 43 [.ref r0, .int x1, uV, .int x3, .int x4, .int (x5 + 1), uV] [] h2 o h') ∧ (¬ z3 = 0 → kH h2 r0 = 15 ∧ ∃ z8 h7, VM G mX5_put (d - 1) [.ref r0, .int x3, .int (x4 + x5), .int 0] h2 (.inl (some (.int z8))) h7 ∧ kH h7 r0 = 15 ∧ ∃ h11, VM G mX5_putOff (d - 1) [.ref r0, .int (100 + z3), .int z8] h7 (.inl none) h11 ∧ V G mX5_setLinks d 43 [.ref r0, .int x1, uV, .int x3, .int x4, .int (x5 + 1), uV] [] h11 o h'))))) : V G mX5_setLinks d 43 [.ref r0, .int x1, uV, .int x3, .int x4, .int x5, uV] [] h o h' := by
  have hdd : d - 1 + 1 ≤ d := by omega
  refine v_iload (pc' := 45) dX5_setLinks_43 rfl rfl ?_
  refine v_iconst (pc' := 46) (v := 3) dX5_setLinks_45 rfl kI_3 ?_
  refine v_icmp_gt (tgt := 90) (pc' := 49) dX5_setLinks_46 (by decide) rfl ⟨fun c1 => ?_, fun c1 => ?_⟩
  · have T := T.1 c1
    exact v_vret dX5_setLinks_90 rfl T
  · have T := T.2 c1
    refine v_aload_n (pc' := 50) dX5_setLinks_49 rfl rfl ?_
    refine v_iconst (pc' := 51) (v := 0) dX5_setLinks_50 rfl kI_0 ?_
    refine v_iload_n (pc' := 52) dX5_setLinks_51 rfl rfl ?_
    refine v_iload (pc' := 54) dX5_setLinks_52 rfl rfl ?_
    obtain ⟨q5, T⟩ := T
    obtain ⟨z3, h2, k4, T⟩ := T
    refine v_callV (pc' := 57) (M1 := mX5_nodeField) (as := [.int 0, .int x1, .int x5]) (r := r0) (rest := []) 5 dX5_setLinks_54 rfl ko_X5_82 kc_X5_nodeField ki_X5_nodeField ks_X5_nodeField (by decide) (by decide) hdd rfl rfl (le_l rfl) q5 k4 ?_
    refine v_istore (pc' := 59) (loc' := [.ref r0, .int x1, uV, .int x3, .int x4, .int x5, .int z3]) dX5_setLinks_57 rfl (lt_l rfl) rfl ?_
    refine v_iload (pc' := 61) dX5_setLinks_59 rfl rfl ?_
    refine v_if_eq (tgt := 84) (pc' := 64) dX5_setLinks_61 (by decide) rfl ⟨fun c6 => ?_, fun c6 => ?_⟩
    · have T := T.1 c6
      refine v_iinc (pc' := 87) (loc' := [.ref r0, .int x1, uV, .int x3, .int x4, .int (x5 + 1), .int z3]) dX5_setLinks_84 rfl rfl (kX_1 _) rfl ?_
      refine v_goto (pc' := 43) dX5_setLinks_87 (by decide) ?_
      exact V.drop (llp_r (llp_r (llp_r (llp_r (llp_r (llp_r (llp_u llp_nil))))))) T
    · have T := T.2 c6
      refine v_aload_n (pc' := 65) dX5_setLinks_64 rfl rfl ?_
      refine v_bipush (pc' := 67) (v := 100) dX5_setLinks_65 rfl kB_100 ?_
      refine v_iload (pc' := 69) dX5_setLinks_67 rfl rfl ?_
      refine v_iadd (pc' := 70) dX5_setLinks_69 rfl ?_
      refine v_aload_n (pc' := 71) dX5_setLinks_70 rfl rfl ?_
      refine v_iload_n (pc' := 72) dX5_setLinks_71 rfl rfl ?_
      refine v_iload (pc' := 74) dX5_setLinks_72 rfl rfl ?_
      refine v_iload (pc' := 76) dX5_setLinks_74 rfl rfl ?_
      refine v_iadd (pc' := 77) dX5_setLinks_76 rfl ?_
      refine v_iconst (pc' := 78) (v := 0) dX5_setLinks_77 rfl kI_0 ?_
      obtain ⟨q10, T⟩ := T
      obtain ⟨z8, h7, k9, T⟩ := T
      refine v_callV (pc' := 81) (M1 := mX5_put) (as := [.int x3, .int (x4 + x5), .int 0]) (r := r0) (rest := [.int (100 + z3), .ref r0]) 5 dX5_setLinks_78 rfl ko_X5_78 kc_X5_put ki_X5_put ks_X5_put (by decide) (by decide) hdd rfl rfl (le_l rfl) q10 k9 ?_
      obtain ⟨q13, T⟩ := T
      obtain ⟨h11, k12, T⟩ := T
      refine v_callV (pc' := 84) (M1 := mX5_putOff) (as := [.int (100 + z3), .int z8]) (r := r0) (rest := []) 5 dX5_setLinks_81 rfl ko_X5_85 kc_X5_putOff ki_X5_putOff ks_X5_putOff (by decide) (by decide) hdd rfl rfl (le_l rfl) q13 k12 ?_
      refine v_iinc (pc' := 87) (loc' := [.ref r0, .int x1, uV, .int x3, .int x4, .int (x5 + 1), .int z3]) dX5_setLinks_84 rfl rfl (kX_1 _) rfl ?_
      refine v_goto (pc' := 43) dX5_setLinks_87 (by decide) ?_
      exact V.drop (llp_r (llp_r (llp_r (llp_r (llp_r (llp_r (llp_u llp_nil))))))) T
theorem eX5_doPutOff {G : GG} {d : Nat} {h : Hp} {o : OU} {h' : Hp} (r0 : Nat) (x1 : Int32) (hd : 1 ≤ d) (T : ((x1 < 100 → kH h r0 = 15 ∧ ∃ z3 h2, VM G mX5_nodeField (d - 1) [.ref r0, .int 0, .int x1, .int 0] h (.inl (some (.int z3))) h2 ∧ ((z3 ≤ 0 → (o = .inl none ∧ h' = h2)) ∧ (¬ z3 ≤ 0 → kH h2 r0 = 15 ∧ ∃ h7, VM G mX5_setLinks (d - 1) [.ref r0, .int x1, .int (z3 - 1)] h2 (.inl none) h7 ∧ (o = .inl none ∧ h' = h7)))) ∧ (¬ x1 < 100 → kH h r0 = 15 ∧ ∃ z11 h10, VM G mX5_put (d - 1) [.ref r0, .int 0, .int (x1 - 100), .int 0] h (.inl (some (.int z11))) h10 ∧ (o = .inl none ∧ h' = h10)))) : VM G mX5_doPutOff d [.ref r0, .int x1] h o h' := by
  refine V.toM rfl rfl (le_l rfl) (cat_all rfl) ?_
  show V G mX5_doPutOff d 0 [.ref r0, .int x1, uV] [] h o h'
  have hdd : d - 1 + 1 ≤ d := by omega
  refine v_iload_n (pc' := 1) dX5_doPutOff_0 rfl rfl ?_
  refine v_bipush (pc' := 3) (v := 100) dX5_doPutOff_1 rfl kB_100 ?_
  refine v_icmp_lt (tgt := 18) (pc' := 6) dX5_doPutOff_3 (by decide) rfl ⟨fun c1 => ?_, fun c1 => ?_⟩
  · have T := T.1 c1
    refine v_aload_n (pc' := 19) dX5_doPutOff_18 rfl rfl ?_
    refine v_iconst (pc' := 20) (v := 0) dX5_doPutOff_19 rfl kI_0 ?_
    refine v_iload_n (pc' := 21) dX5_doPutOff_20 rfl rfl ?_
    refine v_iconst (pc' := 22) (v := 0) dX5_doPutOff_21 rfl kI_0 ?_
    obtain ⟨q5, T⟩ := T
    obtain ⟨z3, h2, k4, T⟩ := T
    refine v_callV (pc' := 25) (M1 := mX5_nodeField) (as := [.int 0, .int x1, .int 0]) (r := r0) (rest := []) 5 dX5_doPutOff_22 rfl ko_X5_82 kc_X5_nodeField ki_X5_nodeField ks_X5_nodeField (by decide) (by decide) hdd rfl rfl (le_l rfl) q5 k4 ?_
    refine v_istore_n (pc' := 26) (loc' := [.ref r0, .int x1, .int z3]) dX5_doPutOff_25 rfl (lt_l rfl) rfl ?_
    refine v_iload_n (pc' := 27) dX5_doPutOff_26 rfl rfl ?_
    refine v_if_le (tgt := 38) (pc' := 30) dX5_doPutOff_27 (by decide) rfl ⟨fun c6 => ?_, fun c6 => ?_⟩
    · have T := T.1 c6
      exact v_vret dX5_doPutOff_38 rfl T
    · have T := T.2 c6
      refine v_aload_n (pc' := 31) dX5_doPutOff_30 rfl rfl ?_
      refine v_iload_n (pc' := 32) dX5_doPutOff_31 rfl rfl ?_
      refine v_iload_n (pc' := 33) dX5_doPutOff_32 rfl rfl ?_
      refine v_iconst (pc' := 34) (v := 1) dX5_doPutOff_33 rfl kI_1 ?_
      refine v_isub (pc' := 35) dX5_doPutOff_34 rfl ?_
      obtain ⟨q9, T⟩ := T
      obtain ⟨h7, k8, T⟩ := T
      refine v_callV (pc' := 38) (M1 := mX5_setLinks) (as := [.int x1, .int (z3 - 1)]) (r := r0) (rest := []) 5 dX5_doPutOff_35 rfl ko_X5_89 kc_X5_setLinks ki_X5_setLinks ks_X5_setLinks (by decide) (by decide) hdd rfl rfl (le_l rfl) q9 k8 ?_
      exact v_vret dX5_doPutOff_38 rfl T
  · have T := T.2 c1
    refine v_aload_n (pc' := 7) dX5_doPutOff_6 rfl rfl ?_
    refine v_iconst (pc' := 8) (v := 0) dX5_doPutOff_7 rfl kI_0 ?_
    refine v_iload_n (pc' := 9) dX5_doPutOff_8 rfl rfl ?_
    refine v_bipush (pc' := 11) (v := 100) dX5_doPutOff_9 rfl kB_100 ?_
    refine v_isub (pc' := 12) dX5_doPutOff_11 rfl ?_
    refine v_iconst (pc' := 13) (v := 0) dX5_doPutOff_12 rfl kI_0 ?_
    obtain ⟨q13, T⟩ := T
    obtain ⟨z11, h10, k12, T⟩ := T
    refine v_callV (pc' := 16) (M1 := mX5_put) (as := [.int 0, .int (x1 - 100), .int 0]) (r := r0) (rest := []) 5 dX5_doPutOff_13 rfl ko_X5_78 kc_X5_put ki_X5_put ks_X5_put (by decide) (by decide) hdd rfl rfl (le_l rfl) q13 k12 ?_
    refine v_pop (pc' := 17) dX5_doPutOff_16 rfl rfl ?_
    exact v_vret dX5_doPutOff_17 rfl T
theorem eX5_countPutOff {G : GG} {d : Nat} {h : Hp} {o : OU} {h' : Hp} (r0 : Nat) (x1 : Int32) (T : V G mX5_countPutOff d 4 [.ref r0, .int x1, .int 0, .int 0] [] h o h') : VM G mX5_countPutOff d [.ref r0, .int x1] h o h' := by
  refine V.toM rfl rfl (le_l rfl) (cat_all rfl) ?_
  show V G mX5_countPutOff d 0 [.ref r0, .int x1, uV, uV] [] h o h'
  refine v_iconst (pc' := 1) (v := 0) dX5_countPutOff_0 rfl kI_0 ?_
  refine v_istore_n (pc' := 2) (loc' := [.ref r0, .int x1, .int 0, uV]) dX5_countPutOff_1 rfl (lt_l rfl) rfl ?_
  refine v_iconst (pc' := 3) (v := 0) dX5_countPutOff_2 rfl kI_0 ?_
  refine v_istore_n (pc' := 4) (loc' := [.ref r0, .int x1, .int 0, .int 0]) dX5_countPutOff_3 rfl (lt_l rfl) rfl ?_
  exact T
theorem bX5_countPutOff_4 {G : GG} {d : Nat} {h : Hp} {o : OU} {h' : Hp} (r0 : Nat) (x1 : Int32) (x2 : Int32) (x3 : Int32) (T : kH h r0 = 15 ∧ (((h.2 r0 9) ≤ x3 → (o = .inl (some (.int x2)) ∧ h' = h)) ∧ (¬ (h.2 r0 9) ≤ x3 → kH h (rH h r0 11) = 1 ∧ vp_in x3 (lH h (rH h r0 11)) ∧ ((¬ (h.2 (rH h r0 11) x3.toNatClampNeg) = x1 → V G mX5_countPutOff d 4 [.ref r0, .int x1, .int x2, .int (x3 + 1)] [] h o h') ∧ ((h.2 (rH h r0 11) x3.toNatClampNeg) = x1 → V G mX5_countPutOff d 4 [.ref r0, .int x1, .int (x2 + 1), .int (x3 + 1)] [] h o h'))))) : V G mX5_countPutOff d 4 [.ref r0, .int x1, .int x2, .int x3] [] h o h' := by
  refine v_iload_n (pc' := 5) dX5_countPutOff_4 rfl rfl ?_
  refine v_aload_n (pc' := 6) dX5_countPutOff_5 rfl rfl ?_
  obtain ⟨q1, T⟩ := T
  refine v_getI (pc' := 9) 5 9 dX5_countPutOff_6 rfl (by decide) (by decide) rfl kf_X5_63 q1 ?_
  refine v_icmp_ge (tgt := 31) (pc' := 12) dX5_countPutOff_9 (by decide) rfl ⟨fun c2 => ?_, fun c2 => ?_⟩
  · have T := T.1 c2
    refine v_iload_n (pc' := 32) dX5_countPutOff_31 rfl rfl ?_
    exact v_iret dX5_countPutOff_32 rfl T
  · have T := T.2 c2
    refine v_aload_n (pc' := 13) dX5_countPutOff_12 rfl rfl ?_
    refine v_getR (pc' := 16) 5 11 dX5_countPutOff_13 rfl (by decide) (by decide) rfl kf_X5_37 q1 ?_
    refine v_iload_n (pc' := 17) dX5_countPutOff_16 rfl rfl ?_
    obtain ⟨q3, T⟩ := T
    obtain ⟨q4, T⟩ := T
    refine v_iald (pc' := 18) dX5_countPutOff_17 rfl rfl q3 q4 ?_
    refine v_iload_n (pc' := 19) dX5_countPutOff_18 rfl rfl ?_
    refine v_icmp_ne (tgt := 25) (pc' := 22) dX5_countPutOff_19 (by decide) rfl ⟨fun c5 => ?_, fun c5 => ?_⟩
    · have T := T.1 c5
      refine v_iinc (pc' := 28) (loc' := [.ref r0, .int x1, .int x2, .int (x3 + 1)]) dX5_countPutOff_25 rfl rfl (kX_1 _) rfl ?_
      refine v_goto (pc' := 4) dX5_countPutOff_28 (by decide) ?_
      exact T
    · have T := T.2 c5
      refine v_iinc (pc' := 25) (loc' := [.ref r0, .int x1, .int (x2 + 1), .int x3]) dX5_countPutOff_22 rfl rfl (kX_1 _) rfl ?_
      refine v_iinc (pc' := 28) (loc' := [.ref r0, .int x1, .int (x2 + 1), .int (x3 + 1)]) dX5_countPutOff_25 rfl rfl (kX_1 _) rfl ?_
      refine v_goto (pc' := 4) dX5_countPutOff_28 (by decide) ?_
      exact T
theorem eX5_latestOf {G : GG} {d : Nat} {h : Hp} {o : OU} {h' : Hp} (r0 : Nat) (x1 : Int32) (x2 : Int32) (T : kH h r0 = 15 ∧ V G mX5_latestOf d 7 [.ref r0, .int x1, .int x2, .int ((h.2 r0 2) - 1)] [] h o h') : VM G mX5_latestOf d [.ref r0, .int x1, .int x2] h o h' := by
  refine V.toM rfl rfl (le_l rfl) (cat_all rfl) ?_
  show V G mX5_latestOf d 0 [.ref r0, .int x1, .int x2, uV] [] h o h'
  refine v_aload_n (pc' := 1) dX5_latestOf_0 rfl rfl ?_
  obtain ⟨q1, T⟩ := T
  refine v_getI (pc' := 4) 5 2 dX5_latestOf_1 rfl (by decide) (by decide) rfl kf_X5_60 q1 ?_
  refine v_iconst (pc' := 5) (v := 1) dX5_latestOf_4 rfl kI_1 ?_
  refine v_isub (pc' := 6) dX5_latestOf_5 rfl ?_
  refine v_istore_n (pc' := 7) (loc' := [.ref r0, .int x1, .int x2, .int ((h.2 r0 2) - 1)]) dX5_latestOf_6 rfl (lt_l rfl) rfl ?_
  exact T
theorem bX5_latestOf_7 {G : GG} {d : Nat} {h : Hp} {o : OU} {h' : Hp} (r0 : Nat) (x1 : Int32) (x2 : Int32) (x3 : Int32) (T : ((x3 < 0 → (o = .inl (some (.int (-1))) ∧ h' = h)) ∧ (¬ x3 < 0 → kH h r0 = 15 ∧ kH h (rH h r0 3) = 1 ∧ vp_in x3 (lH h (rH h r0 3)) ∧ ((¬ (h.2 (rH h r0 3) x3.toNatClampNeg) = x1 → V G mX5_latestOf d 7 [.ref r0, .int x1, .int x2, .int (x3 + (-1))] [] h o h') ∧ ((h.2 (rH h r0 3) x3.toNatClampNeg) = x1 → kH h (rH h r0 4) = 1 ∧ vp_in x3 (lH h (rH h r0 4)) ∧ ((¬ (h.2 (rH h r0 4) x3.toNatClampNeg) = x2 → V G mX5_latestOf d 7 [.ref r0, .int x1, .int x2, .int (x3 + (-1))] [] h o h') ∧ ((h.2 (rH h r0 4) x3.toNatClampNeg) = x2 → (o = .inl (some (.int x3)) ∧ h' = h)))))))) : V G mX5_latestOf d 7 [.ref r0, .int x1, .int x2, .int x3] [] h o h' := by
  refine v_iload_n (pc' := 8) dX5_latestOf_7 rfl rfl ?_
  refine v_if_lt (tgt := 39) (pc' := 11) dX5_latestOf_8 (by decide) rfl ⟨fun c1 => ?_, fun c1 => ?_⟩
  · have T := T.1 c1
    refine v_iconst (pc' := 40) (v := (-1)) dX5_latestOf_39 rfl kI_m1 ?_
    exact v_iret dX5_latestOf_40 rfl T
  · have T := T.2 c1
    refine v_aload_n (pc' := 12) dX5_latestOf_11 rfl rfl ?_
    obtain ⟨q2, T⟩ := T
    refine v_getR (pc' := 15) 5 3 dX5_latestOf_12 rfl (by decide) (by decide) rfl kf_X5_15 q2 ?_
    refine v_iload_n (pc' := 16) dX5_latestOf_15 rfl rfl ?_
    obtain ⟨q3, T⟩ := T
    obtain ⟨q4, T⟩ := T
    refine v_iald (pc' := 17) dX5_latestOf_16 rfl rfl q3 q4 ?_
    refine v_iload_n (pc' := 18) dX5_latestOf_17 rfl rfl ?_
    refine v_icmp_ne (tgt := 33) (pc' := 21) dX5_latestOf_18 (by decide) rfl ⟨fun c5 => ?_, fun c5 => ?_⟩
    · have T := T.1 c5
      refine v_iinc (pc' := 36) (loc' := [.ref r0, .int x1, .int x2, .int (x3 + (-1))]) dX5_latestOf_33 rfl rfl (kX_m1 _) rfl ?_
      refine v_goto (pc' := 7) dX5_latestOf_36 (by decide) ?_
      exact T
    · have T := T.2 c5
      refine v_aload_n (pc' := 22) dX5_latestOf_21 rfl rfl ?_
      refine v_getR (pc' := 25) 5 4 dX5_latestOf_22 rfl (by decide) (by decide) rfl kf_X5_19 q2 ?_
      refine v_iload_n (pc' := 26) dX5_latestOf_25 rfl rfl ?_
      obtain ⟨q6, T⟩ := T
      obtain ⟨q7, T⟩ := T
      refine v_iald (pc' := 27) dX5_latestOf_26 rfl rfl q6 q7 ?_
      refine v_iload_n (pc' := 28) dX5_latestOf_27 rfl rfl ?_
      refine v_icmp_ne (tgt := 33) (pc' := 31) dX5_latestOf_28 (by decide) rfl ⟨fun c8 => ?_, fun c8 => ?_⟩
      · have T := T.1 c8
        refine v_iinc (pc' := 36) (loc' := [.ref r0, .int x1, .int x2, .int (x3 + (-1))]) dX5_latestOf_33 rfl rfl (kX_m1 _) rfl ?_
        refine v_goto (pc' := 7) dX5_latestOf_36 (by decide) ?_
        exact T
      · have T := T.2 c8
        refine v_iload_n (pc' := 32) dX5_latestOf_31 rfl rfl ?_
        exact v_iret dX5_latestOf_32 rfl T
theorem eX5_dirtyBlocks {G : GG} {d : Nat} {h : Hp} {o : OU} {h' : Hp} (r0 : Nat) (T : V G mX5_dirtyBlocks d 4 [.ref r0, .int 0, .int 0] [] h o h') : VM G mX5_dirtyBlocks d [.ref r0] h o h' := by
  refine V.toM rfl rfl (le_l rfl) (cat_all rfl) ?_
  show V G mX5_dirtyBlocks d 0 [.ref r0, uV, uV] [] h o h'
  refine v_iconst (pc' := 1) (v := 0) dX5_dirtyBlocks_0 rfl kI_0 ?_
  refine v_istore_n (pc' := 2) (loc' := [.ref r0, .int 0, uV]) dX5_dirtyBlocks_1 rfl (lt_l rfl) rfl ?_
  refine v_iconst (pc' := 3) (v := 0) dX5_dirtyBlocks_2 rfl kI_0 ?_
  refine v_istore_n (pc' := 4) (loc' := [.ref r0, .int 0, .int 0]) dX5_dirtyBlocks_3 rfl (lt_l rfl) rfl ?_
  exact T
theorem bX5_dirtyBlocks_4 {G : GG} {d : Nat} {h : Hp} {o : OU} {h' : Hp} (r0 : Nat) (x1 : Int32) (x2 : Int32) (T : kH h r0 = 15 ∧ (((h.2 r0 2) ≤ x2 → (o = .inl (some (.int x1)) ∧ h' = h)) ∧ (¬ (h.2 r0 2) ≤ x2 → kH h (rH h r0 3) = 1 ∧ vp_in x2 (lH h (rH h r0 3)) ∧ V G mX5_dirtyBlocks d 4 [.ref r0, .int (x1 ||| (1 <<< ((h.2 (rH h r0 3) x2.toNatClampNeg) &&& 31))), .int (x2 + 1)] [] h o h'))) : V G mX5_dirtyBlocks d 4 [.ref r0, .int x1, .int x2] [] h o h' := by
  refine v_iload_n (pc' := 5) dX5_dirtyBlocks_4 rfl rfl ?_
  refine v_aload_n (pc' := 6) dX5_dirtyBlocks_5 rfl rfl ?_
  obtain ⟨q1, T⟩ := T
  refine v_getI (pc' := 9) 5 2 dX5_dirtyBlocks_6 rfl (by decide) (by decide) rfl kf_X5_60 q1 ?_
  refine v_icmp_ge (tgt := 29) (pc' := 12) dX5_dirtyBlocks_9 (by decide) rfl ⟨fun c2 => ?_, fun c2 => ?_⟩
  · have T := T.1 c2
    refine v_iload_n (pc' := 30) dX5_dirtyBlocks_29 rfl rfl ?_
    exact v_iret dX5_dirtyBlocks_30 rfl T
  · have T := T.2 c2
    refine v_iload_n (pc' := 13) dX5_dirtyBlocks_12 rfl rfl ?_
    refine v_iconst (pc' := 14) (v := 1) dX5_dirtyBlocks_13 rfl kI_1 ?_
    refine v_aload_n (pc' := 15) dX5_dirtyBlocks_14 rfl rfl ?_
    refine v_getR (pc' := 18) 5 3 dX5_dirtyBlocks_15 rfl (by decide) (by decide) rfl kf_X5_15 q1 ?_
    refine v_iload_n (pc' := 19) dX5_dirtyBlocks_18 rfl rfl ?_
    obtain ⟨q3, T⟩ := T
    obtain ⟨q4, T⟩ := T
    refine v_iald (pc' := 20) dX5_dirtyBlocks_19 rfl rfl q3 q4 ?_
    refine v_ishl (pc' := 21) dX5_dirtyBlocks_20 rfl ?_
    refine v_ior (pc' := 22) dX5_dirtyBlocks_21 rfl ?_
    refine v_istore_n (pc' := 23) (loc' := [.ref r0, .int (x1 ||| (1 <<< ((h.2 (rH h r0 3) x2.toNatClampNeg) &&& 31))), .int x2]) dX5_dirtyBlocks_22 rfl (lt_l rfl) rfl ?_
    refine v_iinc (pc' := 26) (loc' := [.ref r0, .int (x1 ||| (1 <<< ((h.2 (rH h r0 3) x2.toNatClampNeg) &&& 31))), .int (x2 + 1)]) dX5_dirtyBlocks_23 rfl rfl (kX_1 _) rfl ?_
    refine v_goto (pc' := 4) dX5_dirtyBlocks_26 (by decide) ?_
    exact T
theorem eX5_firstPlace {G : GG} {d : Nat} {h : Hp} {o : OU} {h' : Hp} (r0 : Nat) (x1 : Int32) (T : kH h r0 = 15 ∧ kH h (rH h r0 4) = 1 ∧ vp_in x1 (lH h (rH h r0 4)) ∧ ((¬ (h.2 (rH h r0 4) x1.toNatClampNeg) = 16 → (o = .inl (some (.int (h.2 (rH h r0 4) x1.toNatClampNeg))) ∧ h' = h)) ∧ ((h.2 (rH h r0 4) x1.toNatClampNeg) = 16 → (o = .inl (some (.int 0)) ∧ h' = h)))) : VM G mX5_firstPlace d [.ref r0, .int x1] h o h' := by
  refine V.toM rfl rfl (le_l rfl) (cat_all rfl) ?_
  show V G mX5_firstPlace d 0 [.ref r0, .int x1] [] h o h'
  refine v_aload_n (pc' := 1) dX5_firstPlace_0 rfl rfl ?_
  obtain ⟨q1, T⟩ := T
  refine v_getR (pc' := 4) 5 4 dX5_firstPlace_1 rfl (by decide) (by decide) rfl kf_X5_19 q1 ?_
  refine v_iload_n (pc' := 5) dX5_firstPlace_4 rfl rfl ?_
  obtain ⟨q2, T⟩ := T
  obtain ⟨q3, T⟩ := T
  refine v_iald (pc' := 6) dX5_firstPlace_5 rfl rfl q2 q3 ?_
  refine v_bipush (pc' := 8) (v := 16) dX5_firstPlace_6 rfl kB_16 ?_
  refine v_icmp_ne (tgt := 15) (pc' := 11) dX5_firstPlace_8 (by decide) rfl ⟨fun c4 => ?_, fun c4 => ?_⟩
  · have T := T.1 c4
    refine v_aload_n (pc' := 16) dX5_firstPlace_15 rfl rfl ?_
    refine v_getR (pc' := 19) 5 4 dX5_firstPlace_16 rfl (by decide) (by decide) rfl kf_X5_19 q1 ?_
    refine v_iload_n (pc' := 20) dX5_firstPlace_19 rfl rfl ?_
    refine v_iald (pc' := 21) dX5_firstPlace_20 rfl rfl q2 q3 ?_
    exact v_iret dX5_firstPlace_21 rfl T
  · have T := T.2 c4
    refine v_iconst (pc' := 12) (v := 0) dX5_firstPlace_11 rfl kI_0 ?_
    refine v_goto (pc' := 21) dX5_firstPlace_12 (by decide) ?_
    exact v_iret dX5_firstPlace_21 rfl T
theorem eX5_countNeeds {G : GG} {d : Nat} {h : Hp} {o : OU} {h' : Hp} (r0 : Nat) (x1 : Int32) (T : V G mX5_countNeeds d 6 [.ref r0, .int x1, .int 0, .int (x1 * 4)] [] h o h') : VM G mX5_countNeeds d [.ref r0, .int x1] h o h' := by
  refine V.toM rfl rfl (le_l rfl) (cat_all rfl) ?_
  show V G mX5_countNeeds d 0 [.ref r0, .int x1, uV, uV] [] h o h'
  refine v_iconst (pc' := 1) (v := 0) dX5_countNeeds_0 rfl kI_0 ?_
  refine v_istore_n (pc' := 2) (loc' := [.ref r0, .int x1, .int 0, uV]) dX5_countNeeds_1 rfl (lt_l rfl) rfl ?_
  refine v_iload_n (pc' := 3) dX5_countNeeds_2 rfl rfl ?_
  refine v_iconst (pc' := 4) (v := 4) dX5_countNeeds_3 rfl kI_4 ?_
  refine v_imul (pc' := 5) dX5_countNeeds_4 rfl ?_
  refine v_istore_n (pc' := 6) (loc' := [.ref r0, .int x1, .int 0, .int (x1 * 4)]) dX5_countNeeds_5 rfl (lt_l rfl) rfl ?_
  exact T
theorem bX5_countNeeds_6 {G : GG} {d : Nat} {h : Hp} {o : OU} {h' : Hp} (r0 : Nat) (x1 : Int32) (x2 : Int32) (x3 : Int32) (T : ((((x1 + 1) * 4) ≤ x3 → V G mX5_countNeeds d 36 [.ref r0, .int x1, .int x2, .int 0] [] h o h') ∧ (¬ ((x1 + 1) * 4) ≤ x3 → kH h r0 = 15 ∧ kH h (rH h r0 7) = 1 ∧ vp_in x3 (lH h (rH h r0 7)) ∧ (((h.2 (rH h r0 7) x3.toNatClampNeg) = (-1) → V G mX5_countNeeds d 6 [.ref r0, .int x1, .int x2, .int (x3 + 1)] [] h o h') ∧ (¬ (h.2 (rH h r0 7) x3.toNatClampNeg) = (-1) → V G mX5_countNeeds d 6 [.ref r0, .int x1, .int (x2 + 1), .int (x3 + 1)] [] h o h'))))) : V G mX5_countNeeds d 6 [.ref r0, .int x1, .int x2, .int x3] [] h o h' := by
  refine v_iload_n (pc' := 7) dX5_countNeeds_6 rfl rfl ?_
  refine v_iload_n (pc' := 8) dX5_countNeeds_7 rfl rfl ?_
  refine v_iconst (pc' := 9) (v := 1) dX5_countNeeds_8 rfl kI_1 ?_
  refine v_iadd (pc' := 10) dX5_countNeeds_9 rfl ?_
  refine v_iconst (pc' := 11) (v := 4) dX5_countNeeds_10 rfl kI_4 ?_
  refine v_imul (pc' := 12) dX5_countNeeds_11 rfl ?_
  refine v_icmp_ge (tgt := 34) (pc' := 15) dX5_countNeeds_12 (by decide) rfl ⟨fun c1 => ?_, fun c1 => ?_⟩
  · have T := T.1 c1
    refine v_iconst (pc' := 35) (v := 0) dX5_countNeeds_34 rfl kI_0 ?_
    refine v_istore_n (pc' := 36) (loc' := [.ref r0, .int x1, .int x2, .int 0]) dX5_countNeeds_35 rfl (lt_l rfl) rfl ?_
    exact T
  · have T := T.2 c1
    refine v_aload_n (pc' := 16) dX5_countNeeds_15 rfl rfl ?_
    obtain ⟨q2, T⟩ := T
    refine v_getR (pc' := 19) 5 7 dX5_countNeeds_16 rfl (by decide) (by decide) rfl kf_X5_28 q2 ?_
    refine v_iload_n (pc' := 20) dX5_countNeeds_19 rfl rfl ?_
    obtain ⟨q3, T⟩ := T
    obtain ⟨q4, T⟩ := T
    refine v_iald (pc' := 21) dX5_countNeeds_20 rfl rfl q3 q4 ?_
    refine v_iconst (pc' := 22) (v := (-1)) dX5_countNeeds_21 rfl kI_m1 ?_
    refine v_icmp_eq (tgt := 28) (pc' := 25) dX5_countNeeds_22 (by decide) rfl ⟨fun c5 => ?_, fun c5 => ?_⟩
    · have T := T.1 c5
      refine v_iinc (pc' := 31) (loc' := [.ref r0, .int x1, .int x2, .int (x3 + 1)]) dX5_countNeeds_28 rfl rfl (kX_1 _) rfl ?_
      refine v_goto (pc' := 6) dX5_countNeeds_31 (by decide) ?_
      exact T
    · have T := T.2 c5
      refine v_iinc (pc' := 28) (loc' := [.ref r0, .int x1, .int (x2 + 1), .int x3]) dX5_countNeeds_25 rfl rfl (kX_1 _) rfl ?_
      refine v_iinc (pc' := 31) (loc' := [.ref r0, .int x1, .int (x2 + 1), .int (x3 + 1)]) dX5_countNeeds_28 rfl rfl (kX_1 _) rfl ?_
      refine v_goto (pc' := 6) dX5_countNeeds_31 (by decide) ?_
      exact T
theorem bX5_countNeeds_36 {G : GG} {d : Nat} {h : Hp} {o : OU} {h' : Hp} (r0 : Nat) (x1 : Int32) (x2 : Int32) (x3 : Int32) (T : kH h r0 = 15 ∧ kH h (rH h r0 8) = 1 ∧ vp_in x1 (lH h (rH h r0 8)) ∧ (((h.2 (rH h r0 8) x1.toNatClampNeg) = (-1) → (o = .inl (some (.int x2)) ∧ h' = h)) ∧ (¬ (h.2 (rH h r0 8) x1.toNatClampNeg) = (-1) → ((x1 ≤ x3 → (o = .inl (some (.int x2)) ∧ h' = h)) ∧ (¬ x1 ≤ x3 → kH h (rH h r0 3) = 1 ∧ vp_in x3 (lH h (rH h r0 3)) ∧ ((¬ (h.2 (rH h r0 3) x3.toNatClampNeg) = (h.2 (rH h r0 8) x1.toNatClampNeg) → V G mX5_countNeeds d 36 [.ref r0, .int x1, .int x2, .int (x3 + 1)] [] h o h') ∧ ((h.2 (rH h r0 3) x3.toNatClampNeg) = (h.2 (rH h r0 8) x1.toNatClampNeg) → V G mX5_countNeeds d 36 [.ref r0, .int x1, .int (x2 + 1), .int (x3 + 1)] [] h o h'))))))) : V G mX5_countNeeds d 36 [.ref r0, .int x1, .int x2, .int x3] [] h o h' := by
  refine v_aload_n (pc' := 37) dX5_countNeeds_36 rfl rfl ?_
  obtain ⟨q1, T⟩ := T
  refine v_getR (pc' := 40) 5 8 dX5_countNeeds_37 rfl (by decide) (by decide) rfl kf_X5_31 q1 ?_
  refine v_iload_n (pc' := 41) dX5_countNeeds_40 rfl rfl ?_
  obtain ⟨q2, T⟩ := T
  obtain ⟨q3, T⟩ := T
  refine v_iald (pc' := 42) dX5_countNeeds_41 rfl rfl q2 q3 ?_
  refine v_iconst (pc' := 43) (v := (-1)) dX5_countNeeds_42 rfl kI_m1 ?_
  refine v_icmp_eq (tgt := 75) (pc' := 46) dX5_countNeeds_43 (by decide) rfl ⟨fun c4 => ?_, fun c4 => ?_⟩
  · have T := T.1 c4
    refine v_iload_n (pc' := 76) dX5_countNeeds_75 rfl rfl ?_
    exact v_iret dX5_countNeeds_76 rfl T
  · have T := T.2 c4
    refine v_iload_n (pc' := 47) dX5_countNeeds_46 rfl rfl ?_
    refine v_iload_n (pc' := 48) dX5_countNeeds_47 rfl rfl ?_
    refine v_icmp_ge (tgt := 75) (pc' := 51) dX5_countNeeds_48 (by decide) rfl ⟨fun c5 => ?_, fun c5 => ?_⟩
    · have T := T.1 c5
      refine v_iload_n (pc' := 76) dX5_countNeeds_75 rfl rfl ?_
      exact v_iret dX5_countNeeds_76 rfl T
    · have T := T.2 c5
      refine v_aload_n (pc' := 52) dX5_countNeeds_51 rfl rfl ?_
      refine v_getR (pc' := 55) 5 3 dX5_countNeeds_52 rfl (by decide) (by decide) rfl kf_X5_15 q1 ?_
      refine v_iload_n (pc' := 56) dX5_countNeeds_55 rfl rfl ?_
      obtain ⟨q6, T⟩ := T
      obtain ⟨q7, T⟩ := T
      refine v_iald (pc' := 57) dX5_countNeeds_56 rfl rfl q6 q7 ?_
      refine v_aload_n (pc' := 58) dX5_countNeeds_57 rfl rfl ?_
      refine v_getR (pc' := 61) 5 8 dX5_countNeeds_58 rfl (by decide) (by decide) rfl kf_X5_31 q1 ?_
      refine v_iload_n (pc' := 62) dX5_countNeeds_61 rfl rfl ?_
      refine v_iald (pc' := 63) dX5_countNeeds_62 rfl rfl q2 q3 ?_
      refine v_icmp_ne (tgt := 69) (pc' := 66) dX5_countNeeds_63 (by decide) rfl ⟨fun c8 => ?_, fun c8 => ?_⟩
      · have T := T.1 c8
        refine v_iinc (pc' := 72) (loc' := [.ref r0, .int x1, .int x2, .int (x3 + 1)]) dX5_countNeeds_69 rfl rfl (kX_1 _) rfl ?_
        refine v_goto (pc' := 36) dX5_countNeeds_72 (by decide) ?_
        exact T
      · have T := T.2 c8
        refine v_iinc (pc' := 69) (loc' := [.ref r0, .int x1, .int (x2 + 1), .int x3]) dX5_countNeeds_66 rfl rfl (kX_1 _) rfl ?_
        refine v_iinc (pc' := 72) (loc' := [.ref r0, .int x1, .int (x2 + 1), .int (x3 + 1)]) dX5_countNeeds_69 rfl rfl (kX_1 _) rfl ?_
        refine v_goto (pc' := 36) dX5_countNeeds_72 (by decide) ?_
        exact T
theorem eX5_blocksNeededBy {G : GG} {d : Nat} {h : Hp} {o : OU} {h' : Hp} (r0 : Nat) (x1 : Int32) (T : V G mX5_blocksNeededBy d 7 [.ref r0, .int x1, .int 0, .int 0, .int 0, uV] [] h o h') : VM G mX5_blocksNeededBy d [.ref r0, .int x1] h o h' := by
  refine V.toM rfl rfl (le_l rfl) (cat_all rfl) ?_
  show V G mX5_blocksNeededBy d 0 [.ref r0, .int x1, uV, uV, uV, uV] [] h o h'
  refine v_iconst (pc' := 1) (v := 0) dX5_blocksNeededBy_0 rfl kI_0 ?_
  refine v_istore_n (pc' := 2) (loc' := [.ref r0, .int x1, .int 0, uV, uV, uV]) dX5_blocksNeededBy_1 rfl (lt_l rfl) rfl ?_
  refine v_iconst (pc' := 3) (v := 0) dX5_blocksNeededBy_2 rfl kI_0 ?_
  refine v_istore_n (pc' := 4) (loc' := [.ref r0, .int x1, .int 0, .int 0, uV, uV]) dX5_blocksNeededBy_3 rfl (lt_l rfl) rfl ?_
  refine v_iconst (pc' := 5) (v := 0) dX5_blocksNeededBy_4 rfl kI_0 ?_
  refine v_istore (pc' := 7) (loc' := [.ref r0, .int x1, .int 0, .int 0, .int 0, uV]) dX5_blocksNeededBy_5 rfl (lt_l rfl) rfl ?_
  exact T
theorem bX5_blocksNeededBy_7 {G : GG} {d : Nat} {h : Hp} {o : OU} {h' : Hp} (r0 : Nat) (x1 : Int32) (x2 : Int32) (x3 : Int32) (x4 : Int32) (T : kH h r0 = 15 ∧ (((h.2 r0 2) ≤ x4 → (o = .inl (some (.int (x2 &&& ((1 <<< (x1 &&& 31)) ^^^ (-1))))) ∧ h' = h)) ∧ (¬ (h.2 r0 2) ≤ x4 → kH h (rH h r0 3) = 1 ∧ vp_in x4 (lH h (rH h r0 3)) ∧ ((¬ (h.2 (rH h r0 3) x4.toNatClampNeg) = x1 → V G mX5_blocksNeededBy d 7 [.ref r0, .int x1, .int x2, .int (x3 ||| (1 <<< ((h.2 (rH h r0 3) x4.toNatClampNeg) &&& 31))), .int (x4 + 1), uV] [] h o h') ∧ ((h.2 (rH h r0 3) x4.toNatClampNeg) = x1 → V G mX5_blocksNeededBy d 33 [.ref r0, .int x1, .int x2, .int x3, .int x4, .int (x4 * 4)] [] h o h'))))) : V G mX5_blocksNeededBy d 7 [.ref r0, .int x1, .int x2, .int x3, .int x4, uV] [] h o h' := by
  refine v_iload (pc' := 9) dX5_blocksNeededBy_7 rfl rfl ?_
  refine v_aload_n (pc' := 10) dX5_blocksNeededBy_9 rfl rfl ?_
  obtain ⟨q1, T⟩ := T
  refine v_getI (pc' := 13) 5 2 dX5_blocksNeededBy_10 rfl (by decide) (by decide) rfl kf_X5_60 q1 ?_
  refine v_icmp_ge (tgt := 129) (pc' := 16) dX5_blocksNeededBy_13 (by decide) rfl ⟨fun c2 => ?_, fun c2 => ?_⟩
  · have T := T.1 c2
    refine v_iload_n (pc' := 130) dX5_blocksNeededBy_129 rfl rfl ?_
    refine v_iconst (pc' := 131) (v := 1) dX5_blocksNeededBy_130 rfl kI_1 ?_
    refine v_iload_n (pc' := 132) dX5_blocksNeededBy_131 rfl rfl ?_
    refine v_ishl (pc' := 133) dX5_blocksNeededBy_132 rfl ?_
    refine v_iconst (pc' := 134) (v := (-1)) dX5_blocksNeededBy_133 rfl kI_m1 ?_
    refine v_ixor (pc' := 135) dX5_blocksNeededBy_134 rfl ?_
    refine v_iand (pc' := 136) dX5_blocksNeededBy_135 rfl ?_
    exact v_iret dX5_blocksNeededBy_136 rfl T
  · have T := T.2 c2
    refine v_aload_n (pc' := 17) dX5_blocksNeededBy_16 rfl rfl ?_
    refine v_getR (pc' := 20) 5 3 dX5_blocksNeededBy_17 rfl (by decide) (by decide) rfl kf_X5_15 q1 ?_
    refine v_iload (pc' := 22) dX5_blocksNeededBy_20 rfl rfl ?_
    obtain ⟨q3, T⟩ := T
    obtain ⟨q4, T⟩ := T
    refine v_iald (pc' := 23) dX5_blocksNeededBy_22 rfl rfl q3 q4 ?_
    refine v_iload_n (pc' := 24) dX5_blocksNeededBy_23 rfl rfl ?_
    refine v_icmp_ne (tgt := 111) (pc' := 27) dX5_blocksNeededBy_24 (by decide) rfl ⟨fun c5 => ?_, fun c5 => ?_⟩
    · have T := T.1 c5
      refine v_iload_n (pc' := 112) dX5_blocksNeededBy_111 rfl rfl ?_
      refine v_iconst (pc' := 113) (v := 1) dX5_blocksNeededBy_112 rfl kI_1 ?_
      refine v_aload_n (pc' := 114) dX5_blocksNeededBy_113 rfl rfl ?_
      refine v_getR (pc' := 117) 5 3 dX5_blocksNeededBy_114 rfl (by decide) (by decide) rfl kf_X5_15 q1 ?_
      refine v_iload (pc' := 119) dX5_blocksNeededBy_117 rfl rfl ?_
      refine v_iald (pc' := 120) dX5_blocksNeededBy_119 rfl rfl q3 q4 ?_
      refine v_ishl (pc' := 121) dX5_blocksNeededBy_120 rfl ?_
      refine v_ior (pc' := 122) dX5_blocksNeededBy_121 rfl ?_
      refine v_istore_n (pc' := 123) (loc' := [.ref r0, .int x1, .int x2, .int (x3 ||| (1 <<< ((h.2 (rH h r0 3) x4.toNatClampNeg) &&& 31))), .int x4, uV]) dX5_blocksNeededBy_122 rfl (lt_l rfl) rfl ?_
      refine v_iinc (pc' := 126) (loc' := [.ref r0, .int x1, .int x2, .int (x3 ||| (1 <<< ((h.2 (rH h r0 3) x4.toNatClampNeg) &&& 31))), .int (x4 + 1), uV]) dX5_blocksNeededBy_123 rfl rfl (kX_1 _) rfl ?_
      refine v_goto (pc' := 7) dX5_blocksNeededBy_126 (by decide) ?_
      exact T
    · have T := T.2 c5
      refine v_iload (pc' := 29) dX5_blocksNeededBy_27 rfl rfl ?_
      refine v_iconst (pc' := 30) (v := 4) dX5_blocksNeededBy_29 rfl kI_4 ?_
      refine v_imul (pc' := 31) dX5_blocksNeededBy_30 rfl ?_
      refine v_istore (pc' := 33) (loc' := [.ref r0, .int x1, .int x2, .int x3, .int x4, .int (x4 * 4)]) dX5_blocksNeededBy_31 rfl (lt_l rfl) rfl ?_
      exact T
theorem bX5_blocksNeededBy_33 {G : GG} {d : Nat} {h : Hp} {o : OU} {h' : Hp} (r0 : Nat) (x1 : Int32) (x2 : Int32) (x3 : Int32) (x4 : Int32) (x5 : Int32) (T : ((((x4 + 1) * 4) ≤ x5 → kH h r0 = 15 ∧ kH h (rH h r0 8) = 1 ∧ vp_in x4 (lH h (rH h r0 8)) ∧ ((¬ (h.2 (rH h r0 8) x4.toNatClampNeg) = (-1) → kH h (rH h r0 3) = 1 ∧ vp_in x4 (lH h (rH h r0 3)) ∧ V G mX5_blocksNeededBy d 7 [.ref r0, .int x1, .int (x2 ||| (x3 &&& (1 <<< ((h.2 (rH h r0 8) x4.toNatClampNeg) &&& 31)))), .int (x3 ||| (1 <<< ((h.2 (rH h r0 3) x4.toNatClampNeg) &&& 31))), .int (x4 + 1), uV] [] h o h') ∧ ((h.2 (rH h r0 8) x4.toNatClampNeg) = (-1) → kH h (rH h r0 3) = 1 ∧ vp_in x4 (lH h (rH h r0 3)) ∧ V G mX5_blocksNeededBy d 7 [.ref r0, .int x1, .int (x2 ||| 0), .int (x3 ||| (1 <<< ((h.2 (rH h r0 3) x4.toNatClampNeg) &&& 31))), .int (x4 + 1), uV] [] h o h'))) ∧ (¬ ((x4 + 1) * 4) ≤ x5 → kH h r0 = 15 ∧ kH h (rH h r0 7) = 1 ∧ vp_in x5 (lH h (rH h r0 7)) ∧ ((¬ (h.2 (rH h r0 7) x5.toNatClampNeg) = (-1) → kH h (rH h r0 3) = 1 ∧ vp_in (h.2 (rH h r0 7) x5.toNatClampNeg) (lH h (rH h r0 3)) ∧ V G mX5_blocksNeededBy d 33 [.ref r0, .int x1, .int (x2 ||| (1 <<< ((h.2 (rH h r0 3) (h.2 (rH h r0 7) x5.toNatClampNeg).toNatClampNeg) &&& 31))), .int x3, .int x4, .int (x5 + 1)] [] h o h') ∧ ((h.2 (rH h r0 7) x5.toNatClampNeg) = (-1) → V G mX5_blocksNeededBy d 33 [.ref r0, .int x1, .int (x2 ||| 0), .int x3, .int x4, .int (x5 + 1)] [] h o h'))))) : V G mX5_blocksNeededBy d 33 [.ref r0, .int x1, .int x2, .int x3, .int x4, .int x5] [] h o h' := by
  refine v_iload (pc' := 35) dX5_blocksNeededBy_33 rfl rfl ?_
  refine v_iload (pc' := 37) dX5_blocksNeededBy_35 rfl rfl ?_
  refine v_iconst (pc' := 38) (v := 1) dX5_blocksNeededBy_37 rfl kI_1 ?_
  refine v_iadd (pc' := 39) dX5_blocksNeededBy_38 rfl ?_
  refine v_iconst (pc' := 40) (v := 4) dX5_blocksNeededBy_39 rfl kI_4 ?_
  refine v_imul (pc' := 41) dX5_blocksNeededBy_40 rfl ?_
  refine v_icmp_ge (tgt := 82) (pc' := 44) dX5_blocksNeededBy_41 (by decide) rfl ⟨fun c1 => ?_, fun c1 => ?_⟩
  · have T := T.1 c1
    refine v_iload_n (pc' := 83) dX5_blocksNeededBy_82 rfl rfl ?_
    refine v_aload_n (pc' := 84) dX5_blocksNeededBy_83 rfl rfl ?_
    obtain ⟨q2, T⟩ := T
    refine v_getR (pc' := 87) 5 8 dX5_blocksNeededBy_84 rfl (by decide) (by decide) rfl kf_X5_31 q2 ?_
    refine v_iload (pc' := 89) dX5_blocksNeededBy_87 rfl rfl ?_
    obtain ⟨q3, T⟩ := T
    obtain ⟨q4, T⟩ := T
    refine v_iald (pc' := 90) dX5_blocksNeededBy_89 rfl rfl q3 q4 ?_
    refine v_iconst (pc' := 91) (v := (-1)) dX5_blocksNeededBy_90 rfl kI_m1 ?_
    refine v_icmp_ne (tgt := 98) (pc' := 94) dX5_blocksNeededBy_91 (by decide) rfl ⟨fun c5 => ?_, fun c5 => ?_⟩
    · have T := T.1 c5
      refine v_iload_n (pc' := 99) dX5_blocksNeededBy_98 rfl rfl ?_
      refine v_iconst (pc' := 100) (v := 1) dX5_blocksNeededBy_99 rfl kI_1 ?_
      refine v_aload_n (pc' := 101) dX5_blocksNeededBy_100 rfl rfl ?_
      refine v_getR (pc' := 104) 5 8 dX5_blocksNeededBy_101 rfl (by decide) (by decide) rfl kf_X5_31 q2 ?_
      refine v_iload (pc' := 106) dX5_blocksNeededBy_104 rfl rfl ?_
      refine v_iald (pc' := 107) dX5_blocksNeededBy_106 rfl rfl q3 q4 ?_
      refine v_ishl (pc' := 108) dX5_blocksNeededBy_107 rfl ?_
      refine v_iand (pc' := 109) dX5_blocksNeededBy_108 rfl ?_
      refine v_ior (pc' := 110) dX5_blocksNeededBy_109 rfl ?_
      refine v_istore_n (pc' := 111) (loc' := [.ref r0, .int x1, .int (x2 ||| (x3 &&& (1 <<< ((h.2 (rH h r0 8) x4.toNatClampNeg) &&& 31)))), .int x3, .int x4, .int x5]) dX5_blocksNeededBy_110 rfl (lt_l rfl) rfl ?_
      refine v_iload_n (pc' := 112) dX5_blocksNeededBy_111 rfl rfl ?_
      refine v_iconst (pc' := 113) (v := 1) dX5_blocksNeededBy_112 rfl kI_1 ?_
      refine v_aload_n (pc' := 114) dX5_blocksNeededBy_113 rfl rfl ?_
      refine v_getR (pc' := 117) 5 3 dX5_blocksNeededBy_114 rfl (by decide) (by decide) rfl kf_X5_15 q2 ?_
      refine v_iload (pc' := 119) dX5_blocksNeededBy_117 rfl rfl ?_
      obtain ⟨q6, T⟩ := T
      obtain ⟨q7, T⟩ := T
      refine v_iald (pc' := 120) dX5_blocksNeededBy_119 rfl rfl q6 q7 ?_
      refine v_ishl (pc' := 121) dX5_blocksNeededBy_120 rfl ?_
      refine v_ior (pc' := 122) dX5_blocksNeededBy_121 rfl ?_
      refine v_istore_n (pc' := 123) (loc' := [.ref r0, .int x1, .int (x2 ||| (x3 &&& (1 <<< ((h.2 (rH h r0 8) x4.toNatClampNeg) &&& 31)))), .int (x3 ||| (1 <<< ((h.2 (rH h r0 3) x4.toNatClampNeg) &&& 31))), .int x4, .int x5]) dX5_blocksNeededBy_122 rfl (lt_l rfl) rfl ?_
      refine v_iinc (pc' := 126) (loc' := [.ref r0, .int x1, .int (x2 ||| (x3 &&& (1 <<< ((h.2 (rH h r0 8) x4.toNatClampNeg) &&& 31)))), .int (x3 ||| (1 <<< ((h.2 (rH h r0 3) x4.toNatClampNeg) &&& 31))), .int (x4 + 1), .int x5]) dX5_blocksNeededBy_123 rfl rfl (kX_1 _) rfl ?_
      refine v_goto (pc' := 7) dX5_blocksNeededBy_126 (by decide) ?_
      exact V.drop (llp_r (llp_r (llp_r (llp_r (llp_r (llp_u llp_nil)))))) T
    · have T := T.2 c5
      refine v_iconst (pc' := 95) (v := 0) dX5_blocksNeededBy_94 rfl kI_0 ?_
      refine v_goto (pc' := 109) dX5_blocksNeededBy_95 (by decide) ?_
      refine v_ior (pc' := 110) dX5_blocksNeededBy_109 rfl ?_
      refine v_istore_n (pc' := 111) (loc' := [.ref r0, .int x1, .int (x2 ||| 0), .int x3, .int x4, .int x5]) dX5_blocksNeededBy_110 rfl (lt_l rfl) rfl ?_
      refine v_iload_n (pc' := 112) dX5_blocksNeededBy_111 rfl rfl ?_
      refine v_iconst (pc' := 113) (v := 1) dX5_blocksNeededBy_112 rfl kI_1 ?_
      refine v_aload_n (pc' := 114) dX5_blocksNeededBy_113 rfl rfl ?_
      refine v_getR (pc' := 117) 5 3 dX5_blocksNeededBy_114 rfl (by decide) (by decide) rfl kf_X5_15 q2 ?_
      refine v_iload (pc' := 119) dX5_blocksNeededBy_117 rfl rfl ?_
      obtain ⟨q8, T⟩ := T
      obtain ⟨q9, T⟩ := T
      refine v_iald (pc' := 120) dX5_blocksNeededBy_119 rfl rfl q8 q9 ?_
      refine v_ishl (pc' := 121) dX5_blocksNeededBy_120 rfl ?_
      refine v_ior (pc' := 122) dX5_blocksNeededBy_121 rfl ?_
      refine v_istore_n (pc' := 123) (loc' := [.ref r0, .int x1, .int (x2 ||| 0), .int (x3 ||| (1 <<< ((h.2 (rH h r0 3) x4.toNatClampNeg) &&& 31))), .int x4, .int x5]) dX5_blocksNeededBy_122 rfl (lt_l rfl) rfl ?_
      refine v_iinc (pc' := 126) (loc' := [.ref r0, .int x1, .int (x2 ||| 0), .int (x3 ||| (1 <<< ((h.2 (rH h r0 3) x4.toNatClampNeg) &&& 31))), .int (x4 + 1), .int x5]) dX5_blocksNeededBy_123 rfl rfl (kX_1 _) rfl ?_
      refine v_goto (pc' := 7) dX5_blocksNeededBy_126 (by decide) ?_
      exact V.drop (llp_r (llp_r (llp_r (llp_r (llp_r (llp_u llp_nil)))))) T
  · have T := T.2 c1
    refine v_iload_n (pc' := 45) dX5_blocksNeededBy_44 rfl rfl ?_
    refine v_aload_n (pc' := 46) dX5_blocksNeededBy_45 rfl rfl ?_
    obtain ⟨q10, T⟩ := T
    refine v_getR (pc' := 49) 5 7 dX5_blocksNeededBy_46 rfl (by decide) (by decide) rfl kf_X5_28 q10 ?_
    refine v_iload (pc' := 51) dX5_blocksNeededBy_49 rfl rfl ?_
    obtain ⟨q11, T⟩ := T
    obtain ⟨q12, T⟩ := T
    refine v_iald (pc' := 52) dX5_blocksNeededBy_51 rfl rfl q11 q12 ?_
    refine v_iconst (pc' := 53) (v := (-1)) dX5_blocksNeededBy_52 rfl kI_m1 ?_
    refine v_icmp_ne (tgt := 60) (pc' := 56) dX5_blocksNeededBy_53 (by decide) rfl ⟨fun c13 => ?_, fun c13 => ?_⟩
    · have T := T.1 c13
      refine v_iconst (pc' := 61) (v := 1) dX5_blocksNeededBy_60 rfl kI_1 ?_
      refine v_aload_n (pc' := 62) dX5_blocksNeededBy_61 rfl rfl ?_
      refine v_getR (pc' := 65) 5 3 dX5_blocksNeededBy_62 rfl (by decide) (by decide) rfl kf_X5_15 q10 ?_
      refine v_aload_n (pc' := 66) dX5_blocksNeededBy_65 rfl rfl ?_
      refine v_getR (pc' := 69) 5 7 dX5_blocksNeededBy_66 rfl (by decide) (by decide) rfl kf_X5_28 q10 ?_
      refine v_iload (pc' := 71) dX5_blocksNeededBy_69 rfl rfl ?_
      refine v_iald (pc' := 72) dX5_blocksNeededBy_71 rfl rfl q11 q12 ?_
      obtain ⟨q14, T⟩ := T
      obtain ⟨q15, T⟩ := T
      refine v_iald (pc' := 73) dX5_blocksNeededBy_72 rfl rfl q14 q15 ?_
      refine v_ishl (pc' := 74) dX5_blocksNeededBy_73 rfl ?_
      refine v_ior (pc' := 75) dX5_blocksNeededBy_74 rfl ?_
      refine v_istore_n (pc' := 76) (loc' := [.ref r0, .int x1, .int (x2 ||| (1 <<< ((h.2 (rH h r0 3) (h.2 (rH h r0 7) x5.toNatClampNeg).toNatClampNeg) &&& 31))), .int x3, .int x4, .int x5]) dX5_blocksNeededBy_75 rfl (lt_l rfl) rfl ?_
      refine v_iinc (pc' := 79) (loc' := [.ref r0, .int x1, .int (x2 ||| (1 <<< ((h.2 (rH h r0 3) (h.2 (rH h r0 7) x5.toNatClampNeg).toNatClampNeg) &&& 31))), .int x3, .int x4, .int (x5 + 1)]) dX5_blocksNeededBy_76 rfl rfl (kX_1 _) rfl ?_
      refine v_goto (pc' := 33) dX5_blocksNeededBy_79 (by decide) ?_
      exact T
    · have T := T.2 c13
      refine v_iconst (pc' := 57) (v := 0) dX5_blocksNeededBy_56 rfl kI_0 ?_
      refine v_goto (pc' := 74) dX5_blocksNeededBy_57 (by decide) ?_
      refine v_ior (pc' := 75) dX5_blocksNeededBy_74 rfl ?_
      refine v_istore_n (pc' := 76) (loc' := [.ref r0, .int x1, .int (x2 ||| 0), .int x3, .int x4, .int x5]) dX5_blocksNeededBy_75 rfl (lt_l rfl) rfl ?_
      refine v_iinc (pc' := 79) (loc' := [.ref r0, .int x1, .int (x2 ||| 0), .int x3, .int x4, .int (x5 + 1)]) dX5_blocksNeededBy_76 rfl rfl (kX_1 _) rfl ?_
      refine v_goto (pc' := 33) dX5_blocksNeededBy_79 (by decide) ?_
      exact T
