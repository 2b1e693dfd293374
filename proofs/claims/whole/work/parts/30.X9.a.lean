theorem dX9_init_0 : decode cX9_init 0 = .ok (.aload_n 0, 1) := by decide +kernel
theorem dX9_init_1 : decode cX9_init 1 = .ok (.invokespecial 3, 3) := by decide +kernel
theorem dX9_init_4 : decode cX9_init 4 = .ok (.aload_n 0, 1) := by decide +kernel
theorem dX9_init_5 : decode cX9_init 5 = .ok (.new 9, 3) := by decide +kernel
theorem dX9_init_8 : decode cX9_init 8 = .ok (.dup, 1) := by decide +kernel
theorem dX9_init_9 : decode cX9_init 9 = .ok (.invokespecial 11, 3) := by decide +kernel
theorem dX9_init_12 : decode cX9_init 12 = .ok (.putfield 12, 3) := by decide +kernel
theorem dX9_init_15 : decode cX9_init 15 = .ok (.aload_n 0, 1) := by decide +kernel
theorem dX9_init_16 : decode cX9_init 16 = .ok (.new 16, 3) := by decide +kernel
theorem dX9_init_19 : decode cX9_init 19 = .ok (.dup, 1) := by decide +kernel
theorem dX9_init_20 : decode cX9_init 20 = .ok (.invokespecial 18, 3) := by decide +kernel
theorem dX9_init_23 : decode cX9_init 23 = .ok (.putfield 19, 3) := by decide +kernel
theorem dX9_init_26 : decode cX9_init 26 = .ok (.aload_n 0, 1) := by decide +kernel
theorem dX9_init_27 : decode cX9_init 27 = .ok (.iconst 3, 1) := by decide +kernel
theorem dX9_init_28 : decode cX9_init 28 = .ok (.anewarray 23, 3) := by decide +kernel
theorem dX9_init_31 : decode cX9_init 31 = .ok (.putfield 25, 3) := by decide +kernel
theorem dX9_init_34 : decode cX9_init 34 = .ok (.aload_n 0, 1) := by decide +kernel
theorem dX9_init_35 : decode cX9_init 35 = .ok (.iconst 5, 1) := by decide +kernel
theorem dX9_init_36 : decode cX9_init 36 = .ok (.anewarray 9, 3) := by decide +kernel
theorem dX9_init_39 : decode cX9_init 39 = .ok (.putfield 29, 3) := by decide +kernel
theorem dX9_init_42 : decode cX9_init 42 = .ok (.aload_n 0, 1) := by decide +kernel
theorem dX9_init_43 : decode cX9_init 43 = .ok (.new 33, 3) := by decide +kernel
theorem dX9_init_46 : decode cX9_init 46 = .ok (.dup, 1) := by decide +kernel
theorem dX9_init_47 : decode cX9_init 47 = .ok (.invokespecial 35, 3) := by decide +kernel
theorem dX9_init_50 : decode cX9_init 50 = .ok (.putfield 36, 3) := by decide +kernel
theorem dX9_init_53 : decode cX9_init 53 = .ok (.aload_n 0, 1) := by decide +kernel
theorem dX9_init_54 : decode cX9_init 54 = .ok (.new 40, 3) := by decide +kernel
theorem dX9_init_57 : decode cX9_init 57 = .ok (.dup, 1) := by decide +kernel
theorem dX9_init_58 : decode cX9_init 58 = .ok (.invokespecial 42, 3) := by decide +kernel
theorem dX9_init_61 : decode cX9_init 61 = .ok (.putfield 43, 3) := by decide +kernel
theorem dX9_init_64 : decode cX9_init 64 = .ok (.aload_n 0, 1) := by decide +kernel
theorem dX9_init_65 : decode cX9_init 65 = .ok (.sipush 600, 3) := by decide +kernel
theorem dX9_init_68 : decode cX9_init 68 = .ok (.newarray .byte, 2) := by decide +kernel
theorem dX9_init_70 : decode cX9_init 70 = .ok (.putfield 47, 3) := by decide +kernel
theorem dX9_init_73 : decode cX9_init 73 = .ok (.aload_n 0, 1) := by decide +kernel
theorem dX9_init_74 : decode cX9_init 74 = .ok (.new 51, 3) := by decide +kernel
theorem dX9_init_77 : decode cX9_init 77 = .ok (.dup, 1) := by decide +kernel
theorem dX9_init_78 : decode cX9_init 78 = .ok (.invokespecial 53, 3) := by decide +kernel
theorem dX9_init_81 : decode cX9_init 81 = .ok (.putfield 54, 3) := by decide +kernel
theorem dX9_init_84 : decode cX9_init 84 = .ok (.aload_n 0, 1) := by decide +kernel
theorem dX9_init_85 : decode cX9_init 85 = .ok (.bipush 16, 2) := by decide +kernel
theorem dX9_init_87 : decode cX9_init 87 = .ok (.newarray .int, 2) := by decide +kernel
theorem dX9_init_89 : decode cX9_init 89 = .ok (.putfield 58, 3) := by decide +kernel
theorem dX9_init_92 : decode cX9_init 92 = .ok (.aload_n 0, 1) := by decide +kernel
theorem dX9_init_93 : decode cX9_init 93 = .ok (.sipush 256, 3) := by decide +kernel
theorem dX9_init_96 : decode cX9_init 96 = .ok (.newarray .byte, 2) := by decide +kernel
theorem dX9_init_98 : decode cX9_init 98 = .ok (.putfield 62, 3) := by decide +kernel
theorem dX9_init_101 : decode cX9_init 101 = .ok (.aload_n 0, 1) := by decide +kernel
theorem dX9_init_102 : decode cX9_init 102 = .ok (.bipush 12, 2) := by decide +kernel
theorem dX9_init_104 : decode cX9_init 104 = .ok (.newarray .int, 2) := by decide +kernel
theorem dX9_init_106 : decode cX9_init 106 = .ok (.putfield 65, 3) := by decide +kernel
theorem dX9_init_109 : decode cX9_init 109 = .ok (.aload_n 0, 1) := by decide +kernel
theorem dX9_init_110 : decode cX9_init 110 = .ok (.iconst 4, 1) := by decide +kernel
theorem dX9_init_111 : decode cX9_init 111 = .ok (.newarray .int, 2) := by decide +kernel
theorem dX9_init_113 : decode cX9_init 113 = .ok (.putfield 68, 3) := by decide +kernel
theorem dX9_init_116 : decode cX9_init 116 = .ok (.aload_n 0, 1) := by decide +kernel
theorem dX9_init_117 : decode cX9_init 117 = .ok (.iconst (-1), 1) := by decide +kernel
theorem dX9_init_118 : decode cX9_init 118 = .ok (.putfield 71, 3) := by decide +kernel
theorem dX9_init_121 : decode cX9_init 121 = .ok (.iconst 0, 1) := by decide +kernel
theorem dX9_init_122 : decode cX9_init 122 = .ok (.istore_n 1, 1) := by decide +kernel
theorem dX9_init_123 : decode cX9_init 123 = .ok (.iload_n 1, 1) := by decide +kernel
theorem dX9_init_124 : decode cX9_init 124 = .ok (.aload_n 0, 1) := by decide +kernel
theorem dX9_init_125 : decode cX9_init 125 = .ok (.getfield 29, 3) := by decide +kernel
theorem dX9_init_128 : decode cX9_init 128 = .ok (.arraylength, 1) := by decide +kernel
theorem dX9_init_129 : decode cX9_init 129 = .ok (.if_icmp .ge 22, 3) := by decide +kernel
theorem dX9_init_132 : decode cX9_init 132 = .ok (.aload_n 0, 1) := by decide +kernel
theorem dX9_init_133 : decode cX9_init 133 = .ok (.getfield 29, 3) := by decide +kernel
theorem dX9_init_136 : decode cX9_init 136 = .ok (.iload_n 1, 1) := by decide +kernel
theorem dX9_init_137 : decode cX9_init 137 = .ok (.new 9, 3) := by decide +kernel
theorem dX9_init_140 : decode cX9_init 140 = .ok (.dup, 1) := by decide +kernel
theorem dX9_init_141 : decode cX9_init 141 = .ok (.invokespecial 11, 3) := by decide +kernel
theorem dX9_init_144 : decode cX9_init 144 = .ok (.aastore, 1) := by decide +kernel
theorem dX9_init_145 : decode cX9_init 145 = .ok (.iinc 1 1, 3) := by decide +kernel
theorem dX9_init_148 : decode cX9_init 148 = .ok (.goto (-25), 3) := by decide +kernel
theorem dX9_init_151 : decode cX9_init 151 = .ok (.aload_n 0, 1) := by decide +kernel
theorem dX9_init_152 : decode cX9_init 152 = .ok (.invokevirtual 75, 3) := by decide +kernel
theorem dX9_init_155 : decode cX9_init 155 = .ok (.return_, 1) := by decide +kernel
theorem dX9_feed_0 : decode cX9_feed 0 = .ok (.aload_n 0, 1) := by decide +kernel
theorem dX9_feed_1 : decode cX9_feed 1 = .ok (.getfield 78, 3) := by decide +kernel
theorem dX9_feed_4 : decode cX9_feed 4 = .ok (.sipush 580, 3) := by decide +kernel
theorem dX9_feed_7 : decode cX9_feed 7 = .ok (.if_icmp .le 5, 3) := by decide +kernel
theorem dX9_feed_10 : decode cX9_feed 10 = .ok (.iconst (-1), 1) := by decide +kernel
theorem dX9_feed_11 : decode cX9_feed 11 = .ok (.ireturn, 1) := by decide +kernel
theorem dX9_feed_12 : decode cX9_feed 12 = .ok (.aload_n 0, 1) := by decide +kernel
theorem dX9_feed_13 : decode cX9_feed 13 = .ok (.iload_n 1, 1) := by decide +kernel
theorem dX9_feed_14 : decode cX9_feed 14 = .ok (.invokevirtual 81, 3) := by decide +kernel
theorem dX9_feed_17 : decode cX9_feed 17 = .ok (.aload_n 0, 1) := by decide +kernel
theorem dX9_feed_18 : decode cX9_feed 18 = .ok (.iload_n 2, 1) := by decide +kernel
theorem dX9_feed_19 : decode cX9_feed 19 = .ok (.invokevirtual 81, 3) := by decide +kernel
theorem dX9_feed_22 : decode cX9_feed 22 = .ok (.aload_n 0, 1) := by decide +kernel
theorem dX9_feed_23 : decode cX9_feed 23 = .ok (.iload_n 3, 1) := by decide +kernel
theorem dX9_feed_24 : decode cX9_feed 24 = .ok (.invokevirtual 81, 3) := by decide +kernel
theorem dX9_feed_27 : decode cX9_feed 27 = .ok (.aload_n 0, 1) := by decide +kernel
theorem dX9_feed_28 : decode cX9_feed 28 = .ok (.iload 4, 2) := by decide +kernel
theorem dX9_feed_30 : decode cX9_feed 30 = .ok (.invokevirtual 81, 3) := by decide +kernel
theorem dX9_feed_33 : decode cX9_feed 33 = .ok (.aload_n 0, 1) := by decide +kernel
theorem dX9_feed_34 : decode cX9_feed 34 = .ok (.iload 5, 2) := by decide +kernel
theorem dX9_feed_36 : decode cX9_feed 36 = .ok (.invokevirtual 81, 3) := by decide +kernel
theorem dX9_feed_39 : decode cX9_feed 39 = .ok (.aload_n 0, 1) := by decide +kernel
theorem dX9_feed_40 : decode cX9_feed 40 = .ok (.getfield 78, 3) := by decide +kernel
theorem dX9_feed_43 : decode cX9_feed 43 = .ok (.ireturn, 1) := by decide +kernel
theorem dX9_feedNumber_0 : decode cX9_feedNumber 0 = .ok (.bipush 24, 2) := by decide +kernel
theorem dX9_feedNumber_2 : decode cX9_feedNumber 2 = .ok (.istore_n 2, 1) := by decide +kernel
theorem dX9_feedNumber_3 : decode cX9_feedNumber 3 = .ok (.iload_n 2, 1) := by decide +kernel
theorem dX9_feedNumber_4 : decode cX9_feedNumber 4 = .ok (.ifCond .lt 42, 3) := by decide +kernel
theorem dX9_feedNumber_7 : decode cX9_feedNumber 7 = .ok (.aload_n 0, 1) := by decide +kernel
theorem dX9_feedNumber_8 : decode cX9_feedNumber 8 = .ok (.getfield 78, 3) := by decide +kernel
theorem dX9_feedNumber_11 : decode cX9_feedNumber 11 = .ok (.sipush 600, 3) := by decide +kernel
theorem dX9_feedNumber_14 : decode cX9_feedNumber 14 = .ok (.if_icmp .ge 32, 3) := by decide +kernel
theorem dX9_feedNumber_17 : decode cX9_feedNumber 17 = .ok (.aload_n 0, 1) := by decide +kernel
theorem dX9_feedNumber_18 : decode cX9_feedNumber 18 = .ok (.getfield 47, 3) := by decide +kernel
theorem dX9_feedNumber_21 : decode cX9_feedNumber 21 = .ok (.aload_n 0, 1) := by decide +kernel
theorem dX9_feedNumber_22 : decode cX9_feedNumber 22 = .ok (.getfield 78, 3) := by decide +kernel
theorem dX9_feedNumber_25 : decode cX9_feedNumber 25 = .ok (.iload_n 1, 1) := by decide +kernel
theorem dX9_feedNumber_26 : decode cX9_feedNumber 26 = .ok (.iload_n 2, 1) := by decide +kernel
theorem dX9_feedNumber_27 : decode cX9_feedNumber 27 = .ok (.iushr, 1) := by decide +kernel
theorem dX9_feedNumber_28 : decode cX9_feedNumber 28 = .ok (.i2b, 1) := by decide +kernel
theorem dX9_feedNumber_29 : decode cX9_feedNumber 29 = .ok (.bastore, 1) := by decide +kernel
theorem dX9_feedNumber_30 : decode cX9_feedNumber 30 = .ok (.aload_n 0, 1) := by decide +kernel
theorem dX9_feedNumber_31 : decode cX9_feedNumber 31 = .ok (.dup, 1) := by decide +kernel
theorem dX9_feedNumber_32 : decode cX9_feedNumber 32 = .ok (.getfield 78, 3) := by decide +kernel
theorem dX9_feedNumber_35 : decode cX9_feedNumber 35 = .ok (.iconst 1, 1) := by decide +kernel
theorem dX9_feedNumber_36 : decode cX9_feedNumber 36 = .ok (.iadd, 1) := by decide +kernel
theorem dX9_feedNumber_37 : decode cX9_feedNumber 37 = .ok (.putfield 78, 3) := by decide +kernel
theorem dX9_feedNumber_40 : decode cX9_feedNumber 40 = .ok (.iinc 2 (-8), 3) := by decide +kernel
theorem dX9_feedNumber_43 : decode cX9_feedNumber 43 = .ok (.goto (-40), 3) := by decide +kernel
theorem dX9_feedNumber_46 : decode cX9_feedNumber 46 = .ok (.return_, 1) := by decide +kernel
theorem dX9_store_0 : decode cX9_store 0 = .ok (.aload_n 0, 1) := by decide +kernel
theorem dX9_store_1 : decode cX9_store 1 = .ok (.iload_n 1, 1) := by decide +kernel
theorem dX9_store_2 : decode cX9_store 2 = .ok (.sipush 600, 3) := by decide +kernel
theorem dX9_store_5 : decode cX9_store 5 = .ok (.invokevirtual 85, 3) := by decide +kernel
theorem dX9_store_8 : decode cX9_store 8 = .ok (.aload_n 0, 1) := by decide +kernel
theorem dX9_store_9 : decode cX9_store 9 = .ok (.getfield 54, 3) := by decide +kernel
theorem dX9_store_12 : decode cX9_store 12 = .ok (.aload_n 0, 1) := by decide +kernel
theorem dX9_store_13 : decode cX9_store 13 = .ok (.getfield 47, 3) := by decide +kernel
theorem dX9_store_16 : decode cX9_store 16 = .ok (.iload_n 1, 1) := by decide +kernel
theorem dX9_store_17 : decode cX9_store 17 = .ok (.invokevirtual 89, 3) := by decide +kernel
theorem dX9_store_20 : decode cX9_store 20 = .ok (.istore_n 2, 1) := by decide +kernel
theorem dX9_store_21 : decode cX9_store 21 = .ok (.aload_n 0, 1) := by decide +kernel
theorem dX9_store_22 : decode cX9_store 22 = .ok (.iload_n 2, 1) := by decide +kernel
theorem dX9_store_23 : decode cX9_store 23 = .ok (.invokevirtual 93, 3) := by decide +kernel
theorem dX9_store_26 : decode cX9_store 26 = .ok (.iload_n 2, 1) := by decide +kernel
theorem dX9_store_27 : decode cX9_store 27 = .ok (.ifCond .eq 8, 3) := by decide +kernel
theorem dX9_store_30 : decode cX9_store 30 = .ok (.iload_n 2, 1) := by decide +kernel
theorem dX9_store_31 : decode cX9_store 31 = .ok (.bipush 10, 2) := by decide +kernel
theorem dX9_store_33 : decode cX9_store 33 = .ok (.isub, 1) := by decide +kernel
theorem dX9_store_34 : decode cX9_store 34 = .ok (.ireturn, 1) := by decide +kernel
theorem dX9_store_35 : decode cX9_store 35 = .ok (.aload_n 0, 1) := by decide +kernel
theorem dX9_store_36 : decode cX9_store 36 = .ok (.aload_n 0, 1) := by decide +kernel
theorem dX9_store_37 : decode cX9_store 37 = .ok (.getfield 54, 3) := by decide +kernel
theorem dX9_store_40 : decode cX9_store 40 = .ok (.getfield 96, 3) := by decide +kernel
theorem dX9_store_43 : decode cX9_store 43 = .ok (.invokevirtual 100, 3) := by decide +kernel
theorem dX9_store_46 : decode cX9_store 46 = .ok (.aload_n 0, 1) := by decide +kernel
theorem dX9_store_47 : decode cX9_store 47 = .ok (.invokevirtual 75, 3) := by decide +kernel
theorem dX9_store_50 : decode cX9_store 50 = .ok (.aload_n 0, 1) := by decide +kernel
theorem dX9_store_51 : decode cX9_store 51 = .ok (.getfield 19, 3) := by decide +kernel
theorem dX9_store_54 : decode cX9_store 54 = .ok (.iconst 0, 1) := by decide +kernel
theorem dX9_store_55 : decode cX9_store 55 = .ok (.putfield 104, 3) := by decide +kernel
theorem dX9_store_58 : decode cX9_store 58 = .ok (.aload_n 0, 1) := by decide +kernel
theorem dX9_store_59 : decode cX9_store 59 = .ok (.iconst 0, 1) := by decide +kernel
theorem dX9_store_60 : decode cX9_store 60 = .ok (.putfield 107, 3) := by decide +kernel
theorem dX9_store_63 : decode cX9_store 63 = .ok (.aload_n 0, 1) := by decide +kernel
theorem dX9_store_64 : decode cX9_store 64 = .ok (.iconst 0, 1) := by decide +kernel
theorem dX9_store_65 : decode cX9_store 65 = .ok (.putfield 110, 3) := by decide +kernel
theorem dX9_store_68 : decode cX9_store 68 = .ok (.aload_n 0, 1) := by decide +kernel
theorem dX9_store_69 : decode cX9_store 69 = .ok (.getfield 12, 3) := by decide +kernel
theorem dX9_store_72 : decode cX9_store 72 = .ok (.getfield 113, 3) := by decide +kernel
theorem dX9_store_75 : decode cX9_store 75 = .ok (.ireturn, 1) := by decide +kernel
theorem dX9_buildStore_0 : decode cX9_buildStore 0 = .ok (.aload_n 0, 1) := by decide +kernel
theorem dX9_buildStore_1 : decode cX9_buildStore 1 = .ok (.getfield 12, 3) := by decide +kernel
theorem dX9_buildStore_4 : decode cX9_buildStore 4 = .ok (.aload_n 1, 1) := by decide +kernel
theorem dX9_buildStore_5 : decode cX9_buildStore 5 = .ok (.getfield 116, 3) := by decide +kernel
theorem dX9_buildStore_8 : decode cX9_buildStore 8 = .ok (.invokevirtual 119, 3) := by decide +kernel
theorem dX9_buildStore_11 : decode cX9_buildStore 11 = .ok (.iconst 0, 1) := by decide +kernel
theorem dX9_buildStore_12 : decode cX9_buildStore 12 = .ok (.istore_n 2, 1) := by decide +kernel
theorem dX9_buildStore_13 : decode cX9_buildStore 13 = .ok (.iload_n 2, 1) := by decide +kernel
theorem dX9_buildStore_14 : decode cX9_buildStore 14 = .ok (.aload_n 1, 1) := by decide +kernel
theorem dX9_buildStore_15 : decode cX9_buildStore 15 = .ok (.getfield 122, 3) := by decide +kernel
theorem dX9_buildStore_18 : decode cX9_buildStore 18 = .ok (.if_icmp .ge 52, 3) := by decide +kernel
theorem dX9_buildStore_21 : decode cX9_buildStore 21 = .ok (.aload_n 0, 1) := by decide +kernel
theorem dX9_buildStore_22 : decode cX9_buildStore 22 = .ok (.getfield 43, 3) := by decide +kernel
theorem dX9_buildStore_25 : decode cX9_buildStore 25 = .ok (.aload_n 0, 1) := by decide +kernel
theorem dX9_buildStore_26 : decode cX9_buildStore 26 = .ok (.getfield 12, 3) := by decide +kernel
theorem dX9_buildStore_29 : decode cX9_buildStore 29 = .ok (.aload_n 1, 1) := by decide +kernel
theorem dX9_buildStore_30 : decode cX9_buildStore 30 = .ok (.getfield 123, 3) := by decide +kernel
theorem dX9_buildStore_33 : decode cX9_buildStore 33 = .ok (.iload_n 2, 1) := by decide +kernel
theorem dX9_buildStore_34 : decode cX9_buildStore 34 = .ok (.iaload, 1) := by decide +kernel
theorem dX9_buildStore_35 : decode cX9_buildStore 35 = .ok (.aload_n 1, 1) := by decide +kernel
theorem dX9_buildStore_36 : decode cX9_buildStore 36 = .ok (.getfield 126, 3) := by decide +kernel
theorem dX9_buildStore_39 : decode cX9_buildStore 39 = .ok (.iload_n 2, 1) := by decide +kernel
theorem dX9_buildStore_40 : decode cX9_buildStore 40 = .ok (.iaload, 1) := by decide +kernel
theorem dX9_buildStore_41 : decode cX9_buildStore 41 = .ok (.aload_n 1, 1) := by decide +kernel
theorem dX9_buildStore_42 : decode cX9_buildStore 42 = .ok (.getfield 129, 3) := by decide +kernel
theorem dX9_buildStore_45 : decode cX9_buildStore 45 = .ok (.iload_n 2, 1) := by decide +kernel
theorem dX9_buildStore_46 : decode cX9_buildStore 46 = .ok (.iaload, 1) := by decide +kernel
theorem dX9_buildStore_47 : decode cX9_buildStore 47 = .ok (.aload_n 1, 1) := by decide +kernel
theorem dX9_buildStore_48 : decode cX9_buildStore 48 = .ok (.getfield 132, 3) := by decide +kernel
theorem dX9_buildStore_51 : decode cX9_buildStore 51 = .ok (.iload_n 2, 1) := by decide +kernel
theorem dX9_buildStore_52 : decode cX9_buildStore 52 = .ok (.iaload, 1) := by decide +kernel
theorem dX9_buildStore_53 : decode cX9_buildStore 53 = .ok (.invokevirtual 135, 3) := by decide +kernel
theorem dX9_buildStore_56 : decode cX9_buildStore 56 = .ok (.pop, 1) := by decide +kernel
theorem dX9_buildStore_57 : decode cX9_buildStore 57 = .ok (.aload_n 0, 1) := by decide +kernel
theorem dX9_buildStore_58 : decode cX9_buildStore 58 = .ok (.getfield 12, 3) := by decide +kernel
theorem dX9_buildStore_61 : decode cX9_buildStore 61 = .ok (.invokevirtual 139, 3) := by decide +kernel
theorem dX9_buildStore_64 : decode cX9_buildStore 64 = .ok (.iinc 2 1, 3) := by decide +kernel
theorem dX9_buildStore_67 : decode cX9_buildStore 67 = .ok (.goto (-54), 3) := by decide +kernel
theorem dX9_buildStore_70 : decode cX9_buildStore 70 = .ok (.aload_n 0, 1) := by decide +kernel
theorem dX9_buildStore_71 : decode cX9_buildStore 71 = .ok (.getfield 12, 3) := by decide +kernel
theorem dX9_buildStore_74 : decode cX9_buildStore 74 = .ok (.invokevirtual 142, 3) := by decide +kernel
theorem dX9_buildStore_77 : decode cX9_buildStore 77 = .ok (.return_, 1) := by decide +kernel
theorem dX9_clearBook_0 : decode cX9_clearBook 0 = .ok (.iconst 0, 1) := by decide +kernel
theorem dX9_clearBook_1 : decode cX9_clearBook 1 = .ok (.istore_n 1, 1) := by decide +kernel
theorem dX9_clearBook_2 : decode cX9_clearBook 2 = .ok (.iload_n 1, 1) := by decide +kernel
theorem dX9_clearBook_3 : decode cX9_clearBook 3 = .ok (.bipush 16, 2) := by decide +kernel
theorem dX9_clearBook_5 : decode cX9_clearBook 5 = .ok (.if_icmp .ge 16, 3) := by decide +kernel
theorem dX9_clearBook_8 : decode cX9_clearBook 8 = .ok (.aload_n 0, 1) := by decide +kernel
theorem dX9_clearBook_9 : decode cX9_clearBook 9 = .ok (.getfield 58, 3) := by decide +kernel
theorem dX9_clearBook_12 : decode cX9_clearBook 12 = .ok (.iload_n 1, 1) := by decide +kernel
theorem dX9_clearBook_13 : decode cX9_clearBook 13 = .ok (.iconst (-1), 1) := by decide +kernel
theorem dX9_clearBook_14 : decode cX9_clearBook 14 = .ok (.iastore, 1) := by decide +kernel
theorem dX9_clearBook_15 : decode cX9_clearBook 15 = .ok (.iinc 1 1, 3) := by decide +kernel
theorem dX9_clearBook_18 : decode cX9_clearBook 18 = .ok (.goto (-16), 3) := by decide +kernel
theorem dX9_clearBook_21 : decode cX9_clearBook 21 = .ok (.aload_n 0, 1) := by decide +kernel
theorem dX9_clearBook_22 : decode cX9_clearBook 22 = .ok (.iconst 0, 1) := by decide +kernel
theorem dX9_clearBook_23 : decode cX9_clearBook 23 = .ok (.putfield 145, 3) := by decide +kernel
theorem dX9_clearBook_26 : decode cX9_clearBook 26 = .ok (.return_, 1) := by decide +kernel
theorem dX9_work_0 : decode cX9_work 0 = .ok (.aload_n 0, 1) := by decide +kernel
theorem dX9_work_1 : decode cX9_work 1 = .ok (.iload_n 1, 1) := by decide +kernel
theorem dX9_work_2 : decode cX9_work 2 = .ok (.sipush 150, 3) := by decide +kernel
theorem dX9_work_5 : decode cX9_work 5 = .ok (.invokevirtual 85, 3) := by decide +kernel
theorem dX9_work_8 : decode cX9_work 8 = .ok (.aload_n 0, 1) := by decide +kernel
theorem dX9_work_9 : decode cX9_work 9 = .ok (.getfield 19, 3) := by decide +kernel
theorem dX9_work_12 : decode cX9_work 12 = .ok (.getfield 104, 3) := by decide +kernel
theorem dX9_work_15 : decode cX9_work 15 = .ok (.bipush 16, 2) := by decide +kernel
theorem dX9_work_17 : decode cX9_work 17 = .ok (.if_icmp .lt 11, 3) := by decide +kernel
theorem dX9_work_20 : decode cX9_work 20 = .ok (.aload_n 0, 1) := by decide +kernel
theorem dX9_work_21 : decode cX9_work 21 = .ok (.iconst 0, 1) := by decide +kernel
theorem dX9_work_22 : decode cX9_work 22 = .ok (.invokevirtual 93, 3) := by decide +kernel
theorem dX9_work_25 : decode cX9_work 25 = .ok (.bipush (-20), 2) := by decide +kernel
theorem dX9_work_27 : decode cX9_work 27 = .ok (.ireturn, 1) := by decide +kernel
theorem dX9_work_28 : decode cX9_work 28 = .ok (.aload_n 0, 1) := by decide +kernel
theorem dX9_work_29 : decode cX9_work 29 = .ok (.getfield 54, 3) := by decide +kernel
theorem dX9_work_32 : decode cX9_work 32 = .ok (.aload_n 0, 1) := by decide +kernel
theorem dX9_work_33 : decode cX9_work 33 = .ok (.getfield 47, 3) := by decide +kernel
theorem dX9_work_36 : decode cX9_work 36 = .ok (.iload_n 1, 1) := by decide +kernel
theorem dX9_work_37 : decode cX9_work 37 = .ok (.invokevirtual 148, 3) := by decide +kernel
theorem dX9_work_40 : decode cX9_work 40 = .ok (.istore_n 2, 1) := by decide +kernel
theorem dX9_work_41 : decode cX9_work 41 = .ok (.aload_n 0, 1) := by decide +kernel
theorem dX9_work_42 : decode cX9_work 42 = .ok (.iload_n 2, 1) := by decide +kernel
theorem dX9_work_43 : decode cX9_work 43 = .ok (.invokevirtual 93, 3) := by decide +kernel
theorem dX9_work_46 : decode cX9_work 46 = .ok (.iload_n 2, 1) := by decide +kernel
theorem dX9_work_47 : decode cX9_work 47 = .ok (.ifCond .eq 8, 3) := by decide +kernel
theorem dX9_work_50 : decode cX9_work 50 = .ok (.iload_n 2, 1) := by decide +kernel
theorem dX9_work_51 : decode cX9_work 51 = .ok (.bipush 10, 2) := by decide +kernel
theorem dX9_work_53 : decode cX9_work 53 = .ok (.isub, 1) := by decide +kernel
theorem dX9_work_54 : decode cX9_work 54 = .ok (.ireturn, 1) := by decide +kernel
theorem dX9_work_55 : decode cX9_work 55 = .ok (.aload_n 0, 1) := by decide +kernel
theorem dX9_work_56 : decode cX9_work 56 = .ok (.getfield 19, 3) := by decide +kernel
theorem dX9_work_59 : decode cX9_work 59 = .ok (.aload_n 0, 1) := by decide +kernel
theorem dX9_work_60 : decode cX9_work 60 = .ok (.getfield 12, 3) := by decide +kernel
theorem dX9_work_63 : decode cX9_work 63 = .ok (.invokevirtual 151, 3) := by decide +kernel
theorem dX9_work_66 : decode cX9_work 66 = .ok (.aload_n 0, 1) := by decide +kernel
theorem dX9_work_67 : decode cX9_work 67 = .ok (.aload_n 0, 1) := by decide +kernel
theorem dX9_work_68 : decode cX9_work 68 = .ok (.getfield 54, 3) := by decide +kernel
theorem dX9_work_71 : decode cX9_work 71 = .ok (.getfield 96, 3) := by decide +kernel
theorem dX9_work_74 : decode cX9_work 74 = .ok (.invokevirtual 155, 3) := by decide +kernel
theorem dX9_work_77 : decode cX9_work 77 = .ok (.ireturn, 1) := by decide +kernel
theorem dX9_runScript_0 : decode cX9_runScript 0 = .ok (.iconst 0, 1) := by decide +kernel
theorem dX9_runScript_1 : decode cX9_runScript 1 = .ok (.istore_n 2, 1) := by decide +kernel
theorem dX9_runScript_2 : decode cX9_runScript 2 = .ok (.iconst 0, 1) := by decide +kernel
theorem dX9_runScript_3 : decode cX9_runScript 3 = .ok (.istore_n 3, 1) := by decide +kernel
theorem dX9_runScript_4 : decode cX9_runScript 4 = .ok (.iconst 0, 1) := by decide +kernel
theorem dX9_runScript_5 : decode cX9_runScript 5 = .ok (.istore 4, 2) := by decide +kernel
theorem dX9_runScript_7 : decode cX9_runScript 7 = .ok (.aload_n 0, 1) := by decide +kernel
theorem dX9_runScript_8 : decode cX9_runScript 8 = .ok (.iconst 0, 1) := by decide +kernel
theorem dX9_runScript_9 : decode cX9_runScript 9 = .ok (.putfield 110, 3) := by decide +kernel
theorem dX9_runScript_12 : decode cX9_runScript 12 = .ok (.iconst 0, 1) := by decide +kernel
theorem dX9_runScript_13 : decode cX9_runScript 13 = .ok (.istore 5, 2) := by decide +kernel
theorem dX9_runScript_15 : decode cX9_runScript 15 = .ok (.iload 5, 2) := by decide +kernel
theorem dX9_runScript_17 : decode cX9_runScript 17 = .ok (.ldc 159, 2) := by decide +kernel
theorem dX9_runScript_19 : decode cX9_runScript 19 = .ok (.if_icmp .ge 132, 3) := by decide +kernel
theorem dX9_runScript_22 : decode cX9_runScript 22 = .ok (.iload 4, 2) := by decide +kernel
theorem dX9_runScript_24 : decode cX9_runScript 24 = .ok (.aload_n 1, 1) := by decide +kernel
theorem dX9_runScript_25 : decode cX9_runScript 25 = .ok (.getfield 122, 3) := by decide +kernel
theorem dX9_runScript_28 : decode cX9_runScript 28 = .ok (.if_icmp .ge 123, 3) := by decide +kernel
theorem dX9_runScript_31 : decode cX9_runScript 31 = .ok (.iload_n 3, 1) := by decide +kernel
theorem dX9_runScript_32 : decode cX9_runScript 32 = .ok (.sipush 200, 3) := by decide +kernel
theorem dX9_runScript_35 : decode cX9_runScript 35 = .ok (.if_icmp .ge 116, 3) := by decide +kernel
theorem dX9_runScript_38 : decode cX9_runScript 38 = .ok (.aload_n 1, 1) := by decide +kernel
theorem dX9_runScript_39 : decode cX9_runScript 39 = .ok (.getfield 123, 3) := by decide +kernel
theorem dX9_runScript_42 : decode cX9_runScript 42 = .ok (.iload 4, 2) := by decide +kernel
theorem dX9_runScript_44 : decode cX9_runScript 44 = .ok (.iaload, 1) := by decide +kernel
theorem dX9_runScript_45 : decode cX9_runScript 45 = .ok (.istore 6, 2) := by decide +kernel
theorem dX9_runScript_47 : decode cX9_runScript 47 = .ok (.iload 6, 2) := by decide +kernel
theorem dX9_runScript_49 : decode cX9_runScript 49 = .ok (.bipush 13, 2) := by decide +kernel
theorem dX9_runScript_51 : decode cX9_runScript 51 = .ok (.if_icmp .ne 14, 3) := by decide +kernel
theorem dX9_runScript_54 : decode cX9_runScript 54 = .ok (.aload_n 1, 1) := by decide +kernel
theorem dX9_runScript_55 : decode cX9_runScript 55 = .ok (.iload 4, 2) := by decide +kernel
theorem dX9_runScript_57 : decode cX9_runScript 57 = .ok (.invokevirtual 160, 3) := by decide +kernel
theorem dX9_runScript_60 : decode cX9_runScript 60 = .ok (.istore 4, 2) := by decide +kernel
theorem dX9_runScript_62 : decode cX9_runScript 62 = .ok (.goto 83, 3) := by decide +kernel
theorem dX9_runScript_65 : decode cX9_runScript 65 = .ok (.iload 6, 2) := by decide +kernel
theorem dX9_runScript_67 : decode cX9_runScript 67 = .ok (.bipush 11, 2) := by decide +kernel
theorem dX9_runScript_69 : decode cX9_runScript 69 = .ok (.if_icmp .ne 17, 3) := by decide +kernel
theorem dX9_runScript_72 : decode cX9_runScript 72 = .ok (.iinc 3 1, 3) := by decide +kernel
theorem dX9_runScript_75 : decode cX9_runScript 75 = .ok (.aload_n 1, 1) := by decide +kernel
theorem dX9_runScript_76 : decode cX9_runScript 76 = .ok (.iload 4, 2) := by decide +kernel
theorem dX9_runScript_78 : decode cX9_runScript 78 = .ok (.invokevirtual 164, 3) := by decide +kernel
theorem dX9_runScript_81 : decode cX9_runScript 81 = .ok (.istore 4, 2) := by decide +kernel
theorem dX9_runScript_83 : decode cX9_runScript 83 = .ok (.goto 62, 3) := by decide +kernel
theorem dX9_runScript_86 : decode cX9_runScript 86 = .ok (.iinc 3 1, 3) := by decide +kernel
theorem dX9_runScript_89 : decode cX9_runScript 89 = .ok (.aload_n 0, 1) := by decide +kernel
theorem dX9_runScript_90 : decode cX9_runScript 90 = .ok (.getfield 43, 3) := by decide +kernel
theorem dX9_runScript_93 : decode cX9_runScript 93 = .ok (.aload_n 0, 1) := by decide +kernel
theorem dX9_runScript_94 : decode cX9_runScript 94 = .ok (.getfield 12, 3) := by decide +kernel
theorem dX9_runScript_97 : decode cX9_runScript 97 = .ok (.iload 6, 2) := by decide +kernel
theorem dX9_runScript_99 : decode cX9_runScript 99 = .ok (.aload_n 1, 1) := by decide +kernel
theorem dX9_runScript_100 : decode cX9_runScript 100 = .ok (.getfield 126, 3) := by decide +kernel
theorem dX9_runScript_103 : decode cX9_runScript 103 = .ok (.iload 4, 2) := by decide +kernel
theorem dX9_runScript_105 : decode cX9_runScript 105 = .ok (.iaload, 1) := by decide +kernel
theorem dX9_runScript_106 : decode cX9_runScript 106 = .ok (.aload_n 1, 1) := by decide +kernel
theorem dX9_runScript_107 : decode cX9_runScript 107 = .ok (.getfield 129, 3) := by decide +kernel
theorem dX9_runScript_110 : decode cX9_runScript 110 = .ok (.iload 4, 2) := by decide +kernel
theorem dX9_runScript_112 : decode cX9_runScript 112 = .ok (.iaload, 1) := by decide +kernel
theorem dX9_runScript_113 : decode cX9_runScript 113 = .ok (.aload_n 1, 1) := by decide +kernel
theorem dX9_runScript_114 : decode cX9_runScript 114 = .ok (.getfield 132, 3) := by decide +kernel
theorem dX9_runScript_117 : decode cX9_runScript 117 = .ok (.iload 4, 2) := by decide +kernel
theorem dX9_runScript_119 : decode cX9_runScript 119 = .ok (.iaload, 1) := by decide +kernel
theorem dX9_runScript_120 : decode cX9_runScript 120 = .ok (.invokevirtual 135, 3) := by decide +kernel
theorem dX9_runScript_123 : decode cX9_runScript 123 = .ok (.ifCond .eq 9, 3) := by decide +kernel
theorem dX9_runScript_126 : decode cX9_runScript 126 = .ok (.iinc 2 1, 3) := by decide +kernel
theorem dX9_runScript_129 : decode cX9_runScript 129 = .ok (.goto 13, 3) := by decide +kernel
theorem dX9_runScript_132 : decode cX9_runScript 132 = .ok (.aload_n 0, 1) := by decide +kernel
theorem dX9_runScript_133 : decode cX9_runScript 133 = .ok (.dup, 1) := by decide +kernel
theorem dX9_runScript_134 : decode cX9_runScript 134 = .ok (.getfield 110, 3) := by decide +kernel
theorem dX9_runScript_137 : decode cX9_runScript 137 = .ok (.iconst 1, 1) := by decide +kernel
theorem dX9_runScript_138 : decode cX9_runScript 138 = .ok (.iadd, 1) := by decide +kernel
theorem dX9_runScript_139 : decode cX9_runScript 139 = .ok (.putfield 110, 3) := by decide +kernel
theorem dX9_runScript_142 : decode cX9_runScript 142 = .ok (.iinc 4 1, 3) := by decide +kernel
theorem dX9_runScript_145 : decode cX9_runScript 145 = .ok (.iinc 5 1, 3) := by decide +kernel
theorem dX9_runScript_148 : decode cX9_runScript 148 = .ok (.goto (-133), 3) := by decide +kernel
theorem dX9_runScript_151 : decode cX9_runScript 151 = .ok (.iload_n 2, 1) := by decide +kernel
theorem dX9_runScript_152 : decode cX9_runScript 152 = .ok (.ireturn, 1) := by decide +kernel
theorem dX9_book_0 : decode cX9_book 0 = .ok (.aload_n 0, 1) := by decide +kernel
theorem dX9_book_1 : decode cX9_book 1 = .ok (.iload_n 1, 1) := by decide +kernel
theorem dX9_book_2 : decode cX9_book 2 = .ok (.bipush 60, 2) := by decide +kernel
theorem dX9_book_4 : decode cX9_book 4 = .ok (.invokevirtual 85, 3) := by decide +kernel
theorem dX9_book_7 : decode cX9_book 7 = .ok (.aload_n 0, 1) := by decide +kernel
theorem dX9_book_8 : decode cX9_book 8 = .ok (.getfield 54, 3) := by decide +kernel
theorem dX9_book_11 : decode cX9_book 11 = .ok (.aload_n 0, 1) := by decide +kernel
theorem dX9_book_12 : decode cX9_book 12 = .ok (.getfield 47, 3) := by decide +kernel
theorem dX9_book_15 : decode cX9_book 15 = .ok (.iload_n 1, 1) := by decide +kernel
theorem dX9_book_16 : decode cX9_book 16 = .ok (.invokevirtual 167, 3) := by decide +kernel
theorem dX9_book_19 : decode cX9_book 19 = .ok (.istore_n 2, 1) := by decide +kernel
theorem dX9_book_20 : decode cX9_book 20 = .ok (.aload_n 0, 1) := by decide +kernel
theorem dX9_book_21 : decode cX9_book 21 = .ok (.iload_n 2, 1) := by decide +kernel
theorem dX9_book_22 : decode cX9_book 22 = .ok (.invokevirtual 93, 3) := by decide +kernel
theorem dX9_book_25 : decode cX9_book 25 = .ok (.iload_n 2, 1) := by decide +kernel
theorem dX9_book_26 : decode cX9_book 26 = .ok (.ifCond .eq 8, 3) := by decide +kernel
theorem dX9_book_29 : decode cX9_book 29 = .ok (.iload_n 2, 1) := by decide +kernel
theorem dX9_book_30 : decode cX9_book 30 = .ok (.bipush 10, 2) := by decide +kernel
theorem dX9_book_32 : decode cX9_book 32 = .ok (.isub, 1) := by decide +kernel
theorem dX9_book_33 : decode cX9_book 33 = .ok (.ireturn, 1) := by decide +kernel
theorem dX9_book_34 : decode cX9_book 34 = .ok (.aload_n 0, 1) := by decide +kernel
theorem dX9_book_35 : decode cX9_book 35 = .ok (.getfield 54, 3) := by decide +kernel
theorem dX9_book_38 : decode cX9_book 38 = .ok (.getfield 170, 3) := by decide +kernel
theorem dX9_book_41 : decode cX9_book 41 = .ok (.iconst 0, 1) := by decide +kernel
theorem dX9_book_42 : decode cX9_book 42 = .ok (.aload_n 0, 1) := by decide +kernel
theorem dX9_book_43 : decode cX9_book 43 = .ok (.getfield 58, 3) := by decide +kernel
theorem dX9_book_46 : decode cX9_book 46 = .ok (.iconst 0, 1) := by decide +kernel
theorem dX9_book_47 : decode cX9_book 47 = .ok (.bipush 16, 2) := by decide +kernel
theorem dX9_book_49 : decode cX9_book 49 = .ok (.invokestatic 173, 3) := by decide +kernel
theorem dX9_book_52 : decode cX9_book 52 = .ok (.aload_n 0, 1) := by decide +kernel
theorem dX9_book_53 : decode cX9_book 53 = .ok (.aload_n 0, 1) := by decide +kernel
theorem dX9_book_54 : decode cX9_book 54 = .ok (.getfield 54, 3) := by decide +kernel
theorem dX9_book_57 : decode cX9_book 57 = .ok (.getfield 179, 3) := by decide +kernel
theorem dX9_book_60 : decode cX9_book 60 = .ok (.putfield 145, 3) := by decide +kernel
theorem dX9_book_63 : decode cX9_book 63 = .ok (.aload_n 0, 1) := by decide +kernel
theorem dX9_book_64 : decode cX9_book 64 = .ok (.getfield 145, 3) := by decide +kernel
theorem dX9_book_67 : decode cX9_book 67 = .ok (.ireturn, 1) := by decide +kernel
theorem dX9_textRead_0 : decode cX9_textRead 0 = .ok (.aload_n 0, 1) := by decide +kernel
theorem dX9_textRead_1 : decode cX9_textRead 1 = .ok (.iconst 0, 1) := by decide +kernel
theorem dX9_textRead_2 : decode cX9_textRead 2 = .ok (.putfield 78, 3) := by decide +kernel
theorem dX9_textRead_5 : decode cX9_textRead 5 = .ok (.aload_n 0, 1) := by decide +kernel
theorem dX9_textRead_6 : decode cX9_textRead 6 = .ok (.iload_n 1, 1) := by decide +kernel
theorem dX9_textRead_7 : decode cX9_textRead 7 = .ok (.ifCond .ne 7, 3) := by decide +kernel
theorem dX9_textRead_10 : decode cX9_textRead 10 = .ok (.iconst (-1), 1) := by decide +kernel
theorem dX9_textRead_11 : decode cX9_textRead 11 = .ok (.goto 10, 3) := by decide +kernel
theorem dX9_textRead_14 : decode cX9_textRead 14 = .ok (.aload_n 0, 1) := by decide +kernel
theorem dX9_textRead_15 : decode cX9_textRead 15 = .ok (.getfield 54, 3) := by decide +kernel
theorem dX9_textRead_18 : decode cX9_textRead 18 = .ok (.getfield 189, 3) := by decide +kernel
theorem dX9_textRead_21 : decode cX9_textRead 21 = .ok (.putfield 71, 3) := by decide +kernel
theorem dX9_textRead_24 : decode cX9_textRead 24 = .ok (.return_, 1) := by decide +kernel
theorem dX9_fault_0 : decode cX9_fault 0 = .ok (.aload_n 0, 1) := by decide +kernel
theorem dX9_fault_1 : decode cX9_fault 1 = .ok (.getfield 71, 3) := by decide +kernel
theorem dX9_fault_4 : decode cX9_fault 4 = .ok (.ireturn, 1) := by decide +kernel
theorem dX9_undo_0 : decode cX9_undo 0 = .ok (.aload_n 0, 1) := by decide +kernel
theorem dX9_undo_1 : decode cX9_undo 1 = .ok (.getfield 19, 3) := by decide +kernel
theorem dX9_undo_4 : decode cX9_undo 4 = .ok (.getfield 104, 3) := by decide +kernel
theorem dX9_undo_7 : decode cX9_undo 7 = .ok (.ifCond .gt 5, 3) := by decide +kernel
theorem dX9_undo_10 : decode cX9_undo 10 = .ok (.iconst (-1), 1) := by decide +kernel
theorem dX9_undo_11 : decode cX9_undo 11 = .ok (.ireturn, 1) := by decide +kernel
theorem dX9_undo_12 : decode cX9_undo 12 = .ok (.aload_n 0, 1) := by decide +kernel
theorem dX9_undo_13 : decode cX9_undo 13 = .ok (.getfield 19, 3) := by decide +kernel
theorem dX9_undo_16 : decode cX9_undo 16 = .ok (.aload_n 0, 1) := by decide +kernel
theorem dX9_undo_17 : decode cX9_undo 17 = .ok (.getfield 12, 3) := by decide +kernel
theorem dX9_undo_20 : decode cX9_undo 20 = .ok (.invokevirtual 192, 3) := by decide +kernel
theorem dX9_undo_23 : decode cX9_undo 23 = .ok (.aload_n 0, 1) := by decide +kernel
theorem dX9_undo_24 : decode cX9_undo 24 = .ok (.iconst 0, 1) := by decide +kernel
theorem dX9_undo_25 : decode cX9_undo 25 = .ok (.putfield 110, 3) := by decide +kernel
theorem dX9_undo_28 : decode cX9_undo 28 = .ok (.aload_n 0, 1) := by decide +kernel
theorem dX9_undo_29 : decode cX9_undo 29 = .ok (.getfield 19, 3) := by decide +kernel
theorem dX9_undo_32 : decode cX9_undo 32 = .ok (.getfield 104, 3) := by decide +kernel
theorem dX9_undo_35 : decode cX9_undo 35 = .ok (.ireturn, 1) := by decide +kernel
theorem dX9_told_0 : decode cX9_told 0 = .ok (.aload_n 0, 1) := by decide +kernel
theorem dX9_told_1 : decode cX9_told 1 = .ok (.iload_n 1, 1) := by decide +kernel
theorem dX9_told_2 : decode cX9_told 2 = .ok (.bipush 9, 2) := by decide +kernel
theorem dX9_told_4 : decode cX9_told 4 = .ok (.invokevirtual 195, 3) := by decide +kernel
theorem dX9_told_7 : decode cX9_told 7 = .ok (.iload_n 1, 1) := by decide +kernel
theorem dX9_told_8 : decode cX9_told 8 = .ok (.tableswitch 118 0 8 #[52, 60, 68, 76, 84, 92, 100, 108, 113], 52) := by decide +kernel
theorem dX9_told_60 : decode cX9_told 60 = .ok (.aload_n 0, 1) := by decide +kernel
theorem dX9_told_61 : decode cX9_told 61 = .ok (.getfield 12, 3) := by decide +kernel
theorem dX9_told_64 : decode cX9_told 64 = .ok (.getfield 113, 3) := by decide +kernel
theorem dX9_told_67 : decode cX9_told 67 = .ok (.ireturn, 1) := by decide +kernel
theorem dX9_told_68 : decode cX9_told 68 = .ok (.aload_n 0, 1) := by decide +kernel
theorem dX9_told_69 : decode cX9_told 69 = .ok (.getfield 12, 3) := by decide +kernel
theorem dX9_told_72 : decode cX9_told 72 = .ok (.getfield 198, 3) := by decide +kernel
theorem dX9_told_75 : decode cX9_told 75 = .ok (.ireturn, 1) := by decide +kernel
theorem dX9_told_76 : decode cX9_told 76 = .ok (.aload_n 0, 1) := by decide +kernel
theorem dX9_told_77 : decode cX9_told 77 = .ok (.getfield 12, 3) := by decide +kernel
theorem dX9_told_80 : decode cX9_told 80 = .ok (.getfield 201, 3) := by decide +kernel
theorem dX9_told_83 : decode cX9_told 83 = .ok (.ireturn, 1) := by decide +kernel
theorem dX9_told_84 : decode cX9_told 84 = .ok (.aload_n 0, 1) := by decide +kernel
theorem dX9_told_85 : decode cX9_told 85 = .ok (.getfield 12, 3) := by decide +kernel
theorem dX9_told_88 : decode cX9_told 88 = .ok (.invokevirtual 204, 3) := by decide +kernel
theorem dX9_told_91 : decode cX9_told 91 = .ok (.ireturn, 1) := by decide +kernel
theorem dX9_told_92 : decode cX9_told 92 = .ok (.aload_n 0, 1) := by decide +kernel
theorem dX9_told_93 : decode cX9_told 93 = .ok (.getfield 12, 3) := by decide +kernel
theorem dX9_told_96 : decode cX9_told 96 = .ok (.getfield 208, 3) := by decide +kernel
theorem dX9_told_99 : decode cX9_told 99 = .ok (.ireturn, 1) := by decide +kernel
theorem dX9_told_100 : decode cX9_told 100 = .ok (.aload_n 0, 1) := by decide +kernel
theorem dX9_told_101 : decode cX9_told 101 = .ok (.getfield 12, 3) := by decide +kernel
theorem dX9_told_104 : decode cX9_told 104 = .ok (.getfield 211, 3) := by decide +kernel
theorem dX9_told_107 : decode cX9_told 107 = .ok (.ireturn, 1) := by decide +kernel
theorem dX9_told_108 : decode cX9_told 108 = .ok (.aload_n 0, 1) := by decide +kernel
theorem dX9_told_109 : decode cX9_told 109 = .ok (.getfield 12, 3) := by decide +kernel
theorem dX9_told_112 : decode cX9_told 112 = .ok (.getfield 214, 3) := by decide +kernel
theorem dX9_told_115 : decode cX9_told 115 = .ok (.ireturn, 1) := by decide +kernel
theorem dX9_told_116 : decode cX9_told 116 = .ok (.aload_n 0, 1) := by decide +kernel
theorem dX9_told_117 : decode cX9_told 117 = .ok (.getfield 145, 3) := by decide +kernel
theorem dX9_told_120 : decode cX9_told 120 = .ok (.ireturn, 1) := by decide +kernel
theorem dX9_told_121 : decode cX9_told 121 = .ok (.aload_n 0, 1) := by decide +kernel
theorem dX9_told_122 : decode cX9_told 122 = .ok (.getfield 110, 3) := by decide +kernel
theorem dX9_told_125 : decode cX9_told 125 = .ok (.ireturn, 1) := by decide +kernel
theorem dX9_told_126 : decode cX9_told 126 = .ok (.aload_n 0, 1) := by decide +kernel
theorem dX9_told_127 : decode cX9_told 127 = .ok (.getfield 12, 3) := by decide +kernel
theorem dX9_told_130 : decode cX9_told 130 = .ok (.getfield 217, 3) := by decide +kernel
theorem dX9_told_133 : decode cX9_told 133 = .ok (.ireturn, 1) := by decide +kernel
theorem dX9_peek_0 : decode cX9_peek 0 = .ok (.aload_n 0, 1) := by decide +kernel
theorem dX9_peek_1 : decode cX9_peek 1 = .ok (.iload_n 3, 1) := by decide +kernel
theorem dX9_peek_2 : decode cX9_peek 2 = .ok (.invokevirtual 220, 3) := by decide +kernel
theorem dX9_peek_5 : decode cX9_peek 5 = .ok (.aload_n 0, 1) := by decide +kernel
theorem dX9_peek_6 : decode cX9_peek 6 = .ok (.iload_n 1, 1) := by decide +kernel
theorem dX9_peek_7 : decode cX9_peek 7 = .ok (.invokevirtual 223, 3) := by decide +kernel
theorem dX9_peek_10 : decode cX9_peek 10 = .ok (.aload_n 0, 1) := by decide +kernel
theorem dX9_peek_11 : decode cX9_peek 11 = .ok (.iload_n 2, 1) := by decide +kernel
theorem dX9_peek_12 : decode cX9_peek 12 = .ok (.invokevirtual 226, 3) := by decide +kernel
theorem dX9_peek_15 : decode cX9_peek 15 = .ok (.aload_n 0, 1) := by decide +kernel
theorem dX9_peek_16 : decode cX9_peek 16 = .ok (.getfield 12, 3) := by decide +kernel
theorem dX9_peek_19 : decode cX9_peek 19 = .ok (.iload_n 3, 1) := by decide +kernel
theorem dX9_peek_20 : decode cX9_peek 20 = .ok (.iload_n 1, 1) := by decide +kernel
theorem dX9_peek_21 : decode cX9_peek 21 = .ok (.iload_n 2, 1) := by decide +kernel
theorem dX9_peek_22 : decode cX9_peek 22 = .ok (.invokevirtual 229, 3) := by decide +kernel
theorem dX9_peek_25 : decode cX9_peek 25 = .ok (.ireturn, 1) := by decide +kernel
theorem dX9_node_0 : decode cX9_node 0 = .ok (.aload_n 0, 1) := by decide +kernel
theorem dX9_node_1 : decode cX9_node 1 = .ok (.iload_n 1, 1) := by decide +kernel
theorem dX9_node_2 : decode cX9_node 2 = .ok (.invokevirtual 233, 3) := by decide +kernel
theorem dX9_node_5 : decode cX9_node 5 = .ok (.aload_n 0, 1) := by decide +kernel
theorem dX9_node_6 : decode cX9_node 6 = .ok (.iload_n 2, 1) := by decide +kernel
theorem dX9_node_7 : decode cX9_node 7 = .ok (.iconst 4, 1) := by decide +kernel
theorem dX9_node_8 : decode cX9_node 8 = .ok (.invokevirtual 195, 3) := by decide +kernel
theorem dX9_node_11 : decode cX9_node 11 = .ok (.aload_n 0, 1) := by decide +kernel
theorem dX9_node_12 : decode cX9_node 12 = .ok (.iload_n 3, 1) := by decide +kernel
theorem dX9_node_13 : decode cX9_node 13 = .ok (.invokevirtual 220, 3) := by decide +kernel
theorem dX9_node_16 : decode cX9_node 16 = .ok (.iload_n 2, 1) := by decide +kernel
theorem dX9_node_17 : decode cX9_node 17 = .ok (.iconst 4, 1) := by decide +kernel
theorem dX9_node_18 : decode cX9_node 18 = .ok (.if_icmp .ne 16, 3) := by decide +kernel
theorem dX9_node_21 : decode cX9_node 21 = .ok (.aload_n 0, 1) := by decide +kernel
theorem dX9_node_22 : decode cX9_node 22 = .ok (.getfield 12, 3) := by decide +kernel
theorem dX9_node_25 : decode cX9_node 25 = .ok (.iload_n 3, 1) := by decide +kernel
theorem dX9_node_26 : decode cX9_node 26 = .ok (.invokestatic 236, 3) := by decide +kernel
theorem dX9_node_29 : decode cX9_node 29 = .ok (.iload_n 1, 1) := by decide +kernel
theorem dX9_node_30 : decode cX9_node 30 = .ok (.ishr, 1) := by decide +kernel
theorem dX9_node_31 : decode cX9_node 31 = .ok (.iconst 1, 1) := by decide +kernel
theorem dX9_node_32 : decode cX9_node 32 = .ok (.iand, 1) := by decide +kernel
theorem dX9_node_33 : decode cX9_node 33 = .ok (.ireturn, 1) := by decide +kernel
theorem dX9_node_34 : decode cX9_node 34 = .ok (.aload_n 0, 1) := by decide +kernel
theorem dX9_node_35 : decode cX9_node 35 = .ok (.getfield 12, 3) := by decide +kernel
theorem dX9_node_38 : decode cX9_node 38 = .ok (.iload_n 3, 1) := by decide +kernel
theorem dX9_node_39 : decode cX9_node 39 = .ok (.iload_n 1, 1) := by decide +kernel
theorem dX9_node_40 : decode cX9_node 40 = .ok (.iload_n 2, 1) := by decide +kernel
theorem dX9_node_41 : decode cX9_node 41 = .ok (.invokevirtual 242, 3) := by decide +kernel
theorem dX9_node_44 : decode cX9_node 44 = .ok (.ireturn, 1) := by decide +kernel
theorem dX9_used_0 : decode cX9_used 0 = .ok (.aload_n 0, 1) := by decide +kernel
theorem dX9_used_1 : decode cX9_used 1 = .ok (.iload_n 1, 1) := by decide +kernel
theorem dX9_used_2 : decode cX9_used 2 = .ok (.invokevirtual 220, 3) := by decide +kernel
theorem dX9_used_5 : decode cX9_used 5 = .ok (.aload_n 0, 1) := by decide +kernel
theorem dX9_used_6 : decode cX9_used 6 = .ok (.getfield 12, 3) := by decide +kernel
theorem dX9_used_9 : decode cX9_used 9 = .ok (.iload_n 1, 1) := by decide +kernel
theorem dX9_used_10 : decode cX9_used 10 = .ok (.invokestatic 255, 3) := by decide +kernel
theorem dX9_used_13 : decode cX9_used 13 = .ok (.ireturn, 1) := by decide +kernel
theorem dX9_leaks_0 : decode cX9_leaks 0 = .ok (.aload_n 0, 1) := by decide +kernel
theorem dX9_leaks_1 : decode cX9_leaks 1 = .ok (.iload_n 1, 1) := by decide +kernel
theorem dX9_leaks_2 : decode cX9_leaks 2 = .ok (.invokevirtual 220, 3) := by decide +kernel
theorem dX9_leaks_5 : decode cX9_leaks 5 = .ok (.aload_n 0, 1) := by decide +kernel
theorem dX9_leaks_6 : decode cX9_leaks 6 = .ok (.getfield 12, 3) := by decide +kernel
theorem dX9_leaks_9 : decode cX9_leaks 9 = .ok (.iload_n 1, 1) := by decide +kernel
theorem dX9_leaks_10 : decode cX9_leaks 10 = .ok (.invokestatic 258, 3) := by decide +kernel
theorem dX9_leaks_13 : decode cX9_leaks 13 = .ok (.ireturn, 1) := by decide +kernel
theorem dX9_lost_0 : decode cX9_lost 0 = .ok (.aload_n 0, 1) := by decide +kernel
theorem dX9_lost_1 : decode cX9_lost 1 = .ok (.iload_n 1, 1) := by decide +kernel
theorem dX9_lost_2 : decode cX9_lost 2 = .ok (.invokevirtual 220, 3) := by decide +kernel
theorem dX9_lost_5 : decode cX9_lost 5 = .ok (.aload_n 0, 1) := by decide +kernel
theorem dX9_lost_6 : decode cX9_lost 6 = .ok (.getfield 12, 3) := by decide +kernel
theorem dX9_lost_9 : decode cX9_lost 9 = .ok (.iload_n 1, 1) := by decide +kernel
theorem dX9_lost_10 : decode cX9_lost 10 = .ok (.invokestatic 261, 3) := by decide +kernel
theorem dX9_lost_13 : decode cX9_lost 13 = .ok (.aload_n 0, 1) := by decide +kernel
theorem dX9_lost_14 : decode cX9_lost 14 = .ok (.getfield 12, 3) := by decide +kernel
theorem dX9_lost_17 : decode cX9_lost 17 = .ok (.iload_n 1, 1) := by decide +kernel
theorem dX9_lost_18 : decode cX9_lost 18 = .ok (.invokestatic 236, 3) := by decide +kernel
theorem dX9_lost_21 : decode cX9_lost 21 = .ok (.iconst (-1), 1) := by decide +kernel
theorem dX9_lost_22 : decode cX9_lost 22 = .ok (.ixor, 1) := by decide +kernel
theorem dX9_lost_23 : decode cX9_lost 23 = .ok (.iand, 1) := by decide +kernel
theorem dX9_lost_24 : decode cX9_lost 24 = .ok (.ireturn, 1) := by decide +kernel
theorem dX9_broken_0 : decode cX9_broken 0 = .ok (.aload_n 0, 1) := by decide +kernel
theorem dX9_broken_1 : decode cX9_broken 1 = .ok (.iload_n 1, 1) := by decide +kernel
theorem dX9_broken_2 : decode cX9_broken 2 = .ok (.invokevirtual 220, 3) := by decide +kernel
theorem dX9_broken_5 : decode cX9_broken 5 = .ok (.aload_n 0, 1) := by decide +kernel
theorem dX9_broken_6 : decode cX9_broken 6 = .ok (.getfield 12, 3) := by decide +kernel
theorem dX9_broken_9 : decode cX9_broken 9 = .ok (.iload_n 1, 1) := by decide +kernel
theorem dX9_broken_10 : decode cX9_broken 10 = .ok (.invokestatic 264, 3) := by decide +kernel
theorem dX9_broken_13 : decode cX9_broken 13 = .ok (.aload_n 0, 1) := by decide +kernel
theorem dX9_broken_14 : decode cX9_broken 14 = .ok (.getfield 12, 3) := by decide +kernel
theorem dX9_broken_17 : decode cX9_broken 17 = .ok (.iload_n 1, 1) := by decide +kernel
theorem dX9_broken_18 : decode cX9_broken 18 = .ok (.invokestatic 267, 3) := by decide +kernel
theorem dX9_broken_21 : decode cX9_broken 21 = .ok (.iadd, 1) := by decide +kernel
theorem dX9_broken_22 : decode cX9_broken 22 = .ok (.ireturn, 1) := by decide +kernel
theorem dX9_under_0 : decode cX9_under 0 = .ok (.aload_n 0, 1) := by decide +kernel
theorem dX9_under_1 : decode cX9_under 1 = .ok (.iload_n 1, 1) := by decide +kernel
theorem dX9_under_2 : decode cX9_under 2 = .ok (.invokevirtual 233, 3) := by decide +kernel
theorem dX9_under_5 : decode cX9_under 5 = .ok (.aload_n 0, 1) := by decide +kernel
theorem dX9_under_6 : decode cX9_under 6 = .ok (.iload_n 2, 1) := by decide +kernel
theorem dX9_under_7 : decode cX9_under 7 = .ok (.invokevirtual 220, 3) := by decide +kernel
theorem dX9_under_10 : decode cX9_under 10 = .ok (.aload_n 0, 1) := by decide +kernel
theorem dX9_under_11 : decode cX9_under 11 = .ok (.invokevirtual 270, 3) := by decide +kernel
theorem dX9_under_14 : decode cX9_under 14 = .ok (.aload_n 0, 1) := by decide +kernel
theorem dX9_under_15 : decode cX9_under 15 = .ok (.getfield 12, 3) := by decide +kernel
theorem dX9_under_18 : decode cX9_under 18 = .ok (.iload_n 2, 1) := by decide +kernel
theorem dX9_under_19 : decode cX9_under 19 = .ok (.iload_n 1, 1) := by decide +kernel
theorem dX9_under_20 : decode cX9_under 20 = .ok (.aload_n 0, 1) := by decide +kernel
theorem dX9_under_21 : decode cX9_under 21 = .ok (.getfield 65, 3) := by decide +kernel
theorem dX9_under_24 : decode cX9_under 24 = .ok (.iconst 0, 1) := by decide +kernel
theorem dX9_under_25 : decode cX9_under 25 = .ok (.invokestatic 273, 3) := by decide +kernel
theorem dX9_under_28 : decode cX9_under 28 = .ok (.ireturn, 1) := by decide +kernel
theorem dX9_deep_0 : decode cX9_deep 0 = .ok (.aload_n 0, 1) := by decide +kernel
theorem dX9_deep_1 : decode cX9_deep 1 = .ok (.iload_n 1, 1) := by decide +kernel
theorem dX9_deep_2 : decode cX9_deep 2 = .ok (.invokevirtual 233, 3) := by decide +kernel
theorem dX9_deep_5 : decode cX9_deep 5 = .ok (.aload_n 0, 1) := by decide +kernel
theorem dX9_deep_6 : decode cX9_deep 6 = .ok (.iload_n 2, 1) := by decide +kernel
theorem dX9_deep_7 : decode cX9_deep 7 = .ok (.invokevirtual 220, 3) := by decide +kernel
theorem dX9_deep_10 : decode cX9_deep 10 = .ok (.aload_n 0, 1) := by decide +kernel
theorem dX9_deep_11 : decode cX9_deep 11 = .ok (.invokevirtual 270, 3) := by decide +kernel
theorem dX9_deep_14 : decode cX9_deep 14 = .ok (.aload_n 0, 1) := by decide +kernel
theorem dX9_deep_15 : decode cX9_deep 15 = .ok (.getfield 12, 3) := by decide +kernel
theorem dX9_deep_18 : decode cX9_deep 18 = .ok (.iload_n 2, 1) := by decide +kernel
theorem dX9_deep_19 : decode cX9_deep 19 = .ok (.iload_n 1, 1) := by decide +kernel
theorem dX9_deep_20 : decode cX9_deep 20 = .ok (.aload_n 0, 1) := by decide +kernel
theorem dX9_deep_21 : decode cX9_deep 21 = .ok (.getfield 65, 3) := by decide +kernel
theorem dX9_deep_24 : decode cX9_deep 24 = .ok (.iconst 0, 1) := by decide +kernel
theorem dX9_deep_25 : decode cX9_deep 25 = .ok (.invokestatic 277, 3) := by decide +kernel
theorem dX9_deep_28 : decode cX9_deep 28 = .ok (.ireturn, 1) := by decide +kernel
theorem dX9_forgetKnown_0 : decode cX9_forgetKnown 0 = .ok (.iconst 0, 1) := by decide +kernel
theorem dX9_forgetKnown_1 : decode cX9_forgetKnown 1 = .ok (.istore_n 1, 1) := by decide +kernel
theorem dX9_forgetKnown_2 : decode cX9_forgetKnown 2 = .ok (.iload_n 1, 1) := by decide +kernel
theorem dX9_forgetKnown_3 : decode cX9_forgetKnown 3 = .ok (.bipush 12, 2) := by decide +kernel
theorem dX9_forgetKnown_5 : decode cX9_forgetKnown 5 = .ok (.if_icmp .ge 16, 3) := by decide +kernel
theorem dX9_forgetKnown_8 : decode cX9_forgetKnown 8 = .ok (.aload_n 0, 1) := by decide +kernel
theorem dX9_forgetKnown_9 : decode cX9_forgetKnown 9 = .ok (.getfield 65, 3) := by decide +kernel
theorem dX9_forgetKnown_12 : decode cX9_forgetKnown 12 = .ok (.iload_n 1, 1) := by decide +kernel
theorem dX9_forgetKnown_13 : decode cX9_forgetKnown 13 = .ok (.iconst (-1), 1) := by decide +kernel
theorem dX9_forgetKnown_14 : decode cX9_forgetKnown 14 = .ok (.iastore, 1) := by decide +kernel
theorem dX9_forgetKnown_15 : decode cX9_forgetKnown 15 = .ok (.iinc 1 1, 3) := by decide +kernel
theorem dX9_forgetKnown_18 : decode cX9_forgetKnown 18 = .ok (.goto (-16), 3) := by decide +kernel
theorem dX9_forgetKnown_21 : decode cX9_forgetKnown 21 = .ok (.return_, 1) := by decide +kernel
theorem dX9_room_0 : decode cX9_room 0 = .ok (.aload_n 0, 1) := by decide +kernel
theorem dX9_room_1 : decode cX9_room 1 = .ok (.iload_n 1, 1) := by decide +kernel
theorem dX9_room_2 : decode cX9_room 2 = .ok (.invokevirtual 233, 3) := by decide +kernel
theorem dX9_room_5 : decode cX9_room 5 = .ok (.aload_n 0, 1) := by decide +kernel
theorem dX9_room_6 : decode cX9_room 6 = .ok (.getfield 12, 3) := by decide +kernel
theorem dX9_room_9 : decode cX9_room 9 = .ok (.iconst 0, 1) := by decide +kernel
theorem dX9_room_10 : decode cX9_room 10 = .ok (.iload_n 1, 1) := by decide +kernel
theorem dX9_room_11 : decode cX9_room 11 = .ok (.invokestatic 280, 3) := by decide +kernel
theorem dX9_room_14 : decode cX9_room 14 = .ok (.ireturn, 1) := by decide +kernel
theorem dX9_owner_0 : decode cX9_owner 0 = .ok (.aload_n 0, 1) := by decide +kernel
theorem dX9_owner_1 : decode cX9_owner 1 = .ok (.iload_n 2, 1) := by decide +kernel
theorem dX9_owner_2 : decode cX9_owner 2 = .ok (.invokevirtual 220, 3) := by decide +kernel
theorem dX9_owner_5 : decode cX9_owner 5 = .ok (.aload_n 0, 1) := by decide +kernel
theorem dX9_owner_6 : decode cX9_owner 6 = .ok (.iload_n 1, 1) := by decide +kernel
theorem dX9_owner_7 : decode cX9_owner 7 = .ok (.invokevirtual 223, 3) := by decide +kernel
theorem dX9_owner_10 : decode cX9_owner 10 = .ok (.aload_n 0, 1) := by decide +kernel
theorem dX9_owner_11 : decode cX9_owner 11 = .ok (.getfield 12, 3) := by decide +kernel
theorem dX9_owner_14 : decode cX9_owner 14 = .ok (.iload_n 2, 1) := by decide +kernel
theorem dX9_owner_15 : decode cX9_owner 15 = .ok (.iload_n 1, 1) := by decide +kernel
theorem dX9_owner_16 : decode cX9_owner 16 = .ok (.invokestatic 283, 3) := by decide +kernel
theorem dX9_owner_19 : decode cX9_owner 19 = .ok (.ireturn, 1) := by decide +kernel
theorem dX9_unlike_0 : decode cX9_unlike 0 = .ok (.aload_n 0, 1) := by decide +kernel
theorem dX9_unlike_1 : decode cX9_unlike 1 = .ok (.iload_n 1, 1) := by decide +kernel
theorem dX9_unlike_2 : decode cX9_unlike 2 = .ok (.invokevirtual 223, 3) := by decide +kernel
theorem dX9_unlike_5 : decode cX9_unlike 5 = .ok (.iconst 0, 1) := by decide +kernel
theorem dX9_unlike_6 : decode cX9_unlike 6 = .ok (.istore_n 2, 1) := by decide +kernel
theorem dX9_unlike_7 : decode cX9_unlike 7 = .ok (.iconst 0, 1) := by decide +kernel
theorem dX9_unlike_8 : decode cX9_unlike 8 = .ok (.istore_n 3, 1) := by decide +kernel
theorem dX9_unlike_9 : decode cX9_unlike 9 = .ok (.iload_n 3, 1) := by decide +kernel
theorem dX9_unlike_10 : decode cX9_unlike 10 = .ok (.bipush 16, 2) := by decide +kernel
theorem dX9_unlike_12 : decode cX9_unlike 12 = .ok (.if_icmp .ge 35, 3) := by decide +kernel
theorem dX9_unlike_15 : decode cX9_unlike 15 = .ok (.aload_n 0, 1) := by decide +kernel
theorem dX9_unlike_16 : decode cX9_unlike 16 = .ok (.getfield 12, 3) := by decide +kernel
theorem dX9_unlike_19 : decode cX9_unlike 19 = .ok (.iconst 0, 1) := by decide +kernel
theorem dX9_unlike_20 : decode cX9_unlike 20 = .ok (.iload_n 1, 1) := by decide +kernel
theorem dX9_unlike_21 : decode cX9_unlike 21 = .ok (.iload_n 3, 1) := by decide +kernel
theorem dX9_unlike_22 : decode cX9_unlike 22 = .ok (.invokevirtual 229, 3) := by decide +kernel
theorem dX9_unlike_25 : decode cX9_unlike 25 = .ok (.aload_n 0, 1) := by decide +kernel
theorem dX9_unlike_26 : decode cX9_unlike 26 = .ok (.getfield 12, 3) := by decide +kernel
theorem dX9_unlike_29 : decode cX9_unlike 29 = .ok (.iconst 1, 1) := by decide +kernel
theorem dX9_unlike_30 : decode cX9_unlike 30 = .ok (.iload_n 1, 1) := by decide +kernel
theorem dX9_unlike_31 : decode cX9_unlike 31 = .ok (.iload_n 3, 1) := by decide +kernel
theorem dX9_unlike_32 : decode cX9_unlike 32 = .ok (.invokevirtual 229, 3) := by decide +kernel
theorem dX9_unlike_35 : decode cX9_unlike 35 = .ok (.if_icmp .eq 6, 3) := by decide +kernel
theorem dX9_unlike_38 : decode cX9_unlike 38 = .ok (.iinc 2 1, 3) := by decide +kernel
theorem dX9_unlike_41 : decode cX9_unlike 41 = .ok (.iinc 3 1, 3) := by decide +kernel
theorem dX9_unlike_44 : decode cX9_unlike 44 = .ok (.goto (-35), 3) := by decide +kernel
theorem dX9_unlike_47 : decode cX9_unlike 47 = .ok (.iload_n 2, 1) := by decide +kernel
theorem dX9_unlike_48 : decode cX9_unlike 48 = .ok (.ireturn, 1) := by decide +kernel
theorem dX9_change_0 : decode cX9_change 0 = .ok (.aload_n 0, 1) := by decide +kernel
theorem dX9_change_1 : decode cX9_change 1 = .ok (.iload_n 2, 1) := by decide +kernel
theorem dX9_change_2 : decode cX9_change 2 = .ok (.iconst 5, 1) := by decide +kernel
theorem dX9_change_3 : decode cX9_change 3 = .ok (.invokevirtual 195, 3) := by decide +kernel
theorem dX9_change_6 : decode cX9_change 6 = .ok (.aload_n 0, 1) := by decide +kernel
theorem dX9_change_7 : decode cX9_change 7 = .ok (.iload_n 1, 1) := by decide +kernel
theorem dX9_change_8 : decode cX9_change 8 = .ok (.invokevirtual 286, 3) := by decide +kernel
theorem dX9_change_11 : decode cX9_change 11 = .ok (.iload_n 2, 1) := by decide +kernel
theorem dX9_change_12 : decode cX9_change 12 = .ok (.tableswitch 97 0 4 #[36, 46, 56, 78, 88], 36) := by decide +kernel
theorem dX9_change_48 : decode cX9_change 48 = .ok (.aload_n 0, 1) := by decide +kernel
theorem dX9_change_49 : decode cX9_change 49 = .ok (.getfield 12, 3) := by decide +kernel
theorem dX9_change_52 : decode cX9_change 52 = .ok (.getfield 289, 3) := by decide +kernel
theorem dX9_change_55 : decode cX9_change 55 = .ok (.iload_n 1, 1) := by decide +kernel
theorem dX9_change_56 : decode cX9_change 56 = .ok (.iaload, 1) := by decide +kernel
theorem dX9_change_57 : decode cX9_change 57 = .ok (.ireturn, 1) := by decide +kernel
theorem dX9_change_58 : decode cX9_change 58 = .ok (.aload_n 0, 1) := by decide +kernel
theorem dX9_change_59 : decode cX9_change 59 = .ok (.getfield 12, 3) := by decide +kernel
theorem dX9_change_62 : decode cX9_change 62 = .ok (.getfield 292, 3) := by decide +kernel
theorem dX9_change_65 : decode cX9_change 65 = .ok (.iload_n 1, 1) := by decide +kernel
theorem dX9_change_66 : decode cX9_change 66 = .ok (.iaload, 1) := by decide +kernel
theorem dX9_change_67 : decode cX9_change 67 = .ok (.ireturn, 1) := by decide +kernel
theorem dX9_change_68 : decode cX9_change 68 = .ok (.aload_n 0, 1) := by decide +kernel
theorem dX9_change_69 : decode cX9_change 69 = .ok (.getfield 12, 3) := by decide +kernel
theorem dX9_change_72 : decode cX9_change 72 = .ok (.getfield 294, 3) := by decide +kernel
theorem dX9_change_75 : decode cX9_change 75 = .ok (.iload_n 1, 1) := by decide +kernel
theorem dX9_change_76 : decode cX9_change 76 = .ok (.bipush 16, 2) := by decide +kernel
theorem dX9_change_78 : decode cX9_change 78 = .ok (.imul, 1) := by decide +kernel
theorem dX9_change_79 : decode cX9_change 79 = .ok (.aload_n 0, 1) := by decide +kernel
theorem dX9_change_80 : decode cX9_change 80 = .ok (.getfield 12, 3) := by decide +kernel
theorem dX9_change_83 : decode cX9_change 83 = .ok (.iload_n 1, 1) := by decide +kernel
theorem dX9_change_84 : decode cX9_change 84 = .ok (.invokevirtual 297, 3) := by decide +kernel
theorem dX9_change_87 : decode cX9_change 87 = .ok (.iadd, 1) := by decide +kernel
theorem dX9_change_88 : decode cX9_change 88 = .ok (.baload, 1) := by decide +kernel
theorem dX9_change_89 : decode cX9_change 89 = .ok (.ireturn, 1) := by decide +kernel
theorem dX9_change_90 : decode cX9_change 90 = .ok (.aload_n 0, 1) := by decide +kernel
theorem dX9_change_91 : decode cX9_change 91 = .ok (.getfield 12, 3) := by decide +kernel
theorem dX9_change_94 : decode cX9_change 94 = .ok (.getfield 300, 3) := by decide +kernel
theorem dX9_change_97 : decode cX9_change 97 = .ok (.iload_n 1, 1) := by decide +kernel
theorem dX9_change_98 : decode cX9_change 98 = .ok (.iaload, 1) := by decide +kernel
theorem dX9_change_99 : decode cX9_change 99 = .ok (.ireturn, 1) := by decide +kernel
theorem dX9_change_100 : decode cX9_change 100 = .ok (.aload_n 0, 1) := by decide +kernel
theorem dX9_change_101 : decode cX9_change 101 = .ok (.getfield 12, 3) := by decide +kernel
theorem dX9_change_104 : decode cX9_change 104 = .ok (.iload_n 1, 1) := by decide +kernel
theorem dX9_change_105 : decode cX9_change 105 = .ok (.invokevirtual 303, 3) := by decide +kernel
theorem dX9_change_108 : decode cX9_change 108 = .ok (.ireturn, 1) := by decide +kernel
theorem dX9_change_109 : decode cX9_change 109 = .ok (.aload_n 0, 1) := by decide +kernel
theorem dX9_change_110 : decode cX9_change 110 = .ok (.getfield 36, 3) := by decide +kernel
theorem dX9_change_113 : decode cX9_change 113 = .ok (.aload_n 0, 1) := by decide +kernel
theorem dX9_change_114 : decode cX9_change 114 = .ok (.getfield 12, 3) := by decide +kernel
theorem dX9_change_117 : decode cX9_change 117 = .ok (.aload_n 0, 1) := by decide +kernel
theorem dX9_change_118 : decode cX9_change 118 = .ok (.getfield 12, 3) := by decide +kernel
theorem dX9_change_121 : decode cX9_change 121 = .ok (.getfield 289, 3) := by decide +kernel
theorem dX9_change_124 : decode cX9_change 124 = .ok (.iload_n 1, 1) := by decide +kernel
theorem dX9_change_125 : decode cX9_change 125 = .ok (.iaload, 1) := by decide +kernel
theorem dX9_change_126 : decode cX9_change 126 = .ok (.invokevirtual 306, 3) := by decide +kernel
theorem dX9_change_129 : decode cX9_change 129 = .ok (.aload_n 0, 1) := by decide +kernel
theorem dX9_change_130 : decode cX9_change 130 = .ok (.getfield 36, 3) := by decide +kernel
theorem dX9_change_133 : decode cX9_change 133 = .ok (.getfield 310, 3) := by decide +kernel
theorem dX9_change_136 : decode cX9_change 136 = .ok (.iload_n 1, 1) := by decide +kernel
theorem dX9_change_137 : decode cX9_change 137 = .ok (.baload, 1) := by decide +kernel
theorem dX9_change_138 : decode cX9_change 138 = .ok (.ifCond .eq 7, 3) := by decide +kernel
theorem dX9_change_141 : decode cX9_change 141 = .ok (.iconst 1, 1) := by decide +kernel
theorem dX9_change_142 : decode cX9_change 142 = .ok (.goto 4, 3) := by decide +kernel
theorem dX9_change_145 : decode cX9_change 145 = .ok (.iconst 0, 1) := by decide +kernel
theorem dX9_change_146 : decode cX9_change 146 = .ok (.ireturn, 1) := by decide +kernel
theorem dX9_held_0 : decode cX9_held 0 = .ok (.aload_n 0, 1) := by decide +kernel
theorem dX9_held_1 : decode cX9_held 1 = .ok (.iload_n 1, 1) := by decide +kernel
theorem dX9_held_2 : decode cX9_held 2 = .ok (.invokevirtual 223, 3) := by decide +kernel
theorem dX9_held_5 : decode cX9_held 5 = .ok (.aload_n 0, 1) := by decide +kernel
theorem dX9_held_6 : decode cX9_held 6 = .ok (.getfield 36, 3) := by decide +kernel
theorem dX9_held_9 : decode cX9_held 9 = .ok (.aload_n 0, 1) := by decide +kernel
theorem dX9_held_10 : decode cX9_held 10 = .ok (.getfield 12, 3) := by decide +kernel
theorem dX9_held_13 : decode cX9_held 13 = .ok (.iload_n 1, 1) := by decide +kernel
theorem dX9_held_14 : decode cX9_held 14 = .ok (.invokevirtual 306, 3) := by decide +kernel
theorem dX9_held_17 : decode cX9_held 17 = .ok (.aload_n 0, 1) := by decide +kernel
theorem dX9_held_18 : decode cX9_held 18 = .ok (.getfield 36, 3) := by decide +kernel
theorem dX9_held_21 : decode cX9_held 21 = .ok (.getfield 314, 3) := by decide +kernel
theorem dX9_held_24 : decode cX9_held 24 = .ok (.ireturn, 1) := by decide +kernel
theorem dX9_copy_0 : decode cX9_copy 0 = .ok (.aload_n 0, 1) := by decide +kernel
theorem dX9_copy_1 : decode cX9_copy 1 = .ok (.iload_n 1, 1) := by decide +kernel
theorem dX9_copy_2 : decode cX9_copy 2 = .ok (.invokevirtual 223, 3) := by decide +kernel
theorem dX9_copy_5 : decode cX9_copy 5 = .ok (.aload_n 0, 1) := by decide +kernel
theorem dX9_copy_6 : decode cX9_copy 6 = .ok (.iload_n 2, 1) := by decide +kernel
theorem dX9_copy_7 : decode cX9_copy 7 = .ok (.invokevirtual 226, 3) := by decide +kernel
theorem dX9_copy_10 : decode cX9_copy 10 = .ok (.aload_n 0, 1) := by decide +kernel
theorem dX9_copy_11 : decode cX9_copy 11 = .ok (.getfield 36, 3) := by decide +kernel
theorem dX9_copy_14 : decode cX9_copy 14 = .ok (.aload_n 0, 1) := by decide +kernel
theorem dX9_copy_15 : decode cX9_copy 15 = .ok (.getfield 12, 3) := by decide +kernel
theorem dX9_copy_18 : decode cX9_copy 18 = .ok (.iload_n 1, 1) := by decide +kernel
theorem dX9_copy_19 : decode cX9_copy 19 = .ok (.invokevirtual 317, 3) := by decide +kernel
theorem dX9_copy_22 : decode cX9_copy 22 = .ok (.aload_n 0, 1) := by decide +kernel
theorem dX9_copy_23 : decode cX9_copy 23 = .ok (.getfield 36, 3) := by decide +kernel
theorem dX9_copy_26 : decode cX9_copy 26 = .ok (.getfield 320, 3) := by decide +kernel
theorem dX9_copy_29 : decode cX9_copy 29 = .ok (.iload_n 2, 1) := by decide +kernel
theorem dX9_copy_30 : decode cX9_copy 30 = .ok (.baload, 1) := by decide +kernel
theorem dX9_copy_31 : decode cX9_copy 31 = .ok (.ireturn, 1) := by decide +kernel
theorem dX9_waits_0 : decode cX9_waits 0 = .ok (.aload_n 0, 1) := by decide +kernel
theorem dX9_waits_1 : decode cX9_waits 1 = .ok (.iload_n 1, 1) := by decide +kernel
theorem dX9_waits_2 : decode cX9_waits 2 = .ok (.invokevirtual 223, 3) := by decide +kernel
theorem dX9_waits_5 : decode cX9_waits 5 = .ok (.aload_n 0, 1) := by decide +kernel
theorem dX9_waits_6 : decode cX9_waits 6 = .ok (.getfield 12, 3) := by decide +kernel
theorem dX9_waits_9 : decode cX9_waits 9 = .ok (.iload_n 1, 1) := by decide +kernel
theorem dX9_waits_10 : decode cX9_waits 10 = .ok (.invokevirtual 323, 3) := by decide +kernel
theorem dX9_waits_13 : decode cX9_waits 13 = .ok (.ireturn, 1) := by decide +kernel
theorem dX9_rings_0 : decode cX9_rings 0 = .ok (.iconst 0, 1) := by decide +kernel
theorem dX9_rings_1 : decode cX9_rings 1 = .ok (.istore_n 1, 1) := by decide +kernel
theorem dX9_rings_2 : decode cX9_rings 2 = .ok (.iconst 0, 1) := by decide +kernel
theorem dX9_rings_3 : decode cX9_rings 3 = .ok (.istore_n 2, 1) := by decide +kernel
theorem dX9_rings_4 : decode cX9_rings 4 = .ok (.iload_n 2, 1) := by decide +kernel
theorem dX9_rings_5 : decode cX9_rings 5 = .ok (.aload_n 0, 1) := by decide +kernel
theorem dX9_rings_6 : decode cX9_rings 6 = .ok (.getfield 12, 3) := by decide +kernel
theorem dX9_rings_9 : decode cX9_rings 9 = .ok (.getfield 113, 3) := by decide +kernel
theorem dX9_rings_12 : decode cX9_rings 12 = .ok (.if_icmp .ge 73, 3) := by decide +kernel
theorem dX9_rings_15 : decode cX9_rings 15 = .ok (.aload_n 0, 1) := by decide +kernel
theorem dX9_rings_16 : decode cX9_rings 16 = .ok (.getfield 12, 3) := by decide +kernel
theorem dX9_rings_19 : decode cX9_rings 19 = .ok (.iload_n 2, 1) := by decide +kernel
theorem dX9_rings_20 : decode cX9_rings 20 = .ok (.invokevirtual 323, 3) := by decide +kernel
theorem dX9_rings_23 : decode cX9_rings 23 = .ok (.istore_n 3, 1) := by decide +kernel
theorem dX9_rings_24 : decode cX9_rings 24 = .ok (.iload_n 2, 1) := by decide +kernel
theorem dX9_rings_25 : decode cX9_rings 25 = .ok (.iconst 1, 1) := by decide +kernel
theorem dX9_rings_26 : decode cX9_rings 26 = .ok (.iadd, 1) := by decide +kernel
theorem dX9_rings_27 : decode cX9_rings 27 = .ok (.istore 4, 2) := by decide +kernel
theorem dX9_rings_29 : decode cX9_rings 29 = .ok (.iload_n 3, 1) := by decide +kernel
theorem dX9_rings_30 : decode cX9_rings 30 = .ok (.ifCond .eq 49, 3) := by decide +kernel
theorem dX9_rings_33 : decode cX9_rings 33 = .ok (.iload 4, 2) := by decide +kernel
theorem dX9_rings_35 : decode cX9_rings 35 = .ok (.aload_n 0, 1) := by decide +kernel
theorem dX9_rings_36 : decode cX9_rings 36 = .ok (.getfield 12, 3) := by decide +kernel
theorem dX9_rings_39 : decode cX9_rings 39 = .ok (.getfield 113, 3) := by decide +kernel
theorem dX9_rings_42 : decode cX9_rings 42 = .ok (.if_icmp .ge 37, 3) := by decide +kernel
theorem dX9_rings_45 : decode cX9_rings 45 = .ok (.iload_n 3, 1) := by decide +kernel
theorem dX9_rings_46 : decode cX9_rings 46 = .ok (.iload 4, 2) := by decide +kernel
theorem dX9_rings_48 : decode cX9_rings 48 = .ok (.ishr, 1) := by decide +kernel
theorem dX9_rings_49 : decode cX9_rings 49 = .ok (.iconst 1, 1) := by decide +kernel
theorem dX9_rings_50 : decode cX9_rings 50 = .ok (.iand, 1) := by decide +kernel
theorem dX9_rings_51 : decode cX9_rings 51 = .ok (.ifCond .eq 22, 3) := by decide +kernel
theorem dX9_rings_54 : decode cX9_rings 54 = .ok (.aload_n 0, 1) := by decide +kernel
theorem dX9_rings_55 : decode cX9_rings 55 = .ok (.getfield 12, 3) := by decide +kernel
theorem dX9_rings_58 : decode cX9_rings 58 = .ok (.iload 4, 2) := by decide +kernel
theorem dX9_rings_60 : decode cX9_rings 60 = .ok (.invokevirtual 323, 3) := by decide +kernel
theorem dX9_rings_63 : decode cX9_rings 63 = .ok (.iload_n 2, 1) := by decide +kernel
theorem dX9_rings_64 : decode cX9_rings 64 = .ok (.ishr, 1) := by decide +kernel
theorem dX9_rings_65 : decode cX9_rings 65 = .ok (.iconst 1, 1) := by decide +kernel
theorem dX9_rings_66 : decode cX9_rings 66 = .ok (.iand, 1) := by decide +kernel
theorem dX9_rings_67 : decode cX9_rings 67 = .ok (.ifCond .eq 6, 3) := by decide +kernel
theorem dX9_rings_70 : decode cX9_rings 70 = .ok (.iinc 1 1, 3) := by decide +kernel
theorem dX9_rings_73 : decode cX9_rings 73 = .ok (.iinc 4 1, 3) := by decide +kernel
theorem dX9_rings_76 : decode cX9_rings 76 = .ok (.goto (-47), 3) := by decide +kernel
theorem dX9_rings_79 : decode cX9_rings 79 = .ok (.iinc 2 1, 3) := by decide +kernel
theorem dX9_rings_82 : decode cX9_rings 82 = .ok (.goto (-78), 3) := by decide +kernel
theorem dX9_rings_85 : decode cX9_rings 85 = .ok (.iload_n 1, 1) := by decide +kernel
theorem dX9_rings_86 : decode cX9_rings 86 = .ok (.ireturn, 1) := by decide +kernel
theorem dX9_settle_0 : decode cX9_settle 0 = .ok (.aload_n 0, 1) := by decide +kernel
theorem dX9_settle_1 : decode cX9_settle 1 = .ok (.getfield 29, 3) := by decide +kernel
theorem dX9_settle_4 : decode cX9_settle 4 = .ok (.iconst 0, 1) := by decide +kernel
theorem dX9_settle_5 : decode cX9_settle 5 = .ok (.aaload, 1) := by decide +kernel
theorem dX9_settle_6 : decode cX9_settle 6 = .ok (.astore_n 1, 1) := by decide +kernel
theorem dX9_settle_7 : decode cX9_settle 7 = .ok (.aload_n 1, 1) := by decide +kernel
theorem dX9_settle_8 : decode cX9_settle 8 = .ok (.aload_n 0, 1) := by decide +kernel
theorem dX9_settle_9 : decode cX9_settle 9 = .ok (.getfield 12, 3) := by decide +kernel
theorem dX9_settle_12 : decode cX9_settle 12 = .ok (.invokevirtual 326, 3) := by decide +kernel
theorem dX9_settle_15 : decode cX9_settle 15 = .ok (.aload_n 0, 1) := by decide +kernel
theorem dX9_settle_16 : decode cX9_settle 16 = .ok (.getfield 36, 3) := by decide +kernel
theorem dX9_settle_19 : decode cX9_settle 19 = .ok (.aload_n 1, 1) := by decide +kernel
theorem dX9_settle_20 : decode cX9_settle 20 = .ok (.invokevirtual 329, 3) := by decide +kernel
theorem dX9_settle_23 : decode cX9_settle 23 = .ok (.istore_n 2, 1) := by decide +kernel
theorem dX9_settle_24 : decode cX9_settle 24 = .ok (.iload_n 2, 1) := by decide +kernel
theorem dX9_settle_25 : decode cX9_settle 25 = .ok (.sipush 200, 3) := by decide +kernel
theorem dX9_settle_28 : decode cX9_settle 28 = .ok (.if_icmp .le 7, 3) := by decide +kernel
theorem dX9_settle_31 : decode cX9_settle 31 = .ok (.iconst (-1), 1) := by decide +kernel
theorem dX9_settle_32 : decode cX9_settle 32 = .ok (.goto 4, 3) := by decide +kernel
theorem dX9_settle_35 : decode cX9_settle 35 = .ok (.iload_n 2, 1) := by decide +kernel
theorem dX9_settle_36 : decode cX9_settle 36 = .ok (.ireturn, 1) := by decide +kernel
theorem dX9_spill_0 : decode cX9_spill 0 = .ok (.aload_n 0, 1) := by decide +kernel
theorem dX9_spill_1 : decode cX9_spill 1 = .ok (.iload_n 1, 1) := by decide +kernel
theorem dX9_spill_2 : decode cX9_spill 2 = .ok (.iconst 1, 1) := by decide +kernel
theorem dX9_spill_3 : decode cX9_spill 3 = .ok (.invokevirtual 195, 3) := by decide +kernel
theorem dX9_spill_6 : decode cX9_spill 6 = .ok (.aload_n 0, 1) := by decide +kernel
theorem dX9_spill_7 : decode cX9_spill 7 = .ok (.getfield 29, 3) := by decide +kernel
theorem dX9_spill_10 : decode cX9_spill 10 = .ok (.iconst 0, 1) := by decide +kernel
theorem dX9_spill_11 : decode cX9_spill 11 = .ok (.aaload, 1) := by decide +kernel
theorem dX9_spill_12 : decode cX9_spill 12 = .ok (.astore_n 2, 1) := by decide +kernel
theorem dX9_spill_13 : decode cX9_spill 13 = .ok (.aload_n 2, 1) := by decide +kernel
theorem dX9_spill_14 : decode cX9_spill 14 = .ok (.aload_n 0, 1) := by decide +kernel
theorem dX9_spill_15 : decode cX9_spill 15 = .ok (.getfield 12, 3) := by decide +kernel
theorem dX9_spill_18 : decode cX9_spill 18 = .ok (.invokevirtual 326, 3) := by decide +kernel
theorem dX9_spill_21 : decode cX9_spill 21 = .ok (.aload_n 2, 1) := by decide +kernel
theorem dX9_spill_22 : decode cX9_spill 22 = .ok (.iconst 1, 1) := by decide +kernel
theorem dX9_spill_23 : decode cX9_spill 23 = .ok (.invokestatic 258, 3) := by decide +kernel
theorem dX9_spill_26 : decode cX9_spill 26 = .ok (.invokestatic 333, 3) := by decide +kernel
theorem dX9_spill_29 : decode cX9_spill 29 = .ok (.istore_n 3, 1) := by decide +kernel
theorem dX9_spill_30 : decode cX9_spill 30 = .ok (.iconst 0, 1) := by decide +kernel
theorem dX9_spill_31 : decode cX9_spill 31 = .ok (.istore 4, 2) := by decide +kernel
theorem dX9_spill_33 : decode cX9_spill 33 = .ok (.iconst 0, 1) := by decide +kernel
theorem dX9_spill_34 : decode cX9_spill 34 = .ok (.istore 5, 2) := by decide +kernel
theorem dX9_spill_36 : decode cX9_spill 36 = .ok (.iconst 0, 1) := by decide +kernel
theorem dX9_spill_37 : decode cX9_spill 37 = .ok (.istore 6, 2) := by decide +kernel
theorem dX9_spill_39 : decode cX9_spill 39 = .ok (.iload 6, 2) := by decide +kernel
theorem dX9_spill_41 : decode cX9_spill 41 = .ok (.sipush 10000, 3) := by decide +kernel
theorem dX9_spill_44 : decode cX9_spill 44 = .ok (.if_icmp .ge 73, 3) := by decide +kernel
theorem dX9_spill_47 : decode cX9_spill 47 = .ok (.aload_n 2, 1) := by decide +kernel
theorem dX9_spill_48 : decode cX9_spill 48 = .ok (.getfield 198, 3) := by decide +kernel
theorem dX9_spill_51 : decode cX9_spill 51 = .ok (.ifCond .le 66, 3) := by decide +kernel
theorem dX9_spill_54 : decode cX9_spill 54 = .ok (.iconst 0, 1) := by decide +kernel
theorem dX9_spill_55 : decode cX9_spill 55 = .ok (.istore 7, 2) := by decide +kernel
theorem dX9_spill_57 : decode cX9_spill 57 = .ok (.iload 7, 2) := by decide +kernel
theorem dX9_spill_59 : decode cX9_spill 59 = .ok (.aload_n 2, 1) := by decide +kernel
theorem dX9_spill_60 : decode cX9_spill 60 = .ok (.getfield 113, 3) := by decide +kernel
theorem dX9_spill_63 : decode cX9_spill 63 = .ok (.if_icmp .ge 48, 3) := by decide +kernel
theorem dX9_spill_66 : decode cX9_spill 66 = .ok (.aload_n 0, 1) := by decide +kernel
theorem dX9_spill_67 : decode cX9_spill 67 = .ok (.getfield 36, 3) := by decide +kernel
theorem dX9_spill_70 : decode cX9_spill 70 = .ok (.aload_n 2, 1) := by decide +kernel
theorem dX9_spill_71 : decode cX9_spill 71 = .ok (.iload 7, 2) := by decide +kernel
theorem dX9_spill_73 : decode cX9_spill 73 = .ok (.invokevirtual 338, 3) := by decide +kernel
theorem dX9_spill_76 : decode cX9_spill 76 = .ok (.ifCond .eq 29, 3) := by decide +kernel
theorem dX9_spill_79 : decode cX9_spill 79 = .ok (.iinc 5 1, 3) := by decide +kernel
theorem dX9_spill_82 : decode cX9_spill 82 = .ok (.aload_n 2, 1) := by decide +kernel
theorem dX9_spill_83 : decode cX9_spill 83 = .ok (.iconst 1, 1) := by decide +kernel
theorem dX9_spill_84 : decode cX9_spill 84 = .ok (.invokestatic 258, 3) := by decide +kernel
theorem dX9_spill_87 : decode cX9_spill 87 = .ok (.invokestatic 333, 3) := by decide +kernel
theorem dX9_spill_90 : decode cX9_spill 90 = .ok (.istore 8, 2) := by decide +kernel
theorem dX9_spill_92 : decode cX9_spill 92 = .ok (.iload 8, 2) := by decide +kernel
theorem dX9_spill_94 : decode cX9_spill 94 = .ok (.iload_n 3, 1) := by decide +kernel
theorem dX9_spill_95 : decode cX9_spill 95 = .ok (.if_icmp .le 10, 3) := by decide +kernel
theorem dX9_spill_98 : decode cX9_spill 98 = .ok (.iload 8, 2) := by decide +kernel
theorem dX9_spill_100 : decode cX9_spill 100 = .ok (.istore_n 3, 1) := by decide +kernel
theorem dX9_spill_101 : decode cX9_spill 101 = .ok (.iload 5, 2) := by decide +kernel
theorem dX9_spill_103 : decode cX9_spill 103 = .ok (.istore 4, 2) := by decide +kernel
theorem dX9_spill_105 : decode cX9_spill 105 = .ok (.iinc 7 1, 3) := by decide +kernel
theorem dX9_spill_108 : decode cX9_spill 108 = .ok (.goto (-51), 3) := by decide +kernel
theorem dX9_spill_111 : decode cX9_spill 111 = .ok (.iinc 6 1, 3) := by decide +kernel
theorem dX9_spill_114 : decode cX9_spill 114 = .ok (.goto (-75), 3) := by decide +kernel
theorem dX9_spill_117 : decode cX9_spill 117 = .ok (.iload_n 1, 1) := by decide +kernel
theorem dX9_spill_118 : decode cX9_spill 118 = .ok (.ifCond .ne 7, 3) := by decide +kernel
theorem dX9_spill_121 : decode cX9_spill 121 = .ok (.iload_n 3, 1) := by decide +kernel
theorem dX9_spill_122 : decode cX9_spill 122 = .ok (.goto 5, 3) := by decide +kernel
theorem dX9_spill_125 : decode cX9_spill 125 = .ok (.iload 4, 2) := by decide +kernel
theorem dX9_spill_127 : decode cX9_spill 127 = .ok (.ireturn, 1) := by decide +kernel
theorem dX9_fewest_0 : decode cX9_fewest 0 = .ok (.iconst 0, 1) := by decide +kernel
theorem dX9_fewest_1 : decode cX9_fewest 1 = .ok (.istore_n 1, 1) := by decide +kernel
theorem dX9_fewest_2 : decode cX9_fewest 2 = .ok (.iload_n 1, 1) := by decide +kernel
theorem dX9_fewest_3 : decode cX9_fewest 3 = .ok (.iconst 4, 1) := by decide +kernel
theorem dX9_fewest_4 : decode cX9_fewest 4 = .ok (.if_icmp .gt 33, 3) := by decide +kernel
theorem dX9_fewest_7 : decode cX9_fewest 7 = .ok (.aload_n 0, 1) := by decide +kernel
theorem dX9_fewest_8 : decode cX9_fewest 8 = .ok (.getfield 29, 3) := by decide +kernel
theorem dX9_fewest_11 : decode cX9_fewest 11 = .ok (.iconst 0, 1) := by decide +kernel
theorem dX9_fewest_12 : decode cX9_fewest 12 = .ok (.aaload, 1) := by decide +kernel
theorem dX9_fewest_13 : decode cX9_fewest 13 = .ok (.aload_n 0, 1) := by decide +kernel
theorem dX9_fewest_14 : decode cX9_fewest 14 = .ok (.getfield 12, 3) := by decide +kernel
theorem dX9_fewest_17 : decode cX9_fewest 17 = .ok (.invokevirtual 326, 3) := by decide +kernel
theorem dX9_fewest_20 : decode cX9_fewest 20 = .ok (.aload_n 0, 1) := by decide +kernel
theorem dX9_fewest_21 : decode cX9_fewest 21 = .ok (.iload_n 1, 1) := by decide +kernel
theorem dX9_fewest_22 : decode cX9_fewest 22 = .ok (.iconst 0, 1) := by decide +kernel
theorem dX9_fewest_23 : decode cX9_fewest 23 = .ok (.invokevirtual 342, 3) := by decide +kernel
theorem dX9_fewest_26 : decode cX9_fewest 26 = .ok (.ifCond .eq 5, 3) := by decide +kernel
theorem dX9_fewest_29 : decode cX9_fewest 29 = .ok (.iload_n 1, 1) := by decide +kernel
theorem dX9_fewest_30 : decode cX9_fewest 30 = .ok (.ireturn, 1) := by decide +kernel
theorem dX9_fewest_31 : decode cX9_fewest 31 = .ok (.iinc 1 1, 3) := by decide +kernel
theorem dX9_fewest_34 : decode cX9_fewest 34 = .ok (.goto (-32), 3) := by decide +kernel
theorem dX9_fewest_37 : decode cX9_fewest 37 = .ok (.iconst (-1), 1) := by decide +kernel
theorem dX9_fewest_38 : decode cX9_fewest 38 = .ok (.ireturn, 1) := by decide +kernel
theorem dX9_safeWithin_0 : decode cX9_safeWithin 0 = .ok (.aload_n 0, 1) := by decide +kernel
theorem dX9_safeWithin_1 : decode cX9_safeWithin 1 = .ok (.getfield 29, 3) := by decide +kernel
theorem dX9_safeWithin_4 : decode cX9_safeWithin 4 = .ok (.iload_n 2, 1) := by decide +kernel
theorem dX9_safeWithin_5 : decode cX9_safeWithin 5 = .ok (.aaload, 1) := by decide +kernel
theorem dX9_safeWithin_6 : decode cX9_safeWithin 6 = .ok (.astore_n 3, 1) := by decide +kernel
theorem dX9_safeWithin_7 : decode cX9_safeWithin 7 = .ok (.aload_n 3, 1) := by decide +kernel
theorem dX9_safeWithin_8 : decode cX9_safeWithin 8 = .ok (.invokevirtual 204, 3) := by decide +kernel
theorem dX9_safeWithin_11 : decode cX9_safeWithin 11 = .ok (.istore 4, 2) := by decide +kernel
theorem dX9_safeWithin_13 : decode cX9_safeWithin 13 = .ok (.iload 4, 2) := by decide +kernel
theorem dX9_safeWithin_15 : decode cX9_safeWithin 15 = .ok (.ifCond .ne 5, 3) := by decide +kernel
theorem dX9_safeWithin_18 : decode cX9_safeWithin 18 = .ok (.iconst 1, 1) := by decide +kernel
theorem dX9_safeWithin_19 : decode cX9_safeWithin 19 = .ok (.ireturn, 1) := by decide +kernel
theorem dX9_safeWithin_20 : decode cX9_safeWithin 20 = .ok (.iload 4, 2) := by decide +kernel
theorem dX9_safeWithin_22 : decode cX9_safeWithin 22 = .ok (.invokestatic 333, 3) := by decide +kernel
theorem dX9_safeWithin_25 : decode cX9_safeWithin 25 = .ok (.iload_n 1, 1) := by decide +kernel
theorem dX9_safeWithin_26 : decode cX9_safeWithin 26 = .ok (.if_icmp .gt 14, 3) := by decide +kernel
theorem dX9_safeWithin_29 : decode cX9_safeWithin 29 = .ok (.iload_n 2, 1) := by decide +kernel
theorem dX9_safeWithin_30 : decode cX9_safeWithin 30 = .ok (.iconst 1, 1) := by decide +kernel
theorem dX9_safeWithin_31 : decode cX9_safeWithin 31 = .ok (.iadd, 1) := by decide +kernel
theorem dX9_safeWithin_32 : decode cX9_safeWithin 32 = .ok (.aload_n 0, 1) := by decide +kernel
theorem dX9_safeWithin_33 : decode cX9_safeWithin 33 = .ok (.getfield 29, 3) := by decide +kernel
theorem dX9_safeWithin_36 : decode cX9_safeWithin 36 = .ok (.arraylength, 1) := by decide +kernel
theorem dX9_safeWithin_37 : decode cX9_safeWithin 37 = .ok (.if_icmp .lt 5, 3) := by decide +kernel
theorem dX9_safeWithin_40 : decode cX9_safeWithin 40 = .ok (.iconst 0, 1) := by decide +kernel
theorem dX9_safeWithin_41 : decode cX9_safeWithin 41 = .ok (.ireturn, 1) := by decide +kernel
theorem dX9_safeWithin_42 : decode cX9_safeWithin 42 = .ok (.iconst 0, 1) := by decide +kernel
theorem dX9_safeWithin_43 : decode cX9_safeWithin 43 = .ok (.istore 5, 2) := by decide +kernel
theorem dX9_safeWithin_45 : decode cX9_safeWithin 45 = .ok (.iload 5, 2) := by decide +kernel
theorem dX9_safeWithin_47 : decode cX9_safeWithin 47 = .ok (.aload_n 3, 1) := by decide +kernel
theorem dX9_safeWithin_48 : decode cX9_safeWithin 48 = .ok (.getfield 113, 3) := by decide +kernel
theorem dX9_safeWithin_51 : decode cX9_safeWithin 51 = .ok (.if_icmp .ge 64, 3) := by decide +kernel
theorem dX9_safeWithin_54 : decode cX9_safeWithin 54 = .ok (.iload 4, 2) := by decide +kernel
theorem dX9_safeWithin_56 : decode cX9_safeWithin 56 = .ok (.iload 5, 2) := by decide +kernel
theorem dX9_safeWithin_58 : decode cX9_safeWithin 58 = .ok (.ishr, 1) := by decide +kernel
theorem dX9_safeWithin_59 : decode cX9_safeWithin 59 = .ok (.iconst 1, 1) := by decide +kernel
theorem dX9_safeWithin_60 : decode cX9_safeWithin 60 = .ok (.iand, 1) := by decide +kernel
theorem dX9_safeWithin_61 : decode cX9_safeWithin 61 = .ok (.ifCond .eq 48, 3) := by decide +kernel
theorem dX9_safeWithin_64 : decode cX9_safeWithin 64 = .ok (.aload_n 0, 1) := by decide +kernel
theorem dX9_safeWithin_65 : decode cX9_safeWithin 65 = .ok (.getfield 29, 3) := by decide +kernel
theorem dX9_safeWithin_68 : decode cX9_safeWithin 68 = .ok (.iload_n 2, 1) := by decide +kernel
theorem dX9_safeWithin_69 : decode cX9_safeWithin 69 = .ok (.iconst 1, 1) := by decide +kernel
theorem dX9_safeWithin_70 : decode cX9_safeWithin 70 = .ok (.iadd, 1) := by decide +kernel
theorem dX9_safeWithin_71 : decode cX9_safeWithin 71 = .ok (.aaload, 1) := by decide +kernel
theorem dX9_safeWithin_72 : decode cX9_safeWithin 72 = .ok (.aload_n 3, 1) := by decide +kernel
theorem dX9_safeWithin_73 : decode cX9_safeWithin 73 = .ok (.invokevirtual 326, 3) := by decide +kernel
theorem dX9_safeWithin_76 : decode cX9_safeWithin 76 = .ok (.aload_n 0, 1) := by decide +kernel
theorem dX9_safeWithin_77 : decode cX9_safeWithin 77 = .ok (.getfield 36, 3) := by decide +kernel
theorem dX9_safeWithin_80 : decode cX9_safeWithin 80 = .ok (.aload_n 0, 1) := by decide +kernel
theorem dX9_safeWithin_81 : decode cX9_safeWithin 81 = .ok (.getfield 29, 3) := by decide +kernel
theorem dX9_safeWithin_84 : decode cX9_safeWithin 84 = .ok (.iload_n 2, 1) := by decide +kernel
theorem dX9_safeWithin_85 : decode cX9_safeWithin 85 = .ok (.iconst 1, 1) := by decide +kernel
theorem dX9_safeWithin_86 : decode cX9_safeWithin 86 = .ok (.iadd, 1) := by decide +kernel
theorem dX9_safeWithin_87 : decode cX9_safeWithin 87 = .ok (.aaload, 1) := by decide +kernel
theorem dX9_safeWithin_88 : decode cX9_safeWithin 88 = .ok (.iload 5, 2) := by decide +kernel
theorem dX9_safeWithin_90 : decode cX9_safeWithin 90 = .ok (.invokevirtual 338, 3) := by decide +kernel
theorem dX9_safeWithin_93 : decode cX9_safeWithin 93 = .ok (.pop, 1) := by decide +kernel
theorem dX9_safeWithin_94 : decode cX9_safeWithin 94 = .ok (.aload_n 0, 1) := by decide +kernel
theorem dX9_safeWithin_95 : decode cX9_safeWithin 95 = .ok (.iload_n 1, 1) := by decide +kernel
theorem dX9_safeWithin_96 : decode cX9_safeWithin 96 = .ok (.iconst 1, 1) := by decide +kernel
theorem dX9_safeWithin_97 : decode cX9_safeWithin 97 = .ok (.isub, 1) := by decide +kernel
theorem dX9_safeWithin_98 : decode cX9_safeWithin 98 = .ok (.iload_n 2, 1) := by decide +kernel
theorem dX9_safeWithin_99 : decode cX9_safeWithin 99 = .ok (.iconst 1, 1) := by decide +kernel
theorem dX9_safeWithin_100 : decode cX9_safeWithin 100 = .ok (.iadd, 1) := by decide +kernel
theorem dX9_safeWithin_101 : decode cX9_safeWithin 101 = .ok (.invokevirtual 342, 3) := by decide +kernel
theorem dX9_safeWithin_104 : decode cX9_safeWithin 104 = .ok (.ifCond .eq 5, 3) := by decide +kernel
theorem dX9_safeWithin_107 : decode cX9_safeWithin 107 = .ok (.iconst 1, 1) := by decide +kernel
theorem dX9_safeWithin_108 : decode cX9_safeWithin 108 = .ok (.ireturn, 1) := by decide +kernel
theorem dX9_safeWithin_109 : decode cX9_safeWithin 109 = .ok (.iinc 5 1, 3) := by decide +kernel
theorem dX9_safeWithin_112 : decode cX9_safeWithin 112 = .ok (.goto (-67), 3) := by decide +kernel
theorem dX9_safeWithin_115 : decode cX9_safeWithin 115 = .ok (.iconst 0, 1) := by decide +kernel
theorem dX9_safeWithin_116 : decode cX9_safeWithin 116 = .ok (.ireturn, 1) := by decide +kernel
theorem dX9_finds_0 : decode cX9_finds 0 = .ok (.aload_n 0, 1) := by decide +kernel
theorem dX9_finds_1 : decode cX9_finds 1 = .ok (.getfield 43, 3) := by decide +kernel
theorem dX9_finds_4 : decode cX9_finds 4 = .ok (.aload_n 0, 1) := by decide +kernel
theorem dX9_finds_5 : decode cX9_finds 5 = .ok (.getfield 12, 3) := by decide +kernel
theorem dX9_finds_8 : decode cX9_finds 8 = .ok (.invokevirtual 346, 3) := by decide +kernel
theorem dX9_finds_11 : decode cX9_finds 11 = .ok (.ireturn, 1) := by decide +kernel
theorem dX9_sweeps_0 : decode cX9_sweeps 0 = .ok (.aload_n 0, 1) := by decide +kernel
theorem dX9_sweeps_1 : decode cX9_sweeps 1 = .ok (.getfield 29, 3) := by decide +kernel
theorem dX9_sweeps_4 : decode cX9_sweeps 4 = .ok (.iconst 0, 1) := by decide +kernel
theorem dX9_sweeps_5 : decode cX9_sweeps 5 = .ok (.aaload, 1) := by decide +kernel
theorem dX9_sweeps_6 : decode cX9_sweeps 6 = .ok (.astore_n 1, 1) := by decide +kernel
theorem dX9_sweeps_7 : decode cX9_sweeps 7 = .ok (.aload_n 1, 1) := by decide +kernel
theorem dX9_sweeps_8 : decode cX9_sweeps 8 = .ok (.aload_n 0, 1) := by decide +kernel
theorem dX9_sweeps_9 : decode cX9_sweeps 9 = .ok (.getfield 12, 3) := by decide +kernel
theorem dX9_sweeps_12 : decode cX9_sweeps 12 = .ok (.invokevirtual 326, 3) := by decide +kernel
theorem dX9_sweeps_15 : decode cX9_sweeps 15 = .ok (.aload_n 1, 1) := by decide +kernel
theorem dX9_sweeps_16 : decode cX9_sweeps 16 = .ok (.invokevirtual 349, 3) := by decide +kernel
theorem dX9_sweeps_19 : decode cX9_sweeps 19 = .ok (.iconst 0, 1) := by decide +kernel
theorem dX9_sweeps_20 : decode cX9_sweeps 20 = .ok (.istore_n 2, 1) := by decide +kernel
theorem dX9_sweeps_21 : decode cX9_sweeps 21 = .ok (.iconst 0, 1) := by decide +kernel
theorem dX9_sweeps_22 : decode cX9_sweeps 22 = .ok (.istore_n 3, 1) := by decide +kernel
theorem dX9_sweeps_23 : decode cX9_sweeps 23 = .ok (.iload_n 3, 1) := by decide +kernel
theorem dX9_sweeps_24 : decode cX9_sweeps 24 = .ok (.sipush 10000, 3) := by decide +kernel
theorem dX9_sweeps_27 : decode cX9_sweeps 27 = .ok (.if_icmp .ge 39, 3) := by decide +kernel
theorem dX9_sweeps_30 : decode cX9_sweeps 30 = .ok (.aload_n 0, 1) := by decide +kernel
theorem dX9_sweeps_31 : decode cX9_sweeps 31 = .ok (.getfield 43, 3) := by decide +kernel
theorem dX9_sweeps_34 : decode cX9_sweeps 34 = .ok (.aload_n 1, 1) := by decide +kernel
theorem dX9_sweeps_35 : decode cX9_sweeps 35 = .ok (.bipush 7, 2) := by decide +kernel
theorem dX9_sweeps_37 : decode cX9_sweeps 37 = .ok (.iconst 0, 1) := by decide +kernel
theorem dX9_sweeps_38 : decode cX9_sweeps 38 = .ok (.iconst 0, 1) := by decide +kernel
theorem dX9_sweeps_39 : decode cX9_sweeps 39 = .ok (.iconst 0, 1) := by decide +kernel
theorem dX9_sweeps_40 : decode cX9_sweeps 40 = .ok (.invokevirtual 135, 3) := by decide +kernel
theorem dX9_sweeps_43 : decode cX9_sweeps 43 = .ok (.ifCond .ne 5, 3) := by decide +kernel
theorem dX9_sweeps_46 : decode cX9_sweeps 46 = .ok (.iload_n 2, 1) := by decide +kernel
theorem dX9_sweeps_47 : decode cX9_sweeps 47 = .ok (.ireturn, 1) := by decide +kernel
theorem dX9_sweeps_48 : decode cX9_sweeps 48 = .ok (.iinc 2 1, 3) := by decide +kernel
theorem dX9_sweeps_51 : decode cX9_sweeps 51 = .ok (.aload_n 0, 1) := by decide +kernel
theorem dX9_sweeps_52 : decode cX9_sweeps 52 = .ok (.getfield 36, 3) := by decide +kernel
theorem dX9_sweeps_55 : decode cX9_sweeps 55 = .ok (.aload_n 1, 1) := by decide +kernel
theorem dX9_sweeps_56 : decode cX9_sweeps 56 = .ok (.invokevirtual 329, 3) := by decide +kernel
theorem dX9_sweeps_59 : decode cX9_sweeps 59 = .ok (.pop, 1) := by decide +kernel
theorem dX9_sweeps_60 : decode cX9_sweeps 60 = .ok (.iinc 3 1, 3) := by decide +kernel
theorem dX9_sweeps_63 : decode cX9_sweeps 63 = .ok (.goto (-40), 3) := by decide +kernel
theorem dX9_sweeps_66 : decode cX9_sweeps 66 = .ok (.iload_n 2, 1) := by decide +kernel
theorem dX9_sweeps_67 : decode cX9_sweeps 67 = .ok (.ireturn, 1) := by decide +kernel
theorem dX9_fits_0 : decode cX9_fits 0 = .ok (.aload_n 0, 1) := by decide +kernel
theorem dX9_fits_1 : decode cX9_fits 1 = .ok (.invokevirtual 352, 3) := by decide +kernel
theorem dX9_fits_4 : decode cX9_fits 4 = .ok (.ireturn, 1) := by decide +kernel
theorem dX9_fittingBlocks_0 : decode cX9_fittingBlocks 0 = .ok (.aload_n 0, 1) := by decide +kernel
theorem dX9_fittingBlocks_1 : decode cX9_fittingBlocks 1 = .ok (.getfield 12, 3) := by decide +kernel
theorem dX9_fittingBlocks_4 : decode cX9_fittingBlocks 4 = .ok (.invokevirtual 204, 3) := by decide +kernel
theorem dX9_fittingBlocks_7 : decode cX9_fittingBlocks 7 = .ok (.istore_n 1, 1) := by decide +kernel
theorem dX9_fittingBlocks_8 : decode cX9_fittingBlocks 8 = .ok (.iconst 0, 1) := by decide +kernel
theorem dX9_fittingBlocks_9 : decode cX9_fittingBlocks 9 = .ok (.istore_n 2, 1) := by decide +kernel
theorem dX9_fittingBlocks_10 : decode cX9_fittingBlocks 10 = .ok (.iconst 0, 1) := by decide +kernel
theorem dX9_fittingBlocks_11 : decode cX9_fittingBlocks 11 = .ok (.istore_n 3, 1) := by decide +kernel
theorem dX9_fittingBlocks_12 : decode cX9_fittingBlocks 12 = .ok (.iload_n 3, 1) := by decide +kernel
theorem dX9_fittingBlocks_13 : decode cX9_fittingBlocks 13 = .ok (.aload_n 0, 1) := by decide +kernel
theorem dX9_fittingBlocks_14 : decode cX9_fittingBlocks 14 = .ok (.getfield 12, 3) := by decide +kernel
theorem dX9_fittingBlocks_17 : decode cX9_fittingBlocks 17 = .ok (.getfield 113, 3) := by decide +kernel
theorem dX9_fittingBlocks_20 : decode cX9_fittingBlocks 20 = .ok (.if_icmp .ge 64, 3) := by decide +kernel
theorem dX9_fittingBlocks_23 : decode cX9_fittingBlocks 23 = .ok (.iload_n 1, 1) := by decide +kernel
theorem dX9_fittingBlocks_24 : decode cX9_fittingBlocks 24 = .ok (.iload_n 3, 1) := by decide +kernel
theorem dX9_fittingBlocks_25 : decode cX9_fittingBlocks 25 = .ok (.ishr, 1) := by decide +kernel
theorem dX9_fittingBlocks_26 : decode cX9_fittingBlocks 26 = .ok (.iconst 1, 1) := by decide +kernel
theorem dX9_fittingBlocks_27 : decode cX9_fittingBlocks 27 = .ok (.iand, 1) := by decide +kernel
theorem dX9_fittingBlocks_28 : decode cX9_fittingBlocks 28 = .ok (.ifCond .eq 50, 3) := by decide +kernel
theorem dX9_fittingBlocks_31 : decode cX9_fittingBlocks 31 = .ok (.aload_n 0, 1) := by decide +kernel
theorem dX9_fittingBlocks_32 : decode cX9_fittingBlocks 32 = .ok (.getfield 36, 3) := by decide +kernel
theorem dX9_fittingBlocks_35 : decode cX9_fittingBlocks 35 = .ok (.aload_n 0, 1) := by decide +kernel
theorem dX9_fittingBlocks_36 : decode cX9_fittingBlocks 36 = .ok (.getfield 12, 3) := by decide +kernel
theorem dX9_fittingBlocks_39 : decode cX9_fittingBlocks 39 = .ok (.iload_n 3, 1) := by decide +kernel
theorem dX9_fittingBlocks_40 : decode cX9_fittingBlocks 40 = .ok (.invokevirtual 317, 3) := by decide +kernel
theorem dX9_fittingBlocks_43 : decode cX9_fittingBlocks 43 = .ok (.aload_n 0, 1) := by decide +kernel
theorem dX9_fittingBlocks_44 : decode cX9_fittingBlocks 44 = .ok (.getfield 36, 3) := by decide +kernel
theorem dX9_fittingBlocks_47 : decode cX9_fittingBlocks 47 = .ok (.getfield 320, 3) := by decide +kernel
theorem dX9_fittingBlocks_50 : decode cX9_fittingBlocks 50 = .ok (.iconst 0, 1) := by decide +kernel
theorem dX9_fittingBlocks_51 : decode cX9_fittingBlocks 51 = .ok (.aload_n 0, 1) := by decide +kernel
theorem dX9_fittingBlocks_52 : decode cX9_fittingBlocks 52 = .ok (.getfield 62, 3) := by decide +kernel
theorem dX9_fittingBlocks_55 : decode cX9_fittingBlocks 55 = .ok (.iload_n 3, 1) := by decide +kernel
theorem dX9_fittingBlocks_56 : decode cX9_fittingBlocks 56 = .ok (.bipush 16, 2) := by decide +kernel
theorem dX9_fittingBlocks_58 : decode cX9_fittingBlocks 58 = .ok (.imul, 1) := by decide +kernel
theorem dX9_fittingBlocks_59 : decode cX9_fittingBlocks 59 = .ok (.bipush 16, 2) := by decide +kernel
theorem dX9_fittingBlocks_61 : decode cX9_fittingBlocks 61 = .ok (.invokestatic 173, 3) := by decide +kernel
theorem dX9_fittingBlocks_64 : decode cX9_fittingBlocks 64 = .ok (.aload_n 0, 1) := by decide +kernel
theorem dX9_fittingBlocks_65 : decode cX9_fittingBlocks 65 = .ok (.iload_n 3, 1) := by decide +kernel
theorem dX9_fittingBlocks_66 : decode cX9_fittingBlocks 66 = .ok (.invokevirtual 355, 3) := by decide +kernel
theorem dX9_fittingBlocks_69 : decode cX9_fittingBlocks 69 = .ok (.ifCond .eq 9, 3) := by decide +kernel
theorem dX9_fittingBlocks_72 : decode cX9_fittingBlocks 72 = .ok (.iload_n 2, 1) := by decide +kernel
theorem dX9_fittingBlocks_73 : decode cX9_fittingBlocks 73 = .ok (.iconst 1, 1) := by decide +kernel
theorem dX9_fittingBlocks_74 : decode cX9_fittingBlocks 74 = .ok (.iload_n 3, 1) := by decide +kernel
theorem dX9_fittingBlocks_75 : decode cX9_fittingBlocks 75 = .ok (.ishl, 1) := by decide +kernel
theorem dX9_fittingBlocks_76 : decode cX9_fittingBlocks 76 = .ok (.ior, 1) := by decide +kernel
theorem dX9_fittingBlocks_77 : decode cX9_fittingBlocks 77 = .ok (.istore_n 2, 1) := by decide +kernel
theorem dX9_fittingBlocks_78 : decode cX9_fittingBlocks 78 = .ok (.iinc 3 1, 3) := by decide +kernel
theorem dX9_fittingBlocks_81 : decode cX9_fittingBlocks 81 = .ok (.goto (-69), 3) := by decide +kernel
theorem dX9_fittingBlocks_84 : decode cX9_fittingBlocks 84 = .ok (.iload_n 2, 1) := by decide +kernel
theorem dX9_fittingBlocks_85 : decode cX9_fittingBlocks 85 = .ok (.ireturn, 1) := by decide +kernel
theorem dX9_fitsBook_0 : decode cX9_fitsBook 0 = .ok (.iconst 0, 1) := by decide +kernel
theorem dX9_fitsBook_1 : decode cX9_fitsBook 1 = .ok (.istore_n 2, 1) := by decide +kernel
theorem dX9_fitsBook_2 : decode cX9_fitsBook 2 = .ok (.iload_n 2, 1) := by decide +kernel
theorem dX9_fitsBook_3 : decode cX9_fitsBook 3 = .ok (.bipush 16, 2) := by decide +kernel
theorem dX9_fitsBook_5 : decode cX9_fitsBook 5 = .ok (.if_icmp .ge 41, 3) := by decide +kernel
theorem dX9_fitsBook_8 : decode cX9_fitsBook 8 = .ok (.aload_n 0, 1) := by decide +kernel
theorem dX9_fitsBook_9 : decode cX9_fitsBook 9 = .ok (.getfield 58, 3) := by decide +kernel
theorem dX9_fitsBook_12 : decode cX9_fitsBook 12 = .ok (.iload_n 2, 1) := by decide +kernel
theorem dX9_fitsBook_13 : decode cX9_fitsBook 13 = .ok (.iaload, 1) := by decide +kernel
theorem dX9_fitsBook_14 : decode cX9_fitsBook 14 = .ok (.iconst (-1), 1) := by decide +kernel
theorem dX9_fitsBook_15 : decode cX9_fitsBook 15 = .ok (.if_icmp .eq 25, 3) := by decide +kernel
theorem dX9_fitsBook_18 : decode cX9_fitsBook 18 = .ok (.aload_n 0, 1) := by decide +kernel
theorem dX9_fitsBook_19 : decode cX9_fitsBook 19 = .ok (.getfield 58, 3) := by decide +kernel
theorem dX9_fitsBook_22 : decode cX9_fitsBook 22 = .ok (.iload_n 2, 1) := by decide +kernel
theorem dX9_fitsBook_23 : decode cX9_fitsBook 23 = .ok (.iaload, 1) := by decide +kernel
theorem dX9_fitsBook_24 : decode cX9_fitsBook 24 = .ok (.aload_n 0, 1) := by decide +kernel
theorem dX9_fitsBook_25 : decode cX9_fitsBook 25 = .ok (.getfield 62, 3) := by decide +kernel
theorem dX9_fitsBook_28 : decode cX9_fitsBook 28 = .ok (.iload_n 1, 1) := by decide +kernel
theorem dX9_fitsBook_29 : decode cX9_fitsBook 29 = .ok (.bipush 16, 2) := by decide +kernel
theorem dX9_fitsBook_31 : decode cX9_fitsBook 31 = .ok (.imul, 1) := by decide +kernel
theorem dX9_fitsBook_32 : decode cX9_fitsBook 32 = .ok (.iload_n 2, 1) := by decide +kernel
theorem dX9_fitsBook_33 : decode cX9_fitsBook 33 = .ok (.iadd, 1) := by decide +kernel
theorem dX9_fitsBook_34 : decode cX9_fitsBook 34 = .ok (.baload, 1) := by decide +kernel
theorem dX9_fitsBook_35 : decode cX9_fitsBook 35 = .ok (.if_icmp .eq 5, 3) := by decide +kernel
theorem dX9_fitsBook_38 : decode cX9_fitsBook 38 = .ok (.iconst 0, 1) := by decide +kernel
theorem dX9_fitsBook_39 : decode cX9_fitsBook 39 = .ok (.ireturn, 1) := by decide +kernel
theorem dX9_fitsBook_40 : decode cX9_fitsBook 40 = .ok (.iinc 2 1, 3) := by decide +kernel
theorem dX9_fitsBook_43 : decode cX9_fitsBook 43 = .ok (.goto (-41), 3) := by decide +kernel
theorem dX9_fitsBook_46 : decode cX9_fitsBook 46 = .ok (.iconst 1, 1) := by decide +kernel
theorem dX9_fitsBook_47 : decode cX9_fitsBook 47 = .ok (.ireturn, 1) := by decide +kernel
theorem dX9_look_0 : decode cX9_look 0 = .ok (.aload_n 0, 1) := by decide +kernel
theorem dX9_look_1 : decode cX9_look 1 = .ok (.iload_n 1, 1) := by decide +kernel
theorem dX9_look_2 : decode cX9_look 2 = .ok (.iconst 1, 1) := by decide +kernel
theorem dX9_look_3 : decode cX9_look 3 = .ok (.invokevirtual 195, 3) := by decide +kernel
theorem dX9_look_6 : decode cX9_look 6 = .ok (.aload_n 0, 1) := by decide +kernel
theorem dX9_look_7 : decode cX9_look 7 = .ok (.invokevirtual 352, 3) := by decide +kernel
theorem dX9_look_10 : decode cX9_look 10 = .ok (.istore_n 2, 1) := by decide +kernel
theorem dX9_look_11 : decode cX9_look 11 = .ok (.iconst (-1), 1) := by decide +kernel
theorem dX9_look_12 : decode cX9_look 12 = .ok (.istore_n 3, 1) := by decide +kernel
theorem dX9_look_13 : decode cX9_look 13 = .ok (.iconst (-1), 1) := by decide +kernel
theorem dX9_look_14 : decode cX9_look 14 = .ok (.istore 4, 2) := by decide +kernel
theorem dX9_look_16 : decode cX9_look 16 = .ok (.iconst 0, 1) := by decide +kernel
theorem dX9_look_17 : decode cX9_look 17 = .ok (.istore 5, 2) := by decide +kernel
theorem dX9_look_19 : decode cX9_look 19 = .ok (.iload 5, 2) := by decide +kernel
theorem dX9_look_21 : decode cX9_look 21 = .ok (.bipush 16, 2) := by decide +kernel
theorem dX9_look_23 : decode cX9_look 23 = .ok (.if_icmp .ge 48, 3) := by decide +kernel
theorem dX9_look_26 : decode cX9_look 26 = .ok (.aload_n 0, 1) := by decide +kernel
theorem dX9_look_27 : decode cX9_look 27 = .ok (.getfield 58, 3) := by decide +kernel
theorem dX9_look_30 : decode cX9_look 30 = .ok (.iload 5, 2) := by decide +kernel
theorem dX9_look_32 : decode cX9_look 32 = .ok (.iaload, 1) := by decide +kernel
theorem dX9_look_33 : decode cX9_look 33 = .ok (.iconst (-1), 1) := by decide +kernel
theorem dX9_look_34 : decode cX9_look 34 = .ok (.if_icmp .ne 31, 3) := by decide +kernel
theorem dX9_look_37 : decode cX9_look 37 = .ok (.aload_n 0, 1) := by decide +kernel
theorem dX9_look_38 : decode cX9_look 38 = .ok (.iload_n 2, 1) := by decide +kernel
theorem dX9_look_39 : decode cX9_look 39 = .ok (.iload 5, 2) := by decide +kernel
theorem dX9_look_41 : decode cX9_look 41 = .ok (.invokevirtual 359, 3) := by decide +kernel
theorem dX9_look_44 : decode cX9_look 44 = .ok (.istore 6, 2) := by decide +kernel
theorem dX9_look_46 : decode cX9_look 46 = .ok (.iload_n 3, 1) := by decide +kernel
theorem dX9_look_47 : decode cX9_look 47 = .ok (.iconst (-1), 1) := by decide +kernel
theorem dX9_look_48 : decode cX9_look 48 = .ok (.if_icmp .eq 10, 3) := by decide +kernel
theorem dX9_look_51 : decode cX9_look 51 = .ok (.iload 6, 2) := by decide +kernel
theorem dX9_look_53 : decode cX9_look 53 = .ok (.iload 4, 2) := by decide +kernel
theorem dX9_look_55 : decode cX9_look 55 = .ok (.if_icmp .ge 10, 3) := by decide +kernel
theorem dX9_look_58 : decode cX9_look 58 = .ok (.iload 5, 2) := by decide +kernel
theorem dX9_look_60 : decode cX9_look 60 = .ok (.istore_n 3, 1) := by decide +kernel
theorem dX9_look_61 : decode cX9_look 61 = .ok (.iload 6, 2) := by decide +kernel
theorem dX9_look_63 : decode cX9_look 63 = .ok (.istore 4, 2) := by decide +kernel
theorem dX9_look_65 : decode cX9_look 65 = .ok (.iinc 5 1, 3) := by decide +kernel
theorem dX9_look_68 : decode cX9_look 68 = .ok (.goto (-49), 3) := by decide +kernel
theorem dX9_look_71 : decode cX9_look 71 = .ok (.iload_n 1, 1) := by decide +kernel
theorem dX9_look_72 : decode cX9_look 72 = .ok (.ifCond .ne 7, 3) := by decide +kernel
theorem dX9_look_75 : decode cX9_look 75 = .ok (.iload_n 3, 1) := by decide +kernel
theorem dX9_look_76 : decode cX9_look 76 = .ok (.goto 5, 3) := by decide +kernel
theorem dX9_look_79 : decode cX9_look 79 = .ok (.iload 4, 2) := by decide +kernel
theorem dX9_look_81 : decode cX9_look 81 = .ok (.ireturn, 1) := by decide +kernel
theorem dX9_mostAlike_0 : decode cX9_mostAlike 0 = .ok (.iconst 0, 1) := by decide +kernel
theorem dX9_mostAlike_1 : decode cX9_mostAlike 1 = .ok (.istore_n 3, 1) := by decide +kernel
theorem dX9_mostAlike_2 : decode cX9_mostAlike 2 = .ok (.iconst 0, 1) := by decide +kernel
theorem dX9_mostAlike_3 : decode cX9_mostAlike 3 = .ok (.istore 4, 2) := by decide +kernel
theorem dX9_mostAlike_5 : decode cX9_mostAlike 5 = .ok (.iload 4, 2) := by decide +kernel
theorem dX9_mostAlike_7 : decode cX9_mostAlike 7 = .ok (.aload_n 0, 1) := by decide +kernel
theorem dX9_mostAlike_8 : decode cX9_mostAlike 8 = .ok (.getfield 12, 3) := by decide +kernel
theorem dX9_mostAlike_11 : decode cX9_mostAlike 11 = .ok (.getfield 113, 3) := by decide +kernel
theorem dX9_mostAlike_14 : decode cX9_mostAlike 14 = .ok (.if_icmp .ge 89, 3) := by decide +kernel
theorem dX9_mostAlike_17 : decode cX9_mostAlike 17 = .ok (.iconst 0, 1) := by decide +kernel
theorem dX9_mostAlike_18 : decode cX9_mostAlike 18 = .ok (.istore 5, 2) := by decide +kernel
theorem dX9_mostAlike_20 : decode cX9_mostAlike 20 = .ok (.iload 4, 2) := by decide +kernel
theorem dX9_mostAlike_22 : decode cX9_mostAlike 22 = .ok (.istore 6, 2) := by decide +kernel
theorem dX9_mostAlike_24 : decode cX9_mostAlike 24 = .ok (.iload_n 1, 1) := by decide +kernel
theorem dX9_mostAlike_25 : decode cX9_mostAlike 25 = .ok (.iload 4, 2) := by decide +kernel
theorem dX9_mostAlike_27 : decode cX9_mostAlike 27 = .ok (.ishr, 1) := by decide +kernel
theorem dX9_mostAlike_28 : decode cX9_mostAlike 28 = .ok (.iconst 1, 1) := by decide +kernel
theorem dX9_mostAlike_29 : decode cX9_mostAlike 29 = .ok (.iand, 1) := by decide +kernel
theorem dX9_mostAlike_30 : decode cX9_mostAlike 30 = .ok (.ifCond .eq 60, 3) := by decide +kernel
theorem dX9_mostAlike_33 : decode cX9_mostAlike 33 = .ok (.iload 6, 2) := by decide +kernel
theorem dX9_mostAlike_35 : decode cX9_mostAlike 35 = .ok (.aload_n 0, 1) := by decide +kernel
theorem dX9_mostAlike_36 : decode cX9_mostAlike 36 = .ok (.getfield 12, 3) := by decide +kernel
theorem dX9_mostAlike_39 : decode cX9_mostAlike 39 = .ok (.getfield 113, 3) := by decide +kernel
theorem dX9_mostAlike_42 : decode cX9_mostAlike 42 = .ok (.if_icmp .ge 48, 3) := by decide +kernel
theorem dX9_mostAlike_45 : decode cX9_mostAlike 45 = .ok (.iload_n 1, 1) := by decide +kernel
theorem dX9_mostAlike_46 : decode cX9_mostAlike 46 = .ok (.iload 6, 2) := by decide +kernel
theorem dX9_mostAlike_48 : decode cX9_mostAlike 48 = .ok (.ishr, 1) := by decide +kernel
theorem dX9_mostAlike_49 : decode cX9_mostAlike 49 = .ok (.iconst 1, 1) := by decide +kernel
theorem dX9_mostAlike_50 : decode cX9_mostAlike 50 = .ok (.iand, 1) := by decide +kernel
theorem dX9_mostAlike_51 : decode cX9_mostAlike 51 = .ok (.ifCond .eq 33, 3) := by decide +kernel
theorem dX9_mostAlike_54 : decode cX9_mostAlike 54 = .ok (.aload_n 0, 1) := by decide +kernel
theorem dX9_mostAlike_55 : decode cX9_mostAlike 55 = .ok (.getfield 62, 3) := by decide +kernel
theorem dX9_mostAlike_58 : decode cX9_mostAlike 58 = .ok (.iload 6, 2) := by decide +kernel
theorem dX9_mostAlike_60 : decode cX9_mostAlike 60 = .ok (.bipush 16, 2) := by decide +kernel
theorem dX9_mostAlike_62 : decode cX9_mostAlike 62 = .ok (.imul, 1) := by decide +kernel
theorem dX9_mostAlike_63 : decode cX9_mostAlike 63 = .ok (.iload_n 2, 1) := by decide +kernel
theorem dX9_mostAlike_64 : decode cX9_mostAlike 64 = .ok (.iadd, 1) := by decide +kernel
theorem dX9_mostAlike_65 : decode cX9_mostAlike 65 = .ok (.baload, 1) := by decide +kernel
theorem dX9_mostAlike_66 : decode cX9_mostAlike 66 = .ok (.aload_n 0, 1) := by decide +kernel
theorem dX9_mostAlike_67 : decode cX9_mostAlike 67 = .ok (.getfield 62, 3) := by decide +kernel
theorem dX9_mostAlike_70 : decode cX9_mostAlike 70 = .ok (.iload 4, 2) := by decide +kernel
theorem dX9_mostAlike_72 : decode cX9_mostAlike 72 = .ok (.bipush 16, 2) := by decide +kernel
theorem dX9_mostAlike_74 : decode cX9_mostAlike 74 = .ok (.imul, 1) := by decide +kernel
theorem dX9_mostAlike_75 : decode cX9_mostAlike 75 = .ok (.iload_n 2, 1) := by decide +kernel
theorem dX9_mostAlike_76 : decode cX9_mostAlike 76 = .ok (.iadd, 1) := by decide +kernel
theorem dX9_mostAlike_77 : decode cX9_mostAlike 77 = .ok (.baload, 1) := by decide +kernel
theorem dX9_mostAlike_78 : decode cX9_mostAlike 78 = .ok (.if_icmp .ne 6, 3) := by decide +kernel
theorem dX9_mostAlike_81 : decode cX9_mostAlike 81 = .ok (.iinc 5 1, 3) := by decide +kernel
theorem dX9_mostAlike_84 : decode cX9_mostAlike 84 = .ok (.iinc 6 1, 3) := by decide +kernel
theorem dX9_mostAlike_87 : decode cX9_mostAlike 87 = .ok (.goto (-63), 3) := by decide +kernel
theorem dX9_mostAlike_90 : decode cX9_mostAlike 90 = .ok (.iload_n 3, 1) := by decide +kernel
theorem dX9_mostAlike_91 : decode cX9_mostAlike 91 = .ok (.iload 5, 2) := by decide +kernel
theorem dX9_mostAlike_93 : decode cX9_mostAlike 93 = .ok (.invokestatic 363, 3) := by decide +kernel
theorem dX9_mostAlike_96 : decode cX9_mostAlike 96 = .ok (.istore_n 3, 1) := by decide +kernel
theorem dX9_mostAlike_97 : decode cX9_mostAlike 97 = .ok (.iinc 4 1, 3) := by decide +kernel
theorem dX9_mostAlike_100 : decode cX9_mostAlike 100 = .ok (.goto (-95), 3) := by decide +kernel
theorem dX9_mostAlike_103 : decode cX9_mostAlike 103 = .ok (.iload_n 3, 1) := by decide +kernel
theorem dX9_mostAlike_104 : decode cX9_mostAlike 104 = .ok (.ireturn, 1) := by decide +kernel
theorem dX9_storm_0 : decode cX9_storm 0 = .ok (.aload_n 0, 1) := by decide +kernel
theorem dX9_storm_1 : decode cX9_storm 1 = .ok (.iload_n 2, 1) := by decide +kernel
theorem dX9_storm_2 : decode cX9_storm 2 = .ok (.iconst 1, 1) := by decide +kernel
theorem dX9_storm_3 : decode cX9_storm 3 = .ok (.bipush 96, 2) := by decide +kernel
theorem dX9_storm_5 : decode cX9_storm 5 = .ok (.invokevirtual 368, 3) := by decide +kernel
theorem dX9_storm_8 : decode cX9_storm 8 = .ok (.aload_n 0, 1) := by decide +kernel
theorem dX9_storm_9 : decode cX9_storm 9 = .ok (.iload_n 3, 1) := by decide +kernel
theorem dX9_storm_10 : decode cX9_storm 10 = .ok (.iconst 0, 1) := by decide +kernel
theorem dX9_storm_11 : decode cX9_storm 11 = .ok (.bipush 16, 2) := by decide +kernel
theorem dX9_storm_13 : decode cX9_storm 13 = .ok (.invokevirtual 368, 3) := by decide +kernel
theorem dX9_storm_16 : decode cX9_storm 16 = .ok (.aload_n 0, 1) := by decide +kernel
theorem dX9_storm_17 : decode cX9_storm 17 = .ok (.iload 4, 2) := by decide +kernel
theorem dX9_storm_19 : decode cX9_storm 19 = .ok (.iconst 3, 1) := by decide +kernel
theorem dX9_storm_20 : decode cX9_storm 20 = .ok (.invokevirtual 195, 3) := by decide +kernel
theorem dX9_storm_23 : decode cX9_storm 23 = .ok (.aload_n 0, 1) := by decide +kernel
theorem dX9_storm_24 : decode cX9_storm 24 = .ok (.iload_n 1, 1) := by decide +kernel
theorem dX9_storm_25 : decode cX9_storm 25 = .ok (.iload_n 2, 1) := by decide +kernel
theorem dX9_storm_26 : decode cX9_storm 26 = .ok (.iload_n 3, 1) := by decide +kernel
theorem dX9_storm_27 : decode cX9_storm 27 = .ok (.invokevirtual 372, 3) := by decide +kernel
theorem dX9_storm_30 : decode cX9_storm 30 = .ok (.astore 5, 2) := by decide +kernel
theorem dX9_storm_32 : decode cX9_storm 32 = .ok (.iload 4, 2) := by decide +kernel
theorem dX9_storm_34 : decode cX9_storm 34 = .ok (.tableswitch 57 0 2 #[26, 36, 43], 26) := by decide +kernel
theorem dX9_storm_60 : decode cX9_storm 60 = .ok (.aload 5, 2) := by decide +kernel
theorem dX9_storm_62 : decode cX9_storm 62 = .ok (.iconst 1, 1) := by decide +kernel
theorem dX9_storm_63 : decode cX9_storm 63 = .ok (.invokestatic 258, 3) := by decide +kernel
theorem dX9_storm_66 : decode cX9_storm 66 = .ok (.invokestatic 333, 3) := by decide +kernel
theorem dX9_storm_69 : decode cX9_storm 69 = .ok (.ireturn, 1) := by decide +kernel
theorem dX9_storm_70 : decode cX9_storm 70 = .ok (.aload 5, 2) := by decide +kernel
theorem dX9_storm_72 : decode cX9_storm 72 = .ok (.iconst 1, 1) := by decide +kernel
theorem dX9_storm_73 : decode cX9_storm 73 = .ok (.invokestatic 261, 3) := by decide +kernel
theorem dX9_storm_76 : decode cX9_storm 76 = .ok (.ireturn, 1) := by decide +kernel
theorem dX9_storm_77 : decode cX9_storm 77 = .ok (.aload 5, 2) := by decide +kernel
theorem dX9_storm_79 : decode cX9_storm 79 = .ok (.getfield 208, 3) := by decide +kernel
theorem dX9_storm_82 : decode cX9_storm 82 = .ok (.aload_n 0, 1) := by decide +kernel
theorem dX9_storm_83 : decode cX9_storm 83 = .ok (.getfield 12, 3) := by decide +kernel
theorem dX9_storm_86 : decode cX9_storm 86 = .ok (.getfield 208, 3) := by decide +kernel
theorem dX9_storm_89 : decode cX9_storm 89 = .ok (.isub, 1) := by decide +kernel
theorem dX9_storm_90 : decode cX9_storm 90 = .ok (.ireturn, 1) := by decide +kernel
theorem dX9_storm_91 : decode cX9_storm 91 = .ok (.aload 5, 2) := by decide +kernel
theorem dX9_storm_93 : decode cX9_storm 93 = .ok (.iconst 1, 1) := by decide +kernel
theorem dX9_storm_94 : decode cX9_storm 94 = .ok (.invokestatic 264, 3) := by decide +kernel
theorem dX9_storm_97 : decode cX9_storm 97 = .ok (.aload 5, 2) := by decide +kernel
theorem dX9_storm_99 : decode cX9_storm 99 = .ok (.iconst 1, 1) := by decide +kernel
theorem dX9_storm_100 : decode cX9_storm 100 = .ok (.invokestatic 267, 3) := by decide +kernel
theorem dX9_storm_103 : decode cX9_storm 103 = .ok (.iadd, 1) := by decide +kernel
theorem dX9_storm_104 : decode cX9_storm 104 = .ok (.ireturn, 1) := by decide +kernel
theorem dX9_span_0 : decode cX9_span 0 = .ok (.aload_n 0, 1) := by decide +kernel
theorem dX9_span_1 : decode cX9_span 1 = .ok (.iload 6, 2) := by decide +kernel
theorem dX9_span_3 : decode cX9_span 3 = .ok (.invokevirtual 233, 3) := by decide +kernel
theorem dX9_span_6 : decode cX9_span 6 = .ok (.aload_n 0, 1) := by decide +kernel
theorem dX9_span_7 : decode cX9_span 7 = .ok (.iload_n 2, 1) := by decide +kernel
theorem dX9_span_8 : decode cX9_span 8 = .ok (.iconst 1, 1) := by decide +kernel
theorem dX9_span_9 : decode cX9_span 9 = .ok (.iconst 5, 1) := by decide +kernel
theorem dX9_span_10 : decode cX9_span 10 = .ok (.invokevirtual 368, 3) := by decide +kernel
theorem dX9_span_13 : decode cX9_span 13 = .ok (.aload_n 0, 1) := by decide +kernel
theorem dX9_span_14 : decode cX9_span 14 = .ok (.iload_n 3, 1) := by decide +kernel
theorem dX9_span_15 : decode cX9_span 15 = .ok (.iconst 1, 1) := by decide +kernel
theorem dX9_span_16 : decode cX9_span 16 = .ok (.bipush 96, 2) := by decide +kernel
theorem dX9_span_18 : decode cX9_span 18 = .ok (.invokevirtual 368, 3) := by decide +kernel
theorem dX9_span_21 : decode cX9_span 21 = .ok (.aload_n 0, 1) := by decide +kernel
theorem dX9_span_22 : decode cX9_span 22 = .ok (.iload 4, 2) := by decide +kernel
theorem dX9_span_24 : decode cX9_span 24 = .ok (.iconst 0, 1) := by decide +kernel
theorem dX9_span_25 : decode cX9_span 25 = .ok (.bipush 16, 2) := by decide +kernel
theorem dX9_span_27 : decode cX9_span 27 = .ok (.invokevirtual 368, 3) := by decide +kernel
theorem dX9_span_30 : decode cX9_span 30 = .ok (.aload_n 0, 1) := by decide +kernel
theorem dX9_span_31 : decode cX9_span 31 = .ok (.iload 5, 2) := by decide +kernel
theorem dX9_span_33 : decode cX9_span 33 = .ok (.iconst 2, 1) := by decide +kernel
theorem dX9_span_34 : decode cX9_span 34 = .ok (.invokevirtual 195, 3) := by decide +kernel
theorem dX9_span_37 : decode cX9_span 37 = .ok (.bipush 16, 2) := by decide +kernel
theorem dX9_span_39 : decode cX9_span 39 = .ok (.istore 7, 2) := by decide +kernel
theorem dX9_span_41 : decode cX9_span 41 = .ok (.iconst 0, 1) := by decide +kernel
theorem dX9_span_42 : decode cX9_span 42 = .ok (.istore 8, 2) := by decide +kernel
theorem dX9_span_44 : decode cX9_span 44 = .ok (.iconst 0, 1) := by decide +kernel
theorem dX9_span_45 : decode cX9_span 45 = .ok (.istore 9, 2) := by decide +kernel
theorem dX9_span_47 : decode cX9_span 47 = .ok (.iconst 0, 1) := by decide +kernel
theorem dX9_span_48 : decode cX9_span 48 = .ok (.istore 10, 2) := by decide +kernel
theorem dX9_span_50 : decode cX9_span 50 = .ok (.iload 10, 2) := by decide +kernel
theorem dX9_span_52 : decode cX9_span 52 = .ok (.iload_n 2, 1) := by decide +kernel
theorem dX9_span_53 : decode cX9_span 53 = .ok (.if_icmp .ge 67, 3) := by decide +kernel
theorem dX9_span_56 : decode cX9_span 56 = .ok (.aload_n 0, 1) := by decide +kernel
theorem dX9_span_57 : decode cX9_span 57 = .ok (.iload_n 1, 1) := by decide +kernel
theorem dX9_span_58 : decode cX9_span 58 = .ok (.iload 10, 2) := by decide +kernel
theorem dX9_span_60 : decode cX9_span 60 = .ok (.iadd, 1) := by decide +kernel
theorem dX9_span_61 : decode cX9_span 61 = .ok (.iload_n 3, 1) := by decide +kernel
theorem dX9_span_62 : decode cX9_span 62 = .ok (.iload 4, 2) := by decide +kernel
theorem dX9_span_64 : decode cX9_span 64 = .ok (.invokevirtual 372, 3) := by decide +kernel
theorem dX9_span_67 : decode cX9_span 67 = .ok (.astore 11, 2) := by decide +kernel
theorem dX9_span_69 : decode cX9_span 69 = .ok (.aload 11, 2) := by decide +kernel
theorem dX9_span_71 : decode cX9_span 71 = .ok (.iconst 1, 1) := by decide +kernel
theorem dX9_span_72 : decode cX9_span 72 = .ok (.invokestatic 258, 3) := by decide +kernel
theorem dX9_span_75 : decode cX9_span 75 = .ok (.invokestatic 333, 3) := by decide +kernel
theorem dX9_span_78 : decode cX9_span 78 = .ok (.istore 12, 2) := by decide +kernel
theorem dX9_span_80 : decode cX9_span 80 = .ok (.iload 7, 2) := by decide +kernel
theorem dX9_span_82 : decode cX9_span 82 = .ok (.iload 12, 2) := by decide +kernel
theorem dX9_span_84 : decode cX9_span 84 = .ok (.invokestatic 376, 3) := by decide +kernel
theorem dX9_span_87 : decode cX9_span 87 = .ok (.istore 7, 2) := by decide +kernel
theorem dX9_span_89 : decode cX9_span 89 = .ok (.iload 8, 2) := by decide +kernel
theorem dX9_span_91 : decode cX9_span 91 = .ok (.iload 12, 2) := by decide +kernel
theorem dX9_span_93 : decode cX9_span 93 = .ok (.invokestatic 363, 3) := by decide +kernel
theorem dX9_span_96 : decode cX9_span 96 = .ok (.istore 8, 2) := by decide +kernel
theorem dX9_span_98 : decode cX9_span 98 = .ok (.iload 9, 2) := by decide +kernel
theorem dX9_span_100 : decode cX9_span 100 = .ok (.aload 11, 2) := by decide +kernel
theorem dX9_span_102 : decode cX9_span 102 = .ok (.iconst 1, 1) := by decide +kernel
theorem dX9_span_103 : decode cX9_span 103 = .ok (.invokestatic 261, 3) := by decide +kernel
theorem dX9_span_106 : decode cX9_span 106 = .ok (.iload 6, 2) := by decide +kernel
theorem dX9_span_108 : decode cX9_span 108 = .ok (.ishr, 1) := by decide +kernel
theorem dX9_span_109 : decode cX9_span 109 = .ok (.iconst 1, 1) := by decide +kernel
theorem dX9_span_110 : decode cX9_span 110 = .ok (.iand, 1) := by decide +kernel
theorem dX9_span_111 : decode cX9_span 111 = .ok (.iadd, 1) := by decide +kernel
theorem dX9_span_112 : decode cX9_span 112 = .ok (.istore 9, 2) := by decide +kernel
theorem dX9_span_114 : decode cX9_span 114 = .ok (.iinc 10 1, 3) := by decide +kernel
theorem dX9_span_117 : decode cX9_span 117 = .ok (.goto (-67), 3) := by decide +kernel
theorem dX9_span_120 : decode cX9_span 120 = .ok (.iload 5, 2) := by decide +kernel
theorem dX9_span_122 : decode cX9_span 122 = .ok (.ifCond .ne 6, 3) := by decide +kernel
theorem dX9_span_125 : decode cX9_span 125 = .ok (.iload 7, 2) := by decide +kernel
theorem dX9_span_127 : decode cX9_span 127 = .ok (.ireturn, 1) := by decide +kernel
theorem dX9_span_128 : decode cX9_span 128 = .ok (.iload 5, 2) := by decide +kernel
theorem dX9_span_130 : decode cX9_span 130 = .ok (.iconst 1, 1) := by decide +kernel
theorem dX9_span_131 : decode cX9_span 131 = .ok (.if_icmp .ne 8, 3) := by decide +kernel
theorem dX9_span_134 : decode cX9_span 134 = .ok (.iload 8, 2) := by decide +kernel
theorem dX9_span_136 : decode cX9_span 136 = .ok (.goto 5, 3) := by decide +kernel
theorem dX9_span_139 : decode cX9_span 139 = .ok (.iload 9, 2) := by decide +kernel
theorem dX9_span_141 : decode cX9_span 141 = .ok (.ireturn, 1) := by decide +kernel
theorem dX9_blow_0 : decode cX9_blow 0 = .ok (.aload_n 0, 1) := by decide +kernel
theorem dX9_blow_1 : decode cX9_blow 1 = .ok (.getfield 29, 3) := by decide +kernel
theorem dX9_blow_4 : decode cX9_blow 4 = .ok (.iconst 0, 1) := by decide +kernel
theorem dX9_blow_5 : decode cX9_blow 5 = .ok (.aaload, 1) := by decide +kernel
theorem dX9_blow_6 : decode cX9_blow 6 = .ok (.astore 4, 2) := by decide +kernel
theorem dX9_blow_8 : decode cX9_blow 8 = .ok (.aload 4, 2) := by decide +kernel
theorem dX9_blow_10 : decode cX9_blow 10 = .ok (.aload_n 0, 1) := by decide +kernel
theorem dX9_blow_11 : decode cX9_blow 11 = .ok (.getfield 12, 3) := by decide +kernel
theorem dX9_blow_14 : decode cX9_blow 14 = .ok (.invokevirtual 326, 3) := by decide +kernel
theorem dX9_blow_17 : decode cX9_blow 17 = .ok (.new 379, 3) := by decide +kernel
theorem dX9_blow_20 : decode cX9_blow 20 = .ok (.dup, 1) := by decide +kernel
theorem dX9_blow_21 : decode cX9_blow 21 = .ok (.iload_n 1, 1) := by decide +kernel
theorem dX9_blow_22 : decode cX9_blow 22 = .ok (.invokespecial 381, 3) := by decide +kernel
theorem dX9_blow_25 : decode cX9_blow 25 = .ok (.astore 5, 2) := by decide +kernel
theorem dX9_blow_27 : decode cX9_blow 27 = .ok (.iconst 0, 1) := by decide +kernel
theorem dX9_blow_28 : decode cX9_blow 28 = .ok (.istore 6, 2) := by decide +kernel
theorem dX9_blow_30 : decode cX9_blow 30 = .ok (.iload 6, 2) := by decide +kernel
theorem dX9_blow_32 : decode cX9_blow 32 = .ok (.iload_n 2, 1) := by decide +kernel
theorem dX9_blow_33 : decode cX9_blow 33 = .ok (.if_icmp .ge 61, 3) := by decide +kernel
theorem dX9_blow_36 : decode cX9_blow 36 = .ok (.aload 5, 2) := by decide +kernel
theorem dX9_blow_38 : decode cX9_blow 38 = .ok (.aload 4, 2) := by decide +kernel
theorem dX9_blow_40 : decode cX9_blow 40 = .ok (.getfield 113, 3) := by decide +kernel
theorem dX9_blow_43 : decode cX9_blow 43 = .ok (.invokevirtual 383, 3) := by decide +kernel
theorem dX9_blow_46 : decode cX9_blow 46 = .ok (.aload_n 0, 1) := by decide +kernel
theorem dX9_blow_47 : decode cX9_blow 47 = .ok (.getfield 43, 3) := by decide +kernel
theorem dX9_blow_50 : decode cX9_blow 50 = .ok (.aload 4, 2) := by decide +kernel
theorem dX9_blow_52 : decode cX9_blow 52 = .ok (.aload 5, 2) := by decide +kernel
theorem dX9_blow_54 : decode cX9_blow 54 = .ok (.getfield 386, 3) := by decide +kernel
theorem dX9_blow_57 : decode cX9_blow 57 = .ok (.aload 5, 2) := by decide +kernel
theorem dX9_blow_59 : decode cX9_blow 59 = .ok (.getfield 388, 3) := by decide +kernel
theorem dX9_blow_62 : decode cX9_blow 62 = .ok (.aload 5, 2) := by decide +kernel
theorem dX9_blow_64 : decode cX9_blow 64 = .ok (.getfield 390, 3) := by decide +kernel
theorem dX9_blow_67 : decode cX9_blow 67 = .ok (.iconst 0, 1) := by decide +kernel
theorem dX9_blow_68 : decode cX9_blow 68 = .ok (.invokevirtual 135, 3) := by decide +kernel
theorem dX9_blow_71 : decode cX9_blow 71 = .ok (.pop, 1) := by decide +kernel
theorem dX9_blow_72 : decode cX9_blow 72 = .ok (.aload 5, 2) := by decide +kernel
theorem dX9_blow_74 : decode cX9_blow 74 = .ok (.bipush 16, 2) := by decide +kernel
theorem dX9_blow_76 : decode cX9_blow 76 = .ok (.invokevirtual 392, 3) := by decide +kernel
theorem dX9_blow_79 : decode cX9_blow 79 = .ok (.iload_n 3, 1) := by decide +kernel
theorem dX9_blow_80 : decode cX9_blow 80 = .ok (.if_icmp .ge 8, 3) := by decide +kernel
theorem dX9_blow_83 : decode cX9_blow 83 = .ok (.aload 4, 2) := by decide +kernel
theorem dX9_blow_85 : decode cX9_blow 85 = .ok (.invokevirtual 349, 3) := by decide +kernel
theorem dX9_blow_88 : decode cX9_blow 88 = .ok (.iinc 6 1, 3) := by decide +kernel
theorem dX9_blow_91 : decode cX9_blow 91 = .ok (.goto (-61), 3) := by decide +kernel
theorem dX9_blow_94 : decode cX9_blow 94 = .ok (.aload 4, 2) := by decide +kernel
theorem dX9_blow_96 : decode cX9_blow 96 = .ok (.areturn, 1) := by decide +kernel
theorem dX9_image_0 : decode cX9_image 0 = .ok (.aload_n 0, 1) := by decide +kernel
theorem dX9_image_1 : decode cX9_image 1 = .ok (.getfield 107, 3) := by decide +kernel
theorem dX9_image_4 : decode cX9_image 4 = .ok (.iconst 3, 1) := by decide +kernel
theorem dX9_image_5 : decode cX9_image 5 = .ok (.if_icmp .lt 5, 3) := by decide +kernel
theorem dX9_image_8 : decode cX9_image 8 = .ok (.iconst (-1), 1) := by decide +kernel
theorem dX9_image_9 : decode cX9_image 9 = .ok (.ireturn, 1) := by decide +kernel
theorem dX9_image_10 : decode cX9_image 10 = .ok (.aload_n 0, 1) := by decide +kernel
theorem dX9_image_11 : decode cX9_image 11 = .ok (.getfield 25, 3) := by decide +kernel
theorem dX9_image_14 : decode cX9_image 14 = .ok (.aload_n 0, 1) := by decide +kernel
theorem dX9_image_15 : decode cX9_image 15 = .ok (.getfield 107, 3) := by decide +kernel
theorem dX9_image_18 : decode cX9_image 18 = .ok (.aaload, 1) := by decide +kernel
theorem dX9_image_19 : decode cX9_image 19 = .ok (.ifnonnull 19, 3) := by decide +kernel
theorem dX9_image_22 : decode cX9_image 22 = .ok (.aload_n 0, 1) := by decide +kernel
theorem dX9_image_23 : decode cX9_image 23 = .ok (.getfield 25, 3) := by decide +kernel
theorem dX9_image_26 : decode cX9_image 26 = .ok (.aload_n 0, 1) := by decide +kernel
theorem dX9_image_27 : decode cX9_image 27 = .ok (.getfield 107, 3) := by decide +kernel
theorem dX9_image_30 : decode cX9_image 30 = .ok (.new 23, 3) := by decide +kernel
theorem dX9_image_33 : decode cX9_image 33 = .ok (.dup, 1) := by decide +kernel
theorem dX9_image_34 : decode cX9_image 34 = .ok (.invokespecial 395, 3) := by decide +kernel
theorem dX9_image_37 : decode cX9_image 37 = .ok (.aastore, 1) := by decide +kernel
theorem dX9_image_38 : decode cX9_image 38 = .ok (.aload_n 0, 1) := by decide +kernel
theorem dX9_image_39 : decode cX9_image 39 = .ok (.getfield 25, 3) := by decide +kernel
theorem dX9_image_42 : decode cX9_image 42 = .ok (.aload_n 0, 1) := by decide +kernel
theorem dX9_image_43 : decode cX9_image 43 = .ok (.getfield 107, 3) := by decide +kernel
theorem dX9_image_46 : decode cX9_image 46 = .ok (.aaload, 1) := by decide +kernel
theorem dX9_image_47 : decode cX9_image 47 = .ok (.getfield 396, 3) := by decide +kernel
theorem dX9_image_50 : decode cX9_image 50 = .ok (.aload_n 0, 1) := by decide +kernel
theorem dX9_image_51 : decode cX9_image 51 = .ok (.getfield 12, 3) := by decide +kernel
theorem dX9_image_54 : decode cX9_image 54 = .ok (.invokevirtual 326, 3) := by decide +kernel
theorem dX9_image_57 : decode cX9_image 57 = .ok (.aload_n 0, 1) := by decide +kernel
theorem dX9_image_58 : decode cX9_image 58 = .ok (.getfield 25, 3) := by decide +kernel
theorem dX9_image_61 : decode cX9_image 61 = .ok (.aload_n 0, 1) := by decide +kernel
theorem dX9_image_62 : decode cX9_image 62 = .ok (.getfield 107, 3) := by decide +kernel
theorem dX9_image_65 : decode cX9_image 65 = .ok (.aaload, 1) := by decide +kernel
theorem dX9_image_66 : decode cX9_image 66 = .ok (.getfield 399, 3) := by decide +kernel
theorem dX9_image_69 : decode cX9_image 69 = .ok (.aload_n 0, 1) := by decide +kernel
theorem dX9_image_70 : decode cX9_image 70 = .ok (.getfield 19, 3) := by decide +kernel
theorem dX9_image_73 : decode cX9_image 73 = .ok (.invokevirtual 400, 3) := by decide +kernel
theorem dX9_image_76 : decode cX9_image 76 = .ok (.aload_n 0, 1) := by decide +kernel
theorem dX9_image_77 : decode cX9_image 77 = .ok (.dup, 1) := by decide +kernel
theorem dX9_image_78 : decode cX9_image 78 = .ok (.getfield 107, 3) := by decide +kernel
theorem dX9_image_81 : decode cX9_image 81 = .ok (.iconst 1, 1) := by decide +kernel
theorem dX9_image_82 : decode cX9_image 82 = .ok (.iadd, 1) := by decide +kernel
theorem dX9_image_83 : decode cX9_image 83 = .ok (.putfield 107, 3) := by decide +kernel
theorem dX9_image_86 : decode cX9_image 86 = .ok (.aload_n 0, 1) := by decide +kernel
theorem dX9_image_87 : decode cX9_image 87 = .ok (.getfield 107, 3) := by decide +kernel
theorem dX9_image_90 : decode cX9_image 90 = .ok (.ireturn, 1) := by decide +kernel
theorem dX9_restore_0 : decode cX9_restore 0 = .ok (.aload_n 0, 1) := by decide +kernel
theorem dX9_restore_1 : decode cX9_restore 1 = .ok (.getfield 107, 3) := by decide +kernel
theorem dX9_restore_4 : decode cX9_restore 4 = .ok (.ifCond .le 17, 3) := by decide +kernel
theorem dX9_restore_7 : decode cX9_restore 7 = .ok (.aload_n 0, 1) := by decide +kernel
theorem dX9_restore_8 : decode cX9_restore 8 = .ok (.getfield 25, 3) := by decide +kernel
theorem dX9_restore_11 : decode cX9_restore 11 = .ok (.aload_n 0, 1) := by decide +kernel
theorem dX9_restore_12 : decode cX9_restore 12 = .ok (.getfield 107, 3) := by decide +kernel
theorem dX9_restore_15 : decode cX9_restore 15 = .ok (.iconst 1, 1) := by decide +kernel
theorem dX9_restore_16 : decode cX9_restore 16 = .ok (.isub, 1) := by decide +kernel
theorem dX9_restore_17 : decode cX9_restore 17 = .ok (.aaload, 1) := by decide +kernel
theorem dX9_restore_18 : decode cX9_restore 18 = .ok (.ifnonnull 5, 3) := by decide +kernel
theorem dX9_restore_21 : decode cX9_restore 21 = .ok (.iconst (-1), 1) := by decide +kernel
theorem dX9_restore_22 : decode cX9_restore 22 = .ok (.ireturn, 1) := by decide +kernel
theorem dX9_restore_23 : decode cX9_restore 23 = .ok (.aload_n 0, 1) := by decide +kernel
theorem dX9_restore_24 : decode cX9_restore 24 = .ok (.dup, 1) := by decide +kernel
theorem dX9_restore_25 : decode cX9_restore 25 = .ok (.getfield 107, 3) := by decide +kernel
theorem dX9_restore_28 : decode cX9_restore 28 = .ok (.iconst 1, 1) := by decide +kernel
theorem dX9_restore_29 : decode cX9_restore 29 = .ok (.isub, 1) := by decide +kernel
theorem dX9_restore_30 : decode cX9_restore 30 = .ok (.putfield 107, 3) := by decide +kernel
theorem dX9_restore_33 : decode cX9_restore 33 = .ok (.aload_n 0, 1) := by decide +kernel
theorem dX9_restore_34 : decode cX9_restore 34 = .ok (.getfield 12, 3) := by decide +kernel
theorem dX9_restore_37 : decode cX9_restore 37 = .ok (.aload_n 0, 1) := by decide +kernel
theorem dX9_restore_38 : decode cX9_restore 38 = .ok (.getfield 25, 3) := by decide +kernel
theorem dX9_restore_41 : decode cX9_restore 41 = .ok (.aload_n 0, 1) := by decide +kernel
theorem dX9_restore_42 : decode cX9_restore 42 = .ok (.getfield 107, 3) := by decide +kernel
theorem dX9_restore_45 : decode cX9_restore 45 = .ok (.aaload, 1) := by decide +kernel
theorem dX9_restore_46 : decode cX9_restore 46 = .ok (.getfield 396, 3) := by decide +kernel
theorem dX9_restore_49 : decode cX9_restore 49 = .ok (.invokevirtual 326, 3) := by decide +kernel
theorem dX9_restore_52 : decode cX9_restore 52 = .ok (.aload_n 0, 1) := by decide +kernel
theorem dX9_restore_53 : decode cX9_restore 53 = .ok (.getfield 19, 3) := by decide +kernel
theorem dX9_restore_56 : decode cX9_restore 56 = .ok (.aload_n 0, 1) := by decide +kernel
theorem dX9_restore_57 : decode cX9_restore 57 = .ok (.getfield 25, 3) := by decide +kernel
theorem dX9_restore_60 : decode cX9_restore 60 = .ok (.aload_n 0, 1) := by decide +kernel
theorem dX9_restore_61 : decode cX9_restore 61 = .ok (.getfield 107, 3) := by decide +kernel
theorem dX9_restore_64 : decode cX9_restore 64 = .ok (.aaload, 1) := by decide +kernel
theorem dX9_restore_65 : decode cX9_restore 65 = .ok (.getfield 399, 3) := by decide +kernel
theorem dX9_restore_68 : decode cX9_restore 68 = .ok (.invokevirtual 400, 3) := by decide +kernel
theorem dX9_restore_71 : decode cX9_restore 71 = .ok (.aload_n 0, 1) := by decide +kernel
theorem dX9_restore_72 : decode cX9_restore 72 = .ok (.iconst 0, 1) := by decide +kernel
theorem dX9_restore_73 : decode cX9_restore 73 = .ok (.putfield 110, 3) := by decide +kernel
theorem dX9_restore_76 : decode cX9_restore 76 = .ok (.aload_n 0, 1) := by decide +kernel
theorem dX9_restore_77 : decode cX9_restore 77 = .ok (.getfield 107, 3) := by decide +kernel
theorem dX9_restore_80 : decode cX9_restore 80 = .ok (.ireturn, 1) := by decide +kernel
theorem dX9_status_0 : decode cX9_status 0 = .ok (.iload_n 1, 1) := by decide +kernel
theorem dX9_status_1 : decode cX9_status 1 = .ok (.ifCond .lt 21, 3) := by decide +kernel
theorem dX9_status_4 : decode cX9_status 4 = .ok (.iload_n 1, 1) := by decide +kernel
theorem dX9_status_5 : decode cX9_status 5 = .ok (.aload_n 0, 1) := by decide +kernel
theorem dX9_status_6 : decode cX9_status 6 = .ok (.getfield 68, 3) := by decide +kernel
theorem dX9_status_9 : decode cX9_status 9 = .ok (.arraylength, 1) := by decide +kernel
theorem dX9_status_10 : decode cX9_status 10 = .ok (.if_icmp .ge 12, 3) := by decide +kernel
theorem dX9_status_13 : decode cX9_status 13 = .ok (.aload_n 0, 1) := by decide +kernel
theorem dX9_status_14 : decode cX9_status 14 = .ok (.getfield 68, 3) := by decide +kernel
theorem dX9_status_17 : decode cX9_status 17 = .ok (.iload_n 1, 1) := by decide +kernel
theorem dX9_status_18 : decode cX9_status 18 = .ok (.iaload, 1) := by decide +kernel
theorem dX9_status_19 : decode cX9_status 19 = .ok (.goto 4, 3) := by decide +kernel
theorem dX9_status_22 : decode cX9_status 22 = .ok (.iconst (-1), 1) := by decide +kernel
theorem dX9_status_23 : decode cX9_status 23 = .ok (.ireturn, 1) := by decide +kernel
theorem dX9_count_0 : decode cX9_count 0 = .ok (.iload_n 1, 1) := by decide +kernel
theorem dX9_count_1 : decode cX9_count 1 = .ok (.tableswitch 45 0 2 #[27, 32, 37], 27) := by decide +kernel
theorem dX9_count_28 : decode cX9_count 28 = .ok (.aload_n 0, 1) := by decide +kernel
theorem dX9_count_29 : decode cX9_count 29 = .ok (.getfield 107, 3) := by decide +kernel
theorem dX9_count_32 : decode cX9_count 32 = .ok (.ireturn, 1) := by decide +kernel
theorem dX9_count_33 : decode cX9_count 33 = .ok (.aload_n 0, 1) := by decide +kernel
theorem dX9_count_34 : decode cX9_count 34 = .ok (.getfield 78, 3) := by decide +kernel
theorem dX9_count_37 : decode cX9_count 37 = .ok (.ireturn, 1) := by decide +kernel
theorem dX9_count_38 : decode cX9_count 38 = .ok (.aload_n 0, 1) := by decide +kernel
theorem dX9_count_39 : decode cX9_count 39 = .ok (.getfield 19, 3) := by decide +kernel
theorem dX9_count_42 : decode cX9_count 42 = .ok (.getfield 104, 3) := by decide +kernel
theorem dX9_count_45 : decode cX9_count 45 = .ok (.ireturn, 1) := by decide +kernel
theorem dX9_count_46 : decode cX9_count 46 = .ok (.iconst (-1), 1) := by decide +kernel
theorem dX9_count_47 : decode cX9_count 47 = .ok (.ireturn, 1) := by decide +kernel
theorem dX9_testWhat_0 : decode cX9_testWhat 0 = .ok (.aload_n 0, 1) := by decide +kernel
theorem dX9_testWhat_1 : decode cX9_testWhat 1 = .ok (.iload_n 1, 1) := by decide +kernel
theorem dX9_testWhat_2 : decode cX9_testWhat 2 = .ok (.iconst 0, 1) := by decide +kernel
theorem dX9_testWhat_3 : decode cX9_testWhat 3 = .ok (.iload_n 2, 1) := by decide +kernel
theorem dX9_testWhat_4 : decode cX9_testWhat 4 = .ok (.invokevirtual 368, 3) := by decide +kernel
theorem dX9_testWhat_7 : decode cX9_testWhat 7 = .ok (.return_, 1) := by decide +kernel
theorem eX9_init {G : GG} {d : Nat} {h : Hp} {o : OU} {h' : Hp} (r0 : Nat) (hd : 1 ≤ d) (T : r0 ≠ 0 ∧ (∀ h2 : Hp, h2 = (nwH h 15 0 16) → (nH h) ≠ 0 ∧ ∃ h4, VM G mX5_init (d - 1) [.ref (nH h)] h2 (.inl none) h4 ∧ kH h4 r0 = 19 ∧ (∀ h8 : Hp, h8 = (sR h4 r0 0 (nH h)) → (∀ h10 : Hp, h10 = (nwH h8 10 0 2) → (nH h8) ≠ 0 ∧ ∃ h12, VM G mX0_init (d - 1) [.ref (nH h8)] h10 (.inl none) h12 ∧ kH h12 r0 = 19 ∧ (∀ h16 : Hp, h16 = (sR h12 r0 1 (nH h8)) → (∀ h18 : Hp, h18 = (nwH h16 6 3 3) → kH h18 r0 = 19 ∧ (∀ h21 : Hp, h21 = (sR h18 r0 2 (nH h16)) → (∀ h23 : Hp, h23 = (nwH h21 5 5 5) → kH h23 r0 = 19 ∧ (∀ h26 : Hp, h26 = (sR h23 r0 3 (nH h21)) → (∀ h28 : Hp, h28 = (nwH h26 12 0 6) → (nH h26) ≠ 0 ∧ ∃ h30, VM G mX2_init (d - 1) [.ref (nH h26)] h28 (.inl none) h30 ∧ kH h30 r0 = 19 ∧ (∀ h34 : Hp, h34 = (sR h30 r0 4 (nH h26)) → (∀ h36 : Hp, h36 = (nwH h34 16 0 1) → (nH h34) ≠ 0 ∧ ∃ h38, VM G mX6_init (d - 1) [.ref (nH h34)] h36 (.inl none) h38 ∧ kH h38 r0 = 19 ∧ (∀ h42 : Hp, h42 = (sR h38 r0 5 (nH h34)) → (∀ h44 : Hp, h44 = (nwH h42 2 600 600) → kH h44 r0 = 19 ∧ (∀ h47 : Hp, h47 = (sR h44 r0 6 (nH h42)) → (∀ h49 : Hp, h49 = (nwH h47 13 0 10) → (nH h47) ≠ 0 ∧ ∃ h51, VM G mX3_init (d - 1) [.ref (nH h47)] h49 (.inl none) h51 ∧ kH h51 r0 = 19 ∧ (∀ h55 : Hp, h55 = (sR h51 r0 7 (nH h47)) → (∀ h57 : Hp, h57 = (nwH h55 1 16 16) → kH h57 r0 = 19 ∧ (∀ h60 : Hp, h60 = (sR h57 r0 8 (nH h55)) → (∀ h62 : Hp, h62 = (nwH h60 2 256 256) → kH h62 r0 = 19 ∧ (∀ h65 : Hp, h65 = (sR h62 r0 9 (nH h60)) → (∀ h67 : Hp, h67 = (nwH h65 1 12 12) → kH h67 r0 = 19 ∧ (∀ h70 : Hp, h70 = (sR h67 r0 16 (nH h65)) → (∀ h72 : Hp, h72 = (nwH h70 1 4 4) → kH h72 r0 = 19 ∧ (∀ h75 : Hp, h75 = (sR h72 r0 10 (nH h70)) → kH h75 r0 = 19 ∧ V G mX9_init d 123 [.ref r0, .int 0] [] (h75.1, (upI h75.2 r0 14 (-1))) o h'))))))))))))))))))))))))) : VM G mX9_init d [.ref r0] h o h' := by
  refine V.toM rfl rfl (le_l rfl) (cat_all rfl) ?_
  show V G mX9_init d 0 [.ref r0, uV] [] h o h'
  have hdd : d - 1 + 1 ≤ d := by omega
  refine v_aload_n (pc' := 1) dX9_init_0 rfl rfl ?_
  obtain ⟨q1, T⟩ := T
  refine v_objInit (pc' := 4) dX9_init_1 rfl km_X9_3 kx_oi kx_oc hd (le_l rfl) q1 ?_
  refine v_aload_n (pc' := 5) dX9_init_4 rfl rfl ?_
  refine v_new (pc' := 8) 5 dX9_init_5 rfl (by decide) kk_X9_9 kb_X5 kn_X5 ?_
  show V G mX9_init d 8 [.ref r0, uV] [.ref (nH h), .ref r0] (nwH h 15 0 16) o h'
  obtain ⟨h2, e3⟩ : ∃ z : Hp, z = (nwH h 15 0 16) := ⟨_, rfl⟩
  rw [← e3]
  have T := T h2 e3
  refine v_dup (pc' := 9) dX9_init_8 rfl rfl ?_
  obtain ⟨q6, T⟩ := T
  obtain ⟨h4, k5, T⟩ := T
  refine v_callI (pc' := 12) (M1 := mX5_init) (as := []) (r := (nH h)) (rest := [.ref (nH h), .ref r0]) dX9_init_9 rfl rfl rfl ko_X9_11 kc_X5_init ki_X5_init (by decide) hdd rfl rfl (le_l rfl) q6 k5 ?_
  obtain ⟨q7, T⟩ := T
  refine v_putF (pc' := 15) 9 0 dX9_init_12 rfl (by decide) (by decide) rfl rfl rfl rfl kf_X9_12 q7 ?_
  show V G mX9_init d 15 [.ref r0, uV] [] (sR h4 r0 0 (nH h)) o h'
  obtain ⟨h8, e9⟩ : ∃ z : Hp, z = (sR h4 r0 0 (nH h)) := ⟨_, rfl⟩
  rw [← e9]
  have T := T h8 e9
  refine v_aload_n (pc' := 16) dX9_init_15 rfl rfl ?_
  refine v_new (pc' := 19) 0 dX9_init_16 rfl (by decide) kk_X9_16 kb_X0 kn_X0 ?_
  show V G mX9_init d 19 [.ref r0, uV] [.ref (nH h8), .ref r0] (nwH h8 10 0 2) o h'
  obtain ⟨h10, e11⟩ : ∃ z : Hp, z = (nwH h8 10 0 2) := ⟨_, rfl⟩
  rw [← e11]
  have T := T h10 e11
  refine v_dup (pc' := 20) dX9_init_19 rfl rfl ?_
  obtain ⟨q14, T⟩ := T
  obtain ⟨h12, k13, T⟩ := T
  refine v_callN (pc' := 23) (M1 := mX0_init) (as := []) (r := (nH h8)) (rest := [.ref (nH h8), .ref r0]) RX9 dX9_init_20 rfl rfl rfl (by decide) kn_X0 (by decide +kernel) kc_X0_init ki_X0_init (by decide) hdd rfl rfl (le_l rfl) q14 k13 ?_
  obtain ⟨q15, T⟩ := T
  refine v_putF (pc' := 26) 9 1 dX9_init_23 rfl (by decide) (by decide) rfl rfl rfl rfl kf_X9_19 q15 ?_
  show V G mX9_init d 26 [.ref r0, uV] [] (sR h12 r0 1 (nH h8)) o h'
  obtain ⟨h16, e17⟩ : ∃ z : Hp, z = (sR h12 r0 1 (nH h8)) := ⟨_, rfl⟩
  rw [← e17]
  have T := T h16 e17
  refine v_aload_n (pc' := 27) dX9_init_26 rfl rfl ?_
  refine v_iconst (pc' := 28) (v := 3) dX9_init_27 rfl kI_3 ?_
  refine v_anewa (pc' := 31) 6 1 (N := 3) dX9_init_28 rfl (by decide) kk_X9_23 (by decide) (by decide) (by decide) ?_
  show V G mX9_init d 31 [.ref r0, uV] [.ref (nH h16), .ref r0] (nwH h16 6 3 3) o h'
  obtain ⟨h18, e19⟩ : ∃ z : Hp, z = (nwH h16 6 3 3) := ⟨_, rfl⟩
  rw [← e19]
  have T := T h18 e19
  obtain ⟨q20, T⟩ := T
  refine v_putF (pc' := 34) 9 2 dX9_init_31 rfl (by decide) (by decide) rfl rfl rfl rfl kf_X9_25 q20 ?_
  show V G mX9_init d 34 [.ref r0, uV] [] (sR h18 r0 2 (nH h16)) o h'
  obtain ⟨h21, e22⟩ : ∃ z : Hp, z = (sR h18 r0 2 (nH h16)) := ⟨_, rfl⟩
  rw [← e22]
  have T := T h21 e22
  refine v_aload_n (pc' := 35) dX9_init_34 rfl rfl ?_
  refine v_iconst (pc' := 36) (v := 5) dX9_init_35 rfl kI_5 ?_
  refine v_anewa (pc' := 39) 5 5 (N := 5) dX9_init_36 rfl (by decide) kk_X9_9 (by decide) (by decide) (by decide) ?_
  show V G mX9_init d 39 [.ref r0, uV] [.ref (nH h21), .ref r0] (nwH h21 5 5 5) o h'
  obtain ⟨h23, e24⟩ : ∃ z : Hp, z = (nwH h21 5 5 5) := ⟨_, rfl⟩
  rw [← e24]
  have T := T h23 e24
  obtain ⟨q25, T⟩ := T
  refine v_putF (pc' := 42) 9 3 dX9_init_39 rfl (by decide) (by decide) rfl rfl rfl rfl kf_X9_29 q25 ?_
  show V G mX9_init d 42 [.ref r0, uV] [] (sR h23 r0 3 (nH h21)) o h'
  obtain ⟨h26, e27⟩ : ∃ z : Hp, z = (sR h23 r0 3 (nH h21)) := ⟨_, rfl⟩
  rw [← e27]
  have T := T h26 e27
  refine v_aload_n (pc' := 43) dX9_init_42 rfl rfl ?_
  refine v_new (pc' := 46) 2 dX9_init_43 rfl (by decide) kk_X9_33 kb_X2 kn_X2 ?_
  show V G mX9_init d 46 [.ref r0, uV] [.ref (nH h26), .ref r0] (nwH h26 12 0 6) o h'
  obtain ⟨h28, e29⟩ : ∃ z : Hp, z = (nwH h26 12 0 6) := ⟨_, rfl⟩
  rw [← e29]
  have T := T h28 e29
  refine v_dup (pc' := 47) dX9_init_46 rfl rfl ?_
  obtain ⟨q32, T⟩ := T
  obtain ⟨h30, k31, T⟩ := T
  refine v_callN (pc' := 50) (M1 := mX2_init) (as := []) (r := (nH h26)) (rest := [.ref (nH h26), .ref r0]) RX9 dX9_init_47 rfl rfl rfl (by decide) kn_X2 (by decide +kernel) kc_X2_init ki_X2_init (by decide) hdd rfl rfl (le_l rfl) q32 k31 ?_
  obtain ⟨q33, T⟩ := T
  refine v_putF (pc' := 53) 9 4 dX9_init_50 rfl (by decide) (by decide) rfl rfl rfl rfl kf_X9_36 q33 ?_
  show V G mX9_init d 53 [.ref r0, uV] [] (sR h30 r0 4 (nH h26)) o h'
  obtain ⟨h34, e35⟩ : ∃ z : Hp, z = (sR h30 r0 4 (nH h26)) := ⟨_, rfl⟩
  rw [← e35]
  have T := T h34 e35
  refine v_aload_n (pc' := 54) dX9_init_53 rfl rfl ?_
  refine v_new (pc' := 57) 6 dX9_init_54 rfl (by decide) kk_X9_40 kb_X6 kn_X6 ?_
  show V G mX9_init d 57 [.ref r0, uV] [.ref (nH h34), .ref r0] (nwH h34 16 0 1) o h'
  obtain ⟨h36, e37⟩ : ∃ z : Hp, z = (nwH h34 16 0 1) := ⟨_, rfl⟩
  rw [← e37]
  have T := T h36 e37
  refine v_dup (pc' := 58) dX9_init_57 rfl rfl ?_
  obtain ⟨q40, T⟩ := T
  obtain ⟨h38, k39, T⟩ := T
  refine v_callN (pc' := 61) (M1 := mX6_init) (as := []) (r := (nH h34)) (rest := [.ref (nH h34), .ref r0]) RX9 dX9_init_58 rfl rfl rfl (by decide) kn_X6 (by decide +kernel) kc_X6_init ki_X6_init (by decide) hdd rfl rfl (le_l rfl) q40 k39 ?_
  obtain ⟨q41, T⟩ := T
  refine v_putF (pc' := 64) 9 5 dX9_init_61 rfl (by decide) (by decide) rfl rfl rfl rfl kf_X9_43 q41 ?_
  show V G mX9_init d 64 [.ref r0, uV] [] (sR h38 r0 5 (nH h34)) o h'
  obtain ⟨h42, e43⟩ : ∃ z : Hp, z = (sR h38 r0 5 (nH h34)) := ⟨_, rfl⟩
  rw [← e43]
  have T := T h42 e43
  refine v_aload_n (pc' := 65) dX9_init_64 rfl rfl ?_
  refine v_sipush (pc' := 68) (v := 600) dX9_init_65 rfl kS_600 ?_
  refine v_newa (pc' := 70) 2 (N := 600) dX9_init_68 rfl (by decide) rfl ka_byte (by decide) (by decide) (by decide) ?_
  show V G mX9_init d 70 [.ref r0, uV] [.ref (nH h42), .ref r0] (nwH h42 2 600 600) o h'
  obtain ⟨h44, e45⟩ : ∃ z : Hp, z = (nwH h42 2 600 600) := ⟨_, rfl⟩
  rw [← e45]
  have T := T h44 e45
  obtain ⟨q46, T⟩ := T
  refine v_putF (pc' := 73) 9 6 dX9_init_70 rfl (by decide) (by decide) rfl rfl rfl rfl kf_X9_47 q46 ?_
  show V G mX9_init d 73 [.ref r0, uV] [] (sR h44 r0 6 (nH h42)) o h'
  obtain ⟨h47, e48⟩ : ∃ z : Hp, z = (sR h44 r0 6 (nH h42)) := ⟨_, rfl⟩
  rw [← e48]
  have T := T h47 e48
  refine v_aload_n (pc' := 74) dX9_init_73 rfl rfl ?_
  refine v_new (pc' := 77) 3 dX9_init_74 rfl (by decide) kk_X9_51 kb_X3 kn_X3 ?_
  show V G mX9_init d 77 [.ref r0, uV] [.ref (nH h47), .ref r0] (nwH h47 13 0 10) o h'
  obtain ⟨h49, e50⟩ : ∃ z : Hp, z = (nwH h47 13 0 10) := ⟨_, rfl⟩
  rw [← e50]
  have T := T h49 e50
  refine v_dup (pc' := 78) dX9_init_77 rfl rfl ?_
  obtain ⟨q53, T⟩ := T
  obtain ⟨h51, k52, T⟩ := T
  refine v_callN (pc' := 81) (M1 := mX3_init) (as := []) (r := (nH h47)) (rest := [.ref (nH h47), .ref r0]) RX9 dX9_init_78 rfl rfl rfl (by decide) kn_X3 (by decide +kernel) kc_X3_init ki_X3_init (by decide) hdd rfl rfl (le_l rfl) q53 k52 ?_
  obtain ⟨q54, T⟩ := T
  refine v_putF (pc' := 84) 9 7 dX9_init_81 rfl (by decide) (by decide) rfl rfl rfl rfl kf_X9_54 q54 ?_
  show V G mX9_init d 84 [.ref r0, uV] [] (sR h51 r0 7 (nH h47)) o h'
  obtain ⟨h55, e56⟩ : ∃ z : Hp, z = (sR h51 r0 7 (nH h47)) := ⟨_, rfl⟩
  rw [← e56]
  have T := T h55 e56
  refine v_aload_n (pc' := 85) dX9_init_84 rfl rfl ?_
  refine v_bipush (pc' := 87) (v := 16) dX9_init_85 rfl kB_16 ?_
  refine v_newa (pc' := 89) 1 (N := 16) dX9_init_87 rfl (by decide) rfl ka_int (by decide) (by decide) (by decide) ?_
  show V G mX9_init d 89 [.ref r0, uV] [.ref (nH h55), .ref r0] (nwH h55 1 16 16) o h'
  obtain ⟨h57, e58⟩ : ∃ z : Hp, z = (nwH h55 1 16 16) := ⟨_, rfl⟩
  rw [← e58]
  have T := T h57 e58
  obtain ⟨q59, T⟩ := T
  refine v_putF (pc' := 92) 9 8 dX9_init_89 rfl (by decide) (by decide) rfl rfl rfl rfl kf_X9_58 q59 ?_
  show V G mX9_init d 92 [.ref r0, uV] [] (sR h57 r0 8 (nH h55)) o h'
  obtain ⟨h60, e61⟩ : ∃ z : Hp, z = (sR h57 r0 8 (nH h55)) := ⟨_, rfl⟩
  rw [← e61]
  have T := T h60 e61
  refine v_aload_n (pc' := 93) dX9_init_92 rfl rfl ?_
  refine v_sipush (pc' := 96) (v := 256) dX9_init_93 rfl kS_256 ?_
  refine v_newa (pc' := 98) 2 (N := 256) dX9_init_96 rfl (by decide) rfl ka_byte (by decide) (by decide) (by decide) ?_
  show V G mX9_init d 98 [.ref r0, uV] [.ref (nH h60), .ref r0] (nwH h60 2 256 256) o h'
  obtain ⟨h62, e63⟩ : ∃ z : Hp, z = (nwH h60 2 256 256) := ⟨_, rfl⟩
  rw [← e63]
  have T := T h62 e63
  obtain ⟨q64, T⟩ := T
  refine v_putF (pc' := 101) 9 9 dX9_init_98 rfl (by decide) (by decide) rfl rfl rfl rfl kf_X9_62 q64 ?_
  show V G mX9_init d 101 [.ref r0, uV] [] (sR h62 r0 9 (nH h60)) o h'
  obtain ⟨h65, e66⟩ : ∃ z : Hp, z = (sR h62 r0 9 (nH h60)) := ⟨_, rfl⟩
  rw [← e66]
  have T := T h65 e66
  refine v_aload_n (pc' := 102) dX9_init_101 rfl rfl ?_
  refine v_bipush (pc' := 104) (v := 12) dX9_init_102 rfl kB_12 ?_
  refine v_newa (pc' := 106) 1 (N := 12) dX9_init_104 rfl (by decide) rfl ka_int (by decide) (by decide) (by decide) ?_
  show V G mX9_init d 106 [.ref r0, uV] [.ref (nH h65), .ref r0] (nwH h65 1 12 12) o h'
  obtain ⟨h67, e68⟩ : ∃ z : Hp, z = (nwH h65 1 12 12) := ⟨_, rfl⟩
  rw [← e68]
  have T := T h67 e68
  obtain ⟨q69, T⟩ := T
  refine v_putF (pc' := 109) 9 16 dX9_init_106 rfl (by decide) (by decide) rfl rfl rfl rfl kf_X9_65 q69 ?_
  show V G mX9_init d 109 [.ref r0, uV] [] (sR h67 r0 16 (nH h65)) o h'
  obtain ⟨h70, e71⟩ : ∃ z : Hp, z = (sR h67 r0 16 (nH h65)) := ⟨_, rfl⟩
  rw [← e71]
  have T := T h70 e71
  refine v_aload_n (pc' := 110) dX9_init_109 rfl rfl ?_
  refine v_iconst (pc' := 111) (v := 4) dX9_init_110 rfl kI_4 ?_
  refine v_newa (pc' := 113) 1 (N := 4) dX9_init_111 rfl (by decide) rfl ka_int (by decide) (by decide) (by decide) ?_
  show V G mX9_init d 113 [.ref r0, uV] [.ref (nH h70), .ref r0] (nwH h70 1 4 4) o h'
  obtain ⟨h72, e73⟩ : ∃ z : Hp, z = (nwH h70 1 4 4) := ⟨_, rfl⟩
  rw [← e73]
  have T := T h72 e73
  obtain ⟨q74, T⟩ := T
  refine v_putF (pc' := 116) 9 10 dX9_init_113 rfl (by decide) (by decide) rfl rfl rfl rfl kf_X9_68 q74 ?_
  show V G mX9_init d 116 [.ref r0, uV] [] (sR h72 r0 10 (nH h70)) o h'
  obtain ⟨h75, e76⟩ : ∃ z : Hp, z = (sR h72 r0 10 (nH h70)) := ⟨_, rfl⟩
  rw [← e76]
  have T := T h75 e76
  refine v_aload_n (pc' := 117) dX9_init_116 rfl rfl ?_
  refine v_iconst (pc' := 118) (v := (-1)) dX9_init_117 rfl kI_m1 ?_
  obtain ⟨q77, T⟩ := T
  refine v_putI (pc' := 121) 9 14 dX9_init_118 rfl (by decide) (by decide) rfl rfl kf_X9_71 q77 ?_
  refine v_iconst (pc' := 122) (v := 0) dX9_init_121 rfl kI_0 ?_
  refine v_istore_n (pc' := 123) (loc' := [.ref r0, .int 0]) dX9_init_122 rfl (lt_l rfl) rfl ?_
  exact T
theorem bX9_init_123 {G : GG} {d : Nat} {h : Hp} {o : OU} {h' : Hp} (r0 : Nat) (x1 : Int32) (hd : 1 ≤ d) (T : kH h r0 = 19 ∧ kH h (rH h r0 3) = 5 ∧ ((((lH h (rH h r0 3)).toInt32) ≤ x1 → ∃ h4, VM G mX9_clearBook (d - 1) [.ref r0] h (.inl none) h4 ∧ (o = .inl none ∧ h' = h4)) ∧ (¬ ((lH h (rH h r0 3)).toInt32) ≤ x1 → (∀ h6 : Hp, h6 = (nwH h 15 0 16) → (nH h) ≠ 0 ∧ ∃ h8, VM G mX5_init (d - 1) [.ref (nH h)] h6 (.inl none) h8 ∧ kH h8 (rH h r0 3) = 5 ∧ kH h8 (nH h) = 15 ∧ vp_in x1 (lH h8 (rH h r0 3)) ∧ (∀ h14 : Hp, h14 = (sR h8 (rH h r0 3) x1.toNatClampNeg (nH h)) → V G mX9_init d 123 [.ref r0, .int (x1 + 1)] [] h14 o h'))))) : V G mX9_init d 123 [.ref r0, .int x1] [] h o h' := by
  have hdd : d - 1 + 1 ≤ d := by omega
  refine v_iload_n (pc' := 124) dX9_init_123 rfl rfl ?_
  refine v_aload_n (pc' := 125) dX9_init_124 rfl rfl ?_
  obtain ⟨q1, T⟩ := T
  refine v_getR (pc' := 128) 9 3 dX9_init_125 rfl (by decide) (by decide) rfl kf_X9_29 q1 ?_
  obtain ⟨q2, T⟩ := T
  refine v_alen (pc' := 129) dX9_init_128 rfl q2 (by decide) rfl ?_
  refine v_icmp_ge (tgt := 151) (pc' := 132) dX9_init_129 (by decide) rfl ⟨fun c3 => ?_, fun c3 => ?_⟩
  · have T := T.1 c3
    refine v_aload_n (pc' := 152) dX9_init_151 rfl rfl ?_
    obtain ⟨h4, k5, T⟩ := T
    refine v_callV (pc' := 155) (M1 := mX9_clearBook) (as := []) (r := r0) (rest := []) 9 dX9_init_152 rfl ko_X9_75 kc_X9_clearBook ki_X9_clearBook ks_X9_clearBook (by decide) (by decide) hdd rfl rfl (le_l rfl) q1 k5 ?_
    exact v_vret dX9_init_155 rfl T
  · have T := T.2 c3
    refine v_aload_n (pc' := 133) dX9_init_132 rfl rfl ?_
    refine v_getR (pc' := 136) 9 3 dX9_init_133 rfl (by decide) (by decide) rfl kf_X9_29 q1 ?_
    refine v_iload_n (pc' := 137) dX9_init_136 rfl rfl ?_
    refine v_new (pc' := 140) 5 dX9_init_137 rfl (by decide) kk_X9_9 kb_X5 kn_X5 ?_
    show V G mX9_init d 140 [.ref r0, .int x1] [.ref (nH h), .int x1, .ref (rH h r0 3)] (nwH h 15 0 16) o h'
    obtain ⟨h6, e7⟩ : ∃ z : Hp, z = (nwH h 15 0 16) := ⟨_, rfl⟩
    rw [← e7]
    have T := T h6 e7
    refine v_dup (pc' := 141) dX9_init_140 rfl rfl ?_
    obtain ⟨q10, T⟩ := T
    obtain ⟨h8, k9, T⟩ := T
    refine v_callI (pc' := 144) (M1 := mX5_init) (as := []) (r := (nH h)) (rest := [.ref (nH h), .int x1, .ref (rH h r0 3)]) dX9_init_141 rfl rfl rfl ko_X9_11 kc_X5_init ki_X5_init (by decide) hdd rfl rfl (le_l rfl) q10 k9 ?_
    obtain ⟨q11, T⟩ := T
    obtain ⟨q12, T⟩ := T
    obtain ⟨q13, T⟩ := T
    refine v_aast (pc' := 145) 5 5 dX9_init_144 rfl rfl (by decide) (by decide) rfl q11 q12 q13 ?_
    show V G mX9_init d 145 [.ref r0, .int x1] [] (sR h8 (rH h r0 3) x1.toNatClampNeg (nH h)) o h'
    obtain ⟨h14, e15⟩ : ∃ z : Hp, z = (sR h8 (rH h r0 3) x1.toNatClampNeg (nH h)) := ⟨_, rfl⟩
    rw [← e15]
    have T := T h14 e15
    refine v_iinc (pc' := 148) (loc' := [.ref r0, .int (x1 + 1)]) dX9_init_145 rfl rfl (kX_1 _) rfl ?_
    refine v_goto (pc' := 123) dX9_init_148 (by decide) ?_
    exact T
theorem eX9_feed {G : GG} {d : Nat} {h : Hp} {o : OU} {h' : Hp} (r0 : Nat) (x1 : Int32) (x2 : Int32) (x3 : Int32) (x4 : Int32) (x5 : Int32) (hd : 1 ≤ d) (T : kH h r0 = 19 ∧ (((h.2 r0 12) ≤ 580 → ∃ h3, VM G mX9_feedNumber (d - 1) [.ref r0, .int x1] h (.inl none) h3 ∧ kH h3 r0 = 19 ∧ ∃ h5, VM G mX9_feedNumber (d - 1) [.ref r0, .int x2] h3 (.inl none) h5 ∧ kH h5 r0 = 19 ∧ ∃ h8, VM G mX9_feedNumber (d - 1) [.ref r0, .int x3] h5 (.inl none) h8 ∧ kH h8 r0 = 19 ∧ ∃ h11, VM G mX9_feedNumber (d - 1) [.ref r0, .int x4] h8 (.inl none) h11 ∧ kH h11 r0 = 19 ∧ ∃ h14, VM G mX9_feedNumber (d - 1) [.ref r0, .int x5] h11 (.inl none) h14 ∧ kH h14 r0 = 19 ∧ (o = .inl (some (.int (h14.2 r0 12))) ∧ h' = h14)) ∧ (¬ (h.2 r0 12) ≤ 580 → (o = .inl (some (.int (-1))) ∧ h' = h)))) : VM G mX9_feed d [.ref r0, .int x1, .int x2, .int x3, .int x4, .int x5] h o h' := by
  refine V.toM rfl rfl (le_l rfl) (cat_all rfl) ?_
  show V G mX9_feed d 0 [.ref r0, .int x1, .int x2, .int x3, .int x4, .int x5] [] h o h'
  have hdd : d - 1 + 1 ≤ d := by omega
  refine v_aload_n (pc' := 1) dX9_feed_0 rfl rfl ?_
  obtain ⟨q1, T⟩ := T
  refine v_getI (pc' := 4) 9 12 dX9_feed_1 rfl (by decide) (by decide) rfl kf_X9_78 q1 ?_
  refine v_sipush (pc' := 7) (v := 580) dX9_feed_4 rfl kS_580 ?_
  refine v_icmp_le (tgt := 12) (pc' := 10) dX9_feed_7 (by decide) rfl ⟨fun c2 => ?_, fun c2 => ?_⟩
  · have T := T.1 c2
    refine v_aload_n (pc' := 13) dX9_feed_12 rfl rfl ?_
    refine v_iload_n (pc' := 14) dX9_feed_13 rfl rfl ?_
    obtain ⟨h3, k4, T⟩ := T
    refine v_callV (pc' := 17) (M1 := mX9_feedNumber) (as := [.int x1]) (r := r0) (rest := []) 9 dX9_feed_14 rfl ko_X9_81 kc_X9_feedNumber ki_X9_feedNumber ks_X9_feedNumber (by decide) (by decide) hdd rfl rfl (le_l rfl) q1 k4 ?_
    refine v_aload_n (pc' := 18) dX9_feed_17 rfl rfl ?_
    refine v_iload_n (pc' := 19) dX9_feed_18 rfl rfl ?_
    obtain ⟨q7, T⟩ := T
    obtain ⟨h5, k6, T⟩ := T
    refine v_callV (pc' := 22) (M1 := mX9_feedNumber) (as := [.int x2]) (r := r0) (rest := []) 9 dX9_feed_19 rfl ko_X9_81 kc_X9_feedNumber ki_X9_feedNumber ks_X9_feedNumber (by decide) (by decide) hdd rfl rfl (le_l rfl) q7 k6 ?_
    refine v_aload_n (pc' := 23) dX9_feed_22 rfl rfl ?_
    refine v_iload_n (pc' := 24) dX9_feed_23 rfl rfl ?_
    obtain ⟨q10, T⟩ := T
    obtain ⟨h8, k9, T⟩ := T
    refine v_callV (pc' := 27) (M1 := mX9_feedNumber) (as := [.int x3]) (r := r0) (rest := []) 9 dX9_feed_24 rfl ko_X9_81 kc_X9_feedNumber ki_X9_feedNumber ks_X9_feedNumber (by decide) (by decide) hdd rfl rfl (le_l rfl) q10 k9 ?_
    refine v_aload_n (pc' := 28) dX9_feed_27 rfl rfl ?_
    refine v_iload (pc' := 30) dX9_feed_28 rfl rfl ?_
    obtain ⟨q13, T⟩ := T
    obtain ⟨h11, k12, T⟩ := T
    refine v_callV (pc' := 33) (M1 := mX9_feedNumber) (as := [.int x4]) (r := r0) (rest := []) 9 dX9_feed_30 rfl ko_X9_81 kc_X9_feedNumber ki_X9_feedNumber ks_X9_feedNumber (by decide) (by decide) hdd rfl rfl (le_l rfl) q13 k12 ?_
    refine v_aload_n (pc' := 34) dX9_feed_33 rfl rfl ?_
    refine v_iload (pc' := 36) dX9_feed_34 rfl rfl ?_
    obtain ⟨q16, T⟩ := T
    obtain ⟨h14, k15, T⟩ := T
    refine v_callV (pc' := 39) (M1 := mX9_feedNumber) (as := [.int x5]) (r := r0) (rest := []) 9 dX9_feed_36 rfl ko_X9_81 kc_X9_feedNumber ki_X9_feedNumber ks_X9_feedNumber (by decide) (by decide) hdd rfl rfl (le_l rfl) q16 k15 ?_
    refine v_aload_n (pc' := 40) dX9_feed_39 rfl rfl ?_
    obtain ⟨q17, T⟩ := T
    refine v_getI (pc' := 43) 9 12 dX9_feed_40 rfl (by decide) (by decide) rfl kf_X9_78 q17 ?_
    exact v_iret dX9_feed_43 rfl T
  · have T := T.2 c2
    refine v_iconst (pc' := 11) (v := (-1)) dX9_feed_10 rfl kI_m1 ?_
    exact v_iret dX9_feed_11 rfl T
theorem eX9_feedNumber {G : GG} {d : Nat} {h : Hp} {o : OU} {h' : Hp} (r0 : Nat) (x1 : Int32) (T : V G mX9_feedNumber d 3 [.ref r0, .int x1, .int 24] [] h o h') : VM G mX9_feedNumber d [.ref r0, .int x1] h o h' := by
  refine V.toM rfl rfl (le_l rfl) (cat_all rfl) ?_
  show V G mX9_feedNumber d 0 [.ref r0, .int x1, uV] [] h o h'
  refine v_bipush (pc' := 2) (v := 24) dX9_feedNumber_0 rfl kB_24 ?_
  refine v_istore_n (pc' := 3) (loc' := [.ref r0, .int x1, .int 24]) dX9_feedNumber_2 rfl (lt_l rfl) rfl ?_
  exact T
theorem bX9_feedNumber_3 {G : GG} {d : Nat} {h : Hp} {o : OU} {h' : Hp} (r0 : Nat) (x1 : Int32) (x2 : Int32) (T : ((x2 < 0 → (o = .inl none ∧ h' = h)) ∧ (¬ x2 < 0 → kH h r0 = 19 ∧ ((600 ≤ (h.2 r0 12) → (o = .inl none ∧ h' = h)) ∧ (¬ 600 ≤ (h.2 r0 12) → kH h (rH h r0 6) = 2 ∧ vp_in (h.2 r0 12) (lH h (rH h r0 6)) ∧ (∀ i6 : Nat → Nat → Int32, i6 = (upI (upI h.2 (rH h r0 6) (h.2 r0 12).toNatClampNeg (((ushr x1 x2).toInt8.toInt32).toInt8.toInt32)) r0 12 (((upI h.2 (rH h r0 6) (h.2 r0 12).toNatClampNeg (((ushr x1 x2).toInt8.toInt32).toInt8.toInt32)) r0 12) + 1)) → V G mX9_feedNumber d 3 [.ref r0, .int x1, .int (x2 + (-8))] [] (h.1, i6) o h')))))) : V G mX9_feedNumber d 3 [.ref r0, .int x1, .int x2] [] h o h' := by
  refine v_iload_n (pc' := 4) dX9_feedNumber_3 rfl rfl ?_
  refine v_if_lt (tgt := 46) (pc' := 7) dX9_feedNumber_4 (by decide) rfl ⟨fun c1 => ?_, fun c1 => ?_⟩
  · have T := T.1 c1
    exact v_vret dX9_feedNumber_46 rfl T
  · have T := T.2 c1
    refine v_aload_n (pc' := 8) dX9_feedNumber_7 rfl rfl ?_
    obtain ⟨q2, T⟩ := T
    refine v_getI (pc' := 11) 9 12 dX9_feedNumber_8 rfl (by decide) (by decide) rfl kf_X9_78 q2 ?_
    refine v_sipush (pc' := 14) (v := 600) dX9_feedNumber_11 rfl kS_600 ?_
    refine v_icmp_ge (tgt := 46) (pc' := 17) dX9_feedNumber_14 (by decide) rfl ⟨fun c3 => ?_, fun c3 => ?_⟩
    · have T := T.1 c3
      exact v_vret dX9_feedNumber_46 rfl T
    · have T := T.2 c3
      refine v_aload_n (pc' := 18) dX9_feedNumber_17 rfl rfl ?_
      refine v_getR (pc' := 21) 9 6 dX9_feedNumber_18 rfl (by decide) (by decide) rfl kf_X9_47 q2 ?_
      refine v_aload_n (pc' := 22) dX9_feedNumber_21 rfl rfl ?_
      refine v_getI (pc' := 25) 9 12 dX9_feedNumber_22 rfl (by decide) (by decide) rfl kf_X9_78 q2 ?_
      refine v_iload_n (pc' := 26) dX9_feedNumber_25 rfl rfl ?_
      refine v_iload_n (pc' := 27) dX9_feedNumber_26 rfl rfl ?_
      refine v_iushr (pc' := 28) dX9_feedNumber_27 rfl ?_
      refine v_i2b (pc' := 29) dX9_feedNumber_28 rfl ?_
      obtain ⟨q4, T⟩ := T
      obtain ⟨q5, T⟩ := T
      refine v_bast (pc' := 30) dX9_feedNumber_29 rfl rfl q4 q5 ?_
      refine v_aload_n (pc' := 31) dX9_feedNumber_30 rfl rfl ?_
      refine v_dup (pc' := 32) dX9_feedNumber_31 rfl rfl ?_
      refine v_getI (pc' := 35) 9 12 dX9_feedNumber_32 rfl (by decide) (by decide) rfl kf_X9_78 q2 ?_
      refine v_iconst (pc' := 36) (v := 1) dX9_feedNumber_35 rfl kI_1 ?_
      refine v_iadd (pc' := 37) dX9_feedNumber_36 rfl ?_
      refine v_putI (pc' := 40) 9 12 dX9_feedNumber_37 rfl (by decide) (by decide) rfl rfl kf_X9_78 q2 ?_
      show V G mX9_feedNumber d 40 [.ref r0, .int x1, .int x2] [] (h.1, (upI (upI h.2 (rH h r0 6) (h.2 r0 12).toNatClampNeg (((ushr x1 x2).toInt8.toInt32).toInt8.toInt32)) r0 12 (((upI h.2 (rH h r0 6) (h.2 r0 12).toNatClampNeg (((ushr x1 x2).toInt8.toInt32).toInt8.toInt32)) r0 12) + 1))) o h'
      obtain ⟨i6, e7⟩ : ∃ z : Nat → Nat → Int32, z = (upI (upI h.2 (rH h r0 6) (h.2 r0 12).toNatClampNeg (((ushr x1 x2).toInt8.toInt32).toInt8.toInt32)) r0 12 (((upI h.2 (rH h r0 6) (h.2 r0 12).toNatClampNeg (((ushr x1 x2).toInt8.toInt32).toInt8.toInt32)) r0 12) + 1)) := ⟨_, rfl⟩
      rw [← e7]
      have T := T i6 e7
      refine v_iinc (pc' := 43) (loc' := [.ref r0, .int x1, .int (x2 + (-8))]) dX9_feedNumber_40 rfl rfl (kX_m8 _) rfl ?_
      refine v_goto (pc' := 3) dX9_feedNumber_43 (by decide) ?_
      exact T
theorem eX9_store {G : GG} {d : Nat} {h : Hp} {o : OU} {h' : Hp} (r0 : Nat) (x1 : Int32) (hd : 1 ≤ d) (T : kH h r0 = 19 ∧ ((∃ h1, VM G mX9_testLength (d - 1) [.ref r0, .int x1, .int 600] h (.inl none) h1 ∧ kH h1 r0 = 19 ∧ kH h1 (rH h1 r0 7) = 13 ∧ ∃ z6 h5, VM G mX3_readStore (d - 1) [.ref (rH h1 r0 7), .ref (rH h1 r0 6), .int x1] h1 (.inl (some (.int z6))) h5 ∧ kH h5 r0 = 19 ∧ ∃ h9, VM G mX9_textRead (d - 1) [.ref r0, .int z6] h5 (.inl none) h9 ∧ ((z6 = 0 → kH h9 r0 = 19 ∧ kH h9 (rH h9 r0 7) = 13 ∧ ∃ h15, VM G mX9_buildStore (d - 1) [.ref r0, .ref (rH h9 (rH h9 r0 7) 0)] h9 (.inl none) h15 ∧ kH h15 r0 = 19 ∧ ∃ h17, VM G mX9_clearBook (d - 1) [.ref r0] h15 (.inl none) h17 ∧ kH h17 r0 = 19 ∧ kH h17 (rH h17 r0 1) = 10 ∧ kH h17 (rH h17 r0 0) = 15 ∧ (o = .inl (some (.int ((upI (upI (upI h17.2 (rH h17 r0 1) 1 0) r0 11 0) r0 15 0) (rH h17 r0 0) 0))) ∧ h' = (h17.1, (upI (upI (upI h17.2 (rH h17 r0 1) 1 0) r0 11 0) r0 15 0)))) ∧ (¬ z6 = 0 → (o = .inl (some (.int (z6 - 10))) ∧ h' = h9)))) ∨ ∃ E, o = .inr E ∧ VM G mX9_testLength (d - 1) [.ref r0, .int x1, .int 600] h (.inr E) h')) : VM G mX9_store d [.ref r0, .int x1] h o h' := by
  refine V.toM rfl rfl (le_l rfl) (cat_all rfl) ?_
  show V G mX9_store d 0 [.ref r0, .int x1, uV] [] h o h'
  have hdd : d - 1 + 1 ≤ d := by omega
  refine v_aload_n (pc' := 1) dX9_store_0 rfl rfl ?_
  refine v_iload_n (pc' := 2) dX9_store_1 rfl rfl ?_
  refine v_sipush (pc' := 5) (v := 600) dX9_store_2 rfl kS_600 ?_
  obtain ⟨q3, T⟩ := T
  rcases T with T | ⟨E, rfl, k2⟩
  · obtain ⟨h1, k2, T⟩ := T
    refine v_callV (pc' := 8) (M1 := mX9_testLength) (as := [.int x1, .int 600]) (r := r0) (rest := []) 9 dX9_store_5 rfl ko_X9_85 kc_X9_testLength ki_X9_testLength ks_X9_testLength (by decide) (by decide) hdd rfl rfl (le_l rfl) q3 k2 ?_
    refine v_aload_n (pc' := 9) dX9_store_8 rfl rfl ?_
    obtain ⟨q4, T⟩ := T
    refine v_getR (pc' := 12) 9 7 dX9_store_9 rfl (by decide) (by decide) rfl kf_X9_54 q4 ?_
    refine v_aload_n (pc' := 13) dX9_store_12 rfl rfl ?_
    refine v_getR (pc' := 16) 9 6 dX9_store_13 rfl (by decide) (by decide) rfl kf_X9_47 q4 ?_
    refine v_iload_n (pc' := 17) dX9_store_16 rfl rfl ?_
    obtain ⟨q8, T⟩ := T
    obtain ⟨z6, h5, k7, T⟩ := T
    refine v_callV (pc' := 20) (M1 := mX3_readStore) (as := [.ref (rH h1 r0 6), .int x1]) (r := (rH h1 r0 7)) (rest := []) 3 dX9_store_17 rfl ko_X9_89 kc_X3_readStore ki_X3_readStore ks_X3_readStore (by decide) (by decide) hdd rfl rfl (le_l rfl) q8 k7 ?_
    refine v_istore_n (pc' := 21) (loc' := [.ref r0, .int x1, .int z6]) dX9_store_20 rfl (lt_l rfl) rfl ?_
    refine v_aload_n (pc' := 22) dX9_store_21 rfl rfl ?_
    refine v_iload_n (pc' := 23) dX9_store_22 rfl rfl ?_
    obtain ⟨q11, T⟩ := T
    obtain ⟨h9, k10, T⟩ := T
    refine v_callV (pc' := 26) (M1 := mX9_textRead) (as := [.int z6]) (r := r0) (rest := []) 9 dX9_store_23 rfl ko_X9_93 kc_X9_textRead ki_X9_textRead ks_X9_textRead (by decide) (by decide) hdd rfl rfl (le_l rfl) q11 k10 ?_
    refine v_iload_n (pc' := 27) dX9_store_26 rfl rfl ?_
    refine v_if_eq (tgt := 35) (pc' := 30) dX9_store_27 (by decide) rfl ⟨fun c12 => ?_, fun c12 => ?_⟩
    · have T := T.1 c12
      refine v_aload_n (pc' := 36) dX9_store_35 rfl rfl ?_
      refine v_aload_n (pc' := 37) dX9_store_36 rfl rfl ?_
      obtain ⟨q13, T⟩ := T
      refine v_getR (pc' := 40) 9 7 dX9_store_37 rfl (by decide) (by decide) rfl kf_X9_54 q13 ?_
      obtain ⟨q14, T⟩ := T
      refine v_getR (pc' := 43) 3 0 dX9_store_40 rfl (by decide) (by decide) rfl kf_X9_96 q14 ?_
      obtain ⟨h15, k16, T⟩ := T
      refine v_callV (pc' := 46) (M1 := mX9_buildStore) (as := [.ref (rH h9 (rH h9 r0 7) 0)]) (r := r0) (rest := []) 9 dX9_store_43 rfl ko_X9_100 kc_X9_buildStore ki_X9_buildStore ks_X9_buildStore (by decide) (by decide) hdd rfl rfl (le_l rfl) q13 k16 ?_
      refine v_aload_n (pc' := 47) dX9_store_46 rfl rfl ?_
      obtain ⟨q19, T⟩ := T
      obtain ⟨h17, k18, T⟩ := T
      refine v_callV (pc' := 50) (M1 := mX9_clearBook) (as := []) (r := r0) (rest := []) 9 dX9_store_47 rfl ko_X9_75 kc_X9_clearBook ki_X9_clearBook ks_X9_clearBook (by decide) (by decide) hdd rfl rfl (le_l rfl) q19 k18 ?_
      refine v_aload_n (pc' := 51) dX9_store_50 rfl rfl ?_
      obtain ⟨q20, T⟩ := T
      refine v_getR (pc' := 54) 9 1 dX9_store_51 rfl (by decide) (by decide) rfl kf_X9_19 q20 ?_
      refine v_iconst (pc' := 55) (v := 0) dX9_store_54 rfl kI_0 ?_
      obtain ⟨q21, T⟩ := T
      refine v_putI (pc' := 58) 0 1 dX9_store_55 rfl (by decide) (by decide) rfl rfl kf_X9_104 q21 ?_
      refine v_aload_n (pc' := 59) dX9_store_58 rfl rfl ?_
      refine v_iconst (pc' := 60) (v := 0) dX9_store_59 rfl kI_0 ?_
      refine v_putI (pc' := 63) 9 11 dX9_store_60 rfl (by decide) (by decide) rfl rfl kf_X9_107 q20 ?_
      refine v_aload_n (pc' := 64) dX9_store_63 rfl rfl ?_
      refine v_iconst (pc' := 65) (v := 0) dX9_store_64 rfl kI_0 ?_
      refine v_putI (pc' := 68) 9 15 dX9_store_65 rfl (by decide) (by decide) rfl rfl kf_X9_110 q20 ?_
      refine v_aload_n (pc' := 69) dX9_store_68 rfl rfl ?_
      refine v_getR (pc' := 72) 9 0 dX9_store_69 rfl (by decide) (by decide) rfl kf_X9_12 q20 ?_
      obtain ⟨q22, T⟩ := T
      refine v_getI (pc' := 75) 5 0 dX9_store_72 rfl (by decide) (by decide) rfl kf_X9_113 q22 ?_
      exact v_iret dX9_store_75 rfl T
    · have T := T.2 c12
      refine v_iload_n (pc' := 31) dX9_store_30 rfl rfl ?_
      refine v_bipush (pc' := 33) (v := 10) dX9_store_31 rfl kB_10 ?_
      refine v_isub (pc' := 34) dX9_store_33 rfl ?_
      exact v_iret dX9_store_34 rfl T
  · exact v_callVx (M1 := mX9_testLength) (as := [.int x1, .int 600]) (r := r0) (rest := []) 9 dX9_store_5 rfl ko_X9_85 kc_X9_testLength ki_X9_testLength ks_X9_testLength (by decide) (by decide) hdd rfl rfl (le_l rfl) q3 k2
theorem eX9_buildStore {G : GG} {d : Nat} {h : Hp} {o : OU} {h' : Hp} (r0 : Nat) (r1 : Nat) (hd : 1 ≤ d) (T : kH h r0 = 19 ∧ kH h r1 = 14 ∧ kH h (rH h r0 0) = 15 ∧ ∃ h3, VM G mX5_begin (d - 1) [.ref (rH h r0 0), .int (h.2 r1 0)] h (.inl none) h3 ∧ V G mX9_buildStore d 13 [.ref r0, .ref r1, .int 0] [] h3 o h') : VM G mX9_buildStore d [.ref r0, .ref r1] h o h' := by
  refine V.toM rfl rfl (le_l rfl) (cat_all rfl) ?_
  show V G mX9_buildStore d 0 [.ref r0, .ref r1, uV] [] h o h'
  have hdd : d - 1 + 1 ≤ d := by omega
  refine v_aload_n (pc' := 1) dX9_buildStore_0 rfl rfl ?_
  obtain ⟨q1, T⟩ := T
  refine v_getR (pc' := 4) 9 0 dX9_buildStore_1 rfl (by decide) (by decide) rfl kf_X9_12 q1 ?_
  refine v_aload_n (pc' := 5) dX9_buildStore_4 rfl rfl ?_
  obtain ⟨q2, T⟩ := T
  refine v_getI (pc' := 8) 4 0 dX9_buildStore_5 rfl (by decide) (by decide) rfl kf_X9_116 q2 ?_
  obtain ⟨q5, T⟩ := T
  obtain ⟨h3, k4, T⟩ := T
  refine v_callV (pc' := 11) (M1 := mX5_begin) (as := [.int (h.2 r1 0)]) (r := (rH h r0 0)) (rest := []) 5 dX9_buildStore_8 rfl ko_X9_119 kc_X5_begin ki_X5_begin ks_X5_begin (by decide) (by decide) hdd rfl rfl (le_l rfl) q5 k4 ?_
  refine v_iconst (pc' := 12) (v := 0) dX9_buildStore_11 rfl kI_0 ?_
  refine v_istore_n (pc' := 13) (loc' := [.ref r0, .ref r1, .int 0]) dX9_buildStore_12 rfl (lt_l rfl) rfl ?_
  exact T
theorem bX9_buildStore_13 {G : GG} {d : Nat} {h : Hp} {o : OU} {h' : Hp} (r0 : Nat) (r1 : Nat) (x2 : Int32) (hd : 1 ≤ d) (T : kH h r1 = 14 ∧ (((h.2 r1 1) ≤ x2 → kH h r0 = 19 ∧ kH h (rH h r0 0) = 15 ∧ ∃ h4, VM G mX5_forgetCounts (d - 1) [.ref (rH h r0 0)] h (.inl none) h4 ∧ (o = .inl none ∧ h' = h4)) ∧ (¬ (h.2 r1 1) ≤ x2 → kH h r0 = 19 ∧ kH h (rH h r1 2) = 1 ∧ vp_in x2 (lH h (rH h r1 2)) ∧ kH h (rH h r1 3) = 1 ∧ vp_in x2 (lH h (rH h r1 3)) ∧ kH h (rH h r1 4) = 1 ∧ vp_in x2 (lH h (rH h r1 4)) ∧ kH h (rH h r1 5) = 1 ∧ vp_in x2 (lH h (rH h r1 5)) ∧ kH h (rH h r0 5) = 16 ∧ ∃ z17 h16, VM G mX6_take (d - 1) [.ref (rH h r0 5), .ref (rH h r0 0), .int (h.2 (rH h r1 2) x2.toNatClampNeg), .int (h.2 (rH h r1 3) x2.toNatClampNeg), .int (h.2 (rH h r1 4) x2.toNatClampNeg), .int (h.2 (rH h r1 5) x2.toNatClampNeg)] h (.inl (some (.int z17))) h16 ∧ kH h16 r0 = 19 ∧ kH h16 (rH h16 r0 0) = 15 ∧ ∃ h21, VM G mX5_allOnDisk (d - 1) [.ref (rH h16 r0 0)] h16 (.inl none) h21 ∧ V G mX9_buildStore d 13 [.ref r0, .ref r1, .int (x2 + 1)] [] h21 o h'))) : V G mX9_buildStore d 13 [.ref r0, .ref r1, .int x2] [] h o h' := by
  have hdd : d - 1 + 1 ≤ d := by omega
  refine v_iload_n (pc' := 14) dX9_buildStore_13 rfl rfl ?_
  refine v_aload_n (pc' := 15) dX9_buildStore_14 rfl rfl ?_
  obtain ⟨q1, T⟩ := T
  refine v_getI (pc' := 18) 4 1 dX9_buildStore_15 rfl (by decide) (by decide) rfl kf_X9_122 q1 ?_
  refine v_icmp_ge (tgt := 70) (pc' := 21) dX9_buildStore_18 (by decide) rfl ⟨fun c2 => ?_, fun c2 => ?_⟩
  · have T := T.1 c2
    refine v_aload_n (pc' := 71) dX9_buildStore_70 rfl rfl ?_
    obtain ⟨q3, T⟩ := T
    refine v_getR (pc' := 74) 9 0 dX9_buildStore_71 rfl (by decide) (by decide) rfl kf_X9_12 q3 ?_
    obtain ⟨q6, T⟩ := T
    obtain ⟨h4, k5, T⟩ := T
    refine v_callV (pc' := 77) (M1 := mX5_forgetCounts) (as := []) (r := (rH h r0 0)) (rest := []) 5 dX9_buildStore_74 rfl ko_X9_142 kc_X5_forgetCounts ki_X5_forgetCounts ks_X5_forgetCounts (by decide) (by decide) hdd rfl rfl (le_l rfl) q6 k5 ?_
    exact v_vret dX9_buildStore_77 rfl T
  · have T := T.2 c2
    refine v_aload_n (pc' := 22) dX9_buildStore_21 rfl rfl ?_
    obtain ⟨q7, T⟩ := T
    refine v_getR (pc' := 25) 9 5 dX9_buildStore_22 rfl (by decide) (by decide) rfl kf_X9_43 q7 ?_
    refine v_aload_n (pc' := 26) dX9_buildStore_25 rfl rfl ?_
    refine v_getR (pc' := 29) 9 0 dX9_buildStore_26 rfl (by decide) (by decide) rfl kf_X9_12 q7 ?_
    refine v_aload_n (pc' := 30) dX9_buildStore_29 rfl rfl ?_
    refine v_getR (pc' := 33) 4 2 dX9_buildStore_30 rfl (by decide) (by decide) rfl kf_X9_123 q1 ?_
    refine v_iload_n (pc' := 34) dX9_buildStore_33 rfl rfl ?_
    obtain ⟨q8, T⟩ := T
    obtain ⟨q9, T⟩ := T
    refine v_iald (pc' := 35) dX9_buildStore_34 rfl rfl q8 q9 ?_
    refine v_aload_n (pc' := 36) dX9_buildStore_35 rfl rfl ?_
    refine v_getR (pc' := 39) 4 3 dX9_buildStore_36 rfl (by decide) (by decide) rfl kf_X9_126 q1 ?_
    refine v_iload_n (pc' := 40) dX9_buildStore_39 rfl rfl ?_
    obtain ⟨q10, T⟩ := T
    obtain ⟨q11, T⟩ := T
    refine v_iald (pc' := 41) dX9_buildStore_40 rfl rfl q10 q11 ?_
    refine v_aload_n (pc' := 42) dX9_buildStore_41 rfl rfl ?_
    refine v_getR (pc' := 45) 4 4 dX9_buildStore_42 rfl (by decide) (by decide) rfl kf_X9_129 q1 ?_
    refine v_iload_n (pc' := 46) dX9_buildStore_45 rfl rfl ?_
    obtain ⟨q12, T⟩ := T
    obtain ⟨q13, T⟩ := T
    refine v_iald (pc' := 47) dX9_buildStore_46 rfl rfl q12 q13 ?_
    refine v_aload_n (pc' := 48) dX9_buildStore_47 rfl rfl ?_
    refine v_getR (pc' := 51) 4 5 dX9_buildStore_48 rfl (by decide) (by decide) rfl kf_X9_132 q1 ?_
    refine v_iload_n (pc' := 52) dX9_buildStore_51 rfl rfl ?_
    obtain ⟨q14, T⟩ := T
    obtain ⟨q15, T⟩ := T
    refine v_iald (pc' := 53) dX9_buildStore_52 rfl rfl q14 q15 ?_
    obtain ⟨q19, T⟩ := T
    obtain ⟨z17, h16, k18, T⟩ := T
    refine v_callV (pc' := 56) (M1 := mX6_take) (as := [.ref (rH h r0 0), .int (h.2 (rH h r1 2) x2.toNatClampNeg), .int (h.2 (rH h r1 3) x2.toNatClampNeg), .int (h.2 (rH h r1 4) x2.toNatClampNeg), .int (h.2 (rH h r1 5) x2.toNatClampNeg)]) (r := (rH h r0 5)) (rest := []) 6 dX9_buildStore_53 rfl ko_X9_135 kc_X6_take ki_X6_take ks_X6_take (by decide) (by decide) hdd rfl rfl (le_l rfl) q19 k18 ?_
    refine v_pop (pc' := 57) dX9_buildStore_56 rfl rfl ?_
    refine v_aload_n (pc' := 58) dX9_buildStore_57 rfl rfl ?_
    obtain ⟨q20, T⟩ := T
    refine v_getR (pc' := 61) 9 0 dX9_buildStore_58 rfl (by decide) (by decide) rfl kf_X9_12 q20 ?_
    obtain ⟨q23, T⟩ := T
    obtain ⟨h21, k22, T⟩ := T
    refine v_callV (pc' := 64) (M1 := mX5_allOnDisk) (as := []) (r := (rH h16 r0 0)) (rest := []) 5 dX9_buildStore_61 rfl ko_X9_139 kc_X5_allOnDisk ki_X5_allOnDisk ks_X5_allOnDisk (by decide) (by decide) hdd rfl rfl (le_l rfl) q23 k22 ?_
    refine v_iinc (pc' := 67) (loc' := [.ref r0, .ref r1, .int (x2 + 1)]) dX9_buildStore_64 rfl rfl (kX_1 _) rfl ?_
    refine v_goto (pc' := 13) dX9_buildStore_67 (by decide) ?_
    exact T
theorem eX9_clearBook {G : GG} {d : Nat} {h : Hp} {o : OU} {h' : Hp} (r0 : Nat) (T : V G mX9_clearBook d 2 [.ref r0, .int 0] [] h o h') : VM G mX9_clearBook d [.ref r0] h o h' := by
  refine V.toM rfl rfl (le_l rfl) (cat_all rfl) ?_
  show V G mX9_clearBook d 0 [.ref r0, uV] [] h o h'
  refine v_iconst (pc' := 1) (v := 0) dX9_clearBook_0 rfl kI_0 ?_
  refine v_istore_n (pc' := 2) (loc' := [.ref r0, .int 0]) dX9_clearBook_1 rfl (lt_l rfl) rfl ?_
  exact T
theorem bX9_clearBook_2 {G : GG} {d : Nat} {h : Hp} {o : OU} {h' : Hp} (r0 : Nat) (x1 : Int32) (T : ((16 ≤ x1 → kH h r0 = 19 ∧ (o = .inl none ∧ h' = (h.1, (upI h.2 r0 13 0)))) ∧ (¬ 16 ≤ x1 → kH h r0 = 19 ∧ kH h (rH h r0 8) = 1 ∧ vp_in x1 (lH h (rH h r0 8)) ∧ V G mX9_clearBook d 2 [.ref r0, .int (x1 + 1)] [] (h.1, (upI h.2 (rH h r0 8) x1.toNatClampNeg (-1))) o h'))) : V G mX9_clearBook d 2 [.ref r0, .int x1] [] h o h' := by
  refine v_iload_n (pc' := 3) dX9_clearBook_2 rfl rfl ?_
  refine v_bipush (pc' := 5) (v := 16) dX9_clearBook_3 rfl kB_16 ?_
  refine v_icmp_ge (tgt := 21) (pc' := 8) dX9_clearBook_5 (by decide) rfl ⟨fun c1 => ?_, fun c1 => ?_⟩
  · have T := T.1 c1
    refine v_aload_n (pc' := 22) dX9_clearBook_21 rfl rfl ?_
    refine v_iconst (pc' := 23) (v := 0) dX9_clearBook_22 rfl kI_0 ?_
    obtain ⟨q2, T⟩ := T
    refine v_putI (pc' := 26) 9 13 dX9_clearBook_23 rfl (by decide) (by decide) rfl rfl kf_X9_145 q2 ?_
    exact v_vret dX9_clearBook_26 rfl T
  · have T := T.2 c1
    refine v_aload_n (pc' := 9) dX9_clearBook_8 rfl rfl ?_
    obtain ⟨q3, T⟩ := T
    refine v_getR (pc' := 12) 9 8 dX9_clearBook_9 rfl (by decide) (by decide) rfl kf_X9_58 q3 ?_
    refine v_iload_n (pc' := 13) dX9_clearBook_12 rfl rfl ?_
    refine v_iconst (pc' := 14) (v := (-1)) dX9_clearBook_13 rfl kI_m1 ?_
    obtain ⟨q4, T⟩ := T
    obtain ⟨q5, T⟩ := T
    refine v_iast (pc' := 15) dX9_clearBook_14 rfl rfl q4 q5 ?_
    refine v_iinc (pc' := 18) (loc' := [.ref r0, .int (x1 + 1)]) dX9_clearBook_15 rfl rfl (kX_1 _) rfl ?_
    refine v_goto (pc' := 2) dX9_clearBook_18 (by decide) ?_
    exact T
theorem eX9_work {G : GG} {d : Nat} {h : Hp} {o : OU} {h' : Hp} (r0 : Nat) (x1 : Int32) (hd : 1 ≤ d) (T : kH h r0 = 19 ∧ ((∃ h1, VM G mX9_testLength (d - 1) [.ref r0, .int x1, .int 150] h (.inl none) h1 ∧ kH h1 r0 = 19 ∧ kH h1 (rH h1 r0 1) = 10 ∧ (((h1.2 (rH h1 r0 1) 1) < 16 → kH h1 (rH h1 r0 7) = 13 ∧ ∃ z8 h7, VM G mX3_readWork (d - 1) [.ref (rH h1 r0 7), .ref (rH h1 r0 6), .int x1] h1 (.inl (some (.int z8))) h7 ∧ kH h7 r0 = 19 ∧ ∃ h11, VM G mX9_textRead (d - 1) [.ref r0, .int z8] h7 (.inl none) h11 ∧ ((z8 = 0 → kH h11 r0 = 19 ∧ kH h11 (rH h11 r0 1) = 10 ∧ ∃ h16, VM G mX0_push (d - 1) [.ref (rH h11 r0 1), .ref (rH h11 r0 0)] h11 (.inl none) h16 ∧ kH h16 r0 = 19 ∧ kH h16 (rH h16 r0 7) = 13 ∧ ∃ z22 h21, VM G mX9_runScript (d - 1) [.ref r0, .ref (rH h16 (rH h16 r0 7) 0)] h16 (.inl (some (.int z22))) h21 ∧ (o = .inl (some (.int z22)) ∧ h' = h21)) ∧ (¬ z8 = 0 → (o = .inl (some (.int (z8 - 10))) ∧ h' = h11)))) ∧ (¬ (h1.2 (rH h1 r0 1) 1) < 16 → ∃ h24, VM G mX9_textRead (d - 1) [.ref r0, .int 0] h1 (.inl none) h24 ∧ (o = .inl (some (.int (-20))) ∧ h' = h24)))) ∨ ∃ E, o = .inr E ∧ VM G mX9_testLength (d - 1) [.ref r0, .int x1, .int 150] h (.inr E) h')) : VM G mX9_work d [.ref r0, .int x1] h o h' := by
  refine V.toM rfl rfl (le_l rfl) (cat_all rfl) ?_
  show V G mX9_work d 0 [.ref r0, .int x1, uV] [] h o h'
  have hdd : d - 1 + 1 ≤ d := by omega
  refine v_aload_n (pc' := 1) dX9_work_0 rfl rfl ?_
  refine v_iload_n (pc' := 2) dX9_work_1 rfl rfl ?_
  refine v_sipush (pc' := 5) (v := 150) dX9_work_2 rfl kS_150 ?_
  obtain ⟨q3, T⟩ := T
  rcases T with T | ⟨E, rfl, k2⟩
  · obtain ⟨h1, k2, T⟩ := T
    refine v_callV (pc' := 8) (M1 := mX9_testLength) (as := [.int x1, .int 150]) (r := r0) (rest := []) 9 dX9_work_5 rfl ko_X9_85 kc_X9_testLength ki_X9_testLength ks_X9_testLength (by decide) (by decide) hdd rfl rfl (le_l rfl) q3 k2 ?_
    refine v_aload_n (pc' := 9) dX9_work_8 rfl rfl ?_
    obtain ⟨q4, T⟩ := T
    refine v_getR (pc' := 12) 9 1 dX9_work_9 rfl (by decide) (by decide) rfl kf_X9_19 q4 ?_
    obtain ⟨q5, T⟩ := T
    refine v_getI (pc' := 15) 0 1 dX9_work_12 rfl (by decide) (by decide) rfl kf_X9_104 q5 ?_
    refine v_bipush (pc' := 17) (v := 16) dX9_work_15 rfl kB_16 ?_
    refine v_icmp_lt (tgt := 28) (pc' := 20) dX9_work_17 (by decide) rfl ⟨fun c6 => ?_, fun c6 => ?_⟩
    · have T := T.1 c6
      refine v_aload_n (pc' := 29) dX9_work_28 rfl rfl ?_
      refine v_getR (pc' := 32) 9 7 dX9_work_29 rfl (by decide) (by decide) rfl kf_X9_54 q4 ?_
      refine v_aload_n (pc' := 33) dX9_work_32 rfl rfl ?_
      refine v_getR (pc' := 36) 9 6 dX9_work_33 rfl (by decide) (by decide) rfl kf_X9_47 q4 ?_
      refine v_iload_n (pc' := 37) dX9_work_36 rfl rfl ?_
      obtain ⟨q10, T⟩ := T
      obtain ⟨z8, h7, k9, T⟩ := T
      refine v_callV (pc' := 40) (M1 := mX3_readWork) (as := [.ref (rH h1 r0 6), .int x1]) (r := (rH h1 r0 7)) (rest := []) 3 dX9_work_37 rfl ko_X9_148 kc_X3_readWork ki_X3_readWork ks_X3_readWork (by decide) (by decide) hdd rfl rfl (le_l rfl) q10 k9 ?_
      refine v_istore_n (pc' := 41) (loc' := [.ref r0, .int x1, .int z8]) dX9_work_40 rfl (lt_l rfl) rfl ?_
      refine v_aload_n (pc' := 42) dX9_work_41 rfl rfl ?_
      refine v_iload_n (pc' := 43) dX9_work_42 rfl rfl ?_
      obtain ⟨q13, T⟩ := T
      obtain ⟨h11, k12, T⟩ := T
      refine v_callV (pc' := 46) (M1 := mX9_textRead) (as := [.int z8]) (r := r0) (rest := []) 9 dX9_work_43 rfl ko_X9_93 kc_X9_textRead ki_X9_textRead ks_X9_textRead (by decide) (by decide) hdd rfl rfl (le_l rfl) q13 k12 ?_
      refine v_iload_n (pc' := 47) dX9_work_46 rfl rfl ?_
      refine v_if_eq (tgt := 55) (pc' := 50) dX9_work_47 (by decide) rfl ⟨fun c14 => ?_, fun c14 => ?_⟩
      · have T := T.1 c14
        refine v_aload_n (pc' := 56) dX9_work_55 rfl rfl ?_
        obtain ⟨q15, T⟩ := T
        refine v_getR (pc' := 59) 9 1 dX9_work_56 rfl (by decide) (by decide) rfl kf_X9_19 q15 ?_
        refine v_aload_n (pc' := 60) dX9_work_59 rfl rfl ?_
        refine v_getR (pc' := 63) 9 0 dX9_work_60 rfl (by decide) (by decide) rfl kf_X9_12 q15 ?_
        obtain ⟨q18, T⟩ := T
        obtain ⟨h16, k17, T⟩ := T
        refine v_callV (pc' := 66) (M1 := mX0_push) (as := [.ref (rH h11 r0 0)]) (r := (rH h11 r0 1)) (rest := []) 0 dX9_work_63 rfl ko_X9_151 kc_X0_push ki_X0_push ks_X0_push (by decide) (by decide) hdd rfl rfl (le_l rfl) q18 k17 ?_
        refine v_aload_n (pc' := 67) dX9_work_66 rfl rfl ?_
        refine v_aload_n (pc' := 68) dX9_work_67 rfl rfl ?_
        obtain ⟨q19, T⟩ := T
        refine v_getR (pc' := 71) 9 7 dX9_work_68 rfl (by decide) (by decide) rfl kf_X9_54 q19 ?_
        obtain ⟨q20, T⟩ := T
        refine v_getR (pc' := 74) 3 0 dX9_work_71 rfl (by decide) (by decide) rfl kf_X9_96 q20 ?_
        obtain ⟨z22, h21, k23, T⟩ := T
        refine v_callV (pc' := 77) (M1 := mX9_runScript) (as := [.ref (rH h16 (rH h16 r0 7) 0)]) (r := r0) (rest := []) 9 dX9_work_74 rfl ko_X9_155 kc_X9_runScript ki_X9_runScript ks_X9_runScript (by decide) (by decide) hdd rfl rfl (le_l rfl) q19 k23 ?_
        exact v_iret dX9_work_77 rfl T
      · have T := T.2 c14
        refine v_iload_n (pc' := 51) dX9_work_50 rfl rfl ?_
        refine v_bipush (pc' := 53) (v := 10) dX9_work_51 rfl kB_10 ?_
        refine v_isub (pc' := 54) dX9_work_53 rfl ?_
        exact v_iret dX9_work_54 rfl T
    · have T := T.2 c6
      refine v_aload_n (pc' := 21) dX9_work_20 rfl rfl ?_
      refine v_iconst (pc' := 22) (v := 0) dX9_work_21 rfl kI_0 ?_
      obtain ⟨h24, k25, T⟩ := T
      refine v_callV (pc' := 25) (M1 := mX9_textRead) (as := [.int 0]) (r := r0) (rest := []) 9 dX9_work_22 rfl ko_X9_93 kc_X9_textRead ki_X9_textRead ks_X9_textRead (by decide) (by decide) hdd rfl rfl (le_l rfl) q4 k25 ?_
      refine v_bipush (pc' := 27) (v := (-20)) dX9_work_25 rfl kB_m20 ?_
      exact v_iret dX9_work_27 rfl T
  · exact v_callVx (M1 := mX9_testLength) (as := [.int x1, .int 150]) (r := r0) (rest := []) 9 dX9_work_5 rfl ko_X9_85 kc_X9_testLength ki_X9_testLength ks_X9_testLength (by decide) (by decide) hdd rfl rfl (le_l rfl) q3 k2
theorem eX9_runScript {G : GG} {d : Nat} {h : Hp} {o : OU} {h' : Hp} (r0 : Nat) (r1 : Nat) (T : kH h r0 = 19 ∧ V G mX9_runScript d 15 [.ref r0, .ref r1, .int 0, .int 0, .int 0, .int 0, uV] [] (h.1, (upI h.2 r0 15 0)) o h') : VM G mX9_runScript d [.ref r0, .ref r1] h o h' := by
  refine V.toM rfl rfl (le_l rfl) (cat_all rfl) ?_
  show V G mX9_runScript d 0 [.ref r0, .ref r1, uV, uV, uV, uV, uV] [] h o h'
  refine v_iconst (pc' := 1) (v := 0) dX9_runScript_0 rfl kI_0 ?_
  refine v_istore_n (pc' := 2) (loc' := [.ref r0, .ref r1, .int 0, uV, uV, uV, uV]) dX9_runScript_1 rfl (lt_l rfl) rfl ?_
  refine v_iconst (pc' := 3) (v := 0) dX9_runScript_2 rfl kI_0 ?_
  refine v_istore_n (pc' := 4) (loc' := [.ref r0, .ref r1, .int 0, .int 0, uV, uV, uV]) dX9_runScript_3 rfl (lt_l rfl) rfl ?_
  refine v_iconst (pc' := 5) (v := 0) dX9_runScript_4 rfl kI_0 ?_
  refine v_istore (pc' := 7) (loc' := [.ref r0, .ref r1, .int 0, .int 0, .int 0, uV, uV]) dX9_runScript_5 rfl (lt_l rfl) rfl ?_
  refine v_aload_n (pc' := 8) dX9_runScript_7 rfl rfl ?_
  refine v_iconst (pc' := 9) (v := 0) dX9_runScript_8 rfl kI_0 ?_
  obtain ⟨q1, T⟩ := T
  refine v_putI (pc' := 12) 9 15 dX9_runScript_9 rfl (by decide) (by decide) rfl rfl kf_X9_110 q1 ?_
  refine v_iconst (pc' := 13) (v := 0) dX9_runScript_12 rfl kI_0 ?_
  refine v_istore (pc' := 15) (loc' := [.ref r0, .ref r1, .int 0, .int 0, .int 0, .int 0, uV]) dX9_runScript_13 rfl (lt_l rfl) rfl ?_
  exact T
theorem bX9_runScript_15 {G : GG} {d : Nat} {h : Hp} {o : OU} {h' : Hp} (r0 : Nat) (r1 : Nat) (x2 : Int32) (x3 : Int32) (x4 : Int32) (x5 : Int32) (hd : 1 ≤ d) (T : ((100000 ≤ x5 → (o = .inl (some (.int x2)) ∧ h' = h)) ∧ (¬ 100000 ≤ x5 → kH h r1 = 14 ∧ (((h.2 r1 1) ≤ x4 → (o = .inl (some (.int x2)) ∧ h' = h)) ∧ (¬ (h.2 r1 1) ≤ x4 → ((200 ≤ x3 → (o = .inl (some (.int x2)) ∧ h' = h)) ∧ (¬ 200 ≤ x3 → kH h (rH h r1 2) = 1 ∧ vp_in x4 (lH h (rH h r1 2)) ∧ ((¬ (h.2 (rH h r1 2) x4.toNatClampNeg) = 13 → ((¬ (h.2 (rH h r1 2) x4.toNatClampNeg) = 11 → kH h r0 = 19 ∧ kH h (rH h r1 3) = 1 ∧ vp_in x4 (lH h (rH h r1 3)) ∧ kH h (rH h r1 4) = 1 ∧ vp_in x4 (lH h (rH h r1 4)) ∧ kH h (rH h r1 5) = 1 ∧ vp_in x4 (lH h (rH h r1 5)) ∧ kH h (rH h r0 5) = 16 ∧ ∃ z17 h16, VM G mX6_take (d - 1) [.ref (rH h r0 5), .ref (rH h r0 0), .int (h.2 (rH h r1 2) x4.toNatClampNeg), .int (h.2 (rH h r1 3) x4.toNatClampNeg), .int (h.2 (rH h r1 4) x4.toNatClampNeg), .int (h.2 (rH h r1 5) x4.toNatClampNeg)] h (.inl (some (.int z17))) h16 ∧ ((z17 = 0 → kH h16 r0 = 19 ∧ V G mX9_runScript d 15 [.ref r0, .ref r1, .int x2, .int (x3 + 1), .int (x4 + 1), .int (x5 + 1), uV] [] (h16.1, (upI h16.2 r0 15 ((h16.2 r0 15) + 1))) o h') ∧ (¬ z17 = 0 → V G mX9_runScript d 15 [.ref r0, .ref r1, .int (x2 + 1), .int (x3 + 1), .int (x4 + 1), .int (x5 + 1), uV] [] h16 o h'))) ∧ ((h.2 (rH h r1 2) x4.toNatClampNeg) = 11 → ∃ z23 h22, VM G mX4_afterAgain (d - 1) [.ref r1, .int x4] h (.inl (some (.int z23))) h22 ∧ V G mX9_runScript d 15 [.ref r0, .ref r1, .int x2, .int (x3 + 1), .int z23, .int (x5 + 1), uV] [] h22 o h'))) ∧ ((h.2 (rH h r1 2) x4.toNatClampNeg) = 13 → ∃ z26 h25, VM G mX4_afterEnd (d - 1) [.ref r1, .int x4] h (.inl (some (.int z26))) h25 ∧ V G mX9_runScript d 15 [.ref r0, .ref r1, .int x2, .int x3, .int z26, .int (x5 + 1), uV] [] h25 o h'))))))))) : V G mX9_runScript d 15 [.ref r0, .ref r1, .int x2, .int x3, .int x4, .int x5, uV] [] h o h' := by
  have hdd : d - 1 + 1 ≤ d := by omega
  refine v_iload (pc' := 17) dX9_runScript_15 rfl rfl ?_
  refine v_ldc (pc' := 19) (v := 100000) dX9_runScript_17 rfl kv_X9_159 ?_
  refine v_icmp_ge (tgt := 151) (pc' := 22) dX9_runScript_19 (by decide) rfl ⟨fun c1 => ?_, fun c1 => ?_⟩
  · have T := T.1 c1
    refine v_iload_n (pc' := 152) dX9_runScript_151 rfl rfl ?_
    exact v_iret dX9_runScript_152 rfl T
  · have T := T.2 c1
    refine v_iload (pc' := 24) dX9_runScript_22 rfl rfl ?_
    refine v_aload_n (pc' := 25) dX9_runScript_24 rfl rfl ?_
    obtain ⟨q2, T⟩ := T
    refine v_getI (pc' := 28) 4 1 dX9_runScript_25 rfl (by decide) (by decide) rfl kf_X9_122 q2 ?_
    refine v_icmp_ge (tgt := 151) (pc' := 31) dX9_runScript_28 (by decide) rfl ⟨fun c3 => ?_, fun c3 => ?_⟩
    · have T := T.1 c3
      refine v_iload_n (pc' := 152) dX9_runScript_151 rfl rfl ?_
      exact v_iret dX9_runScript_152 rfl T
    · have T := T.2 c3
      refine v_iload_n (pc' := 32) dX9_runScript_31 rfl rfl ?_
      refine v_sipush (pc' := 35) (v := 200) dX9_runScript_32 rfl kS_200 ?_
      refine v_icmp_ge (tgt := 151) (pc' := 38) dX9_runScript_35 (by decide) rfl ⟨fun c4 => ?_, fun c4 => ?_⟩
      · have T := T.1 c4
        refine v_iload_n (pc' := 152) dX9_runScript_151 rfl rfl ?_
        exact v_iret dX9_runScript_152 rfl T
      · have T := T.2 c4
        refine v_aload_n (pc' := 39) dX9_runScript_38 rfl rfl ?_
        refine v_getR (pc' := 42) 4 2 dX9_runScript_39 rfl (by decide) (by decide) rfl kf_X9_123 q2 ?_
        refine v_iload (pc' := 44) dX9_runScript_42 rfl rfl ?_
        obtain ⟨q5, T⟩ := T
        obtain ⟨q6, T⟩ := T
        refine v_iald (pc' := 45) dX9_runScript_44 rfl rfl q5 q6 ?_
        refine v_istore (pc' := 47) (loc' := [.ref r0, .ref r1, .int x2, .int x3, .int x4, .int x5, .int (h.2 (rH h r1 2) x4.toNatClampNeg)]) dX9_runScript_45 rfl (lt_l rfl) rfl ?_
        refine v_iload (pc' := 49) dX9_runScript_47 rfl rfl ?_
        refine v_bipush (pc' := 51) (v := 13) dX9_runScript_49 rfl kB_13 ?_
        refine v_icmp_ne (tgt := 65) (pc' := 54) dX9_runScript_51 (by decide) rfl ⟨fun c7 => ?_, fun c7 => ?_⟩
        · have T := T.1 c7
          refine v_iload (pc' := 67) dX9_runScript_65 rfl rfl ?_
          refine v_bipush (pc' := 69) (v := 11) dX9_runScript_67 rfl kB_11 ?_
          refine v_icmp_ne (tgt := 86) (pc' := 72) dX9_runScript_69 (by decide) rfl ⟨fun c8 => ?_, fun c8 => ?_⟩
          · have T := T.1 c8
            refine v_iinc (pc' := 89) (loc' := [.ref r0, .ref r1, .int x2, .int (x3 + 1), .int x4, .int x5, .int (h.2 (rH h r1 2) x4.toNatClampNeg)]) dX9_runScript_86 rfl rfl (kX_1 _) rfl ?_
            refine v_aload_n (pc' := 90) dX9_runScript_89 rfl rfl ?_
            obtain ⟨q9, T⟩ := T
            refine v_getR (pc' := 93) 9 5 dX9_runScript_90 rfl (by decide) (by decide) rfl kf_X9_43 q9 ?_
            refine v_aload_n (pc' := 94) dX9_runScript_93 rfl rfl ?_
            refine v_getR (pc' := 97) 9 0 dX9_runScript_94 rfl (by decide) (by decide) rfl kf_X9_12 q9 ?_
            refine v_iload (pc' := 99) dX9_runScript_97 rfl rfl ?_
            refine v_aload_n (pc' := 100) dX9_runScript_99 rfl rfl ?_
            refine v_getR (pc' := 103) 4 3 dX9_runScript_100 rfl (by decide) (by decide) rfl kf_X9_126 q2 ?_
            refine v_iload (pc' := 105) dX9_runScript_103 rfl rfl ?_
            obtain ⟨q10, T⟩ := T
            obtain ⟨q11, T⟩ := T
            refine v_iald (pc' := 106) dX9_runScript_105 rfl rfl q10 q11 ?_
            refine v_aload_n (pc' := 107) dX9_runScript_106 rfl rfl ?_
            refine v_getR (pc' := 110) 4 4 dX9_runScript_107 rfl (by decide) (by decide) rfl kf_X9_129 q2 ?_
            refine v_iload (pc' := 112) dX9_runScript_110 rfl rfl ?_
            obtain ⟨q12, T⟩ := T
            obtain ⟨q13, T⟩ := T
            refine v_iald (pc' := 113) dX9_runScript_112 rfl rfl q12 q13 ?_
            refine v_aload_n (pc' := 114) dX9_runScript_113 rfl rfl ?_
            refine v_getR (pc' := 117) 4 5 dX9_runScript_114 rfl (by decide) (by decide) rfl kf_X9_132 q2 ?_
            refine v_iload (pc' := 119) dX9_runScript_117 rfl rfl ?_
            obtain ⟨q14, T⟩ := T
            obtain ⟨q15, T⟩ := T
            refine v_iald (pc' := 120) dX9_runScript_119 rfl rfl q14 q15 ?_
            obtain ⟨q19, T⟩ := T
            obtain ⟨z17, h16, k18, T⟩ := T
            refine v_callV (pc' := 123) (M1 := mX6_take) (as := [.ref (rH h r0 0), .int (h.2 (rH h r1 2) x4.toNatClampNeg), .int (h.2 (rH h r1 3) x4.toNatClampNeg), .int (h.2 (rH h r1 4) x4.toNatClampNeg), .int (h.2 (rH h r1 5) x4.toNatClampNeg)]) (r := (rH h r0 5)) (rest := []) 6 dX9_runScript_120 rfl ko_X9_135 kc_X6_take ki_X6_take ks_X6_take (by decide) (by decide) hdd rfl rfl (le_l rfl) q19 k18 ?_
            refine v_if_eq (tgt := 132) (pc' := 126) dX9_runScript_123 (by decide) rfl ⟨fun c20 => ?_, fun c20 => ?_⟩
            · have T := T.1 c20
              refine v_aload_n (pc' := 133) dX9_runScript_132 rfl rfl ?_
              refine v_dup (pc' := 134) dX9_runScript_133 rfl rfl ?_
              obtain ⟨q21, T⟩ := T
              refine v_getI (pc' := 137) 9 15 dX9_runScript_134 rfl (by decide) (by decide) rfl kf_X9_110 q21 ?_
              refine v_iconst (pc' := 138) (v := 1) dX9_runScript_137 rfl kI_1 ?_
              refine v_iadd (pc' := 139) dX9_runScript_138 rfl ?_
              refine v_putI (pc' := 142) 9 15 dX9_runScript_139 rfl (by decide) (by decide) rfl rfl kf_X9_110 q21 ?_
              refine v_iinc (pc' := 145) (loc' := [.ref r0, .ref r1, .int x2, .int (x3 + 1), .int (x4 + 1), .int x5, .int (h.2 (rH h r1 2) x4.toNatClampNeg)]) dX9_runScript_142 rfl rfl (kX_1 _) rfl ?_
              refine v_iinc (pc' := 148) (loc' := [.ref r0, .ref r1, .int x2, .int (x3 + 1), .int (x4 + 1), .int (x5 + 1), .int (h.2 (rH h r1 2) x4.toNatClampNeg)]) dX9_runScript_145 rfl rfl (kX_1 _) rfl ?_
              refine v_goto (pc' := 15) dX9_runScript_148 (by decide) ?_
              exact V.drop (llp_r (llp_r (llp_r (llp_r (llp_r (llp_r (llp_u llp_nil))))))) T
            · have T := T.2 c20
              refine v_iinc (pc' := 129) (loc' := [.ref r0, .ref r1, .int (x2 + 1), .int (x3 + 1), .int x4, .int x5, .int (h.2 (rH h r1 2) x4.toNatClampNeg)]) dX9_runScript_126 rfl rfl (kX_1 _) rfl ?_
              refine v_goto (pc' := 142) dX9_runScript_129 (by decide) ?_
              refine v_iinc (pc' := 145) (loc' := [.ref r0, .ref r1, .int (x2 + 1), .int (x3 + 1), .int (x4 + 1), .int x5, .int (h.2 (rH h r1 2) x4.toNatClampNeg)]) dX9_runScript_142 rfl rfl (kX_1 _) rfl ?_
              refine v_iinc (pc' := 148) (loc' := [.ref r0, .ref r1, .int (x2 + 1), .int (x3 + 1), .int (x4 + 1), .int (x5 + 1), .int (h.2 (rH h r1 2) x4.toNatClampNeg)]) dX9_runScript_145 rfl rfl (kX_1 _) rfl ?_
              refine v_goto (pc' := 15) dX9_runScript_148 (by decide) ?_
              exact V.drop (llp_r (llp_r (llp_r (llp_r (llp_r (llp_r (llp_u llp_nil))))))) T
          · have T := T.2 c8
            refine v_iinc (pc' := 75) (loc' := [.ref r0, .ref r1, .int x2, .int (x3 + 1), .int x4, .int x5, .int (h.2 (rH h r1 2) x4.toNatClampNeg)]) dX9_runScript_72 rfl rfl (kX_1 _) rfl ?_
            refine v_aload_n (pc' := 76) dX9_runScript_75 rfl rfl ?_
            refine v_iload (pc' := 78) dX9_runScript_76 rfl rfl ?_
            obtain ⟨z23, h22, k24, T⟩ := T
            refine v_callV (pc' := 81) (M1 := mX4_afterAgain) (as := [.int x4]) (r := r1) (rest := []) 4 dX9_runScript_78 rfl ko_X9_164 kc_X4_afterAgain ki_X4_afterAgain ks_X4_afterAgain (by decide) (by decide) hdd rfl rfl (le_l rfl) q2 k24 ?_
            refine v_istore (pc' := 83) (loc' := [.ref r0, .ref r1, .int x2, .int (x3 + 1), .int z23, .int x5, .int (h.2 (rH h r1 2) x4.toNatClampNeg)]) dX9_runScript_81 rfl (lt_l rfl) rfl ?_
            refine v_goto (pc' := 145) dX9_runScript_83 (by decide) ?_
            refine v_iinc (pc' := 148) (loc' := [.ref r0, .ref r1, .int x2, .int (x3 + 1), .int z23, .int (x5 + 1), .int (h.2 (rH h r1 2) x4.toNatClampNeg)]) dX9_runScript_145 rfl rfl (kX_1 _) rfl ?_
            refine v_goto (pc' := 15) dX9_runScript_148 (by decide) ?_
            exact V.drop (llp_r (llp_r (llp_r (llp_r (llp_r (llp_r (llp_u llp_nil))))))) T
        · have T := T.2 c7
          refine v_aload_n (pc' := 55) dX9_runScript_54 rfl rfl ?_
          refine v_iload (pc' := 57) dX9_runScript_55 rfl rfl ?_
          obtain ⟨z26, h25, k27, T⟩ := T
          refine v_callV (pc' := 60) (M1 := mX4_afterEnd) (as := [.int x4]) (r := r1) (rest := []) 4 dX9_runScript_57 rfl ko_X9_160 kc_X4_afterEnd ki_X4_afterEnd ks_X4_afterEnd (by decide) (by decide) hdd rfl rfl (le_l rfl) q2 k27 ?_
          refine v_istore (pc' := 62) (loc' := [.ref r0, .ref r1, .int x2, .int x3, .int z26, .int x5, .int (h.2 (rH h r1 2) x4.toNatClampNeg)]) dX9_runScript_60 rfl (lt_l rfl) rfl ?_
          refine v_goto (pc' := 145) dX9_runScript_62 (by decide) ?_
          refine v_iinc (pc' := 148) (loc' := [.ref r0, .ref r1, .int x2, .int x3, .int z26, .int (x5 + 1), .int (h.2 (rH h r1 2) x4.toNatClampNeg)]) dX9_runScript_145 rfl rfl (kX_1 _) rfl ?_
          refine v_goto (pc' := 15) dX9_runScript_148 (by decide) ?_
          exact V.drop (llp_r (llp_r (llp_r (llp_r (llp_r (llp_r (llp_u llp_nil))))))) T
theorem eX9_book {G : GG} {d : Nat} {h : Hp} {o : OU} {h' : Hp} (r0 : Nat) (x1 : Int32) (hd : 1 ≤ d) (T : kH h r0 = 19 ∧ ((∃ h1, VM G mX9_testLength (d - 1) [.ref r0, .int x1, .int 60] h (.inl none) h1 ∧ kH h1 r0 = 19 ∧ kH h1 (rH h1 r0 7) = 13 ∧ ∃ z6 h5, VM G mX3_readBook (d - 1) [.ref (rH h1 r0 7), .ref (rH h1 r0 6), .int x1] h1 (.inl (some (.int z6))) h5 ∧ kH h5 r0 = 19 ∧ ∃ h9, VM G mX9_textRead (d - 1) [.ref r0, .int z6] h5 (.inl none) h9 ∧ ((z6 = 0 → kH h9 r0 = 19 ∧ kH h9 (rH h9 r0 7) = 13 ∧ kH h9 (rH h9 (rH h9 r0 7) 1) = 1 ∧ kH h9 (rH h9 r0 8) = 1 ∧ 0 + 16 ≤ lH h9 (rH h9 (rH h9 r0 7) 1) ∧ 0 + 16 ≤ lH h9 (rH h9 r0 8) ∧ (∀ i19 : Nat → Nat → Int32, i19 = (upI (cpI h9.2 (rH h9 (rH h9 r0 7) 1) (rH h9 r0 8) 0 0 16) r0 13 ((cpI h9.2 (rH h9 (rH h9 r0 7) 1) (rH h9 r0 8) 0 0 16) (rH h9 r0 7) 2)) → (o = .inl (some (.int (i19 r0 13))) ∧ h' = (h9.1, i19)))) ∧ (¬ z6 = 0 → (o = .inl (some (.int (z6 - 10))) ∧ h' = h9)))) ∨ ∃ E, o = .inr E ∧ VM G mX9_testLength (d - 1) [.ref r0, .int x1, .int 60] h (.inr E) h')) : VM G mX9_book d [.ref r0, .int x1] h o h' := by
  refine V.toM rfl rfl (le_l rfl) (cat_all rfl) ?_
  show V G mX9_book d 0 [.ref r0, .int x1, uV] [] h o h'
  have hdd : d - 1 + 1 ≤ d := by omega
  refine v_aload_n (pc' := 1) dX9_book_0 rfl rfl ?_
  refine v_iload_n (pc' := 2) dX9_book_1 rfl rfl ?_
  refine v_bipush (pc' := 4) (v := 60) dX9_book_2 rfl kB_60 ?_
  obtain ⟨q3, T⟩ := T
  rcases T with T | ⟨E, rfl, k2⟩
  · obtain ⟨h1, k2, T⟩ := T
    refine v_callV (pc' := 7) (M1 := mX9_testLength) (as := [.int x1, .int 60]) (r := r0) (rest := []) 9 dX9_book_4 rfl ko_X9_85 kc_X9_testLength ki_X9_testLength ks_X9_testLength (by decide) (by decide) hdd rfl rfl (le_l rfl) q3 k2 ?_
    refine v_aload_n (pc' := 8) dX9_book_7 rfl rfl ?_
    obtain ⟨q4, T⟩ := T
    refine v_getR (pc' := 11) 9 7 dX9_book_8 rfl (by decide) (by decide) rfl kf_X9_54 q4 ?_
    refine v_aload_n (pc' := 12) dX9_book_11 rfl rfl ?_
    refine v_getR (pc' := 15) 9 6 dX9_book_12 rfl (by decide) (by decide) rfl kf_X9_47 q4 ?_
    refine v_iload_n (pc' := 16) dX9_book_15 rfl rfl ?_
    obtain ⟨q8, T⟩ := T
    obtain ⟨z6, h5, k7, T⟩ := T
    refine v_callV (pc' := 19) (M1 := mX3_readBook) (as := [.ref (rH h1 r0 6), .int x1]) (r := (rH h1 r0 7)) (rest := []) 3 dX9_book_16 rfl ko_X9_167 kc_X3_readBook ki_X3_readBook ks_X3_readBook (by decide) (by decide) hdd rfl rfl (le_l rfl) q8 k7 ?_
    refine v_istore_n (pc' := 20) (loc' := [.ref r0, .int x1, .int z6]) dX9_book_19 rfl (lt_l rfl) rfl ?_
    refine v_aload_n (pc' := 21) dX9_book_20 rfl rfl ?_
    refine v_iload_n (pc' := 22) dX9_book_21 rfl rfl ?_
    obtain ⟨q11, T⟩ := T
    obtain ⟨h9, k10, T⟩ := T
    refine v_callV (pc' := 25) (M1 := mX9_textRead) (as := [.int z6]) (r := r0) (rest := []) 9 dX9_book_22 rfl ko_X9_93 kc_X9_textRead ki_X9_textRead ks_X9_textRead (by decide) (by decide) hdd rfl rfl (le_l rfl) q11 k10 ?_
    refine v_iload_n (pc' := 26) dX9_book_25 rfl rfl ?_
    refine v_if_eq (tgt := 34) (pc' := 29) dX9_book_26 (by decide) rfl ⟨fun c12 => ?_, fun c12 => ?_⟩
    · have T := T.1 c12
      refine v_aload_n (pc' := 35) dX9_book_34 rfl rfl ?_
      obtain ⟨q13, T⟩ := T
      refine v_getR (pc' := 38) 9 7 dX9_book_35 rfl (by decide) (by decide) rfl kf_X9_54 q13 ?_
      obtain ⟨q14, T⟩ := T
      refine v_getR (pc' := 41) 3 1 dX9_book_38 rfl (by decide) (by decide) rfl kf_X9_170 q14 ?_
      refine v_iconst (pc' := 42) (v := 0) dX9_book_41 rfl kI_0 ?_
      refine v_aload_n (pc' := 43) dX9_book_42 rfl rfl ?_
      refine v_getR (pc' := 46) 9 8 dX9_book_43 rfl (by decide) (by decide) rfl kf_X9_58 q13 ?_
      refine v_iconst (pc' := 47) (v := 0) dX9_book_46 rfl kI_0 ?_
      refine v_bipush (pc' := 49) (v := 16) dX9_book_47 rfl kB_16 ?_
      obtain ⟨q15, T⟩ := T
      obtain ⟨q16, T⟩ := T
      obtain ⟨q17, T⟩ := T
      obtain ⟨q18, T⟩ := T
      refine v_copy (pc' := 52) 1 dX9_book_49 rfl km_X9_173 kx_acn kx_acs kx_aci hd (le_l rfl) (by decide) q15 q16 kN_0 kN_0 kN_16 (by decide) (by decide) (by decide) q17 q18 ?_
      refine v_aload_n (pc' := 53) dX9_book_52 rfl rfl ?_
      refine v_aload_n (pc' := 54) dX9_book_53 rfl rfl ?_
      refine v_getR (pc' := 57) 9 7 dX9_book_54 rfl (by decide) (by decide) rfl kf_X9_54 q13 ?_
      refine v_getI (pc' := 60) 3 2 dX9_book_57 rfl (by decide) (by decide) rfl kf_X9_179 q14 ?_
      refine v_putI (pc' := 63) 9 13 dX9_book_60 rfl (by decide) (by decide) rfl rfl kf_X9_145 q13 ?_
      show V G mX9_book d 63 [.ref r0, .int x1, .int z6] [] (h9.1, (upI (cpI h9.2 (rH h9 (rH h9 r0 7) 1) (rH h9 r0 8) 0 0 16) r0 13 ((cpI h9.2 (rH h9 (rH h9 r0 7) 1) (rH h9 r0 8) 0 0 16) (rH h9 r0 7) 2))) o h'
      obtain ⟨i19, e20⟩ : ∃ z : Nat → Nat → Int32, z = (upI (cpI h9.2 (rH h9 (rH h9 r0 7) 1) (rH h9 r0 8) 0 0 16) r0 13 ((cpI h9.2 (rH h9 (rH h9 r0 7) 1) (rH h9 r0 8) 0 0 16) (rH h9 r0 7) 2)) := ⟨_, rfl⟩
      rw [← e20]
      have T := T i19 e20
      refine v_aload_n (pc' := 64) dX9_book_63 rfl rfl ?_
      refine v_getI (pc' := 67) 9 13 dX9_book_64 rfl (by decide) (by decide) rfl kf_X9_145 q13 ?_
      exact v_iret dX9_book_67 rfl T
    · have T := T.2 c12
      refine v_iload_n (pc' := 30) dX9_book_29 rfl rfl ?_
      refine v_bipush (pc' := 32) (v := 10) dX9_book_30 rfl kB_10 ?_
      refine v_isub (pc' := 33) dX9_book_32 rfl ?_
      exact v_iret dX9_book_33 rfl T
  · exact v_callVx (M1 := mX9_testLength) (as := [.int x1, .int 60]) (r := r0) (rest := []) 9 dX9_book_4 rfl ko_X9_85 kc_X9_testLength ki_X9_testLength ks_X9_testLength (by decide) (by decide) hdd rfl rfl (le_l rfl) q3 k2
theorem eX9_textRead {G : GG} {d : Nat} {h : Hp} {o : OU} {h' : Hp} (r0 : Nat) (x1 : Int32) (T : kH h r0 = 19 ∧ ((¬ x1 = 0 → kH h (rH h r0 7) = 13 ∧ (o = .inl none ∧ h' = (h.1, (upI (upI h.2 r0 12 0) r0 14 ((upI h.2 r0 12 0) (rH h r0 7) 3))))) ∧ (x1 = 0 → (o = .inl none ∧ h' = (h.1, (upI (upI h.2 r0 12 0) r0 14 (-1))))))) : VM G mX9_textRead d [.ref r0, .int x1] h o h' := by
  refine V.toM rfl rfl (le_l rfl) (cat_all rfl) ?_
  show V G mX9_textRead d 0 [.ref r0, .int x1] [] h o h'
  refine v_aload_n (pc' := 1) dX9_textRead_0 rfl rfl ?_
  refine v_iconst (pc' := 2) (v := 0) dX9_textRead_1 rfl kI_0 ?_
  obtain ⟨q1, T⟩ := T
  refine v_putI (pc' := 5) 9 12 dX9_textRead_2 rfl (by decide) (by decide) rfl rfl kf_X9_78 q1 ?_
  refine v_aload_n (pc' := 6) dX9_textRead_5 rfl rfl ?_
  refine v_iload_n (pc' := 7) dX9_textRead_6 rfl rfl ?_
  refine v_if_ne (tgt := 14) (pc' := 10) dX9_textRead_7 (by decide) rfl ⟨fun c2 => ?_, fun c2 => ?_⟩
  · have T := T.1 c2
    refine v_aload_n (pc' := 15) dX9_textRead_14 rfl rfl ?_
    refine v_getR (pc' := 18) 9 7 dX9_textRead_15 rfl (by decide) (by decide) rfl kf_X9_54 q1 ?_
    obtain ⟨q3, T⟩ := T
    refine v_getI (pc' := 21) 3 3 dX9_textRead_18 rfl (by decide) (by decide) rfl kf_X9_189 q3 ?_
    refine v_putI (pc' := 24) 9 14 dX9_textRead_21 rfl (by decide) (by decide) rfl rfl kf_X9_71 q1 ?_
    exact v_vret dX9_textRead_24 rfl T
  · have T := T.2 c2
    refine v_iconst (pc' := 11) (v := (-1)) dX9_textRead_10 rfl kI_m1 ?_
    refine v_goto (pc' := 21) dX9_textRead_11 (by decide) ?_
    refine v_putI (pc' := 24) 9 14 dX9_textRead_21 rfl (by decide) (by decide) rfl rfl kf_X9_71 q1 ?_
    exact v_vret dX9_textRead_24 rfl T
theorem eX9_fault {G : GG} {d : Nat} {h : Hp} {o : OU} {h' : Hp} (r0 : Nat) (T : kH h r0 = 19 ∧ (o = .inl (some (.int (h.2 r0 14))) ∧ h' = h)) : VM G mX9_fault d [.ref r0] h o h' := by
  refine V.toM rfl rfl (le_l rfl) (cat_all rfl) ?_
  show V G mX9_fault d 0 [.ref r0] [] h o h'
  refine v_aload_n (pc' := 1) dX9_fault_0 rfl rfl ?_
  obtain ⟨q1, T⟩ := T
  refine v_getI (pc' := 4) 9 14 dX9_fault_1 rfl (by decide) (by decide) rfl kf_X9_71 q1 ?_
  exact v_iret dX9_fault_4 rfl T
theorem eX9_undo {G : GG} {d : Nat} {h : Hp} {o : OU} {h' : Hp} (r0 : Nat) (hd : 1 ≤ d) (T : kH h r0 = 19 ∧ kH h (rH h r0 1) = 10 ∧ ((0 < (h.2 (rH h r0 1) 1) → ∃ h4, VM G mX0_pop (d - 1) [.ref (rH h r0 1), .ref (rH h r0 0)] h (.inl none) h4 ∧ kH h4 r0 = 19 ∧ kH h4 (rH h4 r0 1) = 10 ∧ (o = .inl (some (.int ((upI h4.2 r0 15 0) (rH h4 r0 1) 1))) ∧ h' = (h4.1, (upI h4.2 r0 15 0)))) ∧ (¬ 0 < (h.2 (rH h r0 1) 1) → (o = .inl (some (.int (-1))) ∧ h' = h)))) : VM G mX9_undo d [.ref r0] h o h' := by
  refine V.toM rfl rfl (le_l rfl) (cat_all rfl) ?_
  show V G mX9_undo d 0 [.ref r0] [] h o h'
  have hdd : d - 1 + 1 ≤ d := by omega
  refine v_aload_n (pc' := 1) dX9_undo_0 rfl rfl ?_
  obtain ⟨q1, T⟩ := T
  refine v_getR (pc' := 4) 9 1 dX9_undo_1 rfl (by decide) (by decide) rfl kf_X9_19 q1 ?_
  obtain ⟨q2, T⟩ := T
  refine v_getI (pc' := 7) 0 1 dX9_undo_4 rfl (by decide) (by decide) rfl kf_X9_104 q2 ?_
  refine v_if_gt (tgt := 12) (pc' := 10) dX9_undo_7 (by decide) rfl ⟨fun c3 => ?_, fun c3 => ?_⟩
  · have T := T.1 c3
    refine v_aload_n (pc' := 13) dX9_undo_12 rfl rfl ?_
    refine v_getR (pc' := 16) 9 1 dX9_undo_13 rfl (by decide) (by decide) rfl kf_X9_19 q1 ?_
    refine v_aload_n (pc' := 17) dX9_undo_16 rfl rfl ?_
    refine v_getR (pc' := 20) 9 0 dX9_undo_17 rfl (by decide) (by decide) rfl kf_X9_12 q1 ?_
    obtain ⟨h4, k5, T⟩ := T
    refine v_callV (pc' := 23) (M1 := mX0_pop) (as := [.ref (rH h r0 0)]) (r := (rH h r0 1)) (rest := []) 0 dX9_undo_20 rfl ko_X9_192 kc_X0_pop ki_X0_pop ks_X0_pop (by decide) (by decide) hdd rfl rfl (le_l rfl) q2 k5 ?_
    refine v_aload_n (pc' := 24) dX9_undo_23 rfl rfl ?_
    refine v_iconst (pc' := 25) (v := 0) dX9_undo_24 rfl kI_0 ?_
    obtain ⟨q6, T⟩ := T
    refine v_putI (pc' := 28) 9 15 dX9_undo_25 rfl (by decide) (by decide) rfl rfl kf_X9_110 q6 ?_
    refine v_aload_n (pc' := 29) dX9_undo_28 rfl rfl ?_
    refine v_getR (pc' := 32) 9 1 dX9_undo_29 rfl (by decide) (by decide) rfl kf_X9_19 q6 ?_
    obtain ⟨q7, T⟩ := T
    refine v_getI (pc' := 35) 0 1 dX9_undo_32 rfl (by decide) (by decide) rfl kf_X9_104 q7 ?_
    exact v_iret dX9_undo_35 rfl T
  · have T := T.2 c3
    refine v_iconst (pc' := 11) (v := (-1)) dX9_undo_10 rfl kI_m1 ?_
    exact v_iret dX9_undo_11 rfl T
theorem eX9_told {G : GG} {d : Nat} {h : Hp} {o : OU} {h' : Hp} (r0 : Nat) (x1 : Int32) (hd : 1 ≤ d) (T : kH h r0 = 19 ∧ ((∃ h1, VM G mX9_testWhat (d - 1) [.ref r0, .int x1, .int 9] h (.inl none) h1 ∧ ((x1 = 0 → kH h1 r0 = 19 ∧ kH h1 (rH h1 r0 0) = 15 ∧ (o = .inl (some (.int (h1.2 (rH h1 r0 0) 0))) ∧ h' = h1)) ∧ (x1 = 1 → kH h1 r0 = 19 ∧ kH h1 (rH h1 r0 0) = 15 ∧ (o = .inl (some (.int (h1.2 (rH h1 r0 0) 2))) ∧ h' = h1)) ∧ (x1 = 2 → kH h1 r0 = 19 ∧ kH h1 (rH h1 r0 0) = 15 ∧ (o = .inl (some (.int (h1.2 (rH h1 r0 0) 9))) ∧ h' = h1)) ∧ (x1 = 3 → kH h1 r0 = 19 ∧ kH h1 (rH h1 r0 0) = 15 ∧ ∃ z16 h15, VM G mX5_dirtyBlocks (d - 1) [.ref (rH h1 r0 0)] h1 (.inl (some (.int z16))) h15 ∧ (o = .inl (some (.int z16)) ∧ h' = h15)) ∧ (x1 = 4 → kH h1 r0 = 19 ∧ kH h1 (rH h1 r0 0) = 15 ∧ (o = .inl (some (.int (h1.2 (rH h1 r0 0) 12))) ∧ h' = h1)) ∧ (x1 = 5 → kH h1 r0 = 19 ∧ kH h1 (rH h1 r0 0) = 15 ∧ (o = .inl (some (.int (h1.2 (rH h1 r0 0) 13))) ∧ h' = h1)) ∧ (x1 = 6 → kH h1 r0 = 19 ∧ kH h1 (rH h1 r0 0) = 15 ∧ (o = .inl (some (.int (h1.2 (rH h1 r0 0) 14))) ∧ h' = h1)) ∧ (x1 = 7 → kH h1 r0 = 19 ∧ (o = .inl (some (.int (h1.2 r0 13))) ∧ h' = h1)) ∧ (x1 = 8 → kH h1 r0 = 19 ∧ (o = .inl (some (.int (h1.2 r0 15))) ∧ h' = h1)) ∧ (¬ x1 = 0 → ¬ x1 = 1 → ¬ x1 = 2 → ¬ x1 = 3 → ¬ x1 = 4 → ¬ x1 = 5 → ¬ x1 = 6 → ¬ x1 = 7 → ¬ x1 = 8 → kH h1 r0 = 19 ∧ kH h1 (rH h1 r0 0) = 15 ∧ (o = .inl (some (.int (h1.2 (rH h1 r0 0) 15))) ∧ h' = h1)))) ∨ ∃ E, o = .inr E ∧ VM G mX9_testWhat (d - 1) [.ref r0, .int x1, .int 9] h (.inr E) h')) : VM G mX9_told d [.ref r0, .int x1] h o h' := by
  refine V.toM rfl rfl (le_l rfl) (cat_all rfl) ?_
  show V G mX9_told d 0 [.ref r0, .int x1] [] h o h'
  have hdd : d - 1 + 1 ≤ d := by omega
  refine v_aload_n (pc' := 1) dX9_told_0 rfl rfl ?_
  refine v_iload_n (pc' := 2) dX9_told_1 rfl rfl ?_
  refine v_bipush (pc' := 4) (v := 9) dX9_told_2 rfl kB_9 ?_
  obtain ⟨q3, T⟩ := T
  rcases T with T | ⟨E, rfl, k2⟩
  · obtain ⟨h1, k2, T⟩ := T
    refine v_callV (pc' := 7) (M1 := mX9_testWhat) (as := [.int x1, .int 9]) (r := r0) (rest := []) 9 dX9_told_4 rfl ko_X9_195 kc_X9_testWhat ki_X9_testWhat ks_X9_testWhat (by decide) (by decide) hdd rfl rfl (le_l rfl) q3 k2 ?_
    refine v_iload_n (pc' := 8) dX9_told_7 rfl rfl ?_
    by_cases c4 : x1 = 0
    · have T := T.1 c4
      refine v_switchIn (off := 52) (pc' := 60) dX9_told_8 (by rw [c4]; decide) (by rw [c4]; decide) (by rw [c4]; rfl) (by decide) ?_
      refine v_aload_n (pc' := 61) dX9_told_60 rfl rfl ?_
      obtain ⟨q5, T⟩ := T
      refine v_getR (pc' := 64) 9 0 dX9_told_61 rfl (by decide) (by decide) rfl kf_X9_12 q5 ?_
      obtain ⟨q6, T⟩ := T
      refine v_getI (pc' := 67) 5 0 dX9_told_64 rfl (by decide) (by decide) rfl kf_X9_113 q6 ?_
      exact v_iret dX9_told_67 rfl T
    by_cases c7 : x1 = 1
    · have T := T.2.1 c7
      refine v_switchIn (off := 60) (pc' := 68) dX9_told_8 (by rw [c7]; decide) (by rw [c7]; decide) (by rw [c7]; rfl) (by decide) ?_
      refine v_aload_n (pc' := 69) dX9_told_68 rfl rfl ?_
      obtain ⟨q8, T⟩ := T
      refine v_getR (pc' := 72) 9 0 dX9_told_69 rfl (by decide) (by decide) rfl kf_X9_12 q8 ?_
      obtain ⟨q9, T⟩ := T
      refine v_getI (pc' := 75) 5 2 dX9_told_72 rfl (by decide) (by decide) rfl kf_X9_198 q9 ?_
      exact v_iret dX9_told_75 rfl T
    by_cases c10 : x1 = 2
    · have T := T.2.2.1 c10
      refine v_switchIn (off := 68) (pc' := 76) dX9_told_8 (by rw [c10]; decide) (by rw [c10]; decide) (by rw [c10]; rfl) (by decide) ?_
      refine v_aload_n (pc' := 77) dX9_told_76 rfl rfl ?_
      obtain ⟨q11, T⟩ := T
      refine v_getR (pc' := 80) 9 0 dX9_told_77 rfl (by decide) (by decide) rfl kf_X9_12 q11 ?_
      obtain ⟨q12, T⟩ := T
      refine v_getI (pc' := 83) 5 9 dX9_told_80 rfl (by decide) (by decide) rfl kf_X9_201 q12 ?_
      exact v_iret dX9_told_83 rfl T
    by_cases c13 : x1 = 3
    · have T := T.2.2.2.1 c13
      refine v_switchIn (off := 76) (pc' := 84) dX9_told_8 (by rw [c13]; decide) (by rw [c13]; decide) (by rw [c13]; rfl) (by decide) ?_
      refine v_aload_n (pc' := 85) dX9_told_84 rfl rfl ?_
      obtain ⟨q14, T⟩ := T
      refine v_getR (pc' := 88) 9 0 dX9_told_85 rfl (by decide) (by decide) rfl kf_X9_12 q14 ?_
      obtain ⟨q18, T⟩ := T
      obtain ⟨z16, h15, k17, T⟩ := T
      refine v_callV (pc' := 91) (M1 := mX5_dirtyBlocks) (as := []) (r := (rH h1 r0 0)) (rest := []) 5 dX9_told_88 rfl ko_X9_204 kc_X5_dirtyBlocks ki_X5_dirtyBlocks ks_X5_dirtyBlocks (by decide) (by decide) hdd rfl rfl (le_l rfl) q18 k17 ?_
      exact v_iret dX9_told_91 rfl T
    by_cases c19 : x1 = 4
    · have T := T.2.2.2.2.1 c19
      refine v_switchIn (off := 84) (pc' := 92) dX9_told_8 (by rw [c19]; decide) (by rw [c19]; decide) (by rw [c19]; rfl) (by decide) ?_
      refine v_aload_n (pc' := 93) dX9_told_92 rfl rfl ?_
      obtain ⟨q20, T⟩ := T
      refine v_getR (pc' := 96) 9 0 dX9_told_93 rfl (by decide) (by decide) rfl kf_X9_12 q20 ?_
      obtain ⟨q21, T⟩ := T
      refine v_getI (pc' := 99) 5 12 dX9_told_96 rfl (by decide) (by decide) rfl kf_X9_208 q21 ?_
      exact v_iret dX9_told_99 rfl T
    by_cases c22 : x1 = 5
    · have T := T.2.2.2.2.2.1 c22
      refine v_switchIn (off := 92) (pc' := 100) dX9_told_8 (by rw [c22]; decide) (by rw [c22]; decide) (by rw [c22]; rfl) (by decide) ?_
      refine v_aload_n (pc' := 101) dX9_told_100 rfl rfl ?_
      obtain ⟨q23, T⟩ := T
      refine v_getR (pc' := 104) 9 0 dX9_told_101 rfl (by decide) (by decide) rfl kf_X9_12 q23 ?_
      obtain ⟨q24, T⟩ := T
      refine v_getI (pc' := 107) 5 13 dX9_told_104 rfl (by decide) (by decide) rfl kf_X9_211 q24 ?_
      exact v_iret dX9_told_107 rfl T
    by_cases c25 : x1 = 6
    · have T := T.2.2.2.2.2.2.1 c25
      refine v_switchIn (off := 100) (pc' := 108) dX9_told_8 (by rw [c25]; decide) (by rw [c25]; decide) (by rw [c25]; rfl) (by decide) ?_
      refine v_aload_n (pc' := 109) dX9_told_108 rfl rfl ?_
      obtain ⟨q26, T⟩ := T
      refine v_getR (pc' := 112) 9 0 dX9_told_109 rfl (by decide) (by decide) rfl kf_X9_12 q26 ?_
      obtain ⟨q27, T⟩ := T
      refine v_getI (pc' := 115) 5 14 dX9_told_112 rfl (by decide) (by decide) rfl kf_X9_214 q27 ?_
      exact v_iret dX9_told_115 rfl T
    by_cases c28 : x1 = 7
    · have T := T.2.2.2.2.2.2.2.1 c28
      refine v_switchIn (off := 108) (pc' := 116) dX9_told_8 (by rw [c28]; decide) (by rw [c28]; decide) (by rw [c28]; rfl) (by decide) ?_
      refine v_aload_n (pc' := 117) dX9_told_116 rfl rfl ?_
      obtain ⟨q29, T⟩ := T
      refine v_getI (pc' := 120) 9 13 dX9_told_117 rfl (by decide) (by decide) rfl kf_X9_145 q29 ?_
      exact v_iret dX9_told_120 rfl T
    by_cases c30 : x1 = 8
    · have T := T.2.2.2.2.2.2.2.2.1 c30
      refine v_switchIn (off := 113) (pc' := 121) dX9_told_8 (by rw [c30]; decide) (by rw [c30]; decide) (by rw [c30]; rfl) (by decide) ?_
      refine v_aload_n (pc' := 122) dX9_told_121 rfl rfl ?_
      obtain ⟨q31, T⟩ := T
      refine v_getI (pc' := 125) 9 15 dX9_told_122 rfl (by decide) (by decide) rfl kf_X9_110 q31 ?_
      exact v_iret dX9_told_125 rfl T
    have T := T.2.2.2.2.2.2.2.2.2 c4 c7 c10 c13 c19 c22 c25 c28 c30
    refine v_switchOut (pc' := 126) dX9_told_8 (sw_out (n := 8) (by decide) (fun k hk => by rcases (show k = 0 ∨ k = 1 ∨ k = 2 ∨ k = 3 ∨ k = 4 ∨ k = 5 ∨ k = 6 ∨ k = 7 ∨ k = 8 by omega) with rfl | rfl | rfl | rfl | rfl | rfl | rfl | rfl | rfl <;> assumption)) (by decide) ?_
    refine v_aload_n (pc' := 127) dX9_told_126 rfl rfl ?_
    obtain ⟨q32, T⟩ := T
    refine v_getR (pc' := 130) 9 0 dX9_told_127 rfl (by decide) (by decide) rfl kf_X9_12 q32 ?_
    obtain ⟨q33, T⟩ := T
    refine v_getI (pc' := 133) 5 15 dX9_told_130 rfl (by decide) (by decide) rfl kf_X9_217 q33 ?_
    exact v_iret dX9_told_133 rfl T
  · exact v_callVx (M1 := mX9_testWhat) (as := [.int x1, .int 9]) (r := r0) (rest := []) 9 dX9_told_4 rfl ko_X9_195 kc_X9_testWhat ki_X9_testWhat ks_X9_testWhat (by decide) (by decide) hdd rfl rfl (le_l rfl) q3 k2
theorem eX9_peek {G : GG} {d : Nat} {h : Hp} {o : OU} {h' : Hp} (r0 : Nat) (x1 : Int32) (x2 : Int32) (x3 : Int32) (hd : 1 ≤ d) (T : kH h r0 = 19 ∧ ((∃ h1, VM G mX9_testWhere (d - 1) [.ref r0, .int x3] h (.inl none) h1 ∧ kH h1 r0 = 19 ∧ ((∃ h4, VM G mX9_testBlock (d - 1) [.ref r0, .int x1] h1 (.inl none) h4 ∧ kH h4 r0 = 19 ∧ ((∃ h7, VM G mX9_testPlace (d - 1) [.ref r0, .int x2] h4 (.inl none) h7 ∧ kH h7 r0 = 19 ∧ kH h7 (rH h7 r0 0) = 15 ∧ ∃ z12 h11, VM G mX5_at (d - 1) [.ref (rH h7 r0 0), .int x3, .int x1, .int x2] h7 (.inl (some (.int z12))) h11 ∧ (o = .inl (some (.int z12)) ∧ h' = h11)) ∨ ∃ E, o = .inr E ∧ VM G mX9_testPlace (d - 1) [.ref r0, .int x2] h4 (.inr E) h')) ∨ ∃ E, o = .inr E ∧ VM G mX9_testBlock (d - 1) [.ref r0, .int x1] h1 (.inr E) h')) ∨ ∃ E, o = .inr E ∧ VM G mX9_testWhere (d - 1) [.ref r0, .int x3] h (.inr E) h')) : VM G mX9_peek d [.ref r0, .int x1, .int x2, .int x3] h o h' := by
  refine V.toM rfl rfl (le_l rfl) (cat_all rfl) ?_
  show V G mX9_peek d 0 [.ref r0, .int x1, .int x2, .int x3] [] h o h'
  have hdd : d - 1 + 1 ≤ d := by omega
  refine v_aload_n (pc' := 1) dX9_peek_0 rfl rfl ?_
  refine v_iload_n (pc' := 2) dX9_peek_1 rfl rfl ?_
  obtain ⟨q3, T⟩ := T
  rcases T with T | ⟨E, rfl, k2⟩
  · obtain ⟨h1, k2, T⟩ := T
    refine v_callV (pc' := 5) (M1 := mX9_testWhere) (as := [.int x3]) (r := r0) (rest := []) 9 dX9_peek_2 rfl ko_X9_220 kc_X9_testWhere ki_X9_testWhere ks_X9_testWhere (by decide) (by decide) hdd rfl rfl (le_l rfl) q3 k2 ?_
    refine v_aload_n (pc' := 6) dX9_peek_5 rfl rfl ?_
    refine v_iload_n (pc' := 7) dX9_peek_6 rfl rfl ?_
    obtain ⟨q6, T⟩ := T
    rcases T with T | ⟨E, rfl, k5⟩
    · obtain ⟨h4, k5, T⟩ := T
      refine v_callV (pc' := 10) (M1 := mX9_testBlock) (as := [.int x1]) (r := r0) (rest := []) 9 dX9_peek_7 rfl ko_X9_223 kc_X9_testBlock ki_X9_testBlock ks_X9_testBlock (by decide) (by decide) hdd rfl rfl (le_l rfl) q6 k5 ?_
      refine v_aload_n (pc' := 11) dX9_peek_10 rfl rfl ?_
      refine v_iload_n (pc' := 12) dX9_peek_11 rfl rfl ?_
      obtain ⟨q9, T⟩ := T
      rcases T with T | ⟨E, rfl, k8⟩
      · obtain ⟨h7, k8, T⟩ := T
        refine v_callV (pc' := 15) (M1 := mX9_testPlace) (as := [.int x2]) (r := r0) (rest := []) 9 dX9_peek_12 rfl ko_X9_226 kc_X9_testPlace ki_X9_testPlace ks_X9_testPlace (by decide) (by decide) hdd rfl rfl (le_l rfl) q9 k8 ?_
        refine v_aload_n (pc' := 16) dX9_peek_15 rfl rfl ?_
        obtain ⟨q10, T⟩ := T
        refine v_getR (pc' := 19) 9 0 dX9_peek_16 rfl (by decide) (by decide) rfl kf_X9_12 q10 ?_
        refine v_iload_n (pc' := 20) dX9_peek_19 rfl rfl ?_
        refine v_iload_n (pc' := 21) dX9_peek_20 rfl rfl ?_
        refine v_iload_n (pc' := 22) dX9_peek_21 rfl rfl ?_
        obtain ⟨q14, T⟩ := T
        obtain ⟨z12, h11, k13, T⟩ := T
        refine v_callV (pc' := 25) (M1 := mX5_at) (as := [.int x3, .int x1, .int x2]) (r := (rH h7 r0 0)) (rest := []) 5 dX9_peek_22 rfl ko_X9_229 kc_X5_at ki_X5_at ks_X5_at (by decide) (by decide) hdd rfl rfl (le_l rfl) q14 k13 ?_
        exact v_iret dX9_peek_25 rfl T
      · exact v_callVx (M1 := mX9_testPlace) (as := [.int x2]) (r := r0) (rest := []) 9 dX9_peek_12 rfl ko_X9_226 kc_X9_testPlace ki_X9_testPlace ks_X9_testPlace (by decide) (by decide) hdd rfl rfl (le_l rfl) q9 k8
    · exact v_callVx (M1 := mX9_testBlock) (as := [.int x1]) (r := r0) (rest := []) 9 dX9_peek_7 rfl ko_X9_223 kc_X9_testBlock ki_X9_testBlock ks_X9_testBlock (by decide) (by decide) hdd rfl rfl (le_l rfl) q6 k5
  · exact v_callVx (M1 := mX9_testWhere) (as := [.int x3]) (r := r0) (rest := []) 9 dX9_peek_2 rfl ko_X9_220 kc_X9_testWhere ki_X9_testWhere ks_X9_testWhere (by decide) (by decide) hdd rfl rfl (le_l rfl) q3 k2
theorem eX9_node {G : GG} {d : Nat} {h : Hp} {o : OU} {h' : Hp} (r0 : Nat) (x1 : Int32) (x2 : Int32) (x3 : Int32) (hd : 1 ≤ d) (T : kH h r0 = 19 ∧ ((∃ h1, VM G mX9_testNode (d - 1) [.ref r0, .int x1] h (.inl none) h1 ∧ kH h1 r0 = 19 ∧ ((∃ h4, VM G mX9_testWhat (d - 1) [.ref r0, .int x2, .int 4] h1 (.inl none) h4 ∧ kH h4 r0 = 19 ∧ ((∃ h7, VM G mX9_testWhere (d - 1) [.ref r0, .int x3] h4 (.inl none) h7 ∧ ((¬ x2 = 4 → kH h7 r0 = 19 ∧ kH h7 (rH h7 r0 0) = 15 ∧ ∃ z13 h12, VM G mX5_nodeField (d - 1) [.ref (rH h7 r0 0), .int x3, .int x1, .int x2] h7 (.inl (some (.int z13))) h12 ∧ (o = .inl (some (.int z13)) ∧ h' = h12)) ∧ (x2 = 4 → kH h7 r0 = 19 ∧ ∃ z18 h17, VM G mX8_reachedNodes (d - 1) [.ref (rH h7 r0 0), .int x3] h7 (.inl (some (.int z18))) h17 ∧ (o = .inl (some (.int ((z18 >>> (x1 &&& 31)) &&& 1))) ∧ h' = h17)))) ∨ ∃ E, o = .inr E ∧ VM G mX9_testWhere (d - 1) [.ref r0, .int x3] h4 (.inr E) h')) ∨ ∃ E, o = .inr E ∧ VM G mX9_testWhat (d - 1) [.ref r0, .int x2, .int 4] h1 (.inr E) h')) ∨ ∃ E, o = .inr E ∧ VM G mX9_testNode (d - 1) [.ref r0, .int x1] h (.inr E) h')) : VM G mX9_node d [.ref r0, .int x1, .int x2, .int x3] h o h' := by
  refine V.toM rfl rfl (le_l rfl) (cat_all rfl) ?_
  show V G mX9_node d 0 [.ref r0, .int x1, .int x2, .int x3] [] h o h'
  have hdd : d - 1 + 1 ≤ d := by omega
  refine v_aload_n (pc' := 1) dX9_node_0 rfl rfl ?_
  refine v_iload_n (pc' := 2) dX9_node_1 rfl rfl ?_
  obtain ⟨q3, T⟩ := T
  rcases T with T | ⟨E, rfl, k2⟩
  · obtain ⟨h1, k2, T⟩ := T
    refine v_callV (pc' := 5) (M1 := mX9_testNode) (as := [.int x1]) (r := r0) (rest := []) 9 dX9_node_2 rfl ko_X9_233 kc_X9_testNode ki_X9_testNode ks_X9_testNode (by decide) (by decide) hdd rfl rfl (le_l rfl) q3 k2 ?_
    refine v_aload_n (pc' := 6) dX9_node_5 rfl rfl ?_
    refine v_iload_n (pc' := 7) dX9_node_6 rfl rfl ?_
    refine v_iconst (pc' := 8) (v := 4) dX9_node_7 rfl kI_4 ?_
    obtain ⟨q6, T⟩ := T
    rcases T with T | ⟨E, rfl, k5⟩
    · obtain ⟨h4, k5, T⟩ := T
      refine v_callV (pc' := 11) (M1 := mX9_testWhat) (as := [.int x2, .int 4]) (r := r0) (rest := []) 9 dX9_node_8 rfl ko_X9_195 kc_X9_testWhat ki_X9_testWhat ks_X9_testWhat (by decide) (by decide) hdd rfl rfl (le_l rfl) q6 k5 ?_
      refine v_aload_n (pc' := 12) dX9_node_11 rfl rfl ?_
      refine v_iload_n (pc' := 13) dX9_node_12 rfl rfl ?_
      obtain ⟨q9, T⟩ := T
      rcases T with T | ⟨E, rfl, k8⟩
      · obtain ⟨h7, k8, T⟩ := T
        refine v_callV (pc' := 16) (M1 := mX9_testWhere) (as := [.int x3]) (r := r0) (rest := []) 9 dX9_node_13 rfl ko_X9_220 kc_X9_testWhere ki_X9_testWhere ks_X9_testWhere (by decide) (by decide) hdd rfl rfl (le_l rfl) q9 k8 ?_
        refine v_iload_n (pc' := 17) dX9_node_16 rfl rfl ?_
        refine v_iconst (pc' := 18) (v := 4) dX9_node_17 rfl kI_4 ?_
        refine v_icmp_ne (tgt := 34) (pc' := 21) dX9_node_18 (by decide) rfl ⟨fun c10 => ?_, fun c10 => ?_⟩
        · have T := T.1 c10
          refine v_aload_n (pc' := 35) dX9_node_34 rfl rfl ?_
          obtain ⟨q11, T⟩ := T
          refine v_getR (pc' := 38) 9 0 dX9_node_35 rfl (by decide) (by decide) rfl kf_X9_12 q11 ?_
          refine v_iload_n (pc' := 39) dX9_node_38 rfl rfl ?_
          refine v_iload_n (pc' := 40) dX9_node_39 rfl rfl ?_
          refine v_iload_n (pc' := 41) dX9_node_40 rfl rfl ?_
          obtain ⟨q15, T⟩ := T
          obtain ⟨z13, h12, k14, T⟩ := T
          refine v_callV (pc' := 44) (M1 := mX5_nodeField) (as := [.int x3, .int x1, .int x2]) (r := (rH h7 r0 0)) (rest := []) 5 dX9_node_41 rfl ko_X9_242 kc_X5_nodeField ki_X5_nodeField ks_X5_nodeField (by decide) (by decide) hdd rfl rfl (le_l rfl) q15 k14 ?_
          exact v_iret dX9_node_44 rfl T
        · have T := T.2 c10
          refine v_aload_n (pc' := 22) dX9_node_21 rfl rfl ?_
          obtain ⟨q16, T⟩ := T
          refine v_getR (pc' := 25) 9 0 dX9_node_22 rfl (by decide) (by decide) rfl kf_X9_12 q16 ?_
          refine v_iload_n (pc' := 26) dX9_node_25 rfl rfl ?_
          obtain ⟨z18, h17, k19, T⟩ := T
          refine v_callS (pc' := 29) (M1 := mX8_reachedNodes) (as := [.ref (rH h7 r0 0), .int x3]) (rest := []) dX9_node_26 rfl ko_X9_236 kc_X8_reachedNodes kt_X8_reachedNodes (by decide) hdd rfl rfl (le_l rfl) k19 ?_
          refine v_iload_n (pc' := 30) dX9_node_29 rfl rfl ?_
          refine v_ishr (pc' := 31) dX9_node_30 rfl ?_
          refine v_iconst (pc' := 32) (v := 1) dX9_node_31 rfl kI_1 ?_
          refine v_iand (pc' := 33) dX9_node_32 rfl ?_
          exact v_iret dX9_node_33 rfl T
      · exact v_callVx (M1 := mX9_testWhere) (as := [.int x3]) (r := r0) (rest := []) 9 dX9_node_13 rfl ko_X9_220 kc_X9_testWhere ki_X9_testWhere ks_X9_testWhere (by decide) (by decide) hdd rfl rfl (le_l rfl) q9 k8
    · exact v_callVx (M1 := mX9_testWhat) (as := [.int x2, .int 4]) (r := r0) (rest := []) 9 dX9_node_8 rfl ko_X9_195 kc_X9_testWhat ki_X9_testWhat ks_X9_testWhat (by decide) (by decide) hdd rfl rfl (le_l rfl) q6 k5
  · exact v_callVx (M1 := mX9_testNode) (as := [.int x1]) (r := r0) (rest := []) 9 dX9_node_2 rfl ko_X9_233 kc_X9_testNode ki_X9_testNode ks_X9_testNode (by decide) (by decide) hdd rfl rfl (le_l rfl) q3 k2
theorem eX9_used {G : GG} {d : Nat} {h : Hp} {o : OU} {h' : Hp} (r0 : Nat) (x1 : Int32) (hd : 1 ≤ d) (T : kH h r0 = 19 ∧ ((∃ h1, VM G mX9_testWhere (d - 1) [.ref r0, .int x1] h (.inl none) h1 ∧ kH h1 r0 = 19 ∧ ∃ z6 h5, VM G mX8_usedBlocks (d - 1) [.ref (rH h1 r0 0), .int x1] h1 (.inl (some (.int z6))) h5 ∧ (o = .inl (some (.int z6)) ∧ h' = h5)) ∨ ∃ E, o = .inr E ∧ VM G mX9_testWhere (d - 1) [.ref r0, .int x1] h (.inr E) h')) : VM G mX9_used d [.ref r0, .int x1] h o h' := by
  refine V.toM rfl rfl (le_l rfl) (cat_all rfl) ?_
  show V G mX9_used d 0 [.ref r0, .int x1] [] h o h'
  have hdd : d - 1 + 1 ≤ d := by omega
  refine v_aload_n (pc' := 1) dX9_used_0 rfl rfl ?_
  refine v_iload_n (pc' := 2) dX9_used_1 rfl rfl ?_
  obtain ⟨q3, T⟩ := T
  rcases T with T | ⟨E, rfl, k2⟩
  · obtain ⟨h1, k2, T⟩ := T
    refine v_callV (pc' := 5) (M1 := mX9_testWhere) (as := [.int x1]) (r := r0) (rest := []) 9 dX9_used_2 rfl ko_X9_220 kc_X9_testWhere ki_X9_testWhere ks_X9_testWhere (by decide) (by decide) hdd rfl rfl (le_l rfl) q3 k2 ?_
    refine v_aload_n (pc' := 6) dX9_used_5 rfl rfl ?_
    obtain ⟨q4, T⟩ := T
    refine v_getR (pc' := 9) 9 0 dX9_used_6 rfl (by decide) (by decide) rfl kf_X9_12 q4 ?_
    refine v_iload_n (pc' := 10) dX9_used_9 rfl rfl ?_
    obtain ⟨z6, h5, k7, T⟩ := T
    refine v_callS (pc' := 13) (M1 := mX8_usedBlocks) (as := [.ref (rH h1 r0 0), .int x1]) (rest := []) dX9_used_10 rfl ko_X9_255 kc_X8_usedBlocks kt_X8_usedBlocks (by decide) hdd rfl rfl (le_l rfl) k7 ?_
    exact v_iret dX9_used_13 rfl T
  · exact v_callVx (M1 := mX9_testWhere) (as := [.int x1]) (r := r0) (rest := []) 9 dX9_used_2 rfl ko_X9_220 kc_X9_testWhere ki_X9_testWhere ks_X9_testWhere (by decide) (by decide) hdd rfl rfl (le_l rfl) q3 k2
theorem eX9_leaks {G : GG} {d : Nat} {h : Hp} {o : OU} {h' : Hp} (r0 : Nat) (x1 : Int32) (hd : 1 ≤ d) (T : kH h r0 = 19 ∧ ((∃ h1, VM G mX9_testWhere (d - 1) [.ref r0, .int x1] h (.inl none) h1 ∧ kH h1 r0 = 19 ∧ ∃ z6 h5, VM G mX8_leakedBlocks (d - 1) [.ref (rH h1 r0 0), .int x1] h1 (.inl (some (.int z6))) h5 ∧ (o = .inl (some (.int z6)) ∧ h' = h5)) ∨ ∃ E, o = .inr E ∧ VM G mX9_testWhere (d - 1) [.ref r0, .int x1] h (.inr E) h')) : VM G mX9_leaks d [.ref r0, .int x1] h o h' := by
  refine V.toM rfl rfl (le_l rfl) (cat_all rfl) ?_
  show V G mX9_leaks d 0 [.ref r0, .int x1] [] h o h'
  have hdd : d - 1 + 1 ≤ d := by omega
  refine v_aload_n (pc' := 1) dX9_leaks_0 rfl rfl ?_
  refine v_iload_n (pc' := 2) dX9_leaks_1 rfl rfl ?_
  obtain ⟨q3, T⟩ := T
  rcases T with T | ⟨E, rfl, k2⟩
  · obtain ⟨h1, k2, T⟩ := T
    refine v_callV (pc' := 5) (M1 := mX9_testWhere) (as := [.int x1]) (r := r0) (rest := []) 9 dX9_leaks_2 rfl ko_X9_220 kc_X9_testWhere ki_X9_testWhere ks_X9_testWhere (by decide) (by decide) hdd rfl rfl (le_l rfl) q3 k2 ?_
    refine v_aload_n (pc' := 6) dX9_leaks_5 rfl rfl ?_
    obtain ⟨q4, T⟩ := T
    refine v_getR (pc' := 9) 9 0 dX9_leaks_6 rfl (by decide) (by decide) rfl kf_X9_12 q4 ?_
    refine v_iload_n (pc' := 10) dX9_leaks_9 rfl rfl ?_
    obtain ⟨z6, h5, k7, T⟩ := T
    refine v_callS (pc' := 13) (M1 := mX8_leakedBlocks) (as := [.ref (rH h1 r0 0), .int x1]) (rest := []) dX9_leaks_10 rfl ko_X9_258 kc_X8_leakedBlocks kt_X8_leakedBlocks (by decide) hdd rfl rfl (le_l rfl) k7 ?_
    exact v_iret dX9_leaks_13 rfl T
  · exact v_callVx (M1 := mX9_testWhere) (as := [.int x1]) (r := r0) (rest := []) 9 dX9_leaks_2 rfl ko_X9_220 kc_X9_testWhere ki_X9_testWhere ks_X9_testWhere (by decide) (by decide) hdd rfl rfl (le_l rfl) q3 k2
theorem eX9_lost {G : GG} {d : Nat} {h : Hp} {o : OU} {h' : Hp} (r0 : Nat) (x1 : Int32) (hd : 1 ≤ d) (T : kH h r0 = 19 ∧ ((∃ h1, VM G mX9_testWhere (d - 1) [.ref r0, .int x1] h (.inl none) h1 ∧ kH h1 r0 = 19 ∧ ∃ z6 h5, VM G mX8_linkedNodes (d - 1) [.ref (rH h1 r0 0), .int x1] h1 (.inl (some (.int z6))) h5 ∧ kH h5 r0 = 19 ∧ ∃ z10 h9, VM G mX8_reachedNodes (d - 1) [.ref (rH h5 r0 0), .int x1] h5 (.inl (some (.int z10))) h9 ∧ (o = .inl (some (.int (z6 &&& (z10 ^^^ (-1))))) ∧ h' = h9)) ∨ ∃ E, o = .inr E ∧ VM G mX9_testWhere (d - 1) [.ref r0, .int x1] h (.inr E) h')) : VM G mX9_lost d [.ref r0, .int x1] h o h' := by
  refine V.toM rfl rfl (le_l rfl) (cat_all rfl) ?_
  show V G mX9_lost d 0 [.ref r0, .int x1] [] h o h'
  have hdd : d - 1 + 1 ≤ d := by omega
  refine v_aload_n (pc' := 1) dX9_lost_0 rfl rfl ?_
  refine v_iload_n (pc' := 2) dX9_lost_1 rfl rfl ?_
  obtain ⟨q3, T⟩ := T
  rcases T with T | ⟨E, rfl, k2⟩
  · obtain ⟨h1, k2, T⟩ := T
    refine v_callV (pc' := 5) (M1 := mX9_testWhere) (as := [.int x1]) (r := r0) (rest := []) 9 dX9_lost_2 rfl ko_X9_220 kc_X9_testWhere ki_X9_testWhere ks_X9_testWhere (by decide) (by decide) hdd rfl rfl (le_l rfl) q3 k2 ?_
    refine v_aload_n (pc' := 6) dX9_lost_5 rfl rfl ?_
    obtain ⟨q4, T⟩ := T
    refine v_getR (pc' := 9) 9 0 dX9_lost_6 rfl (by decide) (by decide) rfl kf_X9_12 q4 ?_
    refine v_iload_n (pc' := 10) dX9_lost_9 rfl rfl ?_
    obtain ⟨z6, h5, k7, T⟩ := T
    refine v_callS (pc' := 13) (M1 := mX8_linkedNodes) (as := [.ref (rH h1 r0 0), .int x1]) (rest := []) dX9_lost_10 rfl ko_X9_261 kc_X8_linkedNodes kt_X8_linkedNodes (by decide) hdd rfl rfl (le_l rfl) k7 ?_
    refine v_aload_n (pc' := 14) dX9_lost_13 rfl rfl ?_
    obtain ⟨q8, T⟩ := T
    refine v_getR (pc' := 17) 9 0 dX9_lost_14 rfl (by decide) (by decide) rfl kf_X9_12 q8 ?_
    refine v_iload_n (pc' := 18) dX9_lost_17 rfl rfl ?_
    obtain ⟨z10, h9, k11, T⟩ := T
    refine v_callS (pc' := 21) (M1 := mX8_reachedNodes) (as := [.ref (rH h5 r0 0), .int x1]) (rest := [.int z6]) dX9_lost_18 rfl ko_X9_236 kc_X8_reachedNodes kt_X8_reachedNodes (by decide) hdd rfl rfl (le_l rfl) k11 ?_
    refine v_iconst (pc' := 22) (v := (-1)) dX9_lost_21 rfl kI_m1 ?_
    refine v_ixor (pc' := 23) dX9_lost_22 rfl ?_
    refine v_iand (pc' := 24) dX9_lost_23 rfl ?_
    exact v_iret dX9_lost_24 rfl T
  · exact v_callVx (M1 := mX9_testWhere) (as := [.int x1]) (r := r0) (rest := []) 9 dX9_lost_2 rfl ko_X9_220 kc_X9_testWhere ki_X9_testWhere ks_X9_testWhere (by decide) (by decide) hdd rfl rfl (le_l rfl) q3 k2
theorem eX9_broken {G : GG} {d : Nat} {h : Hp} {o : OU} {h' : Hp} (r0 : Nat) (x1 : Int32) (hd : 1 ≤ d) (T : kH h r0 = 19 ∧ ((∃ h1, VM G mX9_testWhere (d - 1) [.ref r0, .int x1] h (.inl none) h1 ∧ kH h1 r0 = 19 ∧ ∃ z6 h5, VM G mX8_brokenEntries (d - 1) [.ref (rH h1 r0 0), .int x1] h1 (.inl (some (.int z6))) h5 ∧ kH h5 r0 = 19 ∧ ∃ z10 h9, VM G mX8_brokenPointers (d - 1) [.ref (rH h5 r0 0), .int x1] h5 (.inl (some (.int z10))) h9 ∧ (o = .inl (some (.int (z6 + z10))) ∧ h' = h9)) ∨ ∃ E, o = .inr E ∧ VM G mX9_testWhere (d - 1) [.ref r0, .int x1] h (.inr E) h')) : VM G mX9_broken d [.ref r0, .int x1] h o h' := by
  refine V.toM rfl rfl (le_l rfl) (cat_all rfl) ?_
  show V G mX9_broken d 0 [.ref r0, .int x1] [] h o h'
  have hdd : d - 1 + 1 ≤ d := by omega
  refine v_aload_n (pc' := 1) dX9_broken_0 rfl rfl ?_
  refine v_iload_n (pc' := 2) dX9_broken_1 rfl rfl ?_
  obtain ⟨q3, T⟩ := T
  rcases T with T | ⟨E, rfl, k2⟩
  · obtain ⟨h1, k2, T⟩ := T
    refine v_callV (pc' := 5) (M1 := mX9_testWhere) (as := [.int x1]) (r := r0) (rest := []) 9 dX9_broken_2 rfl ko_X9_220 kc_X9_testWhere ki_X9_testWhere ks_X9_testWhere (by decide) (by decide) hdd rfl rfl (le_l rfl) q3 k2 ?_
    refine v_aload_n (pc' := 6) dX9_broken_5 rfl rfl ?_
    obtain ⟨q4, T⟩ := T
    refine v_getR (pc' := 9) 9 0 dX9_broken_6 rfl (by decide) (by decide) rfl kf_X9_12 q4 ?_
    refine v_iload_n (pc' := 10) dX9_broken_9 rfl rfl ?_
    obtain ⟨z6, h5, k7, T⟩ := T
    refine v_callS (pc' := 13) (M1 := mX8_brokenEntries) (as := [.ref (rH h1 r0 0), .int x1]) (rest := []) dX9_broken_10 rfl ko_X9_264 kc_X8_brokenEntries kt_X8_brokenEntries (by decide) hdd rfl rfl (le_l rfl) k7 ?_
    refine v_aload_n (pc' := 14) dX9_broken_13 rfl rfl ?_
    obtain ⟨q8, T⟩ := T
    refine v_getR (pc' := 17) 9 0 dX9_broken_14 rfl (by decide) (by decide) rfl kf_X9_12 q8 ?_
    refine v_iload_n (pc' := 18) dX9_broken_17 rfl rfl ?_
    obtain ⟨z10, h9, k11, T⟩ := T
    refine v_callS (pc' := 21) (M1 := mX8_brokenPointers) (as := [.ref (rH h5 r0 0), .int x1]) (rest := [.int z6]) dX9_broken_18 rfl ko_X9_267 kc_X8_brokenPointers kt_X8_brokenPointers (by decide) hdd rfl rfl (le_l rfl) k11 ?_
    refine v_iadd (pc' := 22) dX9_broken_21 rfl ?_
    exact v_iret dX9_broken_22 rfl T
  · exact v_callVx (M1 := mX9_testWhere) (as := [.int x1]) (r := r0) (rest := []) 9 dX9_broken_2 rfl ko_X9_220 kc_X9_testWhere ki_X9_testWhere ks_X9_testWhere (by decide) (by decide) hdd rfl rfl (le_l rfl) q3 k2
theorem eX9_under {G : GG} {d : Nat} {h : Hp} {o : OU} {h' : Hp} (r0 : Nat) (x1 : Int32) (x2 : Int32) (hd : 1 ≤ d) (T : kH h r0 = 19 ∧ ((∃ h1, VM G mX9_testNode (d - 1) [.ref r0, .int x1] h (.inl none) h1 ∧ kH h1 r0 = 19 ∧ ((∃ h4, VM G mX9_testWhere (d - 1) [.ref r0, .int x2] h1 (.inl none) h4 ∧ kH h4 r0 = 19 ∧ ∃ h7, VM G mX9_forgetKnown (d - 1) [.ref r0] h4 (.inl none) h7 ∧ kH h7 r0 = 19 ∧ ∃ z12 h11, VM G mX8_countUnder (d - 1) [.ref (rH h7 r0 0), .int x2, .int x1, .ref (rH h7 r0 16), .int 0] h7 (.inl (some (.int z12))) h11 ∧ (o = .inl (some (.int z12)) ∧ h' = h11)) ∨ ∃ E, o = .inr E ∧ VM G mX9_testWhere (d - 1) [.ref r0, .int x2] h1 (.inr E) h')) ∨ ∃ E, o = .inr E ∧ VM G mX9_testNode (d - 1) [.ref r0, .int x1] h (.inr E) h')) : VM G mX9_under d [.ref r0, .int x1, .int x2] h o h' := by
  refine V.toM rfl rfl (le_l rfl) (cat_all rfl) ?_
  show V G mX9_under d 0 [.ref r0, .int x1, .int x2] [] h o h'
  have hdd : d - 1 + 1 ≤ d := by omega
  refine v_aload_n (pc' := 1) dX9_under_0 rfl rfl ?_
  refine v_iload_n (pc' := 2) dX9_under_1 rfl rfl ?_
  obtain ⟨q3, T⟩ := T
  rcases T with T | ⟨E, rfl, k2⟩
  · obtain ⟨h1, k2, T⟩ := T
    refine v_callV (pc' := 5) (M1 := mX9_testNode) (as := [.int x1]) (r := r0) (rest := []) 9 dX9_under_2 rfl ko_X9_233 kc_X9_testNode ki_X9_testNode ks_X9_testNode (by decide) (by decide) hdd rfl rfl (le_l rfl) q3 k2 ?_
    refine v_aload_n (pc' := 6) dX9_under_5 rfl rfl ?_
    refine v_iload_n (pc' := 7) dX9_under_6 rfl rfl ?_
    obtain ⟨q6, T⟩ := T
    rcases T with T | ⟨E, rfl, k5⟩
    · obtain ⟨h4, k5, T⟩ := T
      refine v_callV (pc' := 10) (M1 := mX9_testWhere) (as := [.int x2]) (r := r0) (rest := []) 9 dX9_under_7 rfl ko_X9_220 kc_X9_testWhere ki_X9_testWhere ks_X9_testWhere (by decide) (by decide) hdd rfl rfl (le_l rfl) q6 k5 ?_
      refine v_aload_n (pc' := 11) dX9_under_10 rfl rfl ?_
      obtain ⟨q9, T⟩ := T
      obtain ⟨h7, k8, T⟩ := T
      refine v_callV (pc' := 14) (M1 := mX9_forgetKnown) (as := []) (r := r0) (rest := []) 9 dX9_under_11 rfl ko_X9_270 kc_X9_forgetKnown ki_X9_forgetKnown ks_X9_forgetKnown (by decide) (by decide) hdd rfl rfl (le_l rfl) q9 k8 ?_
      refine v_aload_n (pc' := 15) dX9_under_14 rfl rfl ?_
      obtain ⟨q10, T⟩ := T
      refine v_getR (pc' := 18) 9 0 dX9_under_15 rfl (by decide) (by decide) rfl kf_X9_12 q10 ?_
      refine v_iload_n (pc' := 19) dX9_under_18 rfl rfl ?_
      refine v_iload_n (pc' := 20) dX9_under_19 rfl rfl ?_
      refine v_aload_n (pc' := 21) dX9_under_20 rfl rfl ?_
      refine v_getR (pc' := 24) 9 16 dX9_under_21 rfl (by decide) (by decide) rfl kf_X9_65 q10 ?_
      refine v_iconst (pc' := 25) (v := 0) dX9_under_24 rfl kI_0 ?_
      obtain ⟨z12, h11, k13, T⟩ := T
      refine v_callS (pc' := 28) (M1 := mX8_countUnder) (as := [.ref (rH h7 r0 0), .int x2, .int x1, .ref (rH h7 r0 16), .int 0]) (rest := []) dX9_under_25 rfl ko_X9_273 kc_X8_countUnder kt_X8_countUnder (by decide) hdd rfl rfl (le_l rfl) k13 ?_
      exact v_iret dX9_under_28 rfl T
    · exact v_callVx (M1 := mX9_testWhere) (as := [.int x2]) (r := r0) (rest := []) 9 dX9_under_7 rfl ko_X9_220 kc_X9_testWhere ki_X9_testWhere ks_X9_testWhere (by decide) (by decide) hdd rfl rfl (le_l rfl) q6 k5
  · exact v_callVx (M1 := mX9_testNode) (as := [.int x1]) (r := r0) (rest := []) 9 dX9_under_2 rfl ko_X9_233 kc_X9_testNode ki_X9_testNode ks_X9_testNode (by decide) (by decide) hdd rfl rfl (le_l rfl) q3 k2
theorem eX9_deep {G : GG} {d : Nat} {h : Hp} {o : OU} {h' : Hp} (r0 : Nat) (x1 : Int32) (x2 : Int32) (hd : 1 ≤ d) (T : kH h r0 = 19 ∧ ((∃ h1, VM G mX9_testNode (d - 1) [.ref r0, .int x1] h (.inl none) h1 ∧ kH h1 r0 = 19 ∧ ((∃ h4, VM G mX9_testWhere (d - 1) [.ref r0, .int x2] h1 (.inl none) h4 ∧ kH h4 r0 = 19 ∧ ∃ h7, VM G mX9_forgetKnown (d - 1) [.ref r0] h4 (.inl none) h7 ∧ kH h7 r0 = 19 ∧ ∃ z12 h11, VM G mX8_depthOf (d - 1) [.ref (rH h7 r0 0), .int x2, .int x1, .ref (rH h7 r0 16), .int 0] h7 (.inl (some (.int z12))) h11 ∧ (o = .inl (some (.int z12)) ∧ h' = h11)) ∨ ∃ E, o = .inr E ∧ VM G mX9_testWhere (d - 1) [.ref r0, .int x2] h1 (.inr E) h')) ∨ ∃ E, o = .inr E ∧ VM G mX9_testNode (d - 1) [.ref r0, .int x1] h (.inr E) h')) : VM G mX9_deep d [.ref r0, .int x1, .int x2] h o h' := by
  refine V.toM rfl rfl (le_l rfl) (cat_all rfl) ?_
  show V G mX9_deep d 0 [.ref r0, .int x1, .int x2] [] h o h'
  have hdd : d - 1 + 1 ≤ d := by omega
  refine v_aload_n (pc' := 1) dX9_deep_0 rfl rfl ?_
  refine v_iload_n (pc' := 2) dX9_deep_1 rfl rfl ?_
  obtain ⟨q3, T⟩ := T
  rcases T with T | ⟨E, rfl, k2⟩
  · obtain ⟨h1, k2, T⟩ := T
    refine v_callV (pc' := 5) (M1 := mX9_testNode) (as := [.int x1]) (r := r0) (rest := []) 9 dX9_deep_2 rfl ko_X9_233 kc_X9_testNode ki_X9_testNode ks_X9_testNode (by decide) (by decide) hdd rfl rfl (le_l rfl) q3 k2 ?_
    refine v_aload_n (pc' := 6) dX9_deep_5 rfl rfl ?_
    refine v_iload_n (pc' := 7) dX9_deep_6 rfl rfl ?_
    obtain ⟨q6, T⟩ := T
    rcases T with T | ⟨E, rfl, k5⟩
    · obtain ⟨h4, k5, T⟩ := T
      refine v_callV (pc' := 10) (M1 := mX9_testWhere) (as := [.int x2]) (r := r0) (rest := []) 9 dX9_deep_7 rfl ko_X9_220 kc_X9_testWhere ki_X9_testWhere ks_X9_testWhere (by decide) (by decide) hdd rfl rfl (le_l rfl) q6 k5 ?_
      refine v_aload_n (pc' := 11) dX9_deep_10 rfl rfl ?_
      obtain ⟨q9, T⟩ := T
      obtain ⟨h7, k8, T⟩ := T
      refine v_callV (pc' := 14) (M1 := mX9_forgetKnown) (as := []) (r := r0) (rest := []) 9 dX9_deep_11 rfl ko_X9_270 kc_X9_forgetKnown ki_X9_forgetKnown ks_X9_forgetKnown (by decide) (by decide) hdd rfl rfl (le_l rfl) q9 k8 ?_
      refine v_aload_n (pc' := 15) dX9_deep_14 rfl rfl ?_
      obtain ⟨q10, T⟩ := T
      refine v_getR (pc' := 18) 9 0 dX9_deep_15 rfl (by decide) (by decide) rfl kf_X9_12 q10 ?_
      refine v_iload_n (pc' := 19) dX9_deep_18 rfl rfl ?_
      refine v_iload_n (pc' := 20) dX9_deep_19 rfl rfl ?_
      refine v_aload_n (pc' := 21) dX9_deep_20 rfl rfl ?_
      refine v_getR (pc' := 24) 9 16 dX9_deep_21 rfl (by decide) (by decide) rfl kf_X9_65 q10 ?_
      refine v_iconst (pc' := 25) (v := 0) dX9_deep_24 rfl kI_0 ?_
      obtain ⟨z12, h11, k13, T⟩ := T
      refine v_callS (pc' := 28) (M1 := mX8_depthOf) (as := [.ref (rH h7 r0 0), .int x2, .int x1, .ref (rH h7 r0 16), .int 0]) (rest := []) dX9_deep_25 rfl ko_X9_277 kc_X8_depthOf kt_X8_depthOf (by decide) hdd rfl rfl (le_l rfl) k13 ?_
      exact v_iret dX9_deep_28 rfl T
    · exact v_callVx (M1 := mX9_testWhere) (as := [.int x2]) (r := r0) (rest := []) 9 dX9_deep_7 rfl ko_X9_220 kc_X9_testWhere ki_X9_testWhere ks_X9_testWhere (by decide) (by decide) hdd rfl rfl (le_l rfl) q6 k5
  · exact v_callVx (M1 := mX9_testNode) (as := [.int x1]) (r := r0) (rest := []) 9 dX9_deep_2 rfl ko_X9_233 kc_X9_testNode ki_X9_testNode ks_X9_testNode (by decide) (by decide) hdd rfl rfl (le_l rfl) q3 k2
theorem eX9_forgetKnown {G : GG} {d : Nat} {h : Hp} {o : OU} {h' : Hp} (r0 : Nat) (T : V G mX9_forgetKnown d 2 [.ref r0, .int 0] [] h o h') : VM G mX9_forgetKnown d [.ref r0] h o h' := by
  refine V.toM rfl rfl (le_l rfl) (cat_all rfl) ?_
  show V G mX9_forgetKnown d 0 [.ref r0, uV] [] h o h'
  refine v_iconst (pc' := 1) (v := 0) dX9_forgetKnown_0 rfl kI_0 ?_
  refine v_istore_n (pc' := 2) (loc' := [.ref r0, .int 0]) dX9_forgetKnown_1 rfl (lt_l rfl) rfl ?_
  exact T
theorem bX9_forgetKnown_2 {G : GG} {d : Nat} {h : Hp} {o : OU} {h' : Hp} (r0 : Nat) (x1 : Int32) (T : ((12 ≤ x1 → (o = .inl none ∧ h' = h)) ∧ (¬ 12 ≤ x1 → kH h r0 = 19 ∧ kH h (rH h r0 16) = 1 ∧ vp_in x1 (lH h (rH h r0 16)) ∧ V G mX9_forgetKnown d 2 [.ref r0, .int (x1 + 1)] [] (h.1, (upI h.2 (rH h r0 16) x1.toNatClampNeg (-1))) o h'))) : V G mX9_forgetKnown d 2 [.ref r0, .int x1] [] h o h' := by
  refine v_iload_n (pc' := 3) dX9_forgetKnown_2 rfl rfl ?_
  refine v_bipush (pc' := 5) (v := 12) dX9_forgetKnown_3 rfl kB_12 ?_
  refine v_icmp_ge (tgt := 21) (pc' := 8) dX9_forgetKnown_5 (by decide) rfl ⟨fun c1 => ?_, fun c1 => ?_⟩
  · have T := T.1 c1
    exact v_vret dX9_forgetKnown_21 rfl T
  · have T := T.2 c1
    refine v_aload_n (pc' := 9) dX9_forgetKnown_8 rfl rfl ?_
    obtain ⟨q2, T⟩ := T
    refine v_getR (pc' := 12) 9 16 dX9_forgetKnown_9 rfl (by decide) (by decide) rfl kf_X9_65 q2 ?_
    refine v_iload_n (pc' := 13) dX9_forgetKnown_12 rfl rfl ?_
    refine v_iconst (pc' := 14) (v := (-1)) dX9_forgetKnown_13 rfl kI_m1 ?_
    obtain ⟨q3, T⟩ := T
    obtain ⟨q4, T⟩ := T
    refine v_iast (pc' := 15) dX9_forgetKnown_14 rfl rfl q3 q4 ?_
    refine v_iinc (pc' := 18) (loc' := [.ref r0, .int (x1 + 1)]) dX9_forgetKnown_15 rfl rfl (kX_1 _) rfl ?_
    refine v_goto (pc' := 2) dX9_forgetKnown_18 (by decide) ?_
    exact T
theorem eX9_room {G : GG} {d : Nat} {h : Hp} {o : OU} {h' : Hp} (r0 : Nat) (x1 : Int32) (hd : 1 ≤ d) (T : kH h r0 = 19 ∧ ((∃ h1, VM G mX9_testNode (d - 1) [.ref r0, .int x1] h (.inl none) h1 ∧ kH h1 r0 = 19 ∧ ∃ z6 h5, VM G mX8_freeEntries (d - 1) [.ref (rH h1 r0 0), .int 0, .int x1] h1 (.inl (some (.int z6))) h5 ∧ (o = .inl (some (.int z6)) ∧ h' = h5)) ∨ ∃ E, o = .inr E ∧ VM G mX9_testNode (d - 1) [.ref r0, .int x1] h (.inr E) h')) : VM G mX9_room d [.ref r0, .int x1] h o h' := by
  refine V.toM rfl rfl (le_l rfl) (cat_all rfl) ?_
  show V G mX9_room d 0 [.ref r0, .int x1] [] h o h'
  have hdd : d - 1 + 1 ≤ d := by omega
  refine v_aload_n (pc' := 1) dX9_room_0 rfl rfl ?_
  refine v_iload_n (pc' := 2) dX9_room_1 rfl rfl ?_
  obtain ⟨q3, T⟩ := T
  rcases T with T | ⟨E, rfl, k2⟩
  · obtain ⟨h1, k2, T⟩ := T
    refine v_callV (pc' := 5) (M1 := mX9_testNode) (as := [.int x1]) (r := r0) (rest := []) 9 dX9_room_2 rfl ko_X9_233 kc_X9_testNode ki_X9_testNode ks_X9_testNode (by decide) (by decide) hdd rfl rfl (le_l rfl) q3 k2 ?_
    refine v_aload_n (pc' := 6) dX9_room_5 rfl rfl ?_
    obtain ⟨q4, T⟩ := T
    refine v_getR (pc' := 9) 9 0 dX9_room_6 rfl (by decide) (by decide) rfl kf_X9_12 q4 ?_
    refine v_iconst (pc' := 10) (v := 0) dX9_room_9 rfl kI_0 ?_
    refine v_iload_n (pc' := 11) dX9_room_10 rfl rfl ?_
    obtain ⟨z6, h5, k7, T⟩ := T
    refine v_callS (pc' := 14) (M1 := mX8_freeEntries) (as := [.ref (rH h1 r0 0), .int 0, .int x1]) (rest := []) dX9_room_11 rfl ko_X9_280 kc_X8_freeEntries kt_X8_freeEntries (by decide) hdd rfl rfl (le_l rfl) k7 ?_
    exact v_iret dX9_room_14 rfl T
  · exact v_callVx (M1 := mX9_testNode) (as := [.int x1]) (r := r0) (rest := []) 9 dX9_room_2 rfl ko_X9_233 kc_X9_testNode ki_X9_testNode ks_X9_testNode (by decide) (by decide) hdd rfl rfl (le_l rfl) q3 k2
theorem eX9_owner {G : GG} {d : Nat} {h : Hp} {o : OU} {h' : Hp} (r0 : Nat) (x1 : Int32) (x2 : Int32) (hd : 1 ≤ d) (T : kH h r0 = 19 ∧ ((∃ h1, VM G mX9_testWhere (d - 1) [.ref r0, .int x2] h (.inl none) h1 ∧ kH h1 r0 = 19 ∧ ((∃ h4, VM G mX9_testBlock (d - 1) [.ref r0, .int x1] h1 (.inl none) h4 ∧ kH h4 r0 = 19 ∧ ∃ z9 h8, VM G mX8_ownerOf (d - 1) [.ref (rH h4 r0 0), .int x2, .int x1] h4 (.inl (some (.int z9))) h8 ∧ (o = .inl (some (.int z9)) ∧ h' = h8)) ∨ ∃ E, o = .inr E ∧ VM G mX9_testBlock (d - 1) [.ref r0, .int x1] h1 (.inr E) h')) ∨ ∃ E, o = .inr E ∧ VM G mX9_testWhere (d - 1) [.ref r0, .int x2] h (.inr E) h')) : VM G mX9_owner d [.ref r0, .int x1, .int x2] h o h' := by
  refine V.toM rfl rfl (le_l rfl) (cat_all rfl) ?_
  show V G mX9_owner d 0 [.ref r0, .int x1, .int x2] [] h o h'
  have hdd : d - 1 + 1 ≤ d := by omega
  refine v_aload_n (pc' := 1) dX9_owner_0 rfl rfl ?_
  refine v_iload_n (pc' := 2) dX9_owner_1 rfl rfl ?_
  obtain ⟨q3, T⟩ := T
  rcases T with T | ⟨E, rfl, k2⟩
  · obtain ⟨h1, k2, T⟩ := T
    refine v_callV (pc' := 5) (M1 := mX9_testWhere) (as := [.int x2]) (r := r0) (rest := []) 9 dX9_owner_2 rfl ko_X9_220 kc_X9_testWhere ki_X9_testWhere ks_X9_testWhere (by decide) (by decide) hdd rfl rfl (le_l rfl) q3 k2 ?_
    refine v_aload_n (pc' := 6) dX9_owner_5 rfl rfl ?_
    refine v_iload_n (pc' := 7) dX9_owner_6 rfl rfl ?_
    obtain ⟨q6, T⟩ := T
    rcases T with T | ⟨E, rfl, k5⟩
    · obtain ⟨h4, k5, T⟩ := T
      refine v_callV (pc' := 10) (M1 := mX9_testBlock) (as := [.int x1]) (r := r0) (rest := []) 9 dX9_owner_7 rfl ko_X9_223 kc_X9_testBlock ki_X9_testBlock ks_X9_testBlock (by decide) (by decide) hdd rfl rfl (le_l rfl) q6 k5 ?_
      refine v_aload_n (pc' := 11) dX9_owner_10 rfl rfl ?_
      obtain ⟨q7, T⟩ := T
      refine v_getR (pc' := 14) 9 0 dX9_owner_11 rfl (by decide) (by decide) rfl kf_X9_12 q7 ?_
      refine v_iload_n (pc' := 15) dX9_owner_14 rfl rfl ?_
      refine v_iload_n (pc' := 16) dX9_owner_15 rfl rfl ?_
      obtain ⟨z9, h8, k10, T⟩ := T
      refine v_callS (pc' := 19) (M1 := mX8_ownerOf) (as := [.ref (rH h4 r0 0), .int x2, .int x1]) (rest := []) dX9_owner_16 rfl ko_X9_283 kc_X8_ownerOf kt_X8_ownerOf (by decide) hdd rfl rfl (le_l rfl) k10 ?_
      exact v_iret dX9_owner_19 rfl T
    · exact v_callVx (M1 := mX9_testBlock) (as := [.int x1]) (r := r0) (rest := []) 9 dX9_owner_7 rfl ko_X9_223 kc_X9_testBlock ki_X9_testBlock ks_X9_testBlock (by decide) (by decide) hdd rfl rfl (le_l rfl) q6 k5
  · exact v_callVx (M1 := mX9_testWhere) (as := [.int x2]) (r := r0) (rest := []) 9 dX9_owner_2 rfl ko_X9_220 kc_X9_testWhere ki_X9_testWhere ks_X9_testWhere (by decide) (by decide) hdd rfl rfl (le_l rfl) q3 k2
theorem eX9_unlike {G : GG} {d : Nat} {h : Hp} {o : OU} {h' : Hp} (r0 : Nat) (x1 : Int32) (hd : 1 ≤ d) (T : kH h r0 = 19 ∧ ((∃ h1, VM G mX9_testBlock (d - 1) [.ref r0, .int x1] h (.inl none) h1 ∧ V G mX9_unlike d 9 [.ref r0, .int x1, .int 0, .int 0] [] h1 o h') ∨ ∃ E, o = .inr E ∧ VM G mX9_testBlock (d - 1) [.ref r0, .int x1] h (.inr E) h')) : VM G mX9_unlike d [.ref r0, .int x1] h o h' := by
  refine V.toM rfl rfl (le_l rfl) (cat_all rfl) ?_
  show V G mX9_unlike d 0 [.ref r0, .int x1, uV, uV] [] h o h'
  have hdd : d - 1 + 1 ≤ d := by omega
  refine v_aload_n (pc' := 1) dX9_unlike_0 rfl rfl ?_
  refine v_iload_n (pc' := 2) dX9_unlike_1 rfl rfl ?_
  obtain ⟨q3, T⟩ := T
  rcases T with T | ⟨E, rfl, k2⟩
  · obtain ⟨h1, k2, T⟩ := T
    refine v_callV (pc' := 5) (M1 := mX9_testBlock) (as := [.int x1]) (r := r0) (rest := []) 9 dX9_unlike_2 rfl ko_X9_223 kc_X9_testBlock ki_X9_testBlock ks_X9_testBlock (by decide) (by decide) hdd rfl rfl (le_l rfl) q3 k2 ?_
    refine v_iconst (pc' := 6) (v := 0) dX9_unlike_5 rfl kI_0 ?_
    refine v_istore_n (pc' := 7) (loc' := [.ref r0, .int x1, .int 0, uV]) dX9_unlike_6 rfl (lt_l rfl) rfl ?_
    refine v_iconst (pc' := 8) (v := 0) dX9_unlike_7 rfl kI_0 ?_
    refine v_istore_n (pc' := 9) (loc' := [.ref r0, .int x1, .int 0, .int 0]) dX9_unlike_8 rfl (lt_l rfl) rfl ?_
    exact T
  · exact v_callVx (M1 := mX9_testBlock) (as := [.int x1]) (r := r0) (rest := []) 9 dX9_unlike_2 rfl ko_X9_223 kc_X9_testBlock ki_X9_testBlock ks_X9_testBlock (by decide) (by decide) hdd rfl rfl (le_l rfl) q3 k2
theorem bX9_unlike_9 {G : GG} {d : Nat} {h : Hp} {o : OU} {h' : Hp} (r0 : Nat) (x1 : Int32) (x2 : Int32) (x3 : Int32) (hd : 1 ≤ d) (T : ((16 ≤ x3 → (o = .inl (some (.int x2)) ∧ h' = h)) ∧ (¬ 16 ≤ x3 → kH h r0 = 19 ∧ kH h (rH h r0 0) = 15 ∧ ∃ z4 h3, VM G mX5_at (d - 1) [.ref (rH h r0 0), .int 0, .int x1, .int x3] h (.inl (some (.int z4))) h3 ∧ kH h3 r0 = 19 ∧ kH h3 (rH h3 r0 0) = 15 ∧ ∃ z9 h8, VM G mX5_at (d - 1) [.ref (rH h3 r0 0), .int 1, .int x1, .int x3] h3 (.inl (some (.int z9))) h8 ∧ ((z4 = z9 → V G mX9_unlike d 9 [.ref r0, .int x1, .int x2, .int (x3 + 1)] [] h8 o h') ∧ (¬ z4 = z9 → V G mX9_unlike d 9 [.ref r0, .int x1, .int (x2 + 1), .int (x3 + 1)] [] h8 o h'))))) : V G mX9_unlike d 9 [.ref r0, .int x1, .int x2, .int x3] [] h o h' := by
  have hdd : d - 1 + 1 ≤ d := by omega
  refine v_iload_n (pc' := 10) dX9_unlike_9 rfl rfl ?_
  refine v_bipush (pc' := 12) (v := 16) dX9_unlike_10 rfl kB_16 ?_
  refine v_icmp_ge (tgt := 47) (pc' := 15) dX9_unlike_12 (by decide) rfl ⟨fun c1 => ?_, fun c1 => ?_⟩
  · have T := T.1 c1
    refine v_iload_n (pc' := 48) dX9_unlike_47 rfl rfl ?_
    exact v_iret dX9_unlike_48 rfl T
  · have T := T.2 c1
    refine v_aload_n (pc' := 16) dX9_unlike_15 rfl rfl ?_
    obtain ⟨q2, T⟩ := T
    refine v_getR (pc' := 19) 9 0 dX9_unlike_16 rfl (by decide) (by decide) rfl kf_X9_12 q2 ?_
    refine v_iconst (pc' := 20) (v := 0) dX9_unlike_19 rfl kI_0 ?_
    refine v_iload_n (pc' := 21) dX9_unlike_20 rfl rfl ?_
    refine v_iload_n (pc' := 22) dX9_unlike_21 rfl rfl ?_
    obtain ⟨q6, T⟩ := T
    obtain ⟨z4, h3, k5, T⟩ := T
    refine v_callV (pc' := 25) (M1 := mX5_at) (as := [.int 0, .int x1, .int x3]) (r := (rH h r0 0)) (rest := []) 5 dX9_unlike_22 rfl ko_X9_229 kc_X5_at ki_X5_at ks_X5_at (by decide) (by decide) hdd rfl rfl (le_l rfl) q6 k5 ?_
    refine v_aload_n (pc' := 26) dX9_unlike_25 rfl rfl ?_
    obtain ⟨q7, T⟩ := T
    refine v_getR (pc' := 29) 9 0 dX9_unlike_26 rfl (by decide) (by decide) rfl kf_X9_12 q7 ?_
    refine v_iconst (pc' := 30) (v := 1) dX9_unlike_29 rfl kI_1 ?_
    refine v_iload_n (pc' := 31) dX9_unlike_30 rfl rfl ?_
    refine v_iload_n (pc' := 32) dX9_unlike_31 rfl rfl ?_
    obtain ⟨q11, T⟩ := T
    obtain ⟨z9, h8, k10, T⟩ := T
    refine v_callV (pc' := 35) (M1 := mX5_at) (as := [.int 1, .int x1, .int x3]) (r := (rH h3 r0 0)) (rest := [.int z4]) 5 dX9_unlike_32 rfl ko_X9_229 kc_X5_at ki_X5_at ks_X5_at (by decide) (by decide) hdd rfl rfl (le_l rfl) q11 k10 ?_
    refine v_icmp_eq (tgt := 41) (pc' := 38) dX9_unlike_35 (by decide) rfl ⟨fun c12 => ?_, fun c12 => ?_⟩
    · have T := T.1 c12
      refine v_iinc (pc' := 44) (loc' := [.ref r0, .int x1, .int x2, .int (x3 + 1)]) dX9_unlike_41 rfl rfl (kX_1 _) rfl ?_
      refine v_goto (pc' := 9) dX9_unlike_44 (by decide) ?_
      exact T
    · have T := T.2 c12
      refine v_iinc (pc' := 41) (loc' := [.ref r0, .int x1, .int (x2 + 1), .int x3]) dX9_unlike_38 rfl rfl (kX_1 _) rfl ?_
      refine v_iinc (pc' := 44) (loc' := [.ref r0, .int x1, .int (x2 + 1), .int (x3 + 1)]) dX9_unlike_41 rfl rfl (kX_1 _) rfl ?_
      refine v_goto (pc' := 9) dX9_unlike_44 (by decide) ?_
      exact T
theorem eX9_change {G : GG} {d : Nat} {h : Hp} {o : OU} {h' : Hp} (r0 : Nat) (x1 : Int32) (x2 : Int32) (hd : 1 ≤ d) (T : kH h r0 = 19 ∧ ((∃ h1, VM G mX9_testWhat (d - 1) [.ref r0, .int x2, .int 5] h (.inl none) h1 ∧ kH h1 r0 = 19 ∧ ((∃ h4, VM G mX9_testChange (d - 1) [.ref r0, .int x1] h1 (.inl none) h4 ∧ ((x2 = 0 → kH h4 r0 = 19 ∧ kH h4 (rH h4 r0 0) = 15 ∧ kH h4 (rH h4 (rH h4 r0 0) 3) = 1 ∧ vp_in x1 (lH h4 (rH h4 (rH h4 r0 0) 3)) ∧ (o = .inl (some (.int (h4.2 (rH h4 (rH h4 r0 0) 3) x1.toNatClampNeg))) ∧ h' = h4)) ∧ (x2 = 1 → kH h4 r0 = 19 ∧ kH h4 (rH h4 r0 0) = 15 ∧ kH h4 (rH h4 (rH h4 r0 0) 4) = 1 ∧ vp_in x1 (lH h4 (rH h4 (rH h4 r0 0) 4)) ∧ (o = .inl (some (.int (h4.2 (rH h4 (rH h4 r0 0) 4) x1.toNatClampNeg))) ∧ h' = h4)) ∧ (x2 = 2 → kH h4 r0 = 19 ∧ kH h4 (rH h4 r0 0) = 15 ∧ ∃ z21 h20, VM G mX5_firstPlace (d - 1) [.ref (rH h4 r0 0), .int x1] h4 (.inl (some (.int z21))) h20 ∧ kH h20 (rH h4 (rH h4 r0 0) 6) = 2 ∧ vp_in ((x1 * 16) + z21) (lH h20 (rH h4 (rH h4 r0 0) 6)) ∧ (o = .inl (some (.int (h20.2 (rH h4 (rH h4 r0 0) 6) ((x1 * 16) + z21).toNatClampNeg))) ∧ h' = h20)) ∧ (x2 = 3 → kH h4 r0 = 19 ∧ kH h4 (rH h4 r0 0) = 15 ∧ kH h4 (rH h4 (rH h4 r0 0) 5) = 1 ∧ vp_in x1 (lH h4 (rH h4 (rH h4 r0 0) 5)) ∧ (o = .inl (some (.int (h4.2 (rH h4 (rH h4 r0 0) 5) x1.toNatClampNeg))) ∧ h' = h4)) ∧ (x2 = 4 → kH h4 r0 = 19 ∧ kH h4 (rH h4 r0 0) = 15 ∧ ∃ z33 h32, VM G mX5_countNeeds (d - 1) [.ref (rH h4 r0 0), .int x1] h4 (.inl (some (.int z33))) h32 ∧ (o = .inl (some (.int z33)) ∧ h' = h32)) ∧ (¬ x2 = 0 → ¬ x2 = 1 → ¬ x2 = 2 → ¬ x2 = 3 → ¬ x2 = 4 → kH h4 r0 = 19 ∧ kH h4 (rH h4 r0 0) = 15 ∧ kH h4 (rH h4 (rH h4 r0 0) 3) = 1 ∧ vp_in x1 (lH h4 (rH h4 (rH h4 r0 0) 3)) ∧ kH h4 (rH h4 r0 4) = 12 ∧ ∃ h40, VM G mX2_weigh (d - 1) [.ref (rH h4 r0 4), .ref (rH h4 r0 0), .int (h4.2 (rH h4 (rH h4 r0 0) 3) x1.toNatClampNeg)] h4 (.inl none) h40 ∧ kH h40 r0 = 19 ∧ kH h40 (rH h40 r0 4) = 12 ∧ kH h40 (rH h40 (rH h40 r0 4) 0) = 3 ∧ vp_in x1 (lH h40 (rH h40 (rH h40 r0 4) 0)) ∧ (((h40.2 (rH h40 (rH h40 r0 4) 0) x1.toNatClampNeg) = 0 → (o = .inl (some (.int 0)) ∧ h' = h40)) ∧ (¬ (h40.2 (rH h40 (rH h40 r0 4) 0) x1.toNatClampNeg) = 0 → (o = .inl (some (.int 1)) ∧ h' = h40)))))) ∨ ∃ E, o = .inr E ∧ VM G mX9_testChange (d - 1) [.ref r0, .int x1] h1 (.inr E) h')) ∨ ∃ E, o = .inr E ∧ VM G mX9_testWhat (d - 1) [.ref r0, .int x2, .int 5] h (.inr E) h')) : VM G mX9_change d [.ref r0, .int x1, .int x2] h o h' := by
  refine V.toM rfl rfl (le_l rfl) (cat_all rfl) ?_
  show V G mX9_change d 0 [.ref r0, .int x1, .int x2] [] h o h'
  have hdd : d - 1 + 1 ≤ d := by omega
  refine v_aload_n (pc' := 1) dX9_change_0 rfl rfl ?_
  refine v_iload_n (pc' := 2) dX9_change_1 rfl rfl ?_
  refine v_iconst (pc' := 3) (v := 5) dX9_change_2 rfl kI_5 ?_
  obtain ⟨q3, T⟩ := T
  rcases T with T | ⟨E, rfl, k2⟩
  · obtain ⟨h1, k2, T⟩ := T
    refine v_callV (pc' := 6) (M1 := mX9_testWhat) (as := [.int x2, .int 5]) (r := r0) (rest := []) 9 dX9_change_3 rfl ko_X9_195 kc_X9_testWhat ki_X9_testWhat ks_X9_testWhat (by decide) (by decide) hdd rfl rfl (le_l rfl) q3 k2 ?_
    refine v_aload_n (pc' := 7) dX9_change_6 rfl rfl ?_
    refine v_iload_n (pc' := 8) dX9_change_7 rfl rfl ?_
    obtain ⟨q6, T⟩ := T
    rcases T with T | ⟨E, rfl, k5⟩
    · obtain ⟨h4, k5, T⟩ := T
      refine v_callV (pc' := 11) (M1 := mX9_testChange) (as := [.int x1]) (r := r0) (rest := []) 9 dX9_change_8 rfl ko_X9_286 kc_X9_testChange ki_X9_testChange ks_X9_testChange (by decide) (by decide) hdd rfl rfl (le_l rfl) q6 k5 ?_
      refine v_iload_n (pc' := 12) dX9_change_11 rfl rfl ?_
      by_cases c7 : x2 = 0
      · have T := T.1 c7
        refine v_switchIn (off := 36) (pc' := 48) dX9_change_12 (by rw [c7]; decide) (by rw [c7]; decide) (by rw [c7]; rfl) (by decide) ?_
        refine v_aload_n (pc' := 49) dX9_change_48 rfl rfl ?_
        obtain ⟨q8, T⟩ := T
        refine v_getR (pc' := 52) 9 0 dX9_change_49 rfl (by decide) (by decide) rfl kf_X9_12 q8 ?_
        obtain ⟨q9, T⟩ := T
        refine v_getR (pc' := 55) 5 3 dX9_change_52 rfl (by decide) (by decide) rfl kf_X9_289 q9 ?_
        refine v_iload_n (pc' := 56) dX9_change_55 rfl rfl ?_
        obtain ⟨q10, T⟩ := T
        obtain ⟨q11, T⟩ := T
        refine v_iald (pc' := 57) dX9_change_56 rfl rfl q10 q11 ?_
        exact v_iret dX9_change_57 rfl T
      by_cases c12 : x2 = 1
      · have T := T.2.1 c12
        refine v_switchIn (off := 46) (pc' := 58) dX9_change_12 (by rw [c12]; decide) (by rw [c12]; decide) (by rw [c12]; rfl) (by decide) ?_
        refine v_aload_n (pc' := 59) dX9_change_58 rfl rfl ?_
        obtain ⟨q13, T⟩ := T
        refine v_getR (pc' := 62) 9 0 dX9_change_59 rfl (by decide) (by decide) rfl kf_X9_12 q13 ?_
        obtain ⟨q14, T⟩ := T
        refine v_getR (pc' := 65) 5 4 dX9_change_62 rfl (by decide) (by decide) rfl kf_X9_292 q14 ?_
        refine v_iload_n (pc' := 66) dX9_change_65 rfl rfl ?_
        obtain ⟨q15, T⟩ := T
        obtain ⟨q16, T⟩ := T
        refine v_iald (pc' := 67) dX9_change_66 rfl rfl q15 q16 ?_
        exact v_iret dX9_change_67 rfl T
      by_cases c17 : x2 = 2
      · have T := T.2.2.1 c17
        refine v_switchIn (off := 56) (pc' := 68) dX9_change_12 (by rw [c17]; decide) (by rw [c17]; decide) (by rw [c17]; rfl) (by decide) ?_
        refine v_aload_n (pc' := 69) dX9_change_68 rfl rfl ?_
        obtain ⟨q18, T⟩ := T
        refine v_getR (pc' := 72) 9 0 dX9_change_69 rfl (by decide) (by decide) rfl kf_X9_12 q18 ?_
        obtain ⟨q19, T⟩ := T
        refine v_getR (pc' := 75) 5 6 dX9_change_72 rfl (by decide) (by decide) rfl kf_X9_294 q19 ?_
        refine v_iload_n (pc' := 76) dX9_change_75 rfl rfl ?_
        refine v_bipush (pc' := 78) (v := 16) dX9_change_76 rfl kB_16 ?_
        refine v_imul (pc' := 79) dX9_change_78 rfl ?_
        refine v_aload_n (pc' := 80) dX9_change_79 rfl rfl ?_
        refine v_getR (pc' := 83) 9 0 dX9_change_80 rfl (by decide) (by decide) rfl kf_X9_12 q18 ?_
        refine v_iload_n (pc' := 84) dX9_change_83 rfl rfl ?_
        obtain ⟨z21, h20, k22, T⟩ := T
        refine v_callV (pc' := 87) (M1 := mX5_firstPlace) (as := [.int x1]) (r := (rH h4 r0 0)) (rest := [.int (x1 * 16), .ref (rH h4 (rH h4 r0 0) 6)]) 5 dX9_change_84 rfl ko_X9_297 kc_X5_firstPlace ki_X5_firstPlace ks_X5_firstPlace (by decide) (by decide) hdd rfl rfl (le_l rfl) q19 k22 ?_
        refine v_iadd (pc' := 88) dX9_change_87 rfl ?_
        obtain ⟨q23, T⟩ := T
        obtain ⟨q24, T⟩ := T
        refine v_bald (pc' := 89) dX9_change_88 rfl rfl q23 q24 ?_
        exact v_iret dX9_change_89 rfl T
      by_cases c25 : x2 = 3
      · have T := T.2.2.2.1 c25
        refine v_switchIn (off := 78) (pc' := 90) dX9_change_12 (by rw [c25]; decide) (by rw [c25]; decide) (by rw [c25]; rfl) (by decide) ?_
        refine v_aload_n (pc' := 91) dX9_change_90 rfl rfl ?_
        obtain ⟨q26, T⟩ := T
        refine v_getR (pc' := 94) 9 0 dX9_change_91 rfl (by decide) (by decide) rfl kf_X9_12 q26 ?_
        obtain ⟨q27, T⟩ := T
        refine v_getR (pc' := 97) 5 5 dX9_change_94 rfl (by decide) (by decide) rfl kf_X9_300 q27 ?_
        refine v_iload_n (pc' := 98) dX9_change_97 rfl rfl ?_
        obtain ⟨q28, T⟩ := T
        obtain ⟨q29, T⟩ := T
        refine v_iald (pc' := 99) dX9_change_98 rfl rfl q28 q29 ?_
        exact v_iret dX9_change_99 rfl T
      by_cases c30 : x2 = 4
      · have T := T.2.2.2.2.1 c30
        refine v_switchIn (off := 88) (pc' := 100) dX9_change_12 (by rw [c30]; decide) (by rw [c30]; decide) (by rw [c30]; rfl) (by decide) ?_
        refine v_aload_n (pc' := 101) dX9_change_100 rfl rfl ?_
        obtain ⟨q31, T⟩ := T
        refine v_getR (pc' := 104) 9 0 dX9_change_101 rfl (by decide) (by decide) rfl kf_X9_12 q31 ?_
        refine v_iload_n (pc' := 105) dX9_change_104 rfl rfl ?_
        obtain ⟨q35, T⟩ := T
        obtain ⟨z33, h32, k34, T⟩ := T
        refine v_callV (pc' := 108) (M1 := mX5_countNeeds) (as := [.int x1]) (r := (rH h4 r0 0)) (rest := []) 5 dX9_change_105 rfl ko_X9_303 kc_X5_countNeeds ki_X5_countNeeds ks_X5_countNeeds (by decide) (by decide) hdd rfl rfl (le_l rfl) q35 k34 ?_
        exact v_iret dX9_change_108 rfl T
      have T := T.2.2.2.2.2 c7 c12 c17 c25 c30
      refine v_switchOut (pc' := 109) dX9_change_12 (sw_out (n := 4) (by decide) (fun k hk => by rcases (show k = 0 ∨ k = 1 ∨ k = 2 ∨ k = 3 ∨ k = 4 by omega) with rfl | rfl | rfl | rfl | rfl <;> assumption)) (by decide) ?_
      refine v_aload_n (pc' := 110) dX9_change_109 rfl rfl ?_
      obtain ⟨q36, T⟩ := T
      refine v_getR (pc' := 113) 9 4 dX9_change_110 rfl (by decide) (by decide) rfl kf_X9_36 q36 ?_
      refine v_aload_n (pc' := 114) dX9_change_113 rfl rfl ?_
      refine v_getR (pc' := 117) 9 0 dX9_change_114 rfl (by decide) (by decide) rfl kf_X9_12 q36 ?_
      refine v_aload_n (pc' := 118) dX9_change_117 rfl rfl ?_
      refine v_getR (pc' := 121) 9 0 dX9_change_118 rfl (by decide) (by decide) rfl kf_X9_12 q36 ?_
      obtain ⟨q37, T⟩ := T
      refine v_getR (pc' := 124) 5 3 dX9_change_121 rfl (by decide) (by decide) rfl kf_X9_289 q37 ?_
      refine v_iload_n (pc' := 125) dX9_change_124 rfl rfl ?_
      obtain ⟨q38, T⟩ := T
      obtain ⟨q39, T⟩ := T
      refine v_iald (pc' := 126) dX9_change_125 rfl rfl q38 q39 ?_
      obtain ⟨q42, T⟩ := T
      obtain ⟨h40, k41, T⟩ := T
      refine v_callV (pc' := 129) (M1 := mX2_weigh) (as := [.ref (rH h4 r0 0), .int (h4.2 (rH h4 (rH h4 r0 0) 3) x1.toNatClampNeg)]) (r := (rH h4 r0 4)) (rest := []) 2 dX9_change_126 rfl ko_X9_306 kc_X2_weigh ki_X2_weigh ks_X2_weigh (by decide) (by decide) hdd rfl rfl (le_l rfl) q42 k41 ?_
      refine v_aload_n (pc' := 130) dX9_change_129 rfl rfl ?_
      obtain ⟨q43, T⟩ := T
      refine v_getR (pc' := 133) 9 4 dX9_change_130 rfl (by decide) (by decide) rfl kf_X9_36 q43 ?_
      obtain ⟨q44, T⟩ := T
      refine v_getR (pc' := 136) 2 0 dX9_change_133 rfl (by decide) (by decide) rfl kf_X9_310 q44 ?_
      refine v_iload_n (pc' := 137) dX9_change_136 rfl rfl ?_
      obtain ⟨q45, T⟩ := T
      obtain ⟨q46, T⟩ := T
      refine v_zald (pc' := 138) dX9_change_137 rfl rfl q45 q46 ?_
      refine v_if_eq (tgt := 145) (pc' := 141) dX9_change_138 (by decide) rfl ⟨fun c47 => ?_, fun c47 => ?_⟩
      · have T := T.1 c47
        refine v_iconst (pc' := 146) (v := 0) dX9_change_145 rfl kI_0 ?_
        exact v_iret dX9_change_146 rfl T
      · have T := T.2 c47
        refine v_iconst (pc' := 142) (v := 1) dX9_change_141 rfl kI_1 ?_
        refine v_goto (pc' := 146) dX9_change_142 (by decide) ?_
        exact v_iret dX9_change_146 rfl T
    · exact v_callVx (M1 := mX9_testChange) (as := [.int x1]) (r := r0) (rest := []) 9 dX9_change_8 rfl ko_X9_286 kc_X9_testChange ki_X9_testChange ks_X9_testChange (by decide) (by decide) hdd rfl rfl (le_l rfl) q6 k5
  · exact v_callVx (M1 := mX9_testWhat) (as := [.int x2, .int 5]) (r := r0) (rest := []) 9 dX9_change_3 rfl ko_X9_195 kc_X9_testWhat ki_X9_testWhat ks_X9_testWhat (by decide) (by decide) hdd rfl rfl (le_l rfl) q3 k2
theorem eX9_held {G : GG} {d : Nat} {h : Hp} {o : OU} {h' : Hp} (r0 : Nat) (x1 : Int32) (hd : 1 ≤ d) (T : kH h r0 = 19 ∧ ((∃ h1, VM G mX9_testBlock (d - 1) [.ref r0, .int x1] h (.inl none) h1 ∧ kH h1 r0 = 19 ∧ kH h1 (rH h1 r0 4) = 12 ∧ ∃ h5, VM G mX2_weigh (d - 1) [.ref (rH h1 r0 4), .ref (rH h1 r0 0), .int x1] h1 (.inl none) h5 ∧ kH h5 r0 = 19 ∧ kH h5 (rH h5 r0 4) = 12 ∧ (o = .inl (some (.int (h5.2 (rH h5 r0 4) 5))) ∧ h' = h5)) ∨ ∃ E, o = .inr E ∧ VM G mX9_testBlock (d - 1) [.ref r0, .int x1] h (.inr E) h')) : VM G mX9_held d [.ref r0, .int x1] h o h' := by
  refine V.toM rfl rfl (le_l rfl) (cat_all rfl) ?_
  show V G mX9_held d 0 [.ref r0, .int x1] [] h o h'
  have hdd : d - 1 + 1 ≤ d := by omega
  refine v_aload_n (pc' := 1) dX9_held_0 rfl rfl ?_
  refine v_iload_n (pc' := 2) dX9_held_1 rfl rfl ?_
  obtain ⟨q3, T⟩ := T
  rcases T with T | ⟨E, rfl, k2⟩
  · obtain ⟨h1, k2, T⟩ := T
    refine v_callV (pc' := 5) (M1 := mX9_testBlock) (as := [.int x1]) (r := r0) (rest := []) 9 dX9_held_2 rfl ko_X9_223 kc_X9_testBlock ki_X9_testBlock ks_X9_testBlock (by decide) (by decide) hdd rfl rfl (le_l rfl) q3 k2 ?_
    refine v_aload_n (pc' := 6) dX9_held_5 rfl rfl ?_
    obtain ⟨q4, T⟩ := T
    refine v_getR (pc' := 9) 9 4 dX9_held_6 rfl (by decide) (by decide) rfl kf_X9_36 q4 ?_
    refine v_aload_n (pc' := 10) dX9_held_9 rfl rfl ?_
    refine v_getR (pc' := 13) 9 0 dX9_held_10 rfl (by decide) (by decide) rfl kf_X9_12 q4 ?_
    refine v_iload_n (pc' := 14) dX9_held_13 rfl rfl ?_
    obtain ⟨q7, T⟩ := T
    obtain ⟨h5, k6, T⟩ := T
    refine v_callV (pc' := 17) (M1 := mX2_weigh) (as := [.ref (rH h1 r0 0), .int x1]) (r := (rH h1 r0 4)) (rest := []) 2 dX9_held_14 rfl ko_X9_306 kc_X2_weigh ki_X2_weigh ks_X2_weigh (by decide) (by decide) hdd rfl rfl (le_l rfl) q7 k6 ?_
    refine v_aload_n (pc' := 18) dX9_held_17 rfl rfl ?_
    obtain ⟨q8, T⟩ := T
    refine v_getR (pc' := 21) 9 4 dX9_held_18 rfl (by decide) (by decide) rfl kf_X9_36 q8 ?_
    obtain ⟨q9, T⟩ := T
    refine v_getI (pc' := 24) 2 5 dX9_held_21 rfl (by decide) (by decide) rfl kf_X9_314 q9 ?_
    exact v_iret dX9_held_24 rfl T
  · exact v_callVx (M1 := mX9_testBlock) (as := [.int x1]) (r := r0) (rest := []) 9 dX9_held_2 rfl ko_X9_223 kc_X9_testBlock ki_X9_testBlock ks_X9_testBlock (by decide) (by decide) hdd rfl rfl (le_l rfl) q3 k2
theorem eX9_copy {G : GG} {d : Nat} {h : Hp} {o : OU} {h' : Hp} (r0 : Nat) (x1 : Int32) (x2 : Int32) (hd : 1 ≤ d) (T : kH h r0 = 19 ∧ ((∃ h1, VM G mX9_testBlock (d - 1) [.ref r0, .int x1] h (.inl none) h1 ∧ kH h1 r0 = 19 ∧ ((∃ h4, VM G mX9_testPlace (d - 1) [.ref r0, .int x2] h1 (.inl none) h4 ∧ kH h4 r0 = 19 ∧ kH h4 (rH h4 r0 4) = 12 ∧ ∃ h8, VM G mX2_draft (d - 1) [.ref (rH h4 r0 4), .ref (rH h4 r0 0), .int x1] h4 (.inl none) h8 ∧ kH h8 r0 = 19 ∧ kH h8 (rH h8 r0 4) = 12 ∧ kH h8 (rH h8 (rH h8 r0 4) 2) = 2 ∧ vp_in x2 (lH h8 (rH h8 (rH h8 r0 4) 2)) ∧ (o = .inl (some (.int (h8.2 (rH h8 (rH h8 r0 4) 2) x2.toNatClampNeg))) ∧ h' = h8)) ∨ ∃ E, o = .inr E ∧ VM G mX9_testPlace (d - 1) [.ref r0, .int x2] h1 (.inr E) h')) ∨ ∃ E, o = .inr E ∧ VM G mX9_testBlock (d - 1) [.ref r0, .int x1] h (.inr E) h')) : VM G mX9_copy d [.ref r0, .int x1, .int x2] h o h' := by
  refine V.toM rfl rfl (le_l rfl) (cat_all rfl) ?_
  show V G mX9_copy d 0 [.ref r0, .int x1, .int x2] [] h o h'
  have hdd : d - 1 + 1 ≤ d := by omega
  refine v_aload_n (pc' := 1) dX9_copy_0 rfl rfl ?_
  refine v_iload_n (pc' := 2) dX9_copy_1 rfl rfl ?_
  obtain ⟨q3, T⟩ := T
  rcases T with T | ⟨E, rfl, k2⟩
  · obtain ⟨h1, k2, T⟩ := T
    refine v_callV (pc' := 5) (M1 := mX9_testBlock) (as := [.int x1]) (r := r0) (rest := []) 9 dX9_copy_2 rfl ko_X9_223 kc_X9_testBlock ki_X9_testBlock ks_X9_testBlock (by decide) (by decide) hdd rfl rfl (le_l rfl) q3 k2 ?_
    refine v_aload_n (pc' := 6) dX9_copy_5 rfl rfl ?_
    refine v_iload_n (pc' := 7) dX9_copy_6 rfl rfl ?_
    obtain ⟨q6, T⟩ := T
    rcases T with T | ⟨E, rfl, k5⟩
    · obtain ⟨h4, k5, T⟩ := T
      refine v_callV (pc' := 10) (M1 := mX9_testPlace) (as := [.int x2]) (r := r0) (rest := []) 9 dX9_copy_7 rfl ko_X9_226 kc_X9_testPlace ki_X9_testPlace ks_X9_testPlace (by decide) (by decide) hdd rfl rfl (le_l rfl) q6 k5 ?_
      refine v_aload_n (pc' := 11) dX9_copy_10 rfl rfl ?_
      obtain ⟨q7, T⟩ := T
      refine v_getR (pc' := 14) 9 4 dX9_copy_11 rfl (by decide) (by decide) rfl kf_X9_36 q7 ?_
      refine v_aload_n (pc' := 15) dX9_copy_14 rfl rfl ?_
      refine v_getR (pc' := 18) 9 0 dX9_copy_15 rfl (by decide) (by decide) rfl kf_X9_12 q7 ?_
      refine v_iload_n (pc' := 19) dX9_copy_18 rfl rfl ?_
      obtain ⟨q10, T⟩ := T
      obtain ⟨h8, k9, T⟩ := T
      refine v_callV (pc' := 22) (M1 := mX2_draft) (as := [.ref (rH h4 r0 0), .int x1]) (r := (rH h4 r0 4)) (rest := []) 2 dX9_copy_19 rfl ko_X9_317 kc_X2_draft ki_X2_draft ks_X2_draft (by decide) (by decide) hdd rfl rfl (le_l rfl) q10 k9 ?_
      refine v_aload_n (pc' := 23) dX9_copy_22 rfl rfl ?_
      obtain ⟨q11, T⟩ := T
      refine v_getR (pc' := 26) 9 4 dX9_copy_23 rfl (by decide) (by decide) rfl kf_X9_36 q11 ?_
      obtain ⟨q12, T⟩ := T
      refine v_getR (pc' := 29) 2 2 dX9_copy_26 rfl (by decide) (by decide) rfl kf_X9_320 q12 ?_
      refine v_iload_n (pc' := 30) dX9_copy_29 rfl rfl ?_
      obtain ⟨q13, T⟩ := T
      obtain ⟨q14, T⟩ := T
      refine v_bald (pc' := 31) dX9_copy_30 rfl rfl q13 q14 ?_
      exact v_iret dX9_copy_31 rfl T
    · exact v_callVx (M1 := mX9_testPlace) (as := [.int x2]) (r := r0) (rest := []) 9 dX9_copy_7 rfl ko_X9_226 kc_X9_testPlace ki_X9_testPlace ks_X9_testPlace (by decide) (by decide) hdd rfl rfl (le_l rfl) q6 k5
  · exact v_callVx (M1 := mX9_testBlock) (as := [.int x1]) (r := r0) (rest := []) 9 dX9_copy_2 rfl ko_X9_223 kc_X9_testBlock ki_X9_testBlock ks_X9_testBlock (by decide) (by decide) hdd rfl rfl (le_l rfl) q3 k2
theorem eX9_waits {G : GG} {d : Nat} {h : Hp} {o : OU} {h' : Hp} (r0 : Nat) (x1 : Int32) (hd : 1 ≤ d) (T : kH h r0 = 19 ∧ ((∃ h1, VM G mX9_testBlock (d - 1) [.ref r0, .int x1] h (.inl none) h1 ∧ kH h1 r0 = 19 ∧ kH h1 (rH h1 r0 0) = 15 ∧ ∃ z6 h5, VM G mX5_blocksNeededBy (d - 1) [.ref (rH h1 r0 0), .int x1] h1 (.inl (some (.int z6))) h5 ∧ (o = .inl (some (.int z6)) ∧ h' = h5)) ∨ ∃ E, o = .inr E ∧ VM G mX9_testBlock (d - 1) [.ref r0, .int x1] h (.inr E) h')) : VM G mX9_waits d [.ref r0, .int x1] h o h' := by
  refine V.toM rfl rfl (le_l rfl) (cat_all rfl) ?_
  show V G mX9_waits d 0 [.ref r0, .int x1] [] h o h'
  have hdd : d - 1 + 1 ≤ d := by omega
  refine v_aload_n (pc' := 1) dX9_waits_0 rfl rfl ?_
  refine v_iload_n (pc' := 2) dX9_waits_1 rfl rfl ?_
  obtain ⟨q3, T⟩ := T
  rcases T with T | ⟨E, rfl, k2⟩
  · obtain ⟨h1, k2, T⟩ := T
    refine v_callV (pc' := 5) (M1 := mX9_testBlock) (as := [.int x1]) (r := r0) (rest := []) 9 dX9_waits_2 rfl ko_X9_223 kc_X9_testBlock ki_X9_testBlock ks_X9_testBlock (by decide) (by decide) hdd rfl rfl (le_l rfl) q3 k2 ?_
    refine v_aload_n (pc' := 6) dX9_waits_5 rfl rfl ?_
    obtain ⟨q4, T⟩ := T
    refine v_getR (pc' := 9) 9 0 dX9_waits_6 rfl (by decide) (by decide) rfl kf_X9_12 q4 ?_
    refine v_iload_n (pc' := 10) dX9_waits_9 rfl rfl ?_
    obtain ⟨q8, T⟩ := T
    obtain ⟨z6, h5, k7, T⟩ := T
    refine v_callV (pc' := 13) (M1 := mX5_blocksNeededBy) (as := [.int x1]) (r := (rH h1 r0 0)) (rest := []) 5 dX9_waits_10 rfl ko_X9_323 kc_X5_blocksNeededBy ki_X5_blocksNeededBy ks_X5_blocksNeededBy (by decide) (by decide) hdd rfl rfl (le_l rfl) q8 k7 ?_
    exact v_iret dX9_waits_13 rfl T
  · exact v_callVx (M1 := mX9_testBlock) (as := [.int x1]) (r := r0) (rest := []) 9 dX9_waits_2 rfl ko_X9_223 kc_X9_testBlock ki_X9_testBlock ks_X9_testBlock (by decide) (by decide) hdd rfl rfl (le_l rfl) q3 k2
theorem eX9_rings {G : GG} {d : Nat} {h : Hp} {o : OU} {h' : Hp} (r0 : Nat) (T : V G mX9_rings d 4 [.ref r0, .int 0, .int 0, uV, uV] [] h o h') : VM G mX9_rings d [.ref r0] h o h' := by
  refine V.toM rfl rfl (le_l rfl) (cat_all rfl) ?_
  show V G mX9_rings d 0 [.ref r0, uV, uV, uV, uV] [] h o h'
  refine v_iconst (pc' := 1) (v := 0) dX9_rings_0 rfl kI_0 ?_
  refine v_istore_n (pc' := 2) (loc' := [.ref r0, .int 0, uV, uV, uV]) dX9_rings_1 rfl (lt_l rfl) rfl ?_
  refine v_iconst (pc' := 3) (v := 0) dX9_rings_2 rfl kI_0 ?_
  refine v_istore_n (pc' := 4) (loc' := [.ref r0, .int 0, .int 0, uV, uV]) dX9_rings_3 rfl (lt_l rfl) rfl ?_
  exact T
theorem bX9_rings_4 {G : GG} {d : Nat} {h : Hp} {o : OU} {h' : Hp} (r0 : Nat) (x1 : Int32) (x2 : Int32) (hd : 1 ≤ d) (T : kH h r0 = 19 ∧ kH h (rH h r0 0) = 15 ∧ (((h.2 (rH h r0 0) 0) ≤ x2 → (o = .inl (some (.int x1)) ∧ h' = h)) ∧ (¬ (h.2 (rH h r0 0) 0) ≤ x2 → ∃ z5 h4, VM G mX5_blocksNeededBy (d - 1) [.ref (rH h r0 0), .int x2] h (.inl (some (.int z5))) h4 ∧ V G mX9_rings d 29 [.ref r0, .int x1, .int x2, .int z5, .int (x2 + 1)] [] h4 o h'))) : V G mX9_rings d 4 [.ref r0, .int x1, .int x2, uV, uV] [] h o h' := by
  have hdd : d - 1 + 1 ≤ d := by omega
  refine v_iload_n (pc' := 5) dX9_rings_4 rfl rfl ?_
  refine v_aload_n (pc' := 6) dX9_rings_5 rfl rfl ?_
  obtain ⟨q1, T⟩ := T
  refine v_getR (pc' := 9) 9 0 dX9_rings_6 rfl (by decide) (by decide) rfl kf_X9_12 q1 ?_
  obtain ⟨q2, T⟩ := T
  refine v_getI (pc' := 12) 5 0 dX9_rings_9 rfl (by decide) (by decide) rfl kf_X9_113 q2 ?_
  refine v_icmp_ge (tgt := 85) (pc' := 15) dX9_rings_12 (by decide) rfl ⟨fun c3 => ?_, fun c3 => ?_⟩
  · have T := T.1 c3
    refine v_iload_n (pc' := 86) dX9_rings_85 rfl rfl ?_
    exact v_iret dX9_rings_86 rfl T
  · have T := T.2 c3
    refine v_aload_n (pc' := 16) dX9_rings_15 rfl rfl ?_
    refine v_getR (pc' := 19) 9 0 dX9_rings_16 rfl (by decide) (by decide) rfl kf_X9_12 q1 ?_
    refine v_iload_n (pc' := 20) dX9_rings_19 rfl rfl ?_
    obtain ⟨z5, h4, k6, T⟩ := T
    refine v_callV (pc' := 23) (M1 := mX5_blocksNeededBy) (as := [.int x2]) (r := (rH h r0 0)) (rest := []) 5 dX9_rings_20 rfl ko_X9_323 kc_X5_blocksNeededBy ki_X5_blocksNeededBy ks_X5_blocksNeededBy (by decide) (by decide) hdd rfl rfl (le_l rfl) q2 k6 ?_
    refine v_istore_n (pc' := 24) (loc' := [.ref r0, .int x1, .int x2, .int z5, uV]) dX9_rings_23 rfl (lt_l rfl) rfl ?_
    refine v_iload_n (pc' := 25) dX9_rings_24 rfl rfl ?_
    refine v_iconst (pc' := 26) (v := 1) dX9_rings_25 rfl kI_1 ?_
    refine v_iadd (pc' := 27) dX9_rings_26 rfl ?_
    refine v_istore (pc' := 29) (loc' := [.ref r0, .int x1, .int x2, .int z5, .int (x2 + 1)]) dX9_rings_27 rfl (lt_l rfl) rfl ?_
    exact T
theorem bX9_rings_29 {G : GG} {d : Nat} {h : Hp} {o : OU} {h' : Hp} (r0 : Nat) (x1 : Int32) (x2 : Int32) (x3 : Int32) (x4 : Int32) (hd : 1 ≤ d) (T : ((x3 = 0 → V G mX9_rings d 4 [.ref r0, .int x1, .int (x2 + 1), uV, uV] [] h o h') ∧ (¬ x3 = 0 → kH h r0 = 19 ∧ kH h (rH h r0 0) = 15 ∧ (((h.2 (rH h r0 0) 0) ≤ x4 → V G mX9_rings d 4 [.ref r0, .int x1, .int (x2 + 1), uV, uV] [] h o h') ∧ (¬ (h.2 (rH h r0 0) 0) ≤ x4 → ((((x3 >>> (x4 &&& 31)) &&& 1) = 0 → V G mX9_rings d 29 [.ref r0, .int x1, .int x2, .int x3, .int (x4 + 1)] [] h o h') ∧ (¬ ((x3 >>> (x4 &&& 31)) &&& 1) = 0 → ∃ z7 h6, VM G mX5_blocksNeededBy (d - 1) [.ref (rH h r0 0), .int x4] h (.inl (some (.int z7))) h6 ∧ ((((z7 >>> (x2 &&& 31)) &&& 1) = 0 → V G mX9_rings d 29 [.ref r0, .int x1, .int x2, .int x3, .int (x4 + 1)] [] h6 o h') ∧ (¬ ((z7 >>> (x2 &&& 31)) &&& 1) = 0 → V G mX9_rings d 29 [.ref r0, .int (x1 + 1), .int x2, .int x3, .int (x4 + 1)] [] h6 o h'))))))))) : V G mX9_rings d 29 [.ref r0, .int x1, .int x2, .int x3, .int x4] [] h o h' := by
  have hdd : d - 1 + 1 ≤ d := by omega
  refine v_iload_n (pc' := 30) dX9_rings_29 rfl rfl ?_
  refine v_if_eq (tgt := 79) (pc' := 33) dX9_rings_30 (by decide) rfl ⟨fun c1 => ?_, fun c1 => ?_⟩
  · have T := T.1 c1
    refine v_iinc (pc' := 82) (loc' := [.ref r0, .int x1, .int (x2 + 1), .int x3, .int x4]) dX9_rings_79 rfl rfl (kX_1 _) rfl ?_
    refine v_goto (pc' := 4) dX9_rings_82 (by decide) ?_
    exact V.drop (llp_r (llp_r (llp_r (llp_u (llp_u llp_nil))))) T
  · have T := T.2 c1
    refine v_iload (pc' := 35) dX9_rings_33 rfl rfl ?_
    refine v_aload_n (pc' := 36) dX9_rings_35 rfl rfl ?_
    obtain ⟨q2, T⟩ := T
    refine v_getR (pc' := 39) 9 0 dX9_rings_36 rfl (by decide) (by decide) rfl kf_X9_12 q2 ?_
    obtain ⟨q3, T⟩ := T
    refine v_getI (pc' := 42) 5 0 dX9_rings_39 rfl (by decide) (by decide) rfl kf_X9_113 q3 ?_
    refine v_icmp_ge (tgt := 79) (pc' := 45) dX9_rings_42 (by decide) rfl ⟨fun c4 => ?_, fun c4 => ?_⟩
    · have T := T.1 c4
      refine v_iinc (pc' := 82) (loc' := [.ref r0, .int x1, .int (x2 + 1), .int x3, .int x4]) dX9_rings_79 rfl rfl (kX_1 _) rfl ?_
      refine v_goto (pc' := 4) dX9_rings_82 (by decide) ?_
      exact V.drop (llp_r (llp_r (llp_r (llp_u (llp_u llp_nil))))) T
    · have T := T.2 c4
      refine v_iload_n (pc' := 46) dX9_rings_45 rfl rfl ?_
      refine v_iload (pc' := 48) dX9_rings_46 rfl rfl ?_
      refine v_ishr (pc' := 49) dX9_rings_48 rfl ?_
      refine v_iconst (pc' := 50) (v := 1) dX9_rings_49 rfl kI_1 ?_
      refine v_iand (pc' := 51) dX9_rings_50 rfl ?_
      refine v_if_eq (tgt := 73) (pc' := 54) dX9_rings_51 (by decide) rfl ⟨fun c5 => ?_, fun c5 => ?_⟩
      · have T := T.1 c5
        refine v_iinc (pc' := 76) (loc' := [.ref r0, .int x1, .int x2, .int x3, .int (x4 + 1)]) dX9_rings_73 rfl rfl (kX_1 _) rfl ?_
        refine v_goto (pc' := 29) dX9_rings_76 (by decide) ?_
        exact T
      · have T := T.2 c5
        refine v_aload_n (pc' := 55) dX9_rings_54 rfl rfl ?_
        refine v_getR (pc' := 58) 9 0 dX9_rings_55 rfl (by decide) (by decide) rfl kf_X9_12 q2 ?_
        refine v_iload (pc' := 60) dX9_rings_58 rfl rfl ?_
        obtain ⟨z7, h6, k8, T⟩ := T
        refine v_callV (pc' := 63) (M1 := mX5_blocksNeededBy) (as := [.int x4]) (r := (rH h r0 0)) (rest := []) 5 dX9_rings_60 rfl ko_X9_323 kc_X5_blocksNeededBy ki_X5_blocksNeededBy ks_X5_blocksNeededBy (by decide) (by decide) hdd rfl rfl (le_l rfl) q3 k8 ?_
        refine v_iload_n (pc' := 64) dX9_rings_63 rfl rfl ?_
        refine v_ishr (pc' := 65) dX9_rings_64 rfl ?_
        refine v_iconst (pc' := 66) (v := 1) dX9_rings_65 rfl kI_1 ?_
        refine v_iand (pc' := 67) dX9_rings_66 rfl ?_
        refine v_if_eq (tgt := 73) (pc' := 70) dX9_rings_67 (by decide) rfl ⟨fun c9 => ?_, fun c9 => ?_⟩
        · have T := T.1 c9
          refine v_iinc (pc' := 76) (loc' := [.ref r0, .int x1, .int x2, .int x3, .int (x4 + 1)]) dX9_rings_73 rfl rfl (kX_1 _) rfl ?_
          refine v_goto (pc' := 29) dX9_rings_76 (by decide) ?_
          exact T
        · have T := T.2 c9
          refine v_iinc (pc' := 73) (loc' := [.ref r0, .int (x1 + 1), .int x2, .int x3, .int x4]) dX9_rings_70 rfl rfl (kX_1 _) rfl ?_
          refine v_iinc (pc' := 76) (loc' := [.ref r0, .int (x1 + 1), .int x2, .int x3, .int (x4 + 1)]) dX9_rings_73 rfl rfl (kX_1 _) rfl ?_
          refine v_goto (pc' := 29) dX9_rings_76 (by decide) ?_
          exact T
theorem eX9_settle {G : GG} {d : Nat} {h : Hp} {o : OU} {h' : Hp} (r0 : Nat) (hd : 1 ≤ d) (T : kH h r0 = 19 ∧ kH h (rH h r0 3) = 5 ∧ vp_in 0 (lH h (rH h r0 3)) ∧ kH h (rH h (rH h r0 3) 0) = 15 ∧ ∃ h4, VM G mX5_copyFrom (d - 1) [.ref (rH h (rH h r0 3) 0), .ref (rH h r0 0)] h (.inl none) h4 ∧ kH h4 r0 = 19 ∧ kH h4 (rH h4 r0 4) = 12 ∧ ∃ z9 h8, VM G mX2_settleAll (d - 1) [.ref (rH h4 r0 4), .ref (rH h (rH h r0 3) 0)] h4 (.inl (some (.int z9))) h8 ∧ ((z9 ≤ 200 → (o = .inl (some (.int z9)) ∧ h' = h8)) ∧ (¬ z9 ≤ 200 → (o = .inl (some (.int (-1))) ∧ h' = h8)))) : VM G mX9_settle d [.ref r0] h o h' := by
  refine V.toM rfl rfl (le_l rfl) (cat_all rfl) ?_
  show V G mX9_settle d 0 [.ref r0, uV, uV] [] h o h'
  have hdd : d - 1 + 1 ≤ d := by omega
  refine v_aload_n (pc' := 1) dX9_settle_0 rfl rfl ?_
  obtain ⟨q1, T⟩ := T
  refine v_getR (pc' := 4) 9 3 dX9_settle_1 rfl (by decide) (by decide) rfl kf_X9_29 q1 ?_
  refine v_iconst (pc' := 5) (v := 0) dX9_settle_4 rfl kI_0 ?_
  obtain ⟨q2, T⟩ := T
  obtain ⟨q3, T⟩ := T
  refine v_aald (pc' := 6) 5 dX9_settle_5 rfl kN_0 (by decide) q2 q3 ?_
  refine v_astore_n (pc' := 7) (loc' := [.ref r0, .ref (rH h (rH h r0 3) 0), uV]) dX9_settle_6 rfl (lt_l rfl) rfl ?_
  refine v_aload_n (pc' := 8) dX9_settle_7 rfl rfl ?_
  refine v_aload_n (pc' := 9) dX9_settle_8 rfl rfl ?_
  refine v_getR (pc' := 12) 9 0 dX9_settle_9 rfl (by decide) (by decide) rfl kf_X9_12 q1 ?_
  obtain ⟨q6, T⟩ := T
  obtain ⟨h4, k5, T⟩ := T
  refine v_callV (pc' := 15) (M1 := mX5_copyFrom) (as := [.ref (rH h r0 0)]) (r := (rH h (rH h r0 3) 0)) (rest := []) 5 dX9_settle_12 rfl ko_X9_326 kc_X5_copyFrom ki_X5_copyFrom ks_X5_copyFrom (by decide) (by decide) hdd rfl rfl (le_l rfl) q6 k5 ?_
  refine v_aload_n (pc' := 16) dX9_settle_15 rfl rfl ?_
  obtain ⟨q7, T⟩ := T
  refine v_getR (pc' := 19) 9 4 dX9_settle_16 rfl (by decide) (by decide) rfl kf_X9_36 q7 ?_
  refine v_aload_n (pc' := 20) dX9_settle_19 rfl rfl ?_
  obtain ⟨q11, T⟩ := T
  obtain ⟨z9, h8, k10, T⟩ := T
  refine v_callV (pc' := 23) (M1 := mX2_settleAll) (as := [.ref (rH h (rH h r0 3) 0)]) (r := (rH h4 r0 4)) (rest := []) 2 dX9_settle_20 rfl ko_X9_329 kc_X2_settleAll ki_X2_settleAll ks_X2_settleAll (by decide) (by decide) hdd rfl rfl (le_l rfl) q11 k10 ?_
  refine v_istore_n (pc' := 24) (loc' := [.ref r0, .ref (rH h (rH h r0 3) 0), .int z9]) dX9_settle_23 rfl (lt_l rfl) rfl ?_
  refine v_iload_n (pc' := 25) dX9_settle_24 rfl rfl ?_
  refine v_sipush (pc' := 28) (v := 200) dX9_settle_25 rfl kS_200 ?_
  refine v_icmp_le (tgt := 35) (pc' := 31) dX9_settle_28 (by decide) rfl ⟨fun c12 => ?_, fun c12 => ?_⟩
  · have T := T.1 c12
    refine v_iload_n (pc' := 36) dX9_settle_35 rfl rfl ?_
    exact v_iret dX9_settle_36 rfl T
  · have T := T.2 c12
    refine v_iconst (pc' := 32) (v := (-1)) dX9_settle_31 rfl kI_m1 ?_
    refine v_goto (pc' := 36) dX9_settle_32 (by decide) ?_
    exact v_iret dX9_settle_36 rfl T
theorem eX9_spill {G : GG} {d : Nat} {h : Hp} {o : OU} {h' : Hp} (r0 : Nat) (x1 : Int32) (hd : 1 ≤ d) (T : kH h r0 = 19 ∧ ((∃ h1, VM G mX9_testWhat (d - 1) [.ref r0, .int x1, .int 1] h (.inl none) h1 ∧ kH h1 r0 = 19 ∧ kH h1 (rH h1 r0 3) = 5 ∧ vp_in 0 (lH h1 (rH h1 r0 3)) ∧ kH h1 (rH h1 (rH h1 r0 3) 0) = 15 ∧ ∃ h7, VM G mX5_copyFrom (d - 1) [.ref (rH h1 (rH h1 r0 3) 0), .ref (rH h1 r0 0)] h1 (.inl none) h7 ∧ ∃ z11 h10, VM G mX8_leakedBlocks (d - 1) [.ref (rH h1 (rH h1 r0 3) 0), .int 1] h7 (.inl (some (.int z11))) h10 ∧ ∃ z14 h13, VM G mJ6_bitCount_0f7a4 (d - 1) [.int z11] h10 (.inl (some (.int z14))) h13 ∧ V G mX9_spill d 39 [.ref r0, .int x1, .ref (rH h1 (rH h1 r0 3) 0), .int z14, .int 0, .int 0, .int 0, uV, uV] [] h13 o h') ∨ ∃ E, o = .inr E ∧ VM G mX9_testWhat (d - 1) [.ref r0, .int x1, .int 1] h (.inr E) h')) : VM G mX9_spill d [.ref r0, .int x1] h o h' := by
  refine V.toM rfl rfl (le_l rfl) (cat_all rfl) ?_
  show V G mX9_spill d 0 [.ref r0, .int x1, uV, uV, uV, uV, uV, uV, uV] [] h o h'
  have hdd : d - 1 + 1 ≤ d := by omega
  refine v_aload_n (pc' := 1) dX9_spill_0 rfl rfl ?_
  refine v_iload_n (pc' := 2) dX9_spill_1 rfl rfl ?_
  refine v_iconst (pc' := 3) (v := 1) dX9_spill_2 rfl kI_1 ?_
  obtain ⟨q3, T⟩ := T
  rcases T with T | ⟨E, rfl, k2⟩
  · obtain ⟨h1, k2, T⟩ := T
    refine v_callV (pc' := 6) (M1 := mX9_testWhat) (as := [.int x1, .int 1]) (r := r0) (rest := []) 9 dX9_spill_3 rfl ko_X9_195 kc_X9_testWhat ki_X9_testWhat ks_X9_testWhat (by decide) (by decide) hdd rfl rfl (le_l rfl) q3 k2 ?_
    refine v_aload_n (pc' := 7) dX9_spill_6 rfl rfl ?_
    obtain ⟨q4, T⟩ := T
    refine v_getR (pc' := 10) 9 3 dX9_spill_7 rfl (by decide) (by decide) rfl kf_X9_29 q4 ?_
    refine v_iconst (pc' := 11) (v := 0) dX9_spill_10 rfl kI_0 ?_
    obtain ⟨q5, T⟩ := T
    obtain ⟨q6, T⟩ := T
    refine v_aald (pc' := 12) 5 dX9_spill_11 rfl kN_0 (by decide) q5 q6 ?_
    refine v_astore_n (pc' := 13) (loc' := [.ref r0, .int x1, .ref (rH h1 (rH h1 r0 3) 0), uV, uV, uV, uV, uV, uV]) dX9_spill_12 rfl (lt_l rfl) rfl ?_
    refine v_aload_n (pc' := 14) dX9_spill_13 rfl rfl ?_
    refine v_aload_n (pc' := 15) dX9_spill_14 rfl rfl ?_
    refine v_getR (pc' := 18) 9 0 dX9_spill_15 rfl (by decide) (by decide) rfl kf_X9_12 q4 ?_
    obtain ⟨q9, T⟩ := T
    obtain ⟨h7, k8, T⟩ := T
    refine v_callV (pc' := 21) (M1 := mX5_copyFrom) (as := [.ref (rH h1 r0 0)]) (r := (rH h1 (rH h1 r0 3) 0)) (rest := []) 5 dX9_spill_18 rfl ko_X9_326 kc_X5_copyFrom ki_X5_copyFrom ks_X5_copyFrom (by decide) (by decide) hdd rfl rfl (le_l rfl) q9 k8 ?_
    refine v_aload_n (pc' := 22) dX9_spill_21 rfl rfl ?_
    refine v_iconst (pc' := 23) (v := 1) dX9_spill_22 rfl kI_1 ?_
    obtain ⟨z11, h10, k12, T⟩ := T
    refine v_callS (pc' := 26) (M1 := mX8_leakedBlocks) (as := [.ref (rH h1 (rH h1 r0 3) 0), .int 1]) (rest := []) dX9_spill_23 rfl ko_X9_258 kc_X8_leakedBlocks kt_X8_leakedBlocks (by decide) hdd rfl rfl (le_l rfl) k12 ?_
    obtain ⟨z14, h13, k15, T⟩ := T
    refine v_callS (pc' := 29) (M1 := mJ6_bitCount_0f7a4) (as := [.int z11]) (rest := []) dX9_spill_26 rfl ko_X9_333 kc_J6_bitCount_0f7a4 kt_J6_bitCount_0f7a4 (by decide) hdd rfl rfl (le_l rfl) k15 ?_
    refine v_istore_n (pc' := 30) (loc' := [.ref r0, .int x1, .ref (rH h1 (rH h1 r0 3) 0), .int z14, uV, uV, uV, uV, uV]) dX9_spill_29 rfl (lt_l rfl) rfl ?_
    refine v_iconst (pc' := 31) (v := 0) dX9_spill_30 rfl kI_0 ?_
    refine v_istore (pc' := 33) (loc' := [.ref r0, .int x1, .ref (rH h1 (rH h1 r0 3) 0), .int z14, .int 0, uV, uV, uV, uV]) dX9_spill_31 rfl (lt_l rfl) rfl ?_
    refine v_iconst (pc' := 34) (v := 0) dX9_spill_33 rfl kI_0 ?_
    refine v_istore (pc' := 36) (loc' := [.ref r0, .int x1, .ref (rH h1 (rH h1 r0 3) 0), .int z14, .int 0, .int 0, uV, uV, uV]) dX9_spill_34 rfl (lt_l rfl) rfl ?_
    refine v_iconst (pc' := 37) (v := 0) dX9_spill_36 rfl kI_0 ?_
    refine v_istore (pc' := 39) (loc' := [.ref r0, .int x1, .ref (rH h1 (rH h1 r0 3) 0), .int z14, .int 0, .int 0, .int 0, uV, uV]) dX9_spill_37 rfl (lt_l rfl) rfl ?_
    exact T
  · exact v_callVx (M1 := mX9_testWhat) (as := [.int x1, .int 1]) (r := r0) (rest := []) 9 dX9_spill_3 rfl ko_X9_195 kc_X9_testWhat ki_X9_testWhat ks_X9_testWhat (by decide) (by decide) hdd rfl rfl (le_l rfl) q3 k2
theorem bX9_spill_39 {G : GG} {d : Nat} {h : Hp} {o : OU} {h' : Hp} (r0 : Nat) (x1 : Int32) (r2 : Nat) (x3 : Int32) (x4 : Int32) (x5 : Int32) (x6 : Int32) (T : ((10000 ≤ x6 → ((¬ x1 = 0 → (o = .inl (some (.int x4)) ∧ h' = h)) ∧ (x1 = 0 → (o = .inl (some (.int x3)) ∧ h' = h)))) ∧ (¬ 10000 ≤ x6 → kH h r2 = 15 ∧ (((h.2 r2 2) ≤ 0 → ((¬ x1 = 0 → (o = .inl (some (.int x4)) ∧ h' = h)) ∧ (x1 = 0 → (o = .inl (some (.int x3)) ∧ h' = h)))) ∧ (¬ (h.2 r2 2) ≤ 0 → V G mX9_spill d 57 [.ref r0, .int x1, .ref r2, .int x3, .int x4, .int x5, .int x6, .int 0, uV] [] h o h'))))) : V G mX9_spill d 39 [.ref r0, .int x1, .ref r2, .int x3, .int x4, .int x5, .int x6, uV, uV] [] h o h' := by
  refine v_iload (pc' := 41) dX9_spill_39 rfl rfl ?_
  refine v_sipush (pc' := 44) (v := 10000) dX9_spill_41 rfl kS_10000 ?_
  refine v_icmp_ge (tgt := 117) (pc' := 47) dX9_spill_44 (by decide) rfl ⟨fun c1 => ?_, fun c1 => ?_⟩
  · have T := T.1 c1
    refine v_iload_n (pc' := 118) dX9_spill_117 rfl rfl ?_
    refine v_if_ne (tgt := 125) (pc' := 121) dX9_spill_118 (by decide) rfl ⟨fun c2 => ?_, fun c2 => ?_⟩
    · have T := T.1 c2
      refine v_iload (pc' := 127) dX9_spill_125 rfl rfl ?_
      exact v_iret dX9_spill_127 rfl T
    · have T := T.2 c2
      refine v_iload_n (pc' := 122) dX9_spill_121 rfl rfl ?_
      refine v_goto (pc' := 127) dX9_spill_122 (by decide) ?_
      exact v_iret dX9_spill_127 rfl T
  · have T := T.2 c1
    refine v_aload_n (pc' := 48) dX9_spill_47 rfl rfl ?_
    obtain ⟨q3, T⟩ := T
    refine v_getI (pc' := 51) 5 2 dX9_spill_48 rfl (by decide) (by decide) rfl kf_X9_198 q3 ?_
    refine v_if_le (tgt := 117) (pc' := 54) dX9_spill_51 (by decide) rfl ⟨fun c4 => ?_, fun c4 => ?_⟩
    · have T := T.1 c4
      refine v_iload_n (pc' := 118) dX9_spill_117 rfl rfl ?_
      refine v_if_ne (tgt := 125) (pc' := 121) dX9_spill_118 (by decide) rfl ⟨fun c5 => ?_, fun c5 => ?_⟩
      · have T := T.1 c5
        refine v_iload (pc' := 127) dX9_spill_125 rfl rfl ?_
        exact v_iret dX9_spill_127 rfl T
      · have T := T.2 c5
        refine v_iload_n (pc' := 122) dX9_spill_121 rfl rfl ?_
        refine v_goto (pc' := 127) dX9_spill_122 (by decide) ?_
        exact v_iret dX9_spill_127 rfl T
    · have T := T.2 c4
      refine v_iconst (pc' := 55) (v := 0) dX9_spill_54 rfl kI_0 ?_
      refine v_istore (pc' := 57) (loc' := [.ref r0, .int x1, .ref r2, .int x3, .int x4, .int x5, .int x6, .int 0, uV]) dX9_spill_55 rfl (lt_l rfl) rfl ?_
      exact T
theorem bX9_spill_57 {G : GG} {d : Nat} {h : Hp} {o : OU} {h' : Hp} (r0 : Nat) (x1 : Int32) (r2 : Nat) (x3 : Int32) (x4 : Int32) (x5 : Int32) (x6 : Int32) (x7 : Int32) (hd : 1 ≤ d) (T : kH h r2 = 15 ∧ (((h.2 r2 0) ≤ x7 → V G mX9_spill d 39 [.ref r0, .int x1, .ref r2, .int x3, .int x4, .int x5, .int (x6 + 1), uV, uV] [] h o h') ∧ (¬ (h.2 r2 0) ≤ x7 → kH h r0 = 19 ∧ kH h (rH h r0 4) = 12 ∧ ∃ z5 h4, VM G mX2_writeBlock (d - 1) [.ref (rH h r0 4), .ref r2, .int x7] h (.inl (some (.int z5))) h4 ∧ ((z5 = 0 → V G mX9_spill d 57 [.ref r0, .int x1, .ref r2, .int x3, .int x4, .int x5, .int x6, .int (x7 + 1), uV] [] h4 o h') ∧ (¬ z5 = 0 → ∃ z10 h9, VM G mX8_leakedBlocks (d - 1) [.ref r2, .int 1] h4 (.inl (some (.int z10))) h9 ∧ ∃ z13 h12, VM G mJ6_bitCount_0f7a4 (d - 1) [.int z10] h9 (.inl (some (.int z13))) h12 ∧ ((z13 ≤ x3 → V G mX9_spill d 57 [.ref r0, .int x1, .ref r2, .int x3, .int x4, .int (x5 + 1), .int x6, .int (x7 + 1), uV] [] h12 o h') ∧ (¬ z13 ≤ x3 → V G mX9_spill d 57 [.ref r0, .int x1, .ref r2, .int z13, .int (x5 + 1), .int (x5 + 1), .int x6, .int (x7 + 1), uV] [] h12 o h'))))))) : V G mX9_spill d 57 [.ref r0, .int x1, .ref r2, .int x3, .int x4, .int x5, .int x6, .int x7, uV] [] h o h' := by
  have hdd : d - 1 + 1 ≤ d := by omega
  refine v_iload (pc' := 59) dX9_spill_57 rfl rfl ?_
  refine v_aload_n (pc' := 60) dX9_spill_59 rfl rfl ?_
  obtain ⟨q1, T⟩ := T
  refine v_getI (pc' := 63) 5 0 dX9_spill_60 rfl (by decide) (by decide) rfl kf_X9_113 q1 ?_
  refine v_icmp_ge (tgt := 111) (pc' := 66) dX9_spill_63 (by decide) rfl ⟨fun c2 => ?_, fun c2 => ?_⟩
  · have T := T.1 c2
    refine v_iinc (pc' := 114) (loc' := [.ref r0, .int x1, .ref r2, .int x3, .int x4, .int x5, .int (x6 + 1), .int x7, uV]) dX9_spill_111 rfl rfl (kX_1 _) rfl ?_
    refine v_goto (pc' := 39) dX9_spill_114 (by decide) ?_
    exact V.drop (llp_r (llp_r (llp_r (llp_r (llp_r (llp_r (llp_r (llp_u (llp_r llp_nil))))))))) T
  · have T := T.2 c2
    refine v_aload_n (pc' := 67) dX9_spill_66 rfl rfl ?_
    obtain ⟨q3, T⟩ := T
    refine v_getR (pc' := 70) 9 4 dX9_spill_67 rfl (by decide) (by decide) rfl kf_X9_36 q3 ?_
    refine v_aload_n (pc' := 71) dX9_spill_70 rfl rfl ?_
    refine v_iload (pc' := 73) dX9_spill_71 rfl rfl ?_
    obtain ⟨q7, T⟩ := T
    obtain ⟨z5, h4, k6, T⟩ := T
    refine v_callV (pc' := 76) (M1 := mX2_writeBlock) (as := [.ref r2, .int x7]) (r := (rH h r0 4)) (rest := []) 2 dX9_spill_73 rfl ko_X9_338 kc_X2_writeBlock ki_X2_writeBlock ks_X2_writeBlock (by decide) (by decide) hdd rfl rfl (le_l rfl) q7 k6 ?_
    refine v_if_eq (tgt := 105) (pc' := 79) dX9_spill_76 (by decide) rfl ⟨fun c8 => ?_, fun c8 => ?_⟩
    · have T := T.1 c8
      refine v_iinc (pc' := 108) (loc' := [.ref r0, .int x1, .ref r2, .int x3, .int x4, .int x5, .int x6, .int (x7 + 1), uV]) dX9_spill_105 rfl rfl (kX_1 _) rfl ?_
      refine v_goto (pc' := 57) dX9_spill_108 (by decide) ?_
      exact T
    · have T := T.2 c8
      refine v_iinc (pc' := 82) (loc' := [.ref r0, .int x1, .ref r2, .int x3, .int x4, .int (x5 + 1), .int x6, .int x7, uV]) dX9_spill_79 rfl rfl (kX_1 _) rfl ?_
      refine v_aload_n (pc' := 83) dX9_spill_82 rfl rfl ?_
      refine v_iconst (pc' := 84) (v := 1) dX9_spill_83 rfl kI_1 ?_
      obtain ⟨z10, h9, k11, T⟩ := T
      refine v_callS (pc' := 87) (M1 := mX8_leakedBlocks) (as := [.ref r2, .int 1]) (rest := []) dX9_spill_84 rfl ko_X9_258 kc_X8_leakedBlocks kt_X8_leakedBlocks (by decide) hdd rfl rfl (le_l rfl) k11 ?_
      obtain ⟨z13, h12, k14, T⟩ := T
      refine v_callS (pc' := 90) (M1 := mJ6_bitCount_0f7a4) (as := [.int z10]) (rest := []) dX9_spill_87 rfl ko_X9_333 kc_J6_bitCount_0f7a4 kt_J6_bitCount_0f7a4 (by decide) hdd rfl rfl (le_l rfl) k14 ?_
      refine v_istore (pc' := 92) (loc' := [.ref r0, .int x1, .ref r2, .int x3, .int x4, .int (x5 + 1), .int x6, .int x7, .int z13]) dX9_spill_90 rfl (lt_l rfl) rfl ?_
      refine v_iload (pc' := 94) dX9_spill_92 rfl rfl ?_
      refine v_iload_n (pc' := 95) dX9_spill_94 rfl rfl ?_
      refine v_icmp_le (tgt := 105) (pc' := 98) dX9_spill_95 (by decide) rfl ⟨fun c15 => ?_, fun c15 => ?_⟩
      · have T := T.1 c15
        refine v_iinc (pc' := 108) (loc' := [.ref r0, .int x1, .ref r2, .int x3, .int x4, .int (x5 + 1), .int x6, .int (x7 + 1), .int z13]) dX9_spill_105 rfl rfl (kX_1 _) rfl ?_
        refine v_goto (pc' := 57) dX9_spill_108 (by decide) ?_
        exact V.drop (llp_r (llp_r (llp_r (llp_r (llp_r (llp_r (llp_r (llp_r (llp_u llp_nil))))))))) T
      · have T := T.2 c15
        refine v_iload (pc' := 100) dX9_spill_98 rfl rfl ?_
        refine v_istore_n (pc' := 101) (loc' := [.ref r0, .int x1, .ref r2, .int z13, .int x4, .int (x5 + 1), .int x6, .int x7, .int z13]) dX9_spill_100 rfl (lt_l rfl) rfl ?_
        refine v_iload (pc' := 103) dX9_spill_101 rfl rfl ?_
        refine v_istore (pc' := 105) (loc' := [.ref r0, .int x1, .ref r2, .int z13, .int (x5 + 1), .int (x5 + 1), .int x6, .int x7, .int z13]) dX9_spill_103 rfl (lt_l rfl) rfl ?_
        refine v_iinc (pc' := 108) (loc' := [.ref r0, .int x1, .ref r2, .int z13, .int (x5 + 1), .int (x5 + 1), .int x6, .int (x7 + 1), .int z13]) dX9_spill_105 rfl rfl (kX_1 _) rfl ?_
        refine v_goto (pc' := 57) dX9_spill_108 (by decide) ?_
        exact V.drop (llp_r (llp_r (llp_r (llp_r (llp_r (llp_r (llp_r (llp_r (llp_u llp_nil))))))))) T
theorem eX9_fewest {G : GG} {d : Nat} {h : Hp} {o : OU} {h' : Hp} (r0 : Nat) (T : V G mX9_fewest d 2 [.ref r0, .int 0] [] h o h') : VM G mX9_fewest d [.ref r0] h o h' := by
  refine V.toM rfl rfl (le_l rfl) (cat_all rfl) ?_
  show V G mX9_fewest d 0 [.ref r0, uV] [] h o h'
  refine v_iconst (pc' := 1) (v := 0) dX9_fewest_0 rfl kI_0 ?_
  refine v_istore_n (pc' := 2) (loc' := [.ref r0, .int 0]) dX9_fewest_1 rfl (lt_l rfl) rfl ?_
  exact T
theorem bX9_fewest_2 {G : GG} {d : Nat} {h : Hp} {o : OU} {h' : Hp} (r0 : Nat) (x1 : Int32) (hd : 1 ≤ d) (T : ((4 < x1 → (o = .inl (some (.int (-1))) ∧ h' = h)) ∧ (¬ 4 < x1 → kH h r0 = 19 ∧ kH h (rH h r0 3) = 5 ∧ vp_in 0 (lH h (rH h r0 3)) ∧ kH h (rH h (rH h r0 3) 0) = 15 ∧ ∃ h5, VM G mX5_copyFrom (d - 1) [.ref (rH h (rH h r0 3) 0), .ref (rH h r0 0)] h (.inl none) h5 ∧ kH h5 r0 = 19 ∧ ∃ z9 h8, VM G mX9_safeWithin (d - 1) [.ref r0, .int x1, .int 0] h5 (.inl (some (.int z9))) h8 ∧ ((z9 = 0 → V G mX9_fewest d 2 [.ref r0, .int (x1 + 1)] [] h8 o h') ∧ (¬ z9 = 0 → (o = .inl (some (.int x1)) ∧ h' = h8)))))) : V G mX9_fewest d 2 [.ref r0, .int x1] [] h o h' := by
  have hdd : d - 1 + 1 ≤ d := by omega
  refine v_iload_n (pc' := 3) dX9_fewest_2 rfl rfl ?_
  refine v_iconst (pc' := 4) (v := 4) dX9_fewest_3 rfl kI_4 ?_
  refine v_icmp_gt (tgt := 37) (pc' := 7) dX9_fewest_4 (by decide) rfl ⟨fun c1 => ?_, fun c1 => ?_⟩
  · have T := T.1 c1
    refine v_iconst (pc' := 38) (v := (-1)) dX9_fewest_37 rfl kI_m1 ?_
    exact v_iret dX9_fewest_38 rfl T
  · have T := T.2 c1
    refine v_aload_n (pc' := 8) dX9_fewest_7 rfl rfl ?_
    obtain ⟨q2, T⟩ := T
    refine v_getR (pc' := 11) 9 3 dX9_fewest_8 rfl (by decide) (by decide) rfl kf_X9_29 q2 ?_
    refine v_iconst (pc' := 12) (v := 0) dX9_fewest_11 rfl kI_0 ?_
    obtain ⟨q3, T⟩ := T
    obtain ⟨q4, T⟩ := T
    refine v_aald (pc' := 13) 5 dX9_fewest_12 rfl kN_0 (by decide) q3 q4 ?_
    refine v_aload_n (pc' := 14) dX9_fewest_13 rfl rfl ?_
    refine v_getR (pc' := 17) 9 0 dX9_fewest_14 rfl (by decide) (by decide) rfl kf_X9_12 q2 ?_
    obtain ⟨q7, T⟩ := T
    obtain ⟨h5, k6, T⟩ := T
    refine v_callV (pc' := 20) (M1 := mX5_copyFrom) (as := [.ref (rH h r0 0)]) (r := (rH h (rH h r0 3) 0)) (rest := []) 5 dX9_fewest_17 rfl ko_X9_326 kc_X5_copyFrom ki_X5_copyFrom ks_X5_copyFrom (by decide) (by decide) hdd rfl rfl (le_l rfl) q7 k6 ?_
    refine v_aload_n (pc' := 21) dX9_fewest_20 rfl rfl ?_
    refine v_iload_n (pc' := 22) dX9_fewest_21 rfl rfl ?_
    refine v_iconst (pc' := 23) (v := 0) dX9_fewest_22 rfl kI_0 ?_
    obtain ⟨q11, T⟩ := T
    obtain ⟨z9, h8, k10, T⟩ := T
    refine v_callV (pc' := 26) (M1 := mX9_safeWithin) (as := [.int x1, .int 0]) (r := r0) (rest := []) 9 dX9_fewest_23 rfl ko_X9_342 kc_X9_safeWithin ki_X9_safeWithin ks_X9_safeWithin (by decide) (by decide) hdd rfl rfl (le_l rfl) q11 k10 ?_
    refine v_if_eq (tgt := 31) (pc' := 29) dX9_fewest_26 (by decide) rfl ⟨fun c12 => ?_, fun c12 => ?_⟩
    · have T := T.1 c12
      refine v_iinc (pc' := 34) (loc' := [.ref r0, .int (x1 + 1)]) dX9_fewest_31 rfl rfl (kX_1 _) rfl ?_
      refine v_goto (pc' := 2) dX9_fewest_34 (by decide) ?_
      exact T
    · have T := T.2 c12
      refine v_iload_n (pc' := 30) dX9_fewest_29 rfl rfl ?_
      exact v_iret dX9_fewest_30 rfl T
theorem eX9_safeWithin {G : GG} {d : Nat} {h : Hp} {o : OU} {h' : Hp} (r0 : Nat) (x1 : Int32) (x2 : Int32) (hd : 1 ≤ d) (T : kH h r0 = 19 ∧ kH h (rH h r0 3) = 5 ∧ vp_in x2 (lH h (rH h r0 3)) ∧ kH h (rH h (rH h r0 3) x2.toNatClampNeg) = 15 ∧ ∃ z5 h4, VM G mX5_dirtyBlocks (d - 1) [.ref (rH h (rH h r0 3) x2.toNatClampNeg)] h (.inl (some (.int z5))) h4 ∧ ((¬ z5 = 0 → ∃ z10 h9, VM G mJ6_bitCount_0f7a4 (d - 1) [.int z5] h4 (.inl (some (.int z10))) h9 ∧ ((x1 < z10 → (o = .inl (some (.int 0)) ∧ h' = h9)) ∧ (¬ x1 < z10 → kH h9 r0 = 19 ∧ kH h9 (rH h9 r0 3) = 5 ∧ (((x2 + 1) < ((lH h9 (rH h9 r0 3)).toInt32) → V G mX9_safeWithin d 45 [.ref r0, .int x1, .int x2, .ref (rH h (rH h r0 3) x2.toNatClampNeg), .int z5, .int 0] [] h9 o h') ∧ (¬ (x2 + 1) < ((lH h9 (rH h9 r0 3)).toInt32) → (o = .inl (some (.int 0)) ∧ h' = h9)))))) ∧ (z5 = 0 → (o = .inl (some (.int 1)) ∧ h' = h4)))) : VM G mX9_safeWithin d [.ref r0, .int x1, .int x2] h o h' := by
  refine V.toM rfl rfl (le_l rfl) (cat_all rfl) ?_
  show V G mX9_safeWithin d 0 [.ref r0, .int x1, .int x2, uV, uV, uV] [] h o h'
  have hdd : d - 1 + 1 ≤ d := by omega
  refine v_aload_n (pc' := 1) dX9_safeWithin_0 rfl rfl ?_
  obtain ⟨q1, T⟩ := T
  refine v_getR (pc' := 4) 9 3 dX9_safeWithin_1 rfl (by decide) (by decide) rfl kf_X9_29 q1 ?_
  refine v_iload_n (pc' := 5) dX9_safeWithin_4 rfl rfl ?_
  obtain ⟨q2, T⟩ := T
  obtain ⟨q3, T⟩ := T
  refine v_aald (pc' := 6) 5 dX9_safeWithin_5 rfl rfl (by decide) q2 q3 ?_
  refine v_astore_n (pc' := 7) (loc' := [.ref r0, .int x1, .int x2, .ref (rH h (rH h r0 3) x2.toNatClampNeg), uV, uV]) dX9_safeWithin_6 rfl (lt_l rfl) rfl ?_
  refine v_aload_n (pc' := 8) dX9_safeWithin_7 rfl rfl ?_
  obtain ⟨q7, T⟩ := T
  obtain ⟨z5, h4, k6, T⟩ := T
  refine v_callV (pc' := 11) (M1 := mX5_dirtyBlocks) (as := []) (r := (rH h (rH h r0 3) x2.toNatClampNeg)) (rest := []) 5 dX9_safeWithin_8 rfl ko_X9_204 kc_X5_dirtyBlocks ki_X5_dirtyBlocks ks_X5_dirtyBlocks (by decide) (by decide) hdd rfl rfl (le_l rfl) q7 k6 ?_
  refine v_istore (pc' := 13) (loc' := [.ref r0, .int x1, .int x2, .ref (rH h (rH h r0 3) x2.toNatClampNeg), .int z5, uV]) dX9_safeWithin_11 rfl (lt_l rfl) rfl ?_
  refine v_iload (pc' := 15) dX9_safeWithin_13 rfl rfl ?_
  refine v_if_ne (tgt := 20) (pc' := 18) dX9_safeWithin_15 (by decide) rfl ⟨fun c8 => ?_, fun c8 => ?_⟩
  · have T := T.1 c8
    refine v_iload (pc' := 22) dX9_safeWithin_20 rfl rfl ?_
    obtain ⟨z10, h9, k11, T⟩ := T
    refine v_callS (pc' := 25) (M1 := mJ6_bitCount_0f7a4) (as := [.int z5]) (rest := []) dX9_safeWithin_22 rfl ko_X9_333 kc_J6_bitCount_0f7a4 kt_J6_bitCount_0f7a4 (by decide) hdd rfl rfl (le_l rfl) k11 ?_
    refine v_iload_n (pc' := 26) dX9_safeWithin_25 rfl rfl ?_
    refine v_icmp_gt (tgt := 40) (pc' := 29) dX9_safeWithin_26 (by decide) rfl ⟨fun c12 => ?_, fun c12 => ?_⟩
    · have T := T.1 c12
      refine v_iconst (pc' := 41) (v := 0) dX9_safeWithin_40 rfl kI_0 ?_
      exact v_zret dX9_safeWithin_41 rfl (Or.inl rfl) T
    · have T := T.2 c12
      refine v_iload_n (pc' := 30) dX9_safeWithin_29 rfl rfl ?_
      refine v_iconst (pc' := 31) (v := 1) dX9_safeWithin_30 rfl kI_1 ?_
      refine v_iadd (pc' := 32) dX9_safeWithin_31 rfl ?_
      refine v_aload_n (pc' := 33) dX9_safeWithin_32 rfl rfl ?_
      obtain ⟨q13, T⟩ := T
      refine v_getR (pc' := 36) 9 3 dX9_safeWithin_33 rfl (by decide) (by decide) rfl kf_X9_29 q13 ?_
      obtain ⟨q14, T⟩ := T
      refine v_alen (pc' := 37) dX9_safeWithin_36 rfl q14 (by decide) rfl ?_
      refine v_icmp_lt (tgt := 42) (pc' := 40) dX9_safeWithin_37 (by decide) rfl ⟨fun c15 => ?_, fun c15 => ?_⟩
      · have T := T.1 c15
        refine v_iconst (pc' := 43) (v := 0) dX9_safeWithin_42 rfl kI_0 ?_
        refine v_istore (pc' := 45) (loc' := [.ref r0, .int x1, .int x2, .ref (rH h (rH h r0 3) x2.toNatClampNeg), .int z5, .int 0]) dX9_safeWithin_43 rfl (lt_l rfl) rfl ?_
        exact T
      · have T := T.2 c15
        refine v_iconst (pc' := 41) (v := 0) dX9_safeWithin_40 rfl kI_0 ?_
        exact v_zret dX9_safeWithin_41 rfl (Or.inl rfl) T
  · have T := T.2 c8
    refine v_iconst (pc' := 19) (v := 1) dX9_safeWithin_18 rfl kI_1 ?_
    exact v_zret dX9_safeWithin_19 rfl (Or.inr rfl) T
theorem bX9_safeWithin_45 {G : GG} {d : Nat} {h : Hp} {o : OU} {h' : Hp} (r0 : Nat) (x1 : Int32) (x2 : Int32) (r3 : Nat) (x4 : Int32) (x5 : Int32) (hd : 1 ≤ d) (T : kH h r3 = 15 ∧ (((h.2 r3 0) ≤ x5 → (o = .inl (some (.int 0)) ∧ h' = h)) ∧ (¬ (h.2 r3 0) ≤ x5 → ((((x4 >>> (x5 &&& 31)) &&& 1) = 0 → V G mX9_safeWithin d 45 [.ref r0, .int x1, .int x2, .ref r3, .int x4, .int (x5 + 1)] [] h o h') ∧ (¬ ((x4 >>> (x5 &&& 31)) &&& 1) = 0 → kH h r0 = 19 ∧ kH h (rH h r0 3) = 5 ∧ vp_in (x2 + 1) (lH h (rH h r0 3)) ∧ kH h (rH h (rH h r0 3) (x2 + 1).toNatClampNeg) = 15 ∧ ∃ h7, VM G mX5_copyFrom (d - 1) [.ref (rH h (rH h r0 3) (x2 + 1).toNatClampNeg), .ref r3] h (.inl none) h7 ∧ kH h7 r0 = 19 ∧ kH h7 (rH h7 r0 3) = 5 ∧ vp_in (x2 + 1) (lH h7 (rH h7 r0 3)) ∧ kH h7 (rH h7 r0 4) = 12 ∧ ∃ z14 h13, VM G mX2_writeBlock (d - 1) [.ref (rH h7 r0 4), .ref (rH h7 (rH h7 r0 3) (x2 + 1).toNatClampNeg), .int x5] h7 (.inl (some (.int z14))) h13 ∧ kH h13 r0 = 19 ∧ ∃ z18 h17, VM G mX9_safeWithin (d - 1) [.ref r0, .int (x1 - 1), .int (x2 + 1)] h13 (.inl (some (.int z18))) h17 ∧ ((z18 = 0 → V G mX9_safeWithin d 45 [.ref r0, .int x1, .int x2, .ref r3, .int x4, .int (x5 + 1)] [] h17 o h') ∧ (¬ z18 = 0 → (o = .inl (some (.int 1)) ∧ h' = h17)))))))) : V G mX9_safeWithin d 45 [.ref r0, .int x1, .int x2, .ref r3, .int x4, .int x5] [] h o h' := by
  have hdd : d - 1 + 1 ≤ d := by omega
  refine v_iload (pc' := 47) dX9_safeWithin_45 rfl rfl ?_
  refine v_aload_n (pc' := 48) dX9_safeWithin_47 rfl rfl ?_
  obtain ⟨q1, T⟩ := T
  refine v_getI (pc' := 51) 5 0 dX9_safeWithin_48 rfl (by decide) (by decide) rfl kf_X9_113 q1 ?_
  refine v_icmp_ge (tgt := 115) (pc' := 54) dX9_safeWithin_51 (by decide) rfl ⟨fun c2 => ?_, fun c2 => ?_⟩
  · have T := T.1 c2
    refine v_iconst (pc' := 116) (v := 0) dX9_safeWithin_115 rfl kI_0 ?_
    exact v_zret dX9_safeWithin_116 rfl (Or.inl rfl) T
  · have T := T.2 c2
    refine v_iload (pc' := 56) dX9_safeWithin_54 rfl rfl ?_
    refine v_iload (pc' := 58) dX9_safeWithin_56 rfl rfl ?_
    refine v_ishr (pc' := 59) dX9_safeWithin_58 rfl ?_
    refine v_iconst (pc' := 60) (v := 1) dX9_safeWithin_59 rfl kI_1 ?_
    refine v_iand (pc' := 61) dX9_safeWithin_60 rfl ?_
    refine v_if_eq (tgt := 109) (pc' := 64) dX9_safeWithin_61 (by decide) rfl ⟨fun c3 => ?_, fun c3 => ?_⟩
    · have T := T.1 c3
      refine v_iinc (pc' := 112) (loc' := [.ref r0, .int x1, .int x2, .ref r3, .int x4, .int (x5 + 1)]) dX9_safeWithin_109 rfl rfl (kX_1 _) rfl ?_
      refine v_goto (pc' := 45) dX9_safeWithin_112 (by decide) ?_
      exact T
    · have T := T.2 c3
      refine v_aload_n (pc' := 65) dX9_safeWithin_64 rfl rfl ?_
      obtain ⟨q4, T⟩ := T
      refine v_getR (pc' := 68) 9 3 dX9_safeWithin_65 rfl (by decide) (by decide) rfl kf_X9_29 q4 ?_
      refine v_iload_n (pc' := 69) dX9_safeWithin_68 rfl rfl ?_
      refine v_iconst (pc' := 70) (v := 1) dX9_safeWithin_69 rfl kI_1 ?_
      refine v_iadd (pc' := 71) dX9_safeWithin_70 rfl ?_
      obtain ⟨q5, T⟩ := T
      obtain ⟨q6, T⟩ := T
      refine v_aald (pc' := 72) 5 dX9_safeWithin_71 rfl rfl (by decide) q5 q6 ?_
      refine v_aload_n (pc' := 73) dX9_safeWithin_72 rfl rfl ?_
      obtain ⟨q9, T⟩ := T
      obtain ⟨h7, k8, T⟩ := T
      refine v_callV (pc' := 76) (M1 := mX5_copyFrom) (as := [.ref r3]) (r := (rH h (rH h r0 3) (x2 + 1).toNatClampNeg)) (rest := []) 5 dX9_safeWithin_73 rfl ko_X9_326 kc_X5_copyFrom ki_X5_copyFrom ks_X5_copyFrom (by decide) (by decide) hdd rfl rfl (le_l rfl) q9 k8 ?_
      refine v_aload_n (pc' := 77) dX9_safeWithin_76 rfl rfl ?_
      obtain ⟨q10, T⟩ := T
      refine v_getR (pc' := 80) 9 4 dX9_safeWithin_77 rfl (by decide) (by decide) rfl kf_X9_36 q10 ?_
      refine v_aload_n (pc' := 81) dX9_safeWithin_80 rfl rfl ?_
      refine v_getR (pc' := 84) 9 3 dX9_safeWithin_81 rfl (by decide) (by decide) rfl kf_X9_29 q10 ?_
      refine v_iload_n (pc' := 85) dX9_safeWithin_84 rfl rfl ?_
      refine v_iconst (pc' := 86) (v := 1) dX9_safeWithin_85 rfl kI_1 ?_
      refine v_iadd (pc' := 87) dX9_safeWithin_86 rfl ?_
      obtain ⟨q11, T⟩ := T
      obtain ⟨q12, T⟩ := T
      refine v_aald (pc' := 88) 5 dX9_safeWithin_87 rfl rfl (by decide) q11 q12 ?_
      refine v_iload (pc' := 90) dX9_safeWithin_88 rfl rfl ?_
      obtain ⟨q16, T⟩ := T
      obtain ⟨z14, h13, k15, T⟩ := T
      refine v_callV (pc' := 93) (M1 := mX2_writeBlock) (as := [.ref (rH h7 (rH h7 r0 3) (x2 + 1).toNatClampNeg), .int x5]) (r := (rH h7 r0 4)) (rest := []) 2 dX9_safeWithin_90 rfl ko_X9_338 kc_X2_writeBlock ki_X2_writeBlock ks_X2_writeBlock (by decide) (by decide) hdd rfl rfl (le_l rfl) q16 k15 ?_
      refine v_pop (pc' := 94) dX9_safeWithin_93 rfl rfl ?_
      refine v_aload_n (pc' := 95) dX9_safeWithin_94 rfl rfl ?_
      refine v_iload_n (pc' := 96) dX9_safeWithin_95 rfl rfl ?_
      refine v_iconst (pc' := 97) (v := 1) dX9_safeWithin_96 rfl kI_1 ?_
      refine v_isub (pc' := 98) dX9_safeWithin_97 rfl ?_
      refine v_iload_n (pc' := 99) dX9_safeWithin_98 rfl rfl ?_
      refine v_iconst (pc' := 100) (v := 1) dX9_safeWithin_99 rfl kI_1 ?_
      refine v_iadd (pc' := 101) dX9_safeWithin_100 rfl ?_
      obtain ⟨q20, T⟩ := T
      obtain ⟨z18, h17, k19, T⟩ := T
      refine v_callV (pc' := 104) (M1 := mX9_safeWithin) (as := [.int (x1 - 1), .int (x2 + 1)]) (r := r0) (rest := []) 9 dX9_safeWithin_101 rfl ko_X9_342 kc_X9_safeWithin ki_X9_safeWithin ks_X9_safeWithin (by decide) (by decide) hdd rfl rfl (le_l rfl) q20 k19 ?_
      refine v_if_eq (tgt := 109) (pc' := 107) dX9_safeWithin_104 (by decide) rfl ⟨fun c21 => ?_, fun c21 => ?_⟩
      · have T := T.1 c21
        refine v_iinc (pc' := 112) (loc' := [.ref r0, .int x1, .int x2, .ref r3, .int x4, .int (x5 + 1)]) dX9_safeWithin_109 rfl rfl (kX_1 _) rfl ?_
        refine v_goto (pc' := 45) dX9_safeWithin_112 (by decide) ?_
        exact T
      · have T := T.2 c21
        refine v_iconst (pc' := 108) (v := 1) dX9_safeWithin_107 rfl kI_1 ?_
        exact v_zret dX9_safeWithin_108 rfl (Or.inr rfl) T
theorem eX9_finds {G : GG} {d : Nat} {h : Hp} {o : OU} {h' : Hp} (r0 : Nat) (hd : 1 ≤ d) (T : kH h r0 = 19 ∧ kH h (rH h r0 5) = 16 ∧ ∃ z3 h2, VM G mX6_firstFound (d - 1) [.ref (rH h r0 5), .ref (rH h r0 0)] h (.inl (some (.int z3))) h2 ∧ (o = .inl (some (.int z3)) ∧ h' = h2)) : VM G mX9_finds d [.ref r0] h o h' := by
  refine V.toM rfl rfl (le_l rfl) (cat_all rfl) ?_
  show V G mX9_finds d 0 [.ref r0] [] h o h'
  have hdd : d - 1 + 1 ≤ d := by omega
  refine v_aload_n (pc' := 1) dX9_finds_0 rfl rfl ?_
  obtain ⟨q1, T⟩ := T
  refine v_getR (pc' := 4) 9 5 dX9_finds_1 rfl (by decide) (by decide) rfl kf_X9_43 q1 ?_
  refine v_aload_n (pc' := 5) dX9_finds_4 rfl rfl ?_
  refine v_getR (pc' := 8) 9 0 dX9_finds_5 rfl (by decide) (by decide) rfl kf_X9_12 q1 ?_
  obtain ⟨q5, T⟩ := T
  obtain ⟨z3, h2, k4, T⟩ := T
  refine v_callV (pc' := 11) (M1 := mX6_firstFound) (as := [.ref (rH h r0 0)]) (r := (rH h r0 5)) (rest := []) 6 dX9_finds_8 rfl ko_X9_346 kc_X6_firstFound ki_X6_firstFound ks_X6_firstFound (by decide) (by decide) hdd rfl rfl (le_l rfl) q5 k4 ?_
  exact v_iret dX9_finds_11 rfl T
theorem eX9_sweeps {G : GG} {d : Nat} {h : Hp} {o : OU} {h' : Hp} (r0 : Nat) (hd : 1 ≤ d) (T : kH h r0 = 19 ∧ kH h (rH h r0 3) = 5 ∧ vp_in 0 (lH h (rH h r0 3)) ∧ kH h (rH h (rH h r0 3) 0) = 15 ∧ ∃ h4, VM G mX5_copyFrom (d - 1) [.ref (rH h (rH h r0 3) 0), .ref (rH h r0 0)] h (.inl none) h4 ∧ kH h4 (rH h (rH h r0 3) 0) = 15 ∧ ∃ h7, VM G mX5_crash (d - 1) [.ref (rH h (rH h r0 3) 0)] h4 (.inl none) h7 ∧ V G mX9_sweeps d 23 [.ref r0, .ref (rH h (rH h r0 3) 0), .int 0, .int 0] [] h7 o h') : VM G mX9_sweeps d [.ref r0] h o h' := by
  refine V.toM rfl rfl (le_l rfl) (cat_all rfl) ?_
  show V G mX9_sweeps d 0 [.ref r0, uV, uV, uV] [] h o h'
  have hdd : d - 1 + 1 ≤ d := by omega
  refine v_aload_n (pc' := 1) dX9_sweeps_0 rfl rfl ?_
  obtain ⟨q1, T⟩ := T
  refine v_getR (pc' := 4) 9 3 dX9_sweeps_1 rfl (by decide) (by decide) rfl kf_X9_29 q1 ?_
  refine v_iconst (pc' := 5) (v := 0) dX9_sweeps_4 rfl kI_0 ?_
  obtain ⟨q2, T⟩ := T
  obtain ⟨q3, T⟩ := T
  refine v_aald (pc' := 6) 5 dX9_sweeps_5 rfl kN_0 (by decide) q2 q3 ?_
  refine v_astore_n (pc' := 7) (loc' := [.ref r0, .ref (rH h (rH h r0 3) 0), uV, uV]) dX9_sweeps_6 rfl (lt_l rfl) rfl ?_
  refine v_aload_n (pc' := 8) dX9_sweeps_7 rfl rfl ?_
  refine v_aload_n (pc' := 9) dX9_sweeps_8 rfl rfl ?_
  refine v_getR (pc' := 12) 9 0 dX9_sweeps_9 rfl (by decide) (by decide) rfl kf_X9_12 q1 ?_
  obtain ⟨q6, T⟩ := T
  obtain ⟨h4, k5, T⟩ := T
  refine v_callV (pc' := 15) (M1 := mX5_copyFrom) (as := [.ref (rH h r0 0)]) (r := (rH h (rH h r0 3) 0)) (rest := []) 5 dX9_sweeps_12 rfl ko_X9_326 kc_X5_copyFrom ki_X5_copyFrom ks_X5_copyFrom (by decide) (by decide) hdd rfl rfl (le_l rfl) q6 k5 ?_
  refine v_aload_n (pc' := 16) dX9_sweeps_15 rfl rfl ?_
  obtain ⟨q9, T⟩ := T
  obtain ⟨h7, k8, T⟩ := T
  refine v_callV (pc' := 19) (M1 := mX5_crash) (as := []) (r := (rH h (rH h r0 3) 0)) (rest := []) 5 dX9_sweeps_16 rfl ko_X9_349 kc_X5_crash ki_X5_crash ks_X5_crash (by decide) (by decide) hdd rfl rfl (le_l rfl) q9 k8 ?_
  refine v_iconst (pc' := 20) (v := 0) dX9_sweeps_19 rfl kI_0 ?_
  refine v_istore_n (pc' := 21) (loc' := [.ref r0, .ref (rH h (rH h r0 3) 0), .int 0, uV]) dX9_sweeps_20 rfl (lt_l rfl) rfl ?_
  refine v_iconst (pc' := 22) (v := 0) dX9_sweeps_21 rfl kI_0 ?_
  refine v_istore_n (pc' := 23) (loc' := [.ref r0, .ref (rH h (rH h r0 3) 0), .int 0, .int 0]) dX9_sweeps_22 rfl (lt_l rfl) rfl ?_
  exact T
theorem bX9_sweeps_23 {G : GG} {d : Nat} {h : Hp} {o : OU} {h' : Hp} (r0 : Nat) (r1 : Nat) (x2 : Int32) (x3 : Int32) (hd : 1 ≤ d) (T : ((10000 ≤ x3 → (o = .inl (some (.int x2)) ∧ h' = h)) ∧ (¬ 10000 ≤ x3 → kH h r0 = 19 ∧ kH h (rH h r0 5) = 16 ∧ ∃ z4 h3, VM G mX6_take (d - 1) [.ref (rH h r0 5), .ref r1, .int 7, .int 0, .int 0, .int 0] h (.inl (some (.int z4))) h3 ∧ ((¬ z4 = 0 → kH h3 r0 = 19 ∧ kH h3 (rH h3 r0 4) = 12 ∧ ∃ z10 h9, VM G mX2_settleAll (d - 1) [.ref (rH h3 r0 4), .ref r1] h3 (.inl (some (.int z10))) h9 ∧ V G mX9_sweeps d 23 [.ref r0, .ref r1, .int (x2 + 1), .int (x3 + 1)] [] h9 o h') ∧ (z4 = 0 → (o = .inl (some (.int x2)) ∧ h' = h3)))))) : V G mX9_sweeps d 23 [.ref r0, .ref r1, .int x2, .int x3] [] h o h' := by
  have hdd : d - 1 + 1 ≤ d := by omega
  refine v_iload_n (pc' := 24) dX9_sweeps_23 rfl rfl ?_
  refine v_sipush (pc' := 27) (v := 10000) dX9_sweeps_24 rfl kS_10000 ?_
  refine v_icmp_ge (tgt := 66) (pc' := 30) dX9_sweeps_27 (by decide) rfl ⟨fun c1 => ?_, fun c1 => ?_⟩
  · have T := T.1 c1
    refine v_iload_n (pc' := 67) dX9_sweeps_66 rfl rfl ?_
    exact v_iret dX9_sweeps_67 rfl T
  · have T := T.2 c1
    refine v_aload_n (pc' := 31) dX9_sweeps_30 rfl rfl ?_
    obtain ⟨q2, T⟩ := T
    refine v_getR (pc' := 34) 9 5 dX9_sweeps_31 rfl (by decide) (by decide) rfl kf_X9_43 q2 ?_
    refine v_aload_n (pc' := 35) dX9_sweeps_34 rfl rfl ?_
    refine v_bipush (pc' := 37) (v := 7) dX9_sweeps_35 rfl kB_7 ?_
    refine v_iconst (pc' := 38) (v := 0) dX9_sweeps_37 rfl kI_0 ?_
    refine v_iconst (pc' := 39) (v := 0) dX9_sweeps_38 rfl kI_0 ?_
    refine v_iconst (pc' := 40) (v := 0) dX9_sweeps_39 rfl kI_0 ?_
    obtain ⟨q6, T⟩ := T
    obtain ⟨z4, h3, k5, T⟩ := T
    refine v_callV (pc' := 43) (M1 := mX6_take) (as := [.ref r1, .int 7, .int 0, .int 0, .int 0]) (r := (rH h r0 5)) (rest := []) 6 dX9_sweeps_40 rfl ko_X9_135 kc_X6_take ki_X6_take ks_X6_take (by decide) (by decide) hdd rfl rfl (le_l rfl) q6 k5 ?_
    refine v_if_ne (tgt := 48) (pc' := 46) dX9_sweeps_43 (by decide) rfl ⟨fun c7 => ?_, fun c7 => ?_⟩
    · have T := T.1 c7
      refine v_iinc (pc' := 51) (loc' := [.ref r0, .ref r1, .int (x2 + 1), .int x3]) dX9_sweeps_48 rfl rfl (kX_1 _) rfl ?_
      refine v_aload_n (pc' := 52) dX9_sweeps_51 rfl rfl ?_
      obtain ⟨q8, T⟩ := T
      refine v_getR (pc' := 55) 9 4 dX9_sweeps_52 rfl (by decide) (by decide) rfl kf_X9_36 q8 ?_
      refine v_aload_n (pc' := 56) dX9_sweeps_55 rfl rfl ?_
      obtain ⟨q12, T⟩ := T
      obtain ⟨z10, h9, k11, T⟩ := T
      refine v_callV (pc' := 59) (M1 := mX2_settleAll) (as := [.ref r1]) (r := (rH h3 r0 4)) (rest := []) 2 dX9_sweeps_56 rfl ko_X9_329 kc_X2_settleAll ki_X2_settleAll ks_X2_settleAll (by decide) (by decide) hdd rfl rfl (le_l rfl) q12 k11 ?_
      refine v_pop (pc' := 60) dX9_sweeps_59 rfl rfl ?_
      refine v_iinc (pc' := 63) (loc' := [.ref r0, .ref r1, .int (x2 + 1), .int (x3 + 1)]) dX9_sweeps_60 rfl rfl (kX_1 _) rfl ?_
      refine v_goto (pc' := 23) dX9_sweeps_63 (by decide) ?_
      exact T
    · have T := T.2 c7
      refine v_iload_n (pc' := 47) dX9_sweeps_46 rfl rfl ?_
      exact v_iret dX9_sweeps_47 rfl T
theorem eX9_fits {G : GG} {d : Nat} {h : Hp} {o : OU} {h' : Hp} (r0 : Nat) (hd : 1 ≤ d) (T : kH h r0 = 19 ∧ ∃ z2 h1, VM G mX9_fittingBlocks (d - 1) [.ref r0] h (.inl (some (.int z2))) h1 ∧ (o = .inl (some (.int z2)) ∧ h' = h1)) : VM G mX9_fits d [.ref r0] h o h' := by
  refine V.toM rfl rfl (le_l rfl) (cat_all rfl) ?_
  show V G mX9_fits d 0 [.ref r0] [] h o h'
  have hdd : d - 1 + 1 ≤ d := by omega
  refine v_aload_n (pc' := 1) dX9_fits_0 rfl rfl ?_
  obtain ⟨q4, T⟩ := T
  obtain ⟨z2, h1, k3, T⟩ := T
  refine v_callV (pc' := 4) (M1 := mX9_fittingBlocks) (as := []) (r := r0) (rest := []) 9 dX9_fits_1 rfl ko_X9_352 kc_X9_fittingBlocks ki_X9_fittingBlocks ks_X9_fittingBlocks (by decide) (by decide) hdd rfl rfl (le_l rfl) q4 k3 ?_
  exact v_iret dX9_fits_4 rfl T
theorem eX9_fittingBlocks {G : GG} {d : Nat} {h : Hp} {o : OU} {h' : Hp} (r0 : Nat) (hd : 1 ≤ d) (T : kH h r0 = 19 ∧ kH h (rH h r0 0) = 15 ∧ ∃ z3 h2, VM G mX5_dirtyBlocks (d - 1) [.ref (rH h r0 0)] h (.inl (some (.int z3))) h2 ∧ V G mX9_fittingBlocks d 12 [.ref r0, .int z3, .int 0, .int 0] [] h2 o h') : VM G mX9_fittingBlocks d [.ref r0] h o h' := by
  refine V.toM rfl rfl (le_l rfl) (cat_all rfl) ?_
  show V G mX9_fittingBlocks d 0 [.ref r0, uV, uV, uV] [] h o h'
  have hdd : d - 1 + 1 ≤ d := by omega
  refine v_aload_n (pc' := 1) dX9_fittingBlocks_0 rfl rfl ?_
  obtain ⟨q1, T⟩ := T
  refine v_getR (pc' := 4) 9 0 dX9_fittingBlocks_1 rfl (by decide) (by decide) rfl kf_X9_12 q1 ?_
  obtain ⟨q5, T⟩ := T
  obtain ⟨z3, h2, k4, T⟩ := T
  refine v_callV (pc' := 7) (M1 := mX5_dirtyBlocks) (as := []) (r := (rH h r0 0)) (rest := []) 5 dX9_fittingBlocks_4 rfl ko_X9_204 kc_X5_dirtyBlocks ki_X5_dirtyBlocks ks_X5_dirtyBlocks (by decide) (by decide) hdd rfl rfl (le_l rfl) q5 k4 ?_
  refine v_istore_n (pc' := 8) (loc' := [.ref r0, .int z3, uV, uV]) dX9_fittingBlocks_7 rfl (lt_l rfl) rfl ?_
  refine v_iconst (pc' := 9) (v := 0) dX9_fittingBlocks_8 rfl kI_0 ?_
  refine v_istore_n (pc' := 10) (loc' := [.ref r0, .int z3, .int 0, uV]) dX9_fittingBlocks_9 rfl (lt_l rfl) rfl ?_
  refine v_iconst (pc' := 11) (v := 0) dX9_fittingBlocks_10 rfl kI_0 ?_
  refine v_istore_n (pc' := 12) (loc' := [.ref r0, .int z3, .int 0, .int 0]) dX9_fittingBlocks_11 rfl (lt_l rfl) rfl ?_
  exact T
theorem bX9_fittingBlocks_12 {G : GG} {d : Nat} {h : Hp} {o : OU} {h' : Hp} (r0 : Nat) (x1 : Int32) (x2 : Int32) (x3 : Int32) (hd : 1 ≤ d) (T : kH h r0 = 19 ∧ kH h (rH h r0 0) = 15 ∧ (((h.2 (rH h r0 0) 0) ≤ x3 → (o = .inl (some (.int x2)) ∧ h' = h)) ∧ (¬ (h.2 (rH h r0 0) 0) ≤ x3 → ((((x1 >>> (x3 &&& 31)) &&& 1) = 0 → V G mX9_fittingBlocks d 12 [.ref r0, .int x1, .int x2, .int (x3 + 1)] [] h o h') ∧ (¬ ((x1 >>> (x3 &&& 31)) &&& 1) = 0 → kH h (rH h r0 4) = 12 ∧ ∃ h5, VM G mX2_draft (d - 1) [.ref (rH h r0 4), .ref (rH h r0 0), .int x3] h (.inl none) h5 ∧ kH h5 r0 = 19 ∧ kH h5 (rH h5 r0 4) = 12 ∧ kH h5 (rH h5 (rH h5 r0 4) 2) = 2 ∧ kH h5 (rH h5 r0 9) = 2 ∧ ¬ (x3 * 16) < 0 ∧ 0 + 16 ≤ lH h5 (rH h5 (rH h5 r0 4) 2) ∧ (x3 * 16).toNatClampNeg + 16 ≤ lH h5 (rH h5 r0 9) ∧ ∃ z16 h15, VM G mX9_fitsBook (d - 1) [.ref r0, .int x3] (h5.1, (cpI h5.2 (rH h5 (rH h5 r0 4) 2) (rH h5 r0 9) 0 (x3 * 16).toNatClampNeg 16)) (.inl (some (.int z16))) h15 ∧ ((z16 = 0 → V G mX9_fittingBlocks d 12 [.ref r0, .int x1, .int x2, .int (x3 + 1)] [] h15 o h') ∧ (¬ z16 = 0 → V G mX9_fittingBlocks d 12 [.ref r0, .int x1, .int (x2 ||| (1 <<< (x3 &&& 31))), .int (x3 + 1)] [] h15 o h'))))))) : V G mX9_fittingBlocks d 12 [.ref r0, .int x1, .int x2, .int x3] [] h o h' := by
  have hdd : d - 1 + 1 ≤ d := by omega
  refine v_iload_n (pc' := 13) dX9_fittingBlocks_12 rfl rfl ?_
  refine v_aload_n (pc' := 14) dX9_fittingBlocks_13 rfl rfl ?_
  obtain ⟨q1, T⟩ := T
  refine v_getR (pc' := 17) 9 0 dX9_fittingBlocks_14 rfl (by decide) (by decide) rfl kf_X9_12 q1 ?_
  obtain ⟨q2, T⟩ := T
  refine v_getI (pc' := 20) 5 0 dX9_fittingBlocks_17 rfl (by decide) (by decide) rfl kf_X9_113 q2 ?_
  refine v_icmp_ge (tgt := 84) (pc' := 23) dX9_fittingBlocks_20 (by decide) rfl ⟨fun c3 => ?_, fun c3 => ?_⟩
  · have T := T.1 c3
    refine v_iload_n (pc' := 85) dX9_fittingBlocks_84 rfl rfl ?_
    exact v_iret dX9_fittingBlocks_85 rfl T
  · have T := T.2 c3
    refine v_iload_n (pc' := 24) dX9_fittingBlocks_23 rfl rfl ?_
    refine v_iload_n (pc' := 25) dX9_fittingBlocks_24 rfl rfl ?_
    refine v_ishr (pc' := 26) dX9_fittingBlocks_25 rfl ?_
    refine v_iconst (pc' := 27) (v := 1) dX9_fittingBlocks_26 rfl kI_1 ?_
    refine v_iand (pc' := 28) dX9_fittingBlocks_27 rfl ?_
    refine v_if_eq (tgt := 78) (pc' := 31) dX9_fittingBlocks_28 (by decide) rfl ⟨fun c4 => ?_, fun c4 => ?_⟩
    · have T := T.1 c4
      refine v_iinc (pc' := 81) (loc' := [.ref r0, .int x1, .int x2, .int (x3 + 1)]) dX9_fittingBlocks_78 rfl rfl (kX_1 _) rfl ?_
      refine v_goto (pc' := 12) dX9_fittingBlocks_81 (by decide) ?_
      exact T
    · have T := T.2 c4
      refine v_aload_n (pc' := 32) dX9_fittingBlocks_31 rfl rfl ?_
      refine v_getR (pc' := 35) 9 4 dX9_fittingBlocks_32 rfl (by decide) (by decide) rfl kf_X9_36 q1 ?_
      refine v_aload_n (pc' := 36) dX9_fittingBlocks_35 rfl rfl ?_
      refine v_getR (pc' := 39) 9 0 dX9_fittingBlocks_36 rfl (by decide) (by decide) rfl kf_X9_12 q1 ?_
      refine v_iload_n (pc' := 40) dX9_fittingBlocks_39 rfl rfl ?_
      obtain ⟨q7, T⟩ := T
      obtain ⟨h5, k6, T⟩ := T
      refine v_callV (pc' := 43) (M1 := mX2_draft) (as := [.ref (rH h r0 0), .int x3]) (r := (rH h r0 4)) (rest := []) 2 dX9_fittingBlocks_40 rfl ko_X9_317 kc_X2_draft ki_X2_draft ks_X2_draft (by decide) (by decide) hdd rfl rfl (le_l rfl) q7 k6 ?_
      refine v_aload_n (pc' := 44) dX9_fittingBlocks_43 rfl rfl ?_
      obtain ⟨q8, T⟩ := T
      refine v_getR (pc' := 47) 9 4 dX9_fittingBlocks_44 rfl (by decide) (by decide) rfl kf_X9_36 q8 ?_
      obtain ⟨q9, T⟩ := T
      refine v_getR (pc' := 50) 2 2 dX9_fittingBlocks_47 rfl (by decide) (by decide) rfl kf_X9_320 q9 ?_
      refine v_iconst (pc' := 51) (v := 0) dX9_fittingBlocks_50 rfl kI_0 ?_
      refine v_aload_n (pc' := 52) dX9_fittingBlocks_51 rfl rfl ?_
      refine v_getR (pc' := 55) 9 9 dX9_fittingBlocks_52 rfl (by decide) (by decide) rfl kf_X9_62 q8 ?_
      refine v_iload_n (pc' := 56) dX9_fittingBlocks_55 rfl rfl ?_
      refine v_bipush (pc' := 58) (v := 16) dX9_fittingBlocks_56 rfl kB_16 ?_
      refine v_imul (pc' := 59) dX9_fittingBlocks_58 rfl ?_
      refine v_bipush (pc' := 61) (v := 16) dX9_fittingBlocks_59 rfl kB_16 ?_
      obtain ⟨q10, T⟩ := T
      obtain ⟨q11, T⟩ := T
      obtain ⟨q12, T⟩ := T
      obtain ⟨q13, T⟩ := T
      obtain ⟨q14, T⟩ := T
      refine v_copy (pc' := 64) 2 dX9_fittingBlocks_61 rfl km_X9_173 kx_acn kx_acs kx_aci hd (le_l rfl) (by decide) q10 q11 kN_0 rfl kN_16 (by decide) q12 (by decide) q13 q14 ?_
      refine v_aload_n (pc' := 65) dX9_fittingBlocks_64 rfl rfl ?_
      refine v_iload_n (pc' := 66) dX9_fittingBlocks_65 rfl rfl ?_
      obtain ⟨z16, h15, k17, T⟩ := T
      refine v_callV (pc' := 69) (M1 := mX9_fitsBook) (as := [.int x3]) (r := r0) (rest := []) 9 dX9_fittingBlocks_66 rfl ko_X9_355 kc_X9_fitsBook ki_X9_fitsBook ks_X9_fitsBook (by decide) (by decide) hdd rfl rfl (le_l rfl) q8 k17 ?_
      refine v_if_eq (tgt := 78) (pc' := 72) dX9_fittingBlocks_69 (by decide) rfl ⟨fun c18 => ?_, fun c18 => ?_⟩
      · have T := T.1 c18
        refine v_iinc (pc' := 81) (loc' := [.ref r0, .int x1, .int x2, .int (x3 + 1)]) dX9_fittingBlocks_78 rfl rfl (kX_1 _) rfl ?_
        refine v_goto (pc' := 12) dX9_fittingBlocks_81 (by decide) ?_
        exact T
      · have T := T.2 c18
        refine v_iload_n (pc' := 73) dX9_fittingBlocks_72 rfl rfl ?_
        refine v_iconst (pc' := 74) (v := 1) dX9_fittingBlocks_73 rfl kI_1 ?_
        refine v_iload_n (pc' := 75) dX9_fittingBlocks_74 rfl rfl ?_
        refine v_ishl (pc' := 76) dX9_fittingBlocks_75 rfl ?_
        refine v_ior (pc' := 77) dX9_fittingBlocks_76 rfl ?_
        refine v_istore_n (pc' := 78) (loc' := [.ref r0, .int x1, .int (x2 ||| (1 <<< (x3 &&& 31))), .int x3]) dX9_fittingBlocks_77 rfl (lt_l rfl) rfl ?_
        refine v_iinc (pc' := 81) (loc' := [.ref r0, .int x1, .int (x2 ||| (1 <<< (x3 &&& 31))), .int (x3 + 1)]) dX9_fittingBlocks_78 rfl rfl (kX_1 _) rfl ?_
        refine v_goto (pc' := 12) dX9_fittingBlocks_81 (by decide) ?_
        exact T
theorem eX9_fitsBook {G : GG} {d : Nat} {h : Hp} {o : OU} {h' : Hp} (r0 : Nat) (x1 : Int32) (T : V G mX9_fitsBook d 2 [.ref r0, .int x1, .int 0] [] h o h') : VM G mX9_fitsBook d [.ref r0, .int x1] h o h' := by
  refine V.toM rfl rfl (le_l rfl) (cat_all rfl) ?_
  show V G mX9_fitsBook d 0 [.ref r0, .int x1, uV] [] h o h'
  refine v_iconst (pc' := 1) (v := 0) dX9_fitsBook_0 rfl kI_0 ?_
  refine v_istore_n (pc' := 2) (loc' := [.ref r0, .int x1, .int 0]) dX9_fitsBook_1 rfl (lt_l rfl) rfl ?_
  exact T
theorem bX9_fitsBook_2 {G : GG} {d : Nat} {h : Hp} {o : OU} {h' : Hp} (r0 : Nat) (x1 : Int32) (x2 : Int32) (T : ((16 ≤ x2 → (o = .inl (some (.int 1)) ∧ h' = h)) ∧ (¬ 16 ≤ x2 → kH h r0 = 19 ∧ kH h (rH h r0 8) = 1 ∧ vp_in x2 (lH h (rH h r0 8)) ∧ (((h.2 (rH h r0 8) x2.toNatClampNeg) = (-1) → V G mX9_fitsBook d 2 [.ref r0, .int x1, .int (x2 + 1)] [] h o h') ∧ (¬ (h.2 (rH h r0 8) x2.toNatClampNeg) = (-1) → kH h (rH h r0 9) = 2 ∧ vp_in ((x1 * 16) + x2) (lH h (rH h r0 9)) ∧ (((h.2 (rH h r0 8) x2.toNatClampNeg) = (h.2 (rH h r0 9) ((x1 * 16) + x2).toNatClampNeg) → V G mX9_fitsBook d 2 [.ref r0, .int x1, .int (x2 + 1)] [] h o h') ∧ (¬ (h.2 (rH h r0 8) x2.toNatClampNeg) = (h.2 (rH h r0 9) ((x1 * 16) + x2).toNatClampNeg) → (o = .inl (some (.int 0)) ∧ h' = h)))))))) : V G mX9_fitsBook d 2 [.ref r0, .int x1, .int x2] [] h o h' := by
  refine v_iload_n (pc' := 3) dX9_fitsBook_2 rfl rfl ?_
  refine v_bipush (pc' := 5) (v := 16) dX9_fitsBook_3 rfl kB_16 ?_
  refine v_icmp_ge (tgt := 46) (pc' := 8) dX9_fitsBook_5 (by decide) rfl ⟨fun c1 => ?_, fun c1 => ?_⟩
  · have T := T.1 c1
    refine v_iconst (pc' := 47) (v := 1) dX9_fitsBook_46 rfl kI_1 ?_
    exact v_zret dX9_fitsBook_47 rfl (Or.inr rfl) T
  · have T := T.2 c1
    refine v_aload_n (pc' := 9) dX9_fitsBook_8 rfl rfl ?_
    obtain ⟨q2, T⟩ := T
    refine v_getR (pc' := 12) 9 8 dX9_fitsBook_9 rfl (by decide) (by decide) rfl kf_X9_58 q2 ?_
    refine v_iload_n (pc' := 13) dX9_fitsBook_12 rfl rfl ?_
    obtain ⟨q3, T⟩ := T
    obtain ⟨q4, T⟩ := T
    refine v_iald (pc' := 14) dX9_fitsBook_13 rfl rfl q3 q4 ?_
    refine v_iconst (pc' := 15) (v := (-1)) dX9_fitsBook_14 rfl kI_m1 ?_
    refine v_icmp_eq (tgt := 40) (pc' := 18) dX9_fitsBook_15 (by decide) rfl ⟨fun c5 => ?_, fun c5 => ?_⟩
    · have T := T.1 c5
      refine v_iinc (pc' := 43) (loc' := [.ref r0, .int x1, .int (x2 + 1)]) dX9_fitsBook_40 rfl rfl (kX_1 _) rfl ?_
      refine v_goto (pc' := 2) dX9_fitsBook_43 (by decide) ?_
      exact T
    · have T := T.2 c5
      refine v_aload_n (pc' := 19) dX9_fitsBook_18 rfl rfl ?_
      refine v_getR (pc' := 22) 9 8 dX9_fitsBook_19 rfl (by decide) (by decide) rfl kf_X9_58 q2 ?_
      refine v_iload_n (pc' := 23) dX9_fitsBook_22 rfl rfl ?_
      refine v_iald (pc' := 24) dX9_fitsBook_23 rfl rfl q3 q4 ?_
      refine v_aload_n (pc' := 25) dX9_fitsBook_24 rfl rfl ?_
      refine v_getR (pc' := 28) 9 9 dX9_fitsBook_25 rfl (by decide) (by decide) rfl kf_X9_62 q2 ?_
      refine v_iload_n (pc' := 29) dX9_fitsBook_28 rfl rfl ?_
      refine v_bipush (pc' := 31) (v := 16) dX9_fitsBook_29 rfl kB_16 ?_
      refine v_imul (pc' := 32) dX9_fitsBook_31 rfl ?_
      refine v_iload_n (pc' := 33) dX9_fitsBook_32 rfl rfl ?_
      refine v_iadd (pc' := 34) dX9_fitsBook_33 rfl ?_
      obtain ⟨q6, T⟩ := T
      obtain ⟨q7, T⟩ := T
      refine v_bald (pc' := 35) dX9_fitsBook_34 rfl rfl q6 q7 ?_
      refine v_icmp_eq (tgt := 40) (pc' := 38) dX9_fitsBook_35 (by decide) rfl ⟨fun c8 => ?_, fun c8 => ?_⟩
      · have T := T.1 c8
        refine v_iinc (pc' := 43) (loc' := [.ref r0, .int x1, .int (x2 + 1)]) dX9_fitsBook_40 rfl rfl (kX_1 _) rfl ?_
        refine v_goto (pc' := 2) dX9_fitsBook_43 (by decide) ?_
        exact T
      · have T := T.2 c8
        refine v_iconst (pc' := 39) (v := 0) dX9_fitsBook_38 rfl kI_0 ?_
        exact v_zret dX9_fitsBook_39 rfl (Or.inl rfl) T
theorem eX9_look {G : GG} {d : Nat} {h : Hp} {o : OU} {h' : Hp} (r0 : Nat) (x1 : Int32) (hd : 1 ≤ d) (T : kH h r0 = 19 ∧ ((∃ h1, VM G mX9_testWhat (d - 1) [.ref r0, .int x1, .int 1] h (.inl none) h1 ∧ kH h1 r0 = 19 ∧ ∃ z5 h4, VM G mX9_fittingBlocks (d - 1) [.ref r0] h1 (.inl (some (.int z5))) h4 ∧ V G mX9_look d 19 [.ref r0, .int x1, .int z5, .int (-1), .int (-1), .int 0, uV] [] h4 o h') ∨ ∃ E, o = .inr E ∧ VM G mX9_testWhat (d - 1) [.ref r0, .int x1, .int 1] h (.inr E) h')) : VM G mX9_look d [.ref r0, .int x1] h o h' := by
  refine V.toM rfl rfl (le_l rfl) (cat_all rfl) ?_
  show V G mX9_look d 0 [.ref r0, .int x1, uV, uV, uV, uV, uV] [] h o h'
  have hdd : d - 1 + 1 ≤ d := by omega
  refine v_aload_n (pc' := 1) dX9_look_0 rfl rfl ?_
  refine v_iload_n (pc' := 2) dX9_look_1 rfl rfl ?_
  refine v_iconst (pc' := 3) (v := 1) dX9_look_2 rfl kI_1 ?_
  obtain ⟨q3, T⟩ := T
  rcases T with T | ⟨E, rfl, k2⟩
  · obtain ⟨h1, k2, T⟩ := T
    refine v_callV (pc' := 6) (M1 := mX9_testWhat) (as := [.int x1, .int 1]) (r := r0) (rest := []) 9 dX9_look_3 rfl ko_X9_195 kc_X9_testWhat ki_X9_testWhat ks_X9_testWhat (by decide) (by decide) hdd rfl rfl (le_l rfl) q3 k2 ?_
    refine v_aload_n (pc' := 7) dX9_look_6 rfl rfl ?_
    obtain ⟨q7, T⟩ := T
    obtain ⟨z5, h4, k6, T⟩ := T
    refine v_callV (pc' := 10) (M1 := mX9_fittingBlocks) (as := []) (r := r0) (rest := []) 9 dX9_look_7 rfl ko_X9_352 kc_X9_fittingBlocks ki_X9_fittingBlocks ks_X9_fittingBlocks (by decide) (by decide) hdd rfl rfl (le_l rfl) q7 k6 ?_
    refine v_istore_n (pc' := 11) (loc' := [.ref r0, .int x1, .int z5, uV, uV, uV, uV]) dX9_look_10 rfl (lt_l rfl) rfl ?_
    refine v_iconst (pc' := 12) (v := (-1)) dX9_look_11 rfl kI_m1 ?_
    refine v_istore_n (pc' := 13) (loc' := [.ref r0, .int x1, .int z5, .int (-1), uV, uV, uV]) dX9_look_12 rfl (lt_l rfl) rfl ?_
    refine v_iconst (pc' := 14) (v := (-1)) dX9_look_13 rfl kI_m1 ?_
    refine v_istore (pc' := 16) (loc' := [.ref r0, .int x1, .int z5, .int (-1), .int (-1), uV, uV]) dX9_look_14 rfl (lt_l rfl) rfl ?_
    refine v_iconst (pc' := 17) (v := 0) dX9_look_16 rfl kI_0 ?_
    refine v_istore (pc' := 19) (loc' := [.ref r0, .int x1, .int z5, .int (-1), .int (-1), .int 0, uV]) dX9_look_17 rfl (lt_l rfl) rfl ?_
    exact T
  · exact v_callVx (M1 := mX9_testWhat) (as := [.int x1, .int 1]) (r := r0) (rest := []) 9 dX9_look_3 rfl ko_X9_195 kc_X9_testWhat ki_X9_testWhat ks_X9_testWhat (by decide) (by decide) hdd rfl rfl (le_l rfl) q3 k2
theorem bX9_look_19 {G : GG} {d : Nat} {h : Hp} {o : OU} {h' : Hp} (r0 : Nat) (x1 : Int32) (x2 : Int32) (x3 : Int32) (x4 : Int32) (x5 : Int32) (hd : 1 ≤ d) (T : ((16 ≤ x5 → ((¬ x1 = 0 → (o = .inl (some (.int x4)) ∧ h' = h)) ∧ (x1 = 0 → (o = .inl (some (.int x3)) ∧ h' = h)))) ∧ (¬ 16 ≤ x5 → kH h r0 = 19 ∧ kH h (rH h r0 8) = 1 ∧ vp_in x5 (lH h (rH h r0 8)) ∧ ((¬ (h.2 (rH h r0 8) x5.toNatClampNeg) = (-1) → V G mX9_look d 19 [.ref r0, .int x1, .int x2, .int x3, .int x4, .int (x5 + 1), uV] [] h o h') ∧ ((h.2 (rH h r0 8) x5.toNatClampNeg) = (-1) → ∃ z8 h7, VM G mX9_mostAlike (d - 1) [.ref r0, .int x2, .int x5] h (.inl (some (.int z8))) h7 ∧ ((x3 = (-1) → V G mX9_look d 19 [.ref r0, .int x1, .int x2, .int x5, .int z8, .int (x5 + 1), uV] [] h7 o h') ∧ (¬ x3 = (-1) → ((x4 ≤ z8 → V G mX9_look d 19 [.ref r0, .int x1, .int x2, .int x3, .int x4, .int (x5 + 1), uV] [] h7 o h') ∧ (¬ x4 ≤ z8 → V G mX9_look d 19 [.ref r0, .int x1, .int x2, .int x5, .int z8, .int (x5 + 1), uV] [] h7 o h'))))))))) : V G mX9_look d 19 [.ref r0, .int x1, .int x2, .int x3, .int x4, .int x5, uV] [] h o h' := by
  have hdd : d - 1 + 1 ≤ d := by omega
  refine v_iload (pc' := 21) dX9_look_19 rfl rfl ?_
  refine v_bipush (pc' := 23) (v := 16) dX9_look_21 rfl kB_16 ?_
  refine v_icmp_ge (tgt := 71) (pc' := 26) dX9_look_23 (by decide) rfl ⟨fun c1 => ?_, fun c1 => ?_⟩
  · have T := T.1 c1
    refine v_iload_n (pc' := 72) dX9_look_71 rfl rfl ?_
    refine v_if_ne (tgt := 79) (pc' := 75) dX9_look_72 (by decide) rfl ⟨fun c2 => ?_, fun c2 => ?_⟩
    · have T := T.1 c2
      refine v_iload (pc' := 81) dX9_look_79 rfl rfl ?_
      exact v_iret dX9_look_81 rfl T
    · have T := T.2 c2
      refine v_iload_n (pc' := 76) dX9_look_75 rfl rfl ?_
      refine v_goto (pc' := 81) dX9_look_76 (by decide) ?_
      exact v_iret dX9_look_81 rfl T
  · have T := T.2 c1
    refine v_aload_n (pc' := 27) dX9_look_26 rfl rfl ?_
    obtain ⟨q3, T⟩ := T
    refine v_getR (pc' := 30) 9 8 dX9_look_27 rfl (by decide) (by decide) rfl kf_X9_58 q3 ?_
    refine v_iload (pc' := 32) dX9_look_30 rfl rfl ?_
    obtain ⟨q4, T⟩ := T
    obtain ⟨q5, T⟩ := T
    refine v_iald (pc' := 33) dX9_look_32 rfl rfl q4 q5 ?_
    refine v_iconst (pc' := 34) (v := (-1)) dX9_look_33 rfl kI_m1 ?_
    refine v_icmp_ne (tgt := 65) (pc' := 37) dX9_look_34 (by decide) rfl ⟨fun c6 => ?_, fun c6 => ?_⟩
    · have T := T.1 c6
      refine v_iinc (pc' := 68) (loc' := [.ref r0, .int x1, .int x2, .int x3, .int x4, .int (x5 + 1), uV]) dX9_look_65 rfl rfl (kX_1 _) rfl ?_
      refine v_goto (pc' := 19) dX9_look_68 (by decide) ?_
      exact T
    · have T := T.2 c6
      refine v_aload_n (pc' := 38) dX9_look_37 rfl rfl ?_
      refine v_iload_n (pc' := 39) dX9_look_38 rfl rfl ?_
      refine v_iload (pc' := 41) dX9_look_39 rfl rfl ?_
      obtain ⟨z8, h7, k9, T⟩ := T
      refine v_callV (pc' := 44) (M1 := mX9_mostAlike) (as := [.int x2, .int x5]) (r := r0) (rest := []) 9 dX9_look_41 rfl ko_X9_359 kc_X9_mostAlike ki_X9_mostAlike ks_X9_mostAlike (by decide) (by decide) hdd rfl rfl (le_l rfl) q3 k9 ?_
      refine v_istore (pc' := 46) (loc' := [.ref r0, .int x1, .int x2, .int x3, .int x4, .int x5, .int z8]) dX9_look_44 rfl (lt_l rfl) rfl ?_
      refine v_iload_n (pc' := 47) dX9_look_46 rfl rfl ?_
      refine v_iconst (pc' := 48) (v := (-1)) dX9_look_47 rfl kI_m1 ?_
      refine v_icmp_eq (tgt := 58) (pc' := 51) dX9_look_48 (by decide) rfl ⟨fun c10 => ?_, fun c10 => ?_⟩
      · have T := T.1 c10
        refine v_iload (pc' := 60) dX9_look_58 rfl rfl ?_
        refine v_istore_n (pc' := 61) (loc' := [.ref r0, .int x1, .int x2, .int x5, .int x4, .int x5, .int z8]) dX9_look_60 rfl (lt_l rfl) rfl ?_
        refine v_iload (pc' := 63) dX9_look_61 rfl rfl ?_
        refine v_istore (pc' := 65) (loc' := [.ref r0, .int x1, .int x2, .int x5, .int z8, .int x5, .int z8]) dX9_look_63 rfl (lt_l rfl) rfl ?_
        refine v_iinc (pc' := 68) (loc' := [.ref r0, .int x1, .int x2, .int x5, .int z8, .int (x5 + 1), .int z8]) dX9_look_65 rfl rfl (kX_1 _) rfl ?_
        refine v_goto (pc' := 19) dX9_look_68 (by decide) ?_
        exact V.drop (llp_r (llp_r (llp_r (llp_r (llp_r (llp_r (llp_u llp_nil))))))) T
      · have T := T.2 c10
        refine v_iload (pc' := 53) dX9_look_51 rfl rfl ?_
        refine v_iload (pc' := 55) dX9_look_53 rfl rfl ?_
        refine v_icmp_ge (tgt := 65) (pc' := 58) dX9_look_55 (by decide) rfl ⟨fun c11 => ?_, fun c11 => ?_⟩
        · have T := T.1 c11
          refine v_iinc (pc' := 68) (loc' := [.ref r0, .int x1, .int x2, .int x3, .int x4, .int (x5 + 1), .int z8]) dX9_look_65 rfl rfl (kX_1 _) rfl ?_
          refine v_goto (pc' := 19) dX9_look_68 (by decide) ?_
          exact V.drop (llp_r (llp_r (llp_r (llp_r (llp_r (llp_r (llp_u llp_nil))))))) T
        · have T := T.2 c11
          refine v_iload (pc' := 60) dX9_look_58 rfl rfl ?_
          refine v_istore_n (pc' := 61) (loc' := [.ref r0, .int x1, .int x2, .int x5, .int x4, .int x5, .int z8]) dX9_look_60 rfl (lt_l rfl) rfl ?_
          refine v_iload (pc' := 63) dX9_look_61 rfl rfl ?_
          refine v_istore (pc' := 65) (loc' := [.ref r0, .int x1, .int x2, .int x5, .int z8, .int x5, .int z8]) dX9_look_63 rfl (lt_l rfl) rfl ?_
          refine v_iinc (pc' := 68) (loc' := [.ref r0, .int x1, .int x2, .int x5, .int z8, .int (x5 + 1), .int z8]) dX9_look_65 rfl rfl (kX_1 _) rfl ?_
          refine v_goto (pc' := 19) dX9_look_68 (by decide) ?_
          exact V.drop (llp_r (llp_r (llp_r (llp_r (llp_r (llp_r (llp_u llp_nil))))))) T
theorem eX9_mostAlike {G : GG} {d : Nat} {h : Hp} {o : OU} {h' : Hp} (r0 : Nat) (x1 : Int32) (x2 : Int32) (T : V G mX9_mostAlike d 5 [.ref r0, .int x1, .int x2, .int 0, .int 0, uV, uV] [] h o h') : VM G mX9_mostAlike d [.ref r0, .int x1, .int x2] h o h' := by
  refine V.toM rfl rfl (le_l rfl) (cat_all rfl) ?_
  show V G mX9_mostAlike d 0 [.ref r0, .int x1, .int x2, uV, uV, uV, uV] [] h o h'
  refine v_iconst (pc' := 1) (v := 0) dX9_mostAlike_0 rfl kI_0 ?_
  refine v_istore_n (pc' := 2) (loc' := [.ref r0, .int x1, .int x2, .int 0, uV, uV, uV]) dX9_mostAlike_1 rfl (lt_l rfl) rfl ?_
  refine v_iconst (pc' := 3) (v := 0) dX9_mostAlike_2 rfl kI_0 ?_
  refine v_istore (pc' := 5) (loc' := [.ref r0, .int x1, .int x2, .int 0, .int 0, uV, uV]) dX9_mostAlike_3 rfl (lt_l rfl) rfl ?_
  exact T
theorem bX9_mostAlike_5 {G : GG} {d : Nat} {h : Hp} {o : OU} {h' : Hp} (r0 : Nat) (x1 : Int32) (x2 : Int32) (x3 : Int32) (x4 : Int32) (T : kH h r0 = 19 ∧ kH h (rH h r0 0) = 15 ∧ (((h.2 (rH h r0 0) 0) ≤ x4 → (o = .inl (some (.int x3)) ∧ h' = h)) ∧ (¬ (h.2 (rH h r0 0) 0) ≤ x4 → V G mX9_mostAlike d 24 [.ref r0, .int x1, .int x2, .int x3, .int x4, .int 0, .int x4] [] h o h'))) : V G mX9_mostAlike d 5 [.ref r0, .int x1, .int x2, .int x3, .int x4, uV, uV] [] h o h' := by
  refine v_iload (pc' := 7) dX9_mostAlike_5 rfl rfl ?_
  refine v_aload_n (pc' := 8) dX9_mostAlike_7 rfl rfl ?_
  obtain ⟨q1, T⟩ := T
  refine v_getR (pc' := 11) 9 0 dX9_mostAlike_8 rfl (by decide) (by decide) rfl kf_X9_12 q1 ?_
  obtain ⟨q2, T⟩ := T
  refine v_getI (pc' := 14) 5 0 dX9_mostAlike_11 rfl (by decide) (by decide) rfl kf_X9_113 q2 ?_
  refine v_icmp_ge (tgt := 103) (pc' := 17) dX9_mostAlike_14 (by decide) rfl ⟨fun c3 => ?_, fun c3 => ?_⟩
  · have T := T.1 c3
    refine v_iload_n (pc' := 104) dX9_mostAlike_103 rfl rfl ?_
    exact v_iret dX9_mostAlike_104 rfl T
  · have T := T.2 c3
    refine v_iconst (pc' := 18) (v := 0) dX9_mostAlike_17 rfl kI_0 ?_
    refine v_istore (pc' := 20) (loc' := [.ref r0, .int x1, .int x2, .int x3, .int x4, .int 0, uV]) dX9_mostAlike_18 rfl (lt_l rfl) rfl ?_
    refine v_iload (pc' := 22) dX9_mostAlike_20 rfl rfl ?_
    refine v_istore (pc' := 24) (loc' := [.ref r0, .int x1, .int x2, .int x3, .int x4, .int 0, .int x4]) dX9_mostAlike_22 rfl (lt_l rfl) rfl ?_
    exact T
theorem bX9_mostAlike_24 {G : GG} {d : Nat} {h : Hp} {o : OU} {h' : Hp} (r0 : Nat) (x1 : Int32) (x2 : Int32) (x3 : Int32) (x4 : Int32) (x5 : Int32) (x6 : Int32) (hd : 1 ≤ d) (T : ((((x1 >>> (x4 &&& 31)) &&& 1) = 0 → V G mX9_mostAlike d 5 [.ref r0, .int x1, .int x2, .int (if x3 < x5 then x5 else x3), .int (x4 + 1), uV, uV] [] h o h') ∧ (¬ ((x1 >>> (x4 &&& 31)) &&& 1) = 0 → kH h r0 = 19 ∧ kH h (rH h r0 0) = 15 ∧ (((h.2 (rH h r0 0) 0) ≤ x6 → V G mX9_mostAlike d 5 [.ref r0, .int x1, .int x2, .int (if x3 < x5 then x5 else x3), .int (x4 + 1), uV, uV] [] h o h') ∧ (¬ (h.2 (rH h r0 0) 0) ≤ x6 → ((((x1 >>> (x6 &&& 31)) &&& 1) = 0 → V G mX9_mostAlike d 24 [.ref r0, .int x1, .int x2, .int x3, .int x4, .int x5, .int (x6 + 1)] [] h o h') ∧ (¬ ((x1 >>> (x6 &&& 31)) &&& 1) = 0 → kH h (rH h r0 9) = 2 ∧ vp_in ((x6 * 16) + x2) (lH h (rH h r0 9)) ∧ vp_in ((x4 * 16) + x2) (lH h (rH h r0 9)) ∧ ((¬ (h.2 (rH h r0 9) ((x6 * 16) + x2).toNatClampNeg) = (h.2 (rH h r0 9) ((x4 * 16) + x2).toNatClampNeg) → V G mX9_mostAlike d 24 [.ref r0, .int x1, .int x2, .int x3, .int x4, .int x5, .int (x6 + 1)] [] h o h') ∧ ((h.2 (rH h r0 9) ((x6 * 16) + x2).toNatClampNeg) = (h.2 (rH h r0 9) ((x4 * 16) + x2).toNatClampNeg) → V G mX9_mostAlike d 24 [.ref r0, .int x1, .int x2, .int x3, .int x4, .int (x5 + 1), .int (x6 + 1)] [] h o h'))))))))) : V G mX9_mostAlike d 24 [.ref r0, .int x1, .int x2, .int x3, .int x4, .int x5, .int x6] [] h o h' := by
  have hdd : d - 1 + 1 ≤ d := by omega
  refine v_iload_n (pc' := 25) dX9_mostAlike_24 rfl rfl ?_
  refine v_iload (pc' := 27) dX9_mostAlike_25 rfl rfl ?_
  refine v_ishr (pc' := 28) dX9_mostAlike_27 rfl ?_
  refine v_iconst (pc' := 29) (v := 1) dX9_mostAlike_28 rfl kI_1 ?_
  refine v_iand (pc' := 30) dX9_mostAlike_29 rfl ?_
  refine v_if_eq (tgt := 90) (pc' := 33) dX9_mostAlike_30 (by decide) rfl ⟨fun c1 => ?_, fun c1 => ?_⟩
  · have T := T.1 c1
    refine v_iload_n (pc' := 91) dX9_mostAlike_90 rfl rfl ?_
    refine v_iload (pc' := 93) dX9_mostAlike_91 rfl rfl ?_
    refine v_mmax (pc' := 96) dX9_mostAlike_93 rfl km_X9_363 kx_maxs kx_mi kx_maxc hd (le_l rfl) ?_
    refine v_istore_n (pc' := 97) (loc' := [.ref r0, .int x1, .int x2, .int (if x3 < x5 then x5 else x3), .int x4, .int x5, .int x6]) dX9_mostAlike_96 rfl (lt_l rfl) rfl ?_
    refine v_iinc (pc' := 100) (loc' := [.ref r0, .int x1, .int x2, .int (if x3 < x5 then x5 else x3), .int (x4 + 1), .int x5, .int x6]) dX9_mostAlike_97 rfl rfl (kX_1 _) rfl ?_
    refine v_goto (pc' := 5) dX9_mostAlike_100 (by decide) ?_
    exact V.drop (llp_r (llp_r (llp_r (llp_r (llp_r (llp_u (llp_u llp_nil))))))) T
  · have T := T.2 c1
    refine v_iload (pc' := 35) dX9_mostAlike_33 rfl rfl ?_
    refine v_aload_n (pc' := 36) dX9_mostAlike_35 rfl rfl ?_
    obtain ⟨q2, T⟩ := T
    refine v_getR (pc' := 39) 9 0 dX9_mostAlike_36 rfl (by decide) (by decide) rfl kf_X9_12 q2 ?_
    obtain ⟨q3, T⟩ := T
    refine v_getI (pc' := 42) 5 0 dX9_mostAlike_39 rfl (by decide) (by decide) rfl kf_X9_113 q3 ?_
    refine v_icmp_ge (tgt := 90) (pc' := 45) dX9_mostAlike_42 (by decide) rfl ⟨fun c4 => ?_, fun c4 => ?_⟩
    · have T := T.1 c4
      refine v_iload_n (pc' := 91) dX9_mostAlike_90 rfl rfl ?_
      refine v_iload (pc' := 93) dX9_mostAlike_91 rfl rfl ?_
      refine v_mmax (pc' := 96) dX9_mostAlike_93 rfl km_X9_363 kx_maxs kx_mi kx_maxc hd (le_l rfl) ?_
      refine v_istore_n (pc' := 97) (loc' := [.ref r0, .int x1, .int x2, .int (if x3 < x5 then x5 else x3), .int x4, .int x5, .int x6]) dX9_mostAlike_96 rfl (lt_l rfl) rfl ?_
      refine v_iinc (pc' := 100) (loc' := [.ref r0, .int x1, .int x2, .int (if x3 < x5 then x5 else x3), .int (x4 + 1), .int x5, .int x6]) dX9_mostAlike_97 rfl rfl (kX_1 _) rfl ?_
      refine v_goto (pc' := 5) dX9_mostAlike_100 (by decide) ?_
      exact V.drop (llp_r (llp_r (llp_r (llp_r (llp_r (llp_u (llp_u llp_nil))))))) T
    · have T := T.2 c4
      refine v_iload_n (pc' := 46) dX9_mostAlike_45 rfl rfl ?_
      refine v_iload (pc' := 48) dX9_mostAlike_46 rfl rfl ?_
      refine v_ishr (pc' := 49) dX9_mostAlike_48 rfl ?_
      refine v_iconst (pc' := 50) (v := 1) dX9_mostAlike_49 rfl kI_1 ?_
      refine v_iand (pc' := 51) dX9_mostAlike_50 rfl ?_
      refine v_if_eq (tgt := 84) (pc' := 54) dX9_mostAlike_51 (by decide) rfl ⟨fun c5 => ?_, fun c5 => ?_⟩
      · have T := T.1 c5
        refine v_iinc (pc' := 87) (loc' := [.ref r0, .int x1, .int x2, .int x3, .int x4, .int x5, .int (x6 + 1)]) dX9_mostAlike_84 rfl rfl (kX_1 _) rfl ?_
        refine v_goto (pc' := 24) dX9_mostAlike_87 (by decide) ?_
        exact T
      · have T := T.2 c5
        refine v_aload_n (pc' := 55) dX9_mostAlike_54 rfl rfl ?_
        refine v_getR (pc' := 58) 9 9 dX9_mostAlike_55 rfl (by decide) (by decide) rfl kf_X9_62 q2 ?_
        refine v_iload (pc' := 60) dX9_mostAlike_58 rfl rfl ?_
        refine v_bipush (pc' := 62) (v := 16) dX9_mostAlike_60 rfl kB_16 ?_
        refine v_imul (pc' := 63) dX9_mostAlike_62 rfl ?_
        refine v_iload_n (pc' := 64) dX9_mostAlike_63 rfl rfl ?_
        refine v_iadd (pc' := 65) dX9_mostAlike_64 rfl ?_
        obtain ⟨q6, T⟩ := T
        obtain ⟨q7, T⟩ := T
        refine v_bald (pc' := 66) dX9_mostAlike_65 rfl rfl q6 q7 ?_
        refine v_aload_n (pc' := 67) dX9_mostAlike_66 rfl rfl ?_
        refine v_getR (pc' := 70) 9 9 dX9_mostAlike_67 rfl (by decide) (by decide) rfl kf_X9_62 q2 ?_
        refine v_iload (pc' := 72) dX9_mostAlike_70 rfl rfl ?_
        refine v_bipush (pc' := 74) (v := 16) dX9_mostAlike_72 rfl kB_16 ?_
        refine v_imul (pc' := 75) dX9_mostAlike_74 rfl ?_
        refine v_iload_n (pc' := 76) dX9_mostAlike_75 rfl rfl ?_
        refine v_iadd (pc' := 77) dX9_mostAlike_76 rfl ?_
        obtain ⟨q8, T⟩ := T
        refine v_bald (pc' := 78) dX9_mostAlike_77 rfl rfl q6 q8 ?_
        refine v_icmp_ne (tgt := 84) (pc' := 81) dX9_mostAlike_78 (by decide) rfl ⟨fun c9 => ?_, fun c9 => ?_⟩
        · have T := T.1 c9
          refine v_iinc (pc' := 87) (loc' := [.ref r0, .int x1, .int x2, .int x3, .int x4, .int x5, .int (x6 + 1)]) dX9_mostAlike_84 rfl rfl (kX_1 _) rfl ?_
          refine v_goto (pc' := 24) dX9_mostAlike_87 (by decide) ?_
          exact T
        · have T := T.2 c9
          refine v_iinc (pc' := 84) (loc' := [.ref r0, .int x1, .int x2, .int x3, .int x4, .int (x5 + 1), .int x6]) dX9_mostAlike_81 rfl rfl (kX_1 _) rfl ?_
          refine v_iinc (pc' := 87) (loc' := [.ref r0, .int x1, .int x2, .int x3, .int x4, .int (x5 + 1), .int (x6 + 1)]) dX9_mostAlike_84 rfl rfl (kX_1 _) rfl ?_
          refine v_goto (pc' := 24) dX9_mostAlike_87 (by decide) ?_
          exact T
theorem eX9_storm {G : GG} {d : Nat} {h : Hp} {o : OU} {h' : Hp} (r0 : Nat) (x1 : Int32) (x2 : Int32) (x3 : Int32) (x4 : Int32) (hd : 1 ≤ d) (T : kH h r0 = 19 ∧ ((∃ h1, VM G mX9_testRange (d - 1) [.ref r0, .int x2, .int 1, .int 96] h (.inl none) h1 ∧ kH h1 r0 = 19 ∧ ((∃ h4, VM G mX9_testRange (d - 1) [.ref r0, .int x3, .int 0, .int 16] h1 (.inl none) h4 ∧ kH h4 r0 = 19 ∧ ((∃ h7, VM G mX9_testWhat (d - 1) [.ref r0, .int x4, .int 3] h4 (.inl none) h7 ∧ kH h7 r0 = 19 ∧ ∃ z11 h10, VM G mX9_blow (d - 1) [.ref r0, .int x1, .int x2, .int x3] h7 (.inl (some (.ref z11))) h10 ∧ ((x4 = 0 → ∃ z16 h15, VM G mX8_leakedBlocks (d - 1) [.ref z11, .int 1] h10 (.inl (some (.int z16))) h15 ∧ ∃ z19 h18, VM G mJ6_bitCount_0f7a4 (d - 1) [.int z16] h15 (.inl (some (.int z19))) h18 ∧ (o = .inl (some (.int z19)) ∧ h' = h18)) ∧ (x4 = 1 → ∃ z23 h22, VM G mX8_linkedNodes (d - 1) [.ref z11, .int 1] h10 (.inl (some (.int z23))) h22 ∧ (o = .inl (some (.int z23)) ∧ h' = h22)) ∧ (x4 = 2 → kH h10 z11 = 15 ∧ kH h10 r0 = 19 ∧ kH h10 (rH h10 r0 0) = 15 ∧ (o = .inl (some (.int ((h10.2 z11 12) - (h10.2 (rH h10 r0 0) 12)))) ∧ h' = h10)) ∧ (¬ x4 = 0 → ¬ x4 = 1 → ¬ x4 = 2 → ∃ z30 h29, VM G mX8_brokenEntries (d - 1) [.ref z11, .int 1] h10 (.inl (some (.int z30))) h29 ∧ ∃ z33 h32, VM G mX8_brokenPointers (d - 1) [.ref z11, .int 1] h29 (.inl (some (.int z33))) h32 ∧ (o = .inl (some (.int (z30 + z33))) ∧ h' = h32)))) ∨ ∃ E, o = .inr E ∧ VM G mX9_testWhat (d - 1) [.ref r0, .int x4, .int 3] h4 (.inr E) h')) ∨ ∃ E, o = .inr E ∧ VM G mX9_testRange (d - 1) [.ref r0, .int x3, .int 0, .int 16] h1 (.inr E) h')) ∨ ∃ E, o = .inr E ∧ VM G mX9_testRange (d - 1) [.ref r0, .int x2, .int 1, .int 96] h (.inr E) h')) : VM G mX9_storm d [.ref r0, .int x1, .int x2, .int x3, .int x4] h o h' := by
  refine V.toM rfl rfl (le_l rfl) (cat_all rfl) ?_
  show V G mX9_storm d 0 [.ref r0, .int x1, .int x2, .int x3, .int x4, uV] [] h o h'
  have hdd : d - 1 + 1 ≤ d := by omega
  refine v_aload_n (pc' := 1) dX9_storm_0 rfl rfl ?_
  refine v_iload_n (pc' := 2) dX9_storm_1 rfl rfl ?_
  refine v_iconst (pc' := 3) (v := 1) dX9_storm_2 rfl kI_1 ?_
  refine v_bipush (pc' := 5) (v := 96) dX9_storm_3 rfl kB_96 ?_
  obtain ⟨q3, T⟩ := T
  rcases T with T | ⟨E, rfl, k2⟩
  · obtain ⟨h1, k2, T⟩ := T
    refine v_callV (pc' := 8) (M1 := mX9_testRange) (as := [.int x2, .int 1, .int 96]) (r := r0) (rest := []) 9 dX9_storm_5 rfl ko_X9_368 kc_X9_testRange ki_X9_testRange ks_X9_testRange (by decide) (by decide) hdd rfl rfl (le_l rfl) q3 k2 ?_
    refine v_aload_n (pc' := 9) dX9_storm_8 rfl rfl ?_
    refine v_iload_n (pc' := 10) dX9_storm_9 rfl rfl ?_
    refine v_iconst (pc' := 11) (v := 0) dX9_storm_10 rfl kI_0 ?_
    refine v_bipush (pc' := 13) (v := 16) dX9_storm_11 rfl kB_16 ?_
    obtain ⟨q6, T⟩ := T
    rcases T with T | ⟨E, rfl, k5⟩
    · obtain ⟨h4, k5, T⟩ := T
      refine v_callV (pc' := 16) (M1 := mX9_testRange) (as := [.int x3, .int 0, .int 16]) (r := r0) (rest := []) 9 dX9_storm_13 rfl ko_X9_368 kc_X9_testRange ki_X9_testRange ks_X9_testRange (by decide) (by decide) hdd rfl rfl (le_l rfl) q6 k5 ?_
      refine v_aload_n (pc' := 17) dX9_storm_16 rfl rfl ?_
      refine v_iload (pc' := 19) dX9_storm_17 rfl rfl ?_
      refine v_iconst (pc' := 20) (v := 3) dX9_storm_19 rfl kI_3 ?_
      obtain ⟨q9, T⟩ := T
      rcases T with T | ⟨E, rfl, k8⟩
      · obtain ⟨h7, k8, T⟩ := T
        refine v_callV (pc' := 23) (M1 := mX9_testWhat) (as := [.int x4, .int 3]) (r := r0) (rest := []) 9 dX9_storm_20 rfl ko_X9_195 kc_X9_testWhat ki_X9_testWhat ks_X9_testWhat (by decide) (by decide) hdd rfl rfl (le_l rfl) q9 k8 ?_
        refine v_aload_n (pc' := 24) dX9_storm_23 rfl rfl ?_
        refine v_iload_n (pc' := 25) dX9_storm_24 rfl rfl ?_
        refine v_iload_n (pc' := 26) dX9_storm_25 rfl rfl ?_
        refine v_iload_n (pc' := 27) dX9_storm_26 rfl rfl ?_
        obtain ⟨q13, T⟩ := T
        obtain ⟨z11, h10, k12, T⟩ := T
        refine v_callV (pc' := 30) (M1 := mX9_blow) (as := [.int x1, .int x2, .int x3]) (r := r0) (rest := []) 9 dX9_storm_27 rfl ko_X9_372 kc_X9_blow ki_X9_blow ks_X9_blow (by decide) (by decide) hdd rfl rfl (le_l rfl) q13 k12 ?_
        refine v_astore (pc' := 32) (loc' := [.ref r0, .int x1, .int x2, .int x3, .int x4, .ref z11]) dX9_storm_30 rfl (lt_l rfl) rfl ?_
        refine v_iload (pc' := 34) dX9_storm_32 rfl rfl ?_
        by_cases c14 : x4 = 0
        · have T := T.1 c14
          refine v_switchIn (off := 26) (pc' := 60) dX9_storm_34 (by rw [c14]; decide) (by rw [c14]; decide) (by rw [c14]; rfl) (by decide) ?_
          refine v_aload (pc' := 62) dX9_storm_60 rfl rfl ?_
          refine v_iconst (pc' := 63) (v := 1) dX9_storm_62 rfl kI_1 ?_
          obtain ⟨z16, h15, k17, T⟩ := T
          refine v_callS (pc' := 66) (M1 := mX8_leakedBlocks) (as := [.ref z11, .int 1]) (rest := []) dX9_storm_63 rfl ko_X9_258 kc_X8_leakedBlocks kt_X8_leakedBlocks (by decide) hdd rfl rfl (le_l rfl) k17 ?_
          obtain ⟨z19, h18, k20, T⟩ := T
          refine v_callS (pc' := 69) (M1 := mJ6_bitCount_0f7a4) (as := [.int z16]) (rest := []) dX9_storm_66 rfl ko_X9_333 kc_J6_bitCount_0f7a4 kt_J6_bitCount_0f7a4 (by decide) hdd rfl rfl (le_l rfl) k20 ?_
          exact v_iret dX9_storm_69 rfl T
        by_cases c21 : x4 = 1
        · have T := T.2.1 c21
          refine v_switchIn (off := 36) (pc' := 70) dX9_storm_34 (by rw [c21]; decide) (by rw [c21]; decide) (by rw [c21]; rfl) (by decide) ?_
          refine v_aload (pc' := 72) dX9_storm_70 rfl rfl ?_
          refine v_iconst (pc' := 73) (v := 1) dX9_storm_72 rfl kI_1 ?_
          obtain ⟨z23, h22, k24, T⟩ := T
          refine v_callS (pc' := 76) (M1 := mX8_linkedNodes) (as := [.ref z11, .int 1]) (rest := []) dX9_storm_73 rfl ko_X9_261 kc_X8_linkedNodes kt_X8_linkedNodes (by decide) hdd rfl rfl (le_l rfl) k24 ?_
          exact v_iret dX9_storm_76 rfl T
        by_cases c25 : x4 = 2
        · have T := T.2.2.1 c25
          refine v_switchIn (off := 43) (pc' := 77) dX9_storm_34 (by rw [c25]; decide) (by rw [c25]; decide) (by rw [c25]; rfl) (by decide) ?_
          refine v_aload (pc' := 79) dX9_storm_77 rfl rfl ?_
          obtain ⟨q26, T⟩ := T
          refine v_getI (pc' := 82) 5 12 dX9_storm_79 rfl (by decide) (by decide) rfl kf_X9_208 q26 ?_
          refine v_aload_n (pc' := 83) dX9_storm_82 rfl rfl ?_
          obtain ⟨q27, T⟩ := T
          refine v_getR (pc' := 86) 9 0 dX9_storm_83 rfl (by decide) (by decide) rfl kf_X9_12 q27 ?_
          obtain ⟨q28, T⟩ := T
          refine v_getI (pc' := 89) 5 12 dX9_storm_86 rfl (by decide) (by decide) rfl kf_X9_208 q28 ?_
          refine v_isub (pc' := 90) dX9_storm_89 rfl ?_
          exact v_iret dX9_storm_90 rfl T
        have T := T.2.2.2 c14 c21 c25
        refine v_switchOut (pc' := 91) dX9_storm_34 (sw_out (n := 2) (by decide) (fun k hk => by rcases (show k = 0 ∨ k = 1 ∨ k = 2 by omega) with rfl | rfl | rfl <;> assumption)) (by decide) ?_
        refine v_aload (pc' := 93) dX9_storm_91 rfl rfl ?_
        refine v_iconst (pc' := 94) (v := 1) dX9_storm_93 rfl kI_1 ?_
        obtain ⟨z30, h29, k31, T⟩ := T
        refine v_callS (pc' := 97) (M1 := mX8_brokenEntries) (as := [.ref z11, .int 1]) (rest := []) dX9_storm_94 rfl ko_X9_264 kc_X8_brokenEntries kt_X8_brokenEntries (by decide) hdd rfl rfl (le_l rfl) k31 ?_
        refine v_aload (pc' := 99) dX9_storm_97 rfl rfl ?_
        refine v_iconst (pc' := 100) (v := 1) dX9_storm_99 rfl kI_1 ?_
        obtain ⟨z33, h32, k34, T⟩ := T
        refine v_callS (pc' := 103) (M1 := mX8_brokenPointers) (as := [.ref z11, .int 1]) (rest := [.int z30]) dX9_storm_100 rfl ko_X9_267 kc_X8_brokenPointers kt_X8_brokenPointers (by decide) hdd rfl rfl (le_l rfl) k34 ?_
        refine v_iadd (pc' := 104) dX9_storm_103 rfl ?_
        exact v_iret dX9_storm_104 rfl T
      · exact v_callVx (M1 := mX9_testWhat) (as := [.int x4, .int 3]) (r := r0) (rest := []) 9 dX9_storm_20 rfl ko_X9_195 kc_X9_testWhat ki_X9_testWhat ks_X9_testWhat (by decide) (by decide) hdd rfl rfl (le_l rfl) q9 k8
    · exact v_callVx (M1 := mX9_testRange) (as := [.int x3, .int 0, .int 16]) (r := r0) (rest := []) 9 dX9_storm_13 rfl ko_X9_368 kc_X9_testRange ki_X9_testRange ks_X9_testRange (by decide) (by decide) hdd rfl rfl (le_l rfl) q6 k5
  · exact v_callVx (M1 := mX9_testRange) (as := [.int x2, .int 1, .int 96]) (r := r0) (rest := []) 9 dX9_storm_5 rfl ko_X9_368 kc_X9_testRange ki_X9_testRange ks_X9_testRange (by decide) (by decide) hdd rfl rfl (le_l rfl) q3 k2
theorem eX9_span {G : GG} {d : Nat} {h : Hp} {o : OU} {h' : Hp} (r0 : Nat) (x1 : Int32) (x2 : Int32) (x3 : Int32) (x4 : Int32) (x5 : Int32) (x6 : Int32) (hd : 1 ≤ d) (T : kH h r0 = 19 ∧ ((∃ h1, VM G mX9_testNode (d - 1) [.ref r0, .int x6] h (.inl none) h1 ∧ kH h1 r0 = 19 ∧ ((∃ h4, VM G mX9_testRange (d - 1) [.ref r0, .int x2, .int 1, .int 5] h1 (.inl none) h4 ∧ kH h4 r0 = 19 ∧ ((∃ h7, VM G mX9_testRange (d - 1) [.ref r0, .int x3, .int 1, .int 96] h4 (.inl none) h7 ∧ kH h7 r0 = 19 ∧ ((∃ h10, VM G mX9_testRange (d - 1) [.ref r0, .int x4, .int 0, .int 16] h7 (.inl none) h10 ∧ kH h10 r0 = 19 ∧ ((∃ h13, VM G mX9_testWhat (d - 1) [.ref r0, .int x5, .int 2] h10 (.inl none) h13 ∧ V G mX9_span d 50 [.ref r0, .int x1, .int x2, .int x3, .int x4, .int x5, .int x6, .int 16, .int 0, .int 0, .int 0, uV, uV] [] h13 o h') ∨ ∃ E, o = .inr E ∧ VM G mX9_testWhat (d - 1) [.ref r0, .int x5, .int 2] h10 (.inr E) h')) ∨ ∃ E, o = .inr E ∧ VM G mX9_testRange (d - 1) [.ref r0, .int x4, .int 0, .int 16] h7 (.inr E) h')) ∨ ∃ E, o = .inr E ∧ VM G mX9_testRange (d - 1) [.ref r0, .int x3, .int 1, .int 96] h4 (.inr E) h')) ∨ ∃ E, o = .inr E ∧ VM G mX9_testRange (d - 1) [.ref r0, .int x2, .int 1, .int 5] h1 (.inr E) h')) ∨ ∃ E, o = .inr E ∧ VM G mX9_testNode (d - 1) [.ref r0, .int x6] h (.inr E) h')) : VM G mX9_span d [.ref r0, .int x1, .int x2, .int x3, .int x4, .int x5, .int x6] h o h' := by
  refine V.toM rfl rfl (le_l rfl) (cat_all rfl) ?_
  show V G mX9_span d 0 [.ref r0, .int x1, .int x2, .int x3, .int x4, .int x5, .int x6, uV, uV, uV, uV, uV, uV] [] h o h'
  have hdd : d - 1 + 1 ≤ d := by omega
  refine v_aload_n (pc' := 1) dX9_span_0 rfl rfl ?_
  refine v_iload (pc' := 3) dX9_span_1 rfl rfl ?_
  obtain ⟨q3, T⟩ := T
  rcases T with T | ⟨E, rfl, k2⟩
  · obtain ⟨h1, k2, T⟩ := T
    refine v_callV (pc' := 6) (M1 := mX9_testNode) (as := [.int x6]) (r := r0) (rest := []) 9 dX9_span_3 rfl ko_X9_233 kc_X9_testNode ki_X9_testNode ks_X9_testNode (by decide) (by decide) hdd rfl rfl (le_l rfl) q3 k2 ?_
    refine v_aload_n (pc' := 7) dX9_span_6 rfl rfl ?_
    refine v_iload_n (pc' := 8) dX9_span_7 rfl rfl ?_
    refine v_iconst (pc' := 9) (v := 1) dX9_span_8 rfl kI_1 ?_
    refine v_iconst (pc' := 10) (v := 5) dX9_span_9 rfl kI_5 ?_
    obtain ⟨q6, T⟩ := T
    rcases T with T | ⟨E, rfl, k5⟩
    · obtain ⟨h4, k5, T⟩ := T
      refine v_callV (pc' := 13) (M1 := mX9_testRange) (as := [.int x2, .int 1, .int 5]) (r := r0) (rest := []) 9 dX9_span_10 rfl ko_X9_368 kc_X9_testRange ki_X9_testRange ks_X9_testRange (by decide) (by decide) hdd rfl rfl (le_l rfl) q6 k5 ?_
      refine v_aload_n (pc' := 14) dX9_span_13 rfl rfl ?_
      refine v_iload_n (pc' := 15) dX9_span_14 rfl rfl ?_
      refine v_iconst (pc' := 16) (v := 1) dX9_span_15 rfl kI_1 ?_
      refine v_bipush (pc' := 18) (v := 96) dX9_span_16 rfl kB_96 ?_
      obtain ⟨q9, T⟩ := T
      rcases T with T | ⟨E, rfl, k8⟩
      · obtain ⟨h7, k8, T⟩ := T
        refine v_callV (pc' := 21) (M1 := mX9_testRange) (as := [.int x3, .int 1, .int 96]) (r := r0) (rest := []) 9 dX9_span_18 rfl ko_X9_368 kc_X9_testRange ki_X9_testRange ks_X9_testRange (by decide) (by decide) hdd rfl rfl (le_l rfl) q9 k8 ?_
        refine v_aload_n (pc' := 22) dX9_span_21 rfl rfl ?_
        refine v_iload (pc' := 24) dX9_span_22 rfl rfl ?_
        refine v_iconst (pc' := 25) (v := 0) dX9_span_24 rfl kI_0 ?_
        refine v_bipush (pc' := 27) (v := 16) dX9_span_25 rfl kB_16 ?_
        obtain ⟨q12, T⟩ := T
        rcases T with T | ⟨E, rfl, k11⟩
        · obtain ⟨h10, k11, T⟩ := T
          refine v_callV (pc' := 30) (M1 := mX9_testRange) (as := [.int x4, .int 0, .int 16]) (r := r0) (rest := []) 9 dX9_span_27 rfl ko_X9_368 kc_X9_testRange ki_X9_testRange ks_X9_testRange (by decide) (by decide) hdd rfl rfl (le_l rfl) q12 k11 ?_
          refine v_aload_n (pc' := 31) dX9_span_30 rfl rfl ?_
          refine v_iload (pc' := 33) dX9_span_31 rfl rfl ?_
          refine v_iconst (pc' := 34) (v := 2) dX9_span_33 rfl kI_2 ?_
          obtain ⟨q15, T⟩ := T
          rcases T with T | ⟨E, rfl, k14⟩
          · obtain ⟨h13, k14, T⟩ := T
            refine v_callV (pc' := 37) (M1 := mX9_testWhat) (as := [.int x5, .int 2]) (r := r0) (rest := []) 9 dX9_span_34 rfl ko_X9_195 kc_X9_testWhat ki_X9_testWhat ks_X9_testWhat (by decide) (by decide) hdd rfl rfl (le_l rfl) q15 k14 ?_
            refine v_bipush (pc' := 39) (v := 16) dX9_span_37 rfl kB_16 ?_
            refine v_istore (pc' := 41) (loc' := [.ref r0, .int x1, .int x2, .int x3, .int x4, .int x5, .int x6, .int 16, uV, uV, uV, uV, uV]) dX9_span_39 rfl (lt_l rfl) rfl ?_
            refine v_iconst (pc' := 42) (v := 0) dX9_span_41 rfl kI_0 ?_
            refine v_istore (pc' := 44) (loc' := [.ref r0, .int x1, .int x2, .int x3, .int x4, .int x5, .int x6, .int 16, .int 0, uV, uV, uV, uV]) dX9_span_42 rfl (lt_l rfl) rfl ?_
            refine v_iconst (pc' := 45) (v := 0) dX9_span_44 rfl kI_0 ?_
            refine v_istore (pc' := 47) (loc' := [.ref r0, .int x1, .int x2, .int x3, .int x4, .int x5, .int x6, .int 16, .int 0, .int 0, uV, uV, uV]) dX9_span_45 rfl (lt_l rfl) rfl ?_
            refine v_iconst (pc' := 48) (v := 0) dX9_span_47 rfl kI_0 ?_
            refine v_istore (pc' := 50) (loc' := [.ref r0, .int x1, .int x2, .int x3, .int x4, .int x5, .int x6, .int 16, .int 0, .int 0, .int 0, uV, uV]) dX9_span_48 rfl (lt_l rfl) rfl ?_
            exact T
          · exact v_callVx (M1 := mX9_testWhat) (as := [.int x5, .int 2]) (r := r0) (rest := []) 9 dX9_span_34 rfl ko_X9_195 kc_X9_testWhat ki_X9_testWhat ks_X9_testWhat (by decide) (by decide) hdd rfl rfl (le_l rfl) q15 k14
        · exact v_callVx (M1 := mX9_testRange) (as := [.int x4, .int 0, .int 16]) (r := r0) (rest := []) 9 dX9_span_27 rfl ko_X9_368 kc_X9_testRange ki_X9_testRange ks_X9_testRange (by decide) (by decide) hdd rfl rfl (le_l rfl) q12 k11
      · exact v_callVx (M1 := mX9_testRange) (as := [.int x3, .int 1, .int 96]) (r := r0) (rest := []) 9 dX9_span_18 rfl ko_X9_368 kc_X9_testRange ki_X9_testRange ks_X9_testRange (by decide) (by decide) hdd rfl rfl (le_l rfl) q9 k8
    · exact v_callVx (M1 := mX9_testRange) (as := [.int x2, .int 1, .int 5]) (r := r0) (rest := []) 9 dX9_span_10 rfl ko_X9_368 kc_X9_testRange ki_X9_testRange ks_X9_testRange (by decide) (by decide) hdd rfl rfl (le_l rfl) q6 k5
  · exact v_callVx (M1 := mX9_testNode) (as := [.int x6]) (r := r0) (rest := []) 9 dX9_span_3 rfl ko_X9_233 kc_X9_testNode ki_X9_testNode ks_X9_testNode (by decide) (by decide) hdd rfl rfl (le_l rfl) q3 k2
theorem bX9_span_50 {G : GG} {d : Nat} {h : Hp} {o : OU} {h' : Hp} (r0 : Nat) (x1 : Int32) (x2 : Int32) (x3 : Int32) (x4 : Int32) (x5 : Int32) (x6 : Int32) (x7 : Int32) (x8 : Int32) (x9 : Int32) (x10 : Int32) (hd : 1 ≤ d) (T : ((x2 ≤ x10 → ((¬ x5 = 0 → ((¬ x5 = 1 → (o = .inl (some (.int x9)) ∧ h' = h)) ∧ (x5 = 1 → (o = .inl (some (.int x8)) ∧ h' = h)))) ∧ (x5 = 0 → (o = .inl (some (.int x7)) ∧ h' = h)))) ∧ (¬ x2 ≤ x10 → kH h r0 = 19 ∧ ∃ z5 h4, VM G mX9_blow (d - 1) [.ref r0, .int (x1 + x10), .int x3, .int x4] h (.inl (some (.ref z5))) h4 ∧ ∃ z9 h8, VM G mX8_leakedBlocks (d - 1) [.ref z5, .int 1] h4 (.inl (some (.int z9))) h8 ∧ ∃ z12 h11, VM G mJ6_bitCount_0f7a4 (d - 1) [.int z9] h8 (.inl (some (.int z12))) h11 ∧ ∃ z15 h14, VM G mX8_linkedNodes (d - 1) [.ref z5, .int 1] h11 (.inl (some (.int z15))) h14 ∧ V G mX9_span d 50 [.ref r0, .int x1, .int x2, .int x3, .int x4, .int x5, .int x6, .int (if z12 < x7 then z12 else x7), .int (if x8 < z12 then z12 else x8), .int (x9 + ((z15 >>> (x6 &&& 31)) &&& 1)), .int (x10 + 1), uV, uV] [] h14 o h'))) : V G mX9_span d 50 [.ref r0, .int x1, .int x2, .int x3, .int x4, .int x5, .int x6, .int x7, .int x8, .int x9, .int x10, uV, uV] [] h o h' := by
  have hdd : d - 1 + 1 ≤ d := by omega
  refine v_iload (pc' := 52) dX9_span_50 rfl rfl ?_
  refine v_iload_n (pc' := 53) dX9_span_52 rfl rfl ?_
  refine v_icmp_ge (tgt := 120) (pc' := 56) dX9_span_53 (by decide) rfl ⟨fun c1 => ?_, fun c1 => ?_⟩
  · have T := T.1 c1
    refine v_iload (pc' := 122) dX9_span_120 rfl rfl ?_
    refine v_if_ne (tgt := 128) (pc' := 125) dX9_span_122 (by decide) rfl ⟨fun c2 => ?_, fun c2 => ?_⟩
    · have T := T.1 c2
      refine v_iload (pc' := 130) dX9_span_128 rfl rfl ?_
      refine v_iconst (pc' := 131) (v := 1) dX9_span_130 rfl kI_1 ?_
      refine v_icmp_ne (tgt := 139) (pc' := 134) dX9_span_131 (by decide) rfl ⟨fun c3 => ?_, fun c3 => ?_⟩
      · have T := T.1 c3
        refine v_iload (pc' := 141) dX9_span_139 rfl rfl ?_
        exact v_iret dX9_span_141 rfl T
      · have T := T.2 c3
        refine v_iload (pc' := 136) dX9_span_134 rfl rfl ?_
        refine v_goto (pc' := 141) dX9_span_136 (by decide) ?_
        exact v_iret dX9_span_141 rfl T
    · have T := T.2 c2
      refine v_iload (pc' := 127) dX9_span_125 rfl rfl ?_
      exact v_iret dX9_span_127 rfl T
  · have T := T.2 c1
    refine v_aload_n (pc' := 57) dX9_span_56 rfl rfl ?_
    refine v_iload_n (pc' := 58) dX9_span_57 rfl rfl ?_
    refine v_iload (pc' := 60) dX9_span_58 rfl rfl ?_
    refine v_iadd (pc' := 61) dX9_span_60 rfl ?_
    refine v_iload_n (pc' := 62) dX9_span_61 rfl rfl ?_
    refine v_iload (pc' := 64) dX9_span_62 rfl rfl ?_
    obtain ⟨q7, T⟩ := T
    obtain ⟨z5, h4, k6, T⟩ := T
    refine v_callV (pc' := 67) (M1 := mX9_blow) (as := [.int (x1 + x10), .int x3, .int x4]) (r := r0) (rest := []) 9 dX9_span_64 rfl ko_X9_372 kc_X9_blow ki_X9_blow ks_X9_blow (by decide) (by decide) hdd rfl rfl (le_l rfl) q7 k6 ?_
    refine v_astore (pc' := 69) (loc' := [.ref r0, .int x1, .int x2, .int x3, .int x4, .int x5, .int x6, .int x7, .int x8, .int x9, .int x10, .ref z5, uV]) dX9_span_67 rfl (lt_l rfl) rfl ?_
    refine v_aload (pc' := 71) dX9_span_69 rfl rfl ?_
    refine v_iconst (pc' := 72) (v := 1) dX9_span_71 rfl kI_1 ?_
    obtain ⟨z9, h8, k10, T⟩ := T
    refine v_callS (pc' := 75) (M1 := mX8_leakedBlocks) (as := [.ref z5, .int 1]) (rest := []) dX9_span_72 rfl ko_X9_258 kc_X8_leakedBlocks kt_X8_leakedBlocks (by decide) hdd rfl rfl (le_l rfl) k10 ?_
    obtain ⟨z12, h11, k13, T⟩ := T
    refine v_callS (pc' := 78) (M1 := mJ6_bitCount_0f7a4) (as := [.int z9]) (rest := []) dX9_span_75 rfl ko_X9_333 kc_J6_bitCount_0f7a4 kt_J6_bitCount_0f7a4 (by decide) hdd rfl rfl (le_l rfl) k13 ?_
    refine v_istore (pc' := 80) (loc' := [.ref r0, .int x1, .int x2, .int x3, .int x4, .int x5, .int x6, .int x7, .int x8, .int x9, .int x10, .ref z5, .int z12]) dX9_span_78 rfl (lt_l rfl) rfl ?_
    refine v_iload (pc' := 82) dX9_span_80 rfl rfl ?_
    refine v_iload (pc' := 84) dX9_span_82 rfl rfl ?_
    refine v_mmin (pc' := 87) dX9_span_84 rfl km_X9_376 kx_mins kx_mi kx_minc hd (le_l rfl) ?_
    refine v_istore (pc' := 89) (loc' := [.ref r0, .int x1, .int x2, .int x3, .int x4, .int x5, .int x6, .int (if z12 < x7 then z12 else x7), .int x8, .int x9, .int x10, .ref z5, .int z12]) dX9_span_87 rfl (lt_l rfl) rfl ?_
    refine v_iload (pc' := 91) dX9_span_89 rfl rfl ?_
    refine v_iload (pc' := 93) dX9_span_91 rfl rfl ?_
    refine v_mmax (pc' := 96) dX9_span_93 rfl km_X9_363 kx_maxs kx_mi kx_maxc hd (le_l rfl) ?_
    refine v_istore (pc' := 98) (loc' := [.ref r0, .int x1, .int x2, .int x3, .int x4, .int x5, .int x6, .int (if z12 < x7 then z12 else x7), .int (if x8 < z12 then z12 else x8), .int x9, .int x10, .ref z5, .int z12]) dX9_span_96 rfl (lt_l rfl) rfl ?_
    refine v_iload (pc' := 100) dX9_span_98 rfl rfl ?_
    refine v_aload (pc' := 102) dX9_span_100 rfl rfl ?_
    refine v_iconst (pc' := 103) (v := 1) dX9_span_102 rfl kI_1 ?_
    obtain ⟨z15, h14, k16, T⟩ := T
    refine v_callS (pc' := 106) (M1 := mX8_linkedNodes) (as := [.ref z5, .int 1]) (rest := [.int x9]) dX9_span_103 rfl ko_X9_261 kc_X8_linkedNodes kt_X8_linkedNodes (by decide) hdd rfl rfl (le_l rfl) k16 ?_
    refine v_iload (pc' := 108) dX9_span_106 rfl rfl ?_
    refine v_ishr (pc' := 109) dX9_span_108 rfl ?_
    refine v_iconst (pc' := 110) (v := 1) dX9_span_109 rfl kI_1 ?_
    refine v_iand (pc' := 111) dX9_span_110 rfl ?_
    refine v_iadd (pc' := 112) dX9_span_111 rfl ?_
    refine v_istore (pc' := 114) (loc' := [.ref r0, .int x1, .int x2, .int x3, .int x4, .int x5, .int x6, .int (if z12 < x7 then z12 else x7), .int (if x8 < z12 then z12 else x8), .int (x9 + ((z15 >>> (x6 &&& 31)) &&& 1)), .int x10, .ref z5, .int z12]) dX9_span_112 rfl (lt_l rfl) rfl ?_
    refine v_iinc (pc' := 117) (loc' := [.ref r0, .int x1, .int x2, .int x3, .int x4, .int x5, .int x6, .int (if z12 < x7 then z12 else x7), .int (if x8 < z12 then z12 else x8), .int (x9 + ((z15 >>> (x6 &&& 31)) &&& 1)), .int (x10 + 1), .ref z5, .int z12]) dX9_span_114 rfl rfl (kX_1 _) rfl ?_
    refine v_goto (pc' := 50) dX9_span_117 (by decide) ?_
    exact V.drop (llp_r (llp_r (llp_r (llp_r (llp_r (llp_r (llp_r (llp_r (llp_r (llp_r (llp_r (llp_u (llp_u llp_nil))))))))))))) T
theorem eX9_blow {G : GG} {d : Nat} {h : Hp} {o : OU} {h' : Hp} (r0 : Nat) (x1 : Int32) (x2 : Int32) (x3 : Int32) (hd : 1 ≤ d) (T : kH h r0 = 19 ∧ kH h (rH h r0 3) = 5 ∧ vp_in 0 (lH h (rH h r0 3)) ∧ kH h (rH h (rH h r0 3) 0) = 15 ∧ ∃ h4, VM G mX5_copyFrom (d - 1) [.ref (rH h (rH h r0 3) 0), .ref (rH h r0 0)] h (.inl none) h4 ∧ (∀ h7 : Hp, h7 = (nwH h4 17 0 4) → (nH h4) ≠ 0 ∧ ∃ h9, VM G mX7_init (d - 1) [.ref (nH h4), .int x1] h7 (.inl none) h9 ∧ V G mX9_blow d 30 [.ref r0, uV, .int x2, .int x3, .ref (rH h (rH h r0 3) 0), .ref (nH h4), .int 0] [] h9 o h')) : VM G mX9_blow d [.ref r0, .int x1, .int x2, .int x3] h o h' := by
  refine V.toM rfl rfl (le_l rfl) (cat_all rfl) ?_
  show V G mX9_blow d 0 [.ref r0, .int x1, .int x2, .int x3, uV, uV, uV] [] h o h'
  have hdd : d - 1 + 1 ≤ d := by omega
  refine v_aload_n (pc' := 1) dX9_blow_0 rfl rfl ?_
  obtain ⟨q1, T⟩ := T
  refine v_getR (pc' := 4) 9 3 dX9_blow_1 rfl (by decide) (by decide) rfl kf_X9_29 q1 ?_
  refine v_iconst (pc' := 5) (v := 0) dX9_blow_4 rfl kI_0 ?_
  obtain ⟨q2, T⟩ := T
  obtain ⟨q3, T⟩ := T
  refine v_aald (pc' := 6) 5 dX9_blow_5 rfl kN_0 (by decide) q2 q3 ?_
  refine v_astore (pc' := 8) (loc' := [.ref r0, .int x1, .int x2, .int x3, .ref (rH h (rH h r0 3) 0), uV, uV]) dX9_blow_6 rfl (lt_l rfl) rfl ?_
  refine v_aload (pc' := 10) dX9_blow_8 rfl rfl ?_
  refine v_aload_n (pc' := 11) dX9_blow_10 rfl rfl ?_
  refine v_getR (pc' := 14) 9 0 dX9_blow_11 rfl (by decide) (by decide) rfl kf_X9_12 q1 ?_
  obtain ⟨q6, T⟩ := T
  obtain ⟨h4, k5, T⟩ := T
  refine v_callV (pc' := 17) (M1 := mX5_copyFrom) (as := [.ref (rH h r0 0)]) (r := (rH h (rH h r0 3) 0)) (rest := []) 5 dX9_blow_14 rfl ko_X9_326 kc_X5_copyFrom ki_X5_copyFrom ks_X5_copyFrom (by decide) (by decide) hdd rfl rfl (le_l rfl) q6 k5 ?_
  refine v_new (pc' := 20) 7 dX9_blow_17 rfl (by decide) kk_X9_379 kb_X7 kn_X7 ?_
  show V G mX9_blow d 20 [.ref r0, .int x1, .int x2, .int x3, .ref (rH h (rH h r0 3) 0), uV, uV] [.ref (nH h4)] (nwH h4 17 0 4) o h'
  obtain ⟨h7, e8⟩ : ∃ z : Hp, z = (nwH h4 17 0 4) := ⟨_, rfl⟩
  rw [← e8]
  have T := T h7 e8
  refine v_dup (pc' := 21) dX9_blow_20 rfl rfl ?_
  refine v_iload_n (pc' := 22) dX9_blow_21 rfl rfl ?_
  obtain ⟨q11, T⟩ := T
  obtain ⟨h9, k10, T⟩ := T
  refine v_callI (pc' := 25) (M1 := mX7_init) (as := [.int x1]) (r := (nH h4)) (rest := [.ref (nH h4)]) dX9_blow_22 rfl rfl rfl ko_X9_381 kc_X7_init ki_X7_init (by decide) hdd rfl rfl (le_l rfl) q11 k10 ?_
  refine v_astore (pc' := 27) (loc' := [.ref r0, .int x1, .int x2, .int x3, .ref (rH h (rH h r0 3) 0), .ref (nH h4), uV]) dX9_blow_25 rfl (lt_l rfl) rfl ?_
  refine v_iconst (pc' := 28) (v := 0) dX9_blow_27 rfl kI_0 ?_
  refine v_istore (pc' := 30) (loc' := [.ref r0, .int x1, .int x2, .int x3, .ref (rH h (rH h r0 3) 0), .ref (nH h4), .int 0]) dX9_blow_28 rfl (lt_l rfl) rfl ?_
  exact V.drop (llp_r (llp_u (llp_r (llp_r (llp_r (llp_r (llp_r llp_nil))))))) T
theorem bX9_blow_30 {G : GG} {d : Nat} {h : Hp} {o : OU} {h' : Hp} (r0 : Nat) (x2 : Int32) (x3 : Int32) (r4 : Nat) (r5 : Nat) (x6 : Int32) (hd : 1 ≤ d) (T : ((x2 ≤ x6 → (o = .inl (some (.ref r4)) ∧ h' = h)) ∧ (¬ x2 ≤ x6 → kH h r4 = 15 ∧ kH h r5 = 17 ∧ ∃ h3, VM G mX7_drawStep (d - 1) [.ref r5, .int (h.2 r4 0)] h (.inl none) h3 ∧ kH h3 r0 = 19 ∧ kH h3 r5 = 17 ∧ kH h3 (rH h3 r0 5) = 16 ∧ ∃ z9 h8, VM G mX6_take (d - 1) [.ref (rH h3 r0 5), .ref r4, .int (h3.2 r5 1), .int (h3.2 r5 2), .int (h3.2 r5 3), .int 0] h3 (.inl (some (.int z9))) h8 ∧ kH h8 r5 = 17 ∧ ∃ z13 h12, VM G mX7_drawn (d - 1) [.ref r5, .int 16] h8 (.inl (some (.int z13))) h12 ∧ ((x3 ≤ z13 → V G mX9_blow d 30 [.ref r0, uV, .int x2, .int x3, .ref r4, .ref r5, .int (x6 + 1)] [] h12 o h') ∧ (¬ x3 ≤ z13 → kH h12 r4 = 15 ∧ ∃ h17, VM G mX5_crash (d - 1) [.ref r4] h12 (.inl none) h17 ∧ V G mX9_blow d 30 [.ref r0, uV, .int x2, .int x3, .ref r4, .ref r5, .int (x6 + 1)] [] h17 o h'))))) : V G mX9_blow d 30 [.ref r0, uV, .int x2, .int x3, .ref r4, .ref r5, .int x6] [] h o h' := by
  have hdd : d - 1 + 1 ≤ d := by omega
  refine v_iload (pc' := 32) dX9_blow_30 rfl rfl ?_
  refine v_iload_n (pc' := 33) dX9_blow_32 rfl rfl ?_
  refine v_icmp_ge (tgt := 94) (pc' := 36) dX9_blow_33 (by decide) rfl ⟨fun c1 => ?_, fun c1 => ?_⟩
  · have T := T.1 c1
    refine v_aload (pc' := 96) dX9_blow_94 rfl rfl ?_
    exact v_aret dX9_blow_96 rfl T
  · have T := T.2 c1
    refine v_aload (pc' := 38) dX9_blow_36 rfl rfl ?_
    refine v_aload (pc' := 40) dX9_blow_38 rfl rfl ?_
    obtain ⟨q2, T⟩ := T
    refine v_getI (pc' := 43) 5 0 dX9_blow_40 rfl (by decide) (by decide) rfl kf_X9_113 q2 ?_
    obtain ⟨q5, T⟩ := T
    obtain ⟨h3, k4, T⟩ := T
    refine v_callV (pc' := 46) (M1 := mX7_drawStep) (as := [.int (h.2 r4 0)]) (r := r5) (rest := []) 7 dX9_blow_43 rfl ko_X9_383 kc_X7_drawStep ki_X7_drawStep ks_X7_drawStep (by decide) (by decide) hdd rfl rfl (le_l rfl) q5 k4 ?_
    refine v_aload_n (pc' := 47) dX9_blow_46 rfl rfl ?_
    obtain ⟨q6, T⟩ := T
    refine v_getR (pc' := 50) 9 5 dX9_blow_47 rfl (by decide) (by decide) rfl kf_X9_43 q6 ?_
    refine v_aload (pc' := 52) dX9_blow_50 rfl rfl ?_
    refine v_aload (pc' := 54) dX9_blow_52 rfl rfl ?_
    obtain ⟨q7, T⟩ := T
    refine v_getI (pc' := 57) 7 1 dX9_blow_54 rfl (by decide) (by decide) rfl kf_X9_386 q7 ?_
    refine v_aload (pc' := 59) dX9_blow_57 rfl rfl ?_
    refine v_getI (pc' := 62) 7 2 dX9_blow_59 rfl (by decide) (by decide) rfl kf_X9_388 q7 ?_
    refine v_aload (pc' := 64) dX9_blow_62 rfl rfl ?_
    refine v_getI (pc' := 67) 7 3 dX9_blow_64 rfl (by decide) (by decide) rfl kf_X9_390 q7 ?_
    refine v_iconst (pc' := 68) (v := 0) dX9_blow_67 rfl kI_0 ?_
    obtain ⟨q11, T⟩ := T
    obtain ⟨z9, h8, k10, T⟩ := T
    refine v_callV (pc' := 71) (M1 := mX6_take) (as := [.ref r4, .int (h3.2 r5 1), .int (h3.2 r5 2), .int (h3.2 r5 3), .int 0]) (r := (rH h3 r0 5)) (rest := []) 6 dX9_blow_68 rfl ko_X9_135 kc_X6_take ki_X6_take ks_X6_take (by decide) (by decide) hdd rfl rfl (le_l rfl) q11 k10 ?_
    refine v_pop (pc' := 72) dX9_blow_71 rfl rfl ?_
    refine v_aload (pc' := 74) dX9_blow_72 rfl rfl ?_
    refine v_bipush (pc' := 76) (v := 16) dX9_blow_74 rfl kB_16 ?_
    obtain ⟨q15, T⟩ := T
    obtain ⟨z13, h12, k14, T⟩ := T
    refine v_callV (pc' := 79) (M1 := mX7_drawn) (as := [.int 16]) (r := r5) (rest := []) 7 dX9_blow_76 rfl ko_X9_392 kc_X7_drawn ki_X7_drawn ks_X7_drawn (by decide) (by decide) hdd rfl rfl (le_l rfl) q15 k14 ?_
    refine v_iload_n (pc' := 80) dX9_blow_79 rfl rfl ?_
    refine v_icmp_ge (tgt := 88) (pc' := 83) dX9_blow_80 (by decide) rfl ⟨fun c16 => ?_, fun c16 => ?_⟩
    · have T := T.1 c16
      refine v_iinc (pc' := 91) (loc' := [.ref r0, uV, .int x2, .int x3, .ref r4, .ref r5, .int (x6 + 1)]) dX9_blow_88 rfl rfl (kX_1 _) rfl ?_
      refine v_goto (pc' := 30) dX9_blow_91 (by decide) ?_
      exact T
    · have T := T.2 c16
      refine v_aload (pc' := 85) dX9_blow_83 rfl rfl ?_
      obtain ⟨q19, T⟩ := T
      obtain ⟨h17, k18, T⟩ := T
      refine v_callV (pc' := 88) (M1 := mX5_crash) (as := []) (r := r4) (rest := []) 5 dX9_blow_85 rfl ko_X9_349 kc_X5_crash ki_X5_crash ks_X5_crash (by decide) (by decide) hdd rfl rfl (le_l rfl) q19 k18 ?_
      refine v_iinc (pc' := 91) (loc' := [.ref r0, uV, .int x2, .int x3, .ref r4, .ref r5, .int (x6 + 1)]) dX9_blow_88 rfl rfl (kX_1 _) rfl ?_
      refine v_goto (pc' := 30) dX9_blow_91 (by decide) ?_
      exact T
theorem eX9_image {G : GG} {d : Nat} {h : Hp} {o : OU} {h' : Hp} (r0 : Nat) (hd : 1 ≤ d) (T : kH h r0 = 19 ∧ (((h.2 r0 11) < 3 → kH h (rH h r0 2) = 6 ∧ vp_in (h.2 r0 11) (lH h (rH h r0 2)) ∧ ((¬ (rH h (rH h r0 2) (h.2 r0 11).toNatClampNeg) = 0 → kH h (rH h (rH h r0 2) (h.2 r0 11).toNatClampNeg) = 11 ∧ kH h (rH h (rH h (rH h r0 2) (h.2 r0 11).toNatClampNeg) 0) = 15 ∧ ∃ h7, VM G mX5_copyFrom (d - 1) [.ref (rH h (rH h (rH h r0 2) (h.2 r0 11).toNatClampNeg) 0), .ref (rH h r0 0)] h (.inl none) h7 ∧ kH h7 r0 = 19 ∧ kH h7 (rH h7 r0 2) = 6 ∧ vp_in (h7.2 r0 11) (lH h7 (rH h7 r0 2)) ∧ kH h7 (rH h7 (rH h7 r0 2) (h7.2 r0 11).toNatClampNeg) = 11 ∧ kH h7 (rH h7 (rH h7 (rH h7 r0 2) (h7.2 r0 11).toNatClampNeg) 1) = 10 ∧ ∃ h14, VM G mX0_takeOver (d - 1) [.ref (rH h7 (rH h7 (rH h7 r0 2) (h7.2 r0 11).toNatClampNeg) 1), .ref (rH h7 r0 1)] h7 (.inl none) h14 ∧ kH h14 r0 = 19 ∧ (o = .inl (some (.int ((upI h14.2 r0 11 ((h14.2 r0 11) + 1)) r0 11))) ∧ h' = (h14.1, (upI h14.2 r0 11 ((h14.2 r0 11) + 1))))) ∧ ((rH h (rH h r0 2) (h.2 r0 11).toNatClampNeg) = 0 → (∀ h18 : Hp, h18 = (nwH h 11 0 2) → (nH h) ≠ 0 ∧ ∃ h20, VM G mX1_init (d - 1) [.ref (nH h)] h18 (.inl none) h20 ∧ kH h20 (rH h r0 2) = 6 ∧ kH h20 (nH h) = 11 ∧ vp_in (h.2 r0 11) (lH h20 (rH h r0 2)) ∧ (∀ h26 : Hp, h26 = (sR h20 (rH h r0 2) (h.2 r0 11).toNatClampNeg (nH h)) → kH h26 r0 = 19 ∧ kH h26 (rH h26 r0 2) = 6 ∧ vp_in (h26.2 r0 11) (lH h26 (rH h26 r0 2)) ∧ kH h26 (rH h26 (rH h26 r0 2) (h26.2 r0 11).toNatClampNeg) = 11 ∧ kH h26 (rH h26 (rH h26 (rH h26 r0 2) (h26.2 r0 11).toNatClampNeg) 0) = 15 ∧ ∃ h32, VM G mX5_copyFrom (d - 1) [.ref (rH h26 (rH h26 (rH h26 r0 2) (h26.2 r0 11).toNatClampNeg) 0), .ref (rH h26 r0 0)] h26 (.inl none) h32 ∧ kH h32 r0 = 19 ∧ kH h32 (rH h32 r0 2) = 6 ∧ vp_in (h32.2 r0 11) (lH h32 (rH h32 r0 2)) ∧ kH h32 (rH h32 (rH h32 r0 2) (h32.2 r0 11).toNatClampNeg) = 11 ∧ kH h32 (rH h32 (rH h32 (rH h32 r0 2) (h32.2 r0 11).toNatClampNeg) 1) = 10 ∧ ∃ h39, VM G mX0_takeOver (d - 1) [.ref (rH h32 (rH h32 (rH h32 r0 2) (h32.2 r0 11).toNatClampNeg) 1), .ref (rH h32 r0 1)] h32 (.inl none) h39 ∧ kH h39 r0 = 19 ∧ (o = .inl (some (.int ((upI h39.2 r0 11 ((h39.2 r0 11) + 1)) r0 11))) ∧ h' = (h39.1, (upI h39.2 r0 11 ((h39.2 r0 11) + 1))))))))) ∧ (¬ (h.2 r0 11) < 3 → (o = .inl (some (.int (-1))) ∧ h' = h)))) : VM G mX9_image d [.ref r0] h o h' := by
  refine V.toM rfl rfl (le_l rfl) (cat_all rfl) ?_
  show V G mX9_image d 0 [.ref r0] [] h o h'
  have hdd : d - 1 + 1 ≤ d := by omega
  refine v_aload_n (pc' := 1) dX9_image_0 rfl rfl ?_
  obtain ⟨q1, T⟩ := T
  refine v_getI (pc' := 4) 9 11 dX9_image_1 rfl (by decide) (by decide) rfl kf_X9_107 q1 ?_
  refine v_iconst (pc' := 5) (v := 3) dX9_image_4 rfl kI_3 ?_
  refine v_icmp_lt (tgt := 10) (pc' := 8) dX9_image_5 (by decide) rfl ⟨fun c2 => ?_, fun c2 => ?_⟩
  · have T := T.1 c2
    refine v_aload_n (pc' := 11) dX9_image_10 rfl rfl ?_
    refine v_getR (pc' := 14) 9 2 dX9_image_11 rfl (by decide) (by decide) rfl kf_X9_25 q1 ?_
    refine v_aload_n (pc' := 15) dX9_image_14 rfl rfl ?_
    refine v_getI (pc' := 18) 9 11 dX9_image_15 rfl (by decide) (by decide) rfl kf_X9_107 q1 ?_
    obtain ⟨q3, T⟩ := T
    obtain ⟨q4, T⟩ := T
    refine v_aald (pc' := 19) 6 dX9_image_18 rfl rfl (by decide) q3 q4 ?_
    refine v_ifnonnull (tgt := 38) (pc' := 22) dX9_image_19 (by decide) rfl ⟨fun c5 => ?_, fun c5 => ?_⟩
    · have T := T.1 c5
      refine v_aload_n (pc' := 39) dX9_image_38 rfl rfl ?_
      refine v_getR (pc' := 42) 9 2 dX9_image_39 rfl (by decide) (by decide) rfl kf_X9_25 q1 ?_
      refine v_aload_n (pc' := 43) dX9_image_42 rfl rfl ?_
      refine v_getI (pc' := 46) 9 11 dX9_image_43 rfl (by decide) (by decide) rfl kf_X9_107 q1 ?_
      refine v_aald (pc' := 47) 6 dX9_image_46 rfl rfl (by decide) q3 q4 ?_
      obtain ⟨q6, T⟩ := T
      refine v_getR (pc' := 50) 1 0 dX9_image_47 rfl (by decide) (by decide) rfl kf_X9_396 q6 ?_
      refine v_aload_n (pc' := 51) dX9_image_50 rfl rfl ?_
      refine v_getR (pc' := 54) 9 0 dX9_image_51 rfl (by decide) (by decide) rfl kf_X9_12 q1 ?_
      obtain ⟨q9, T⟩ := T
      obtain ⟨h7, k8, T⟩ := T
      refine v_callV (pc' := 57) (M1 := mX5_copyFrom) (as := [.ref (rH h r0 0)]) (r := (rH h (rH h (rH h r0 2) (h.2 r0 11).toNatClampNeg) 0)) (rest := []) 5 dX9_image_54 rfl ko_X9_326 kc_X5_copyFrom ki_X5_copyFrom ks_X5_copyFrom (by decide) (by decide) hdd rfl rfl (le_l rfl) q9 k8 ?_
      refine v_aload_n (pc' := 58) dX9_image_57 rfl rfl ?_
      obtain ⟨q10, T⟩ := T
      refine v_getR (pc' := 61) 9 2 dX9_image_58 rfl (by decide) (by decide) rfl kf_X9_25 q10 ?_
      refine v_aload_n (pc' := 62) dX9_image_61 rfl rfl ?_
      refine v_getI (pc' := 65) 9 11 dX9_image_62 rfl (by decide) (by decide) rfl kf_X9_107 q10 ?_
      obtain ⟨q11, T⟩ := T
      obtain ⟨q12, T⟩ := T
      refine v_aald (pc' := 66) 6 dX9_image_65 rfl rfl (by decide) q11 q12 ?_
      obtain ⟨q13, T⟩ := T
      refine v_getR (pc' := 69) 1 1 dX9_image_66 rfl (by decide) (by decide) rfl kf_X9_399 q13 ?_
      refine v_aload_n (pc' := 70) dX9_image_69 rfl rfl ?_
      refine v_getR (pc' := 73) 9 1 dX9_image_70 rfl (by decide) (by decide) rfl kf_X9_19 q10 ?_
      obtain ⟨q16, T⟩ := T
      obtain ⟨h14, k15, T⟩ := T
      refine v_callV (pc' := 76) (M1 := mX0_takeOver) (as := [.ref (rH h7 r0 1)]) (r := (rH h7 (rH h7 (rH h7 r0 2) (h7.2 r0 11).toNatClampNeg) 1)) (rest := []) 0 dX9_image_73 rfl ko_X9_400 kc_X0_takeOver ki_X0_takeOver ks_X0_takeOver (by decide) (by decide) hdd rfl rfl (le_l rfl) q16 k15 ?_
      refine v_aload_n (pc' := 77) dX9_image_76 rfl rfl ?_
      refine v_dup (pc' := 78) dX9_image_77 rfl rfl ?_
      obtain ⟨q17, T⟩ := T
      refine v_getI (pc' := 81) 9 11 dX9_image_78 rfl (by decide) (by decide) rfl kf_X9_107 q17 ?_
      refine v_iconst (pc' := 82) (v := 1) dX9_image_81 rfl kI_1 ?_
      refine v_iadd (pc' := 83) dX9_image_82 rfl ?_
      refine v_putI (pc' := 86) 9 11 dX9_image_83 rfl (by decide) (by decide) rfl rfl kf_X9_107 q17 ?_
      refine v_aload_n (pc' := 87) dX9_image_86 rfl rfl ?_
      refine v_getI (pc' := 90) 9 11 dX9_image_87 rfl (by decide) (by decide) rfl kf_X9_107 q17 ?_
      exact v_iret dX9_image_90 rfl T
    · have T := T.2 c5
      refine v_aload_n (pc' := 23) dX9_image_22 rfl rfl ?_
      refine v_getR (pc' := 26) 9 2 dX9_image_23 rfl (by decide) (by decide) rfl kf_X9_25 q1 ?_
      refine v_aload_n (pc' := 27) dX9_image_26 rfl rfl ?_
      refine v_getI (pc' := 30) 9 11 dX9_image_27 rfl (by decide) (by decide) rfl kf_X9_107 q1 ?_
      refine v_new (pc' := 33) 1 dX9_image_30 rfl (by decide) kk_X9_23 kb_X1 kn_X1 ?_
      show V G mX9_image d 33 [.ref r0] [.ref (nH h), .int (h.2 r0 11), .ref (rH h r0 2)] (nwH h 11 0 2) o h'
      obtain ⟨h18, e19⟩ : ∃ z : Hp, z = (nwH h 11 0 2) := ⟨_, rfl⟩
      rw [← e19]
      have T := T h18 e19
      refine v_dup (pc' := 34) dX9_image_33 rfl rfl ?_
      obtain ⟨q22, T⟩ := T
      obtain ⟨h20, k21, T⟩ := T
      refine v_callN (pc' := 37) (M1 := mX1_init) (as := []) (r := (nH h)) (rest := [.ref (nH h), .int (h.2 r0 11), .ref (rH h r0 2)]) RX9 dX9_image_34 rfl rfl rfl (by decide) kn_X1 (by decide +kernel) kc_X1_init ki_X1_init (by decide) hdd rfl rfl (le_l rfl) q22 k21 ?_
      obtain ⟨q23, T⟩ := T
      obtain ⟨q24, T⟩ := T
      obtain ⟨q25, T⟩ := T
      refine v_aast (pc' := 38) 6 1 dX9_image_37 rfl rfl (by decide) (by decide) rfl q23 q24 q25 ?_
      show V G mX9_image d 38 [.ref r0] [] (sR h20 (rH h r0 2) (h.2 r0 11).toNatClampNeg (nH h)) o h'
      obtain ⟨h26, e27⟩ : ∃ z : Hp, z = (sR h20 (rH h r0 2) (h.2 r0 11).toNatClampNeg (nH h)) := ⟨_, rfl⟩
      rw [← e27]
      have T := T h26 e27
      refine v_aload_n (pc' := 39) dX9_image_38 rfl rfl ?_
      obtain ⟨q28, T⟩ := T
      refine v_getR (pc' := 42) 9 2 dX9_image_39 rfl (by decide) (by decide) rfl kf_X9_25 q28 ?_
      refine v_aload_n (pc' := 43) dX9_image_42 rfl rfl ?_
      refine v_getI (pc' := 46) 9 11 dX9_image_43 rfl (by decide) (by decide) rfl kf_X9_107 q28 ?_
      obtain ⟨q29, T⟩ := T
      obtain ⟨q30, T⟩ := T
      refine v_aald (pc' := 47) 6 dX9_image_46 rfl rfl (by decide) q29 q30 ?_
      obtain ⟨q31, T⟩ := T
      refine v_getR (pc' := 50) 1 0 dX9_image_47 rfl (by decide) (by decide) rfl kf_X9_396 q31 ?_
      refine v_aload_n (pc' := 51) dX9_image_50 rfl rfl ?_
      refine v_getR (pc' := 54) 9 0 dX9_image_51 rfl (by decide) (by decide) rfl kf_X9_12 q28 ?_
      obtain ⟨q34, T⟩ := T
      obtain ⟨h32, k33, T⟩ := T
      refine v_callV (pc' := 57) (M1 := mX5_copyFrom) (as := [.ref (rH h26 r0 0)]) (r := (rH h26 (rH h26 (rH h26 r0 2) (h26.2 r0 11).toNatClampNeg) 0)) (rest := []) 5 dX9_image_54 rfl ko_X9_326 kc_X5_copyFrom ki_X5_copyFrom ks_X5_copyFrom (by decide) (by decide) hdd rfl rfl (le_l rfl) q34 k33 ?_
      refine v_aload_n (pc' := 58) dX9_image_57 rfl rfl ?_
      obtain ⟨q35, T⟩ := T
      refine v_getR (pc' := 61) 9 2 dX9_image_58 rfl (by decide) (by decide) rfl kf_X9_25 q35 ?_
      refine v_aload_n (pc' := 62) dX9_image_61 rfl rfl ?_
      refine v_getI (pc' := 65) 9 11 dX9_image_62 rfl (by decide) (by decide) rfl kf_X9_107 q35 ?_
      obtain ⟨q36, T⟩ := T
      obtain ⟨q37, T⟩ := T
      refine v_aald (pc' := 66) 6 dX9_image_65 rfl rfl (by decide) q36 q37 ?_
      obtain ⟨q38, T⟩ := T
      refine v_getR (pc' := 69) 1 1 dX9_image_66 rfl (by decide) (by decide) rfl kf_X9_399 q38 ?_
      refine v_aload_n (pc' := 70) dX9_image_69 rfl rfl ?_
      refine v_getR (pc' := 73) 9 1 dX9_image_70 rfl (by decide) (by decide) rfl kf_X9_19 q35 ?_
      obtain ⟨q41, T⟩ := T
      obtain ⟨h39, k40, T⟩ := T
      refine v_callV (pc' := 76) (M1 := mX0_takeOver) (as := [.ref (rH h32 r0 1)]) (r := (rH h32 (rH h32 (rH h32 r0 2) (h32.2 r0 11).toNatClampNeg) 1)) (rest := []) 0 dX9_image_73 rfl ko_X9_400 kc_X0_takeOver ki_X0_takeOver ks_X0_takeOver (by decide) (by decide) hdd rfl rfl (le_l rfl) q41 k40 ?_
      refine v_aload_n (pc' := 77) dX9_image_76 rfl rfl ?_
      refine v_dup (pc' := 78) dX9_image_77 rfl rfl ?_
      obtain ⟨q42, T⟩ := T
      refine v_getI (pc' := 81) 9 11 dX9_image_78 rfl (by decide) (by decide) rfl kf_X9_107 q42 ?_
      refine v_iconst (pc' := 82) (v := 1) dX9_image_81 rfl kI_1 ?_
      refine v_iadd (pc' := 83) dX9_image_82 rfl ?_
      refine v_putI (pc' := 86) 9 11 dX9_image_83 rfl (by decide) (by decide) rfl rfl kf_X9_107 q42 ?_
      refine v_aload_n (pc' := 87) dX9_image_86 rfl rfl ?_
      refine v_getI (pc' := 90) 9 11 dX9_image_87 rfl (by decide) (by decide) rfl kf_X9_107 q42 ?_
      exact v_iret dX9_image_90 rfl T
  · have T := T.2 c2
    refine v_iconst (pc' := 9) (v := (-1)) dX9_image_8 rfl kI_m1 ?_
    exact v_iret dX9_image_9 rfl T
theorem eX9_restore {G : GG} {d : Nat} {h : Hp} {o : OU} {h' : Hp} (r0 : Nat) (hd : 1 ≤ d) (T : kH h r0 = 19 ∧ (((h.2 r0 11) ≤ 0 → (o = .inl (some (.int (-1))) ∧ h' = h)) ∧ (¬ (h.2 r0 11) ≤ 0 → kH h (rH h r0 2) = 6 ∧ vp_in ((h.2 r0 11) - 1) (lH h (rH h r0 2)) ∧ ((¬ (rH h (rH h r0 2) ((h.2 r0 11) - 1).toNatClampNeg) = 0 → vp_in ((upI h.2 r0 11 ((h.2 r0 11) - 1)) r0 11) (lH h (rH h r0 2)) ∧ kH h (rH h (rH h r0 2) ((upI h.2 r0 11 ((h.2 r0 11) - 1)) r0 11).toNatClampNeg) = 11 ∧ kH h (rH h r0 0) = 15 ∧ ∃ h8, VM G mX5_copyFrom (d - 1) [.ref (rH h r0 0), .ref (rH h (rH h (rH h r0 2) ((upI h.2 r0 11 ((h.2 r0 11) - 1)) r0 11).toNatClampNeg) 0)] (h.1, (upI h.2 r0 11 ((h.2 r0 11) - 1))) (.inl none) h8 ∧ kH h8 r0 = 19 ∧ kH h8 (rH h8 r0 2) = 6 ∧ vp_in (h8.2 r0 11) (lH h8 (rH h8 r0 2)) ∧ kH h8 (rH h8 (rH h8 r0 2) (h8.2 r0 11).toNatClampNeg) = 11 ∧ kH h8 (rH h8 r0 1) = 10 ∧ ∃ h15, VM G mX0_takeOver (d - 1) [.ref (rH h8 r0 1), .ref (rH h8 (rH h8 (rH h8 r0 2) (h8.2 r0 11).toNatClampNeg) 1)] h8 (.inl none) h15 ∧ kH h15 r0 = 19 ∧ (o = .inl (some (.int ((upI h15.2 r0 15 0) r0 11))) ∧ h' = (h15.1, (upI h15.2 r0 15 0)))) ∧ ((rH h (rH h r0 2) ((h.2 r0 11) - 1).toNatClampNeg) = 0 → (o = .inl (some (.int (-1))) ∧ h' = h)))))) : VM G mX9_restore d [.ref r0] h o h' := by
  refine V.toM rfl rfl (le_l rfl) (cat_all rfl) ?_
  show V G mX9_restore d 0 [.ref r0] [] h o h'
  have hdd : d - 1 + 1 ≤ d := by omega
  refine v_aload_n (pc' := 1) dX9_restore_0 rfl rfl ?_
  obtain ⟨q1, T⟩ := T
  refine v_getI (pc' := 4) 9 11 dX9_restore_1 rfl (by decide) (by decide) rfl kf_X9_107 q1 ?_
  refine v_if_le (tgt := 21) (pc' := 7) dX9_restore_4 (by decide) rfl ⟨fun c2 => ?_, fun c2 => ?_⟩
  · have T := T.1 c2
    refine v_iconst (pc' := 22) (v := (-1)) dX9_restore_21 rfl kI_m1 ?_
    exact v_iret dX9_restore_22 rfl T
  · have T := T.2 c2
    refine v_aload_n (pc' := 8) dX9_restore_7 rfl rfl ?_
    refine v_getR (pc' := 11) 9 2 dX9_restore_8 rfl (by decide) (by decide) rfl kf_X9_25 q1 ?_
    refine v_aload_n (pc' := 12) dX9_restore_11 rfl rfl ?_
    refine v_getI (pc' := 15) 9 11 dX9_restore_12 rfl (by decide) (by decide) rfl kf_X9_107 q1 ?_
    refine v_iconst (pc' := 16) (v := 1) dX9_restore_15 rfl kI_1 ?_
    refine v_isub (pc' := 17) dX9_restore_16 rfl ?_
    obtain ⟨q3, T⟩ := T
    obtain ⟨q4, T⟩ := T
    refine v_aald (pc' := 18) 6 dX9_restore_17 rfl rfl (by decide) q3 q4 ?_
    refine v_ifnonnull (tgt := 23) (pc' := 21) dX9_restore_18 (by decide) rfl ⟨fun c5 => ?_, fun c5 => ?_⟩
    · have T := T.1 c5
      refine v_aload_n (pc' := 24) dX9_restore_23 rfl rfl ?_
      refine v_dup (pc' := 25) dX9_restore_24 rfl rfl ?_
      refine v_getI (pc' := 28) 9 11 dX9_restore_25 rfl (by decide) (by decide) rfl kf_X9_107 q1 ?_
      refine v_iconst (pc' := 29) (v := 1) dX9_restore_28 rfl kI_1 ?_
      refine v_isub (pc' := 30) dX9_restore_29 rfl ?_
      refine v_putI (pc' := 33) 9 11 dX9_restore_30 rfl (by decide) (by decide) rfl rfl kf_X9_107 q1 ?_
      refine v_aload_n (pc' := 34) dX9_restore_33 rfl rfl ?_
      refine v_getR (pc' := 37) 9 0 dX9_restore_34 rfl (by decide) (by decide) rfl kf_X9_12 q1 ?_
      refine v_aload_n (pc' := 38) dX9_restore_37 rfl rfl ?_
      refine v_getR (pc' := 41) 9 2 dX9_restore_38 rfl (by decide) (by decide) rfl kf_X9_25 q1 ?_
      refine v_aload_n (pc' := 42) dX9_restore_41 rfl rfl ?_
      refine v_getI (pc' := 45) 9 11 dX9_restore_42 rfl (by decide) (by decide) rfl kf_X9_107 q1 ?_
      obtain ⟨q6, T⟩ := T
      refine v_aald (pc' := 46) 6 dX9_restore_45 rfl rfl (by decide) q3 q6 ?_
      obtain ⟨q7, T⟩ := T
      refine v_getR (pc' := 49) 1 0 dX9_restore_46 rfl (by decide) (by decide) rfl kf_X9_396 q7 ?_
      obtain ⟨q10, T⟩ := T
      obtain ⟨h8, k9, T⟩ := T
      refine v_callV (pc' := 52) (M1 := mX5_copyFrom) (as := [.ref (rH h (rH h (rH h r0 2) ((upI h.2 r0 11 ((h.2 r0 11) - 1)) r0 11).toNatClampNeg) 0)]) (r := (rH h r0 0)) (rest := []) 5 dX9_restore_49 rfl ko_X9_326 kc_X5_copyFrom ki_X5_copyFrom ks_X5_copyFrom (by decide) (by decide) hdd rfl rfl (le_l rfl) q10 k9 ?_
      refine v_aload_n (pc' := 53) dX9_restore_52 rfl rfl ?_
      obtain ⟨q11, T⟩ := T
      refine v_getR (pc' := 56) 9 1 dX9_restore_53 rfl (by decide) (by decide) rfl kf_X9_19 q11 ?_
      refine v_aload_n (pc' := 57) dX9_restore_56 rfl rfl ?_
      refine v_getR (pc' := 60) 9 2 dX9_restore_57 rfl (by decide) (by decide) rfl kf_X9_25 q11 ?_
      refine v_aload_n (pc' := 61) dX9_restore_60 rfl rfl ?_
      refine v_getI (pc' := 64) 9 11 dX9_restore_61 rfl (by decide) (by decide) rfl kf_X9_107 q11 ?_
      obtain ⟨q12, T⟩ := T
      obtain ⟨q13, T⟩ := T
      refine v_aald (pc' := 65) 6 dX9_restore_64 rfl rfl (by decide) q12 q13 ?_
      obtain ⟨q14, T⟩ := T
      refine v_getR (pc' := 68) 1 1 dX9_restore_65 rfl (by decide) (by decide) rfl kf_X9_399 q14 ?_
      obtain ⟨q17, T⟩ := T
      obtain ⟨h15, k16, T⟩ := T
      refine v_callV (pc' := 71) (M1 := mX0_takeOver) (as := [.ref (rH h8 (rH h8 (rH h8 r0 2) (h8.2 r0 11).toNatClampNeg) 1)]) (r := (rH h8 r0 1)) (rest := []) 0 dX9_restore_68 rfl ko_X9_400 kc_X0_takeOver ki_X0_takeOver ks_X0_takeOver (by decide) (by decide) hdd rfl rfl (le_l rfl) q17 k16 ?_
      refine v_aload_n (pc' := 72) dX9_restore_71 rfl rfl ?_
      refine v_iconst (pc' := 73) (v := 0) dX9_restore_72 rfl kI_0 ?_
      obtain ⟨q18, T⟩ := T
      refine v_putI (pc' := 76) 9 15 dX9_restore_73 rfl (by decide) (by decide) rfl rfl kf_X9_110 q18 ?_
      refine v_aload_n (pc' := 77) dX9_restore_76 rfl rfl ?_
      refine v_getI (pc' := 80) 9 11 dX9_restore_77 rfl (by decide) (by decide) rfl kf_X9_107 q18 ?_
      exact v_iret dX9_restore_80 rfl T
    · have T := T.2 c5
      refine v_iconst (pc' := 22) (v := (-1)) dX9_restore_21 rfl kI_m1 ?_
      exact v_iret dX9_restore_22 rfl T
theorem eX9_status {G : GG} {d : Nat} {h : Hp} {o : OU} {h' : Hp} (r0 : Nat) (x1 : Int32) (T : ((x1 < 0 → (o = .inl (some (.int (-1))) ∧ h' = h)) ∧ (¬ x1 < 0 → kH h r0 = 19 ∧ kH h (rH h r0 10) = 1 ∧ ((((lH h (rH h r0 10)).toInt32) ≤ x1 → (o = .inl (some (.int (-1))) ∧ h' = h)) ∧ (¬ ((lH h (rH h r0 10)).toInt32) ≤ x1 → vp_in x1 (lH h (rH h r0 10)) ∧ (o = .inl (some (.int (h.2 (rH h r0 10) x1.toNatClampNeg))) ∧ h' = h)))))) : VM G mX9_status d [.ref r0, .int x1] h o h' := by
  refine V.toM rfl rfl (le_l rfl) (cat_all rfl) ?_
  show V G mX9_status d 0 [.ref r0, .int x1] [] h o h'
  refine v_iload_n (pc' := 1) dX9_status_0 rfl rfl ?_
  refine v_if_lt (tgt := 22) (pc' := 4) dX9_status_1 (by decide) rfl ⟨fun c1 => ?_, fun c1 => ?_⟩
  · have T := T.1 c1
    refine v_iconst (pc' := 23) (v := (-1)) dX9_status_22 rfl kI_m1 ?_
    exact v_iret dX9_status_23 rfl T
  · have T := T.2 c1
    refine v_iload_n (pc' := 5) dX9_status_4 rfl rfl ?_
    refine v_aload_n (pc' := 6) dX9_status_5 rfl rfl ?_
    obtain ⟨q2, T⟩ := T
    refine v_getR (pc' := 9) 9 10 dX9_status_6 rfl (by decide) (by decide) rfl kf_X9_68 q2 ?_
    obtain ⟨q3, T⟩ := T
    refine v_alen (pc' := 10) dX9_status_9 rfl q3 (by decide) rfl ?_
    refine v_icmp_ge (tgt := 22) (pc' := 13) dX9_status_10 (by decide) rfl ⟨fun c4 => ?_, fun c4 => ?_⟩
    · have T := T.1 c4
      refine v_iconst (pc' := 23) (v := (-1)) dX9_status_22 rfl kI_m1 ?_
      exact v_iret dX9_status_23 rfl T
    · have T := T.2 c4
      refine v_aload_n (pc' := 14) dX9_status_13 rfl rfl ?_
      refine v_getR (pc' := 17) 9 10 dX9_status_14 rfl (by decide) (by decide) rfl kf_X9_68 q2 ?_
      refine v_iload_n (pc' := 18) dX9_status_17 rfl rfl ?_
      obtain ⟨q5, T⟩ := T
      refine v_iald (pc' := 19) dX9_status_18 rfl rfl q3 q5 ?_
      refine v_goto (pc' := 23) dX9_status_19 (by decide) ?_
      exact v_iret dX9_status_23 rfl T
theorem eX9_count {G : GG} {d : Nat} {h : Hp} {o : OU} {h' : Hp} (r0 : Nat) (x1 : Int32) (T : ((x1 = 0 → kH h r0 = 19 ∧ (o = .inl (some (.int (h.2 r0 11))) ∧ h' = h)) ∧ (x1 = 1 → kH h r0 = 19 ∧ (o = .inl (some (.int (h.2 r0 12))) ∧ h' = h)) ∧ (x1 = 2 → kH h r0 = 19 ∧ kH h (rH h r0 1) = 10 ∧ (o = .inl (some (.int (h.2 (rH h r0 1) 1))) ∧ h' = h)) ∧ (¬ x1 = 0 → ¬ x1 = 1 → ¬ x1 = 2 → (o = .inl (some (.int (-1))) ∧ h' = h)))) : VM G mX9_count d [.ref r0, .int x1] h o h' := by
  refine V.toM rfl rfl (le_l rfl) (cat_all rfl) ?_
  show V G mX9_count d 0 [.ref r0, .int x1] [] h o h'
  refine v_iload_n (pc' := 1) dX9_count_0 rfl rfl ?_
  by_cases c1 : x1 = 0
  · have T := T.1 c1
    refine v_switchIn (off := 27) (pc' := 28) dX9_count_1 (by rw [c1]; decide) (by rw [c1]; decide) (by rw [c1]; rfl) (by decide) ?_
    refine v_aload_n (pc' := 29) dX9_count_28 rfl rfl ?_
    obtain ⟨q2, T⟩ := T
    refine v_getI (pc' := 32) 9 11 dX9_count_29 rfl (by decide) (by decide) rfl kf_X9_107 q2 ?_
    exact v_iret dX9_count_32 rfl T
  by_cases c3 : x1 = 1
  · have T := T.2.1 c3
    refine v_switchIn (off := 32) (pc' := 33) dX9_count_1 (by rw [c3]; decide) (by rw [c3]; decide) (by rw [c3]; rfl) (by decide) ?_
    refine v_aload_n (pc' := 34) dX9_count_33 rfl rfl ?_
    obtain ⟨q4, T⟩ := T
    refine v_getI (pc' := 37) 9 12 dX9_count_34 rfl (by decide) (by decide) rfl kf_X9_78 q4 ?_
    exact v_iret dX9_count_37 rfl T
  by_cases c5 : x1 = 2
  · have T := T.2.2.1 c5
    refine v_switchIn (off := 37) (pc' := 38) dX9_count_1 (by rw [c5]; decide) (by rw [c5]; decide) (by rw [c5]; rfl) (by decide) ?_
    refine v_aload_n (pc' := 39) dX9_count_38 rfl rfl ?_
    obtain ⟨q6, T⟩ := T
    refine v_getR (pc' := 42) 9 1 dX9_count_39 rfl (by decide) (by decide) rfl kf_X9_19 q6 ?_
    obtain ⟨q7, T⟩ := T
    refine v_getI (pc' := 45) 0 1 dX9_count_42 rfl (by decide) (by decide) rfl kf_X9_104 q7 ?_
    exact v_iret dX9_count_45 rfl T
  have T := T.2.2.2 c1 c3 c5
  refine v_switchOut (pc' := 46) dX9_count_1 (sw_out (n := 2) (by decide) (fun k hk => by rcases (show k = 0 ∨ k = 1 ∨ k = 2 by omega) with rfl | rfl | rfl <;> assumption)) (by decide) ?_
  refine v_iconst (pc' := 47) (v := (-1)) dX9_count_46 rfl kI_m1 ?_
  exact v_iret dX9_count_47 rfl T
theorem eX9_testWhat {G : GG} {d : Nat} {h : Hp} {o : OU} {h' : Hp} (r0 : Nat) (x1 : Int32) (x2 : Int32) (hd : 1 ≤ d) (T : kH h r0 = 19 ∧ ((∃ h1, VM G mX9_testRange (d - 1) [.ref r0, .int x1, .int 0, .int x2] h (.inl none) h1 ∧ (o = .inl none ∧ h' = h1)) ∨ ∃ E, o = .inr E ∧ VM G mX9_testRange (d - 1) [.ref r0, .int x1, .int 0, .int x2] h (.inr E) h')) : VM G mX9_testWhat d [.ref r0, .int x1, .int x2] h o h' := by
  refine V.toM rfl rfl (le_l rfl) (cat_all rfl) ?_
  show V G mX9_testWhat d 0 [.ref r0, .int x1, .int x2] [] h o h'
  have hdd : d - 1 + 1 ≤ d := by omega
  refine v_aload_n (pc' := 1) dX9_testWhat_0 rfl rfl ?_
  refine v_iload_n (pc' := 2) dX9_testWhat_1 rfl rfl ?_
  refine v_iconst (pc' := 3) (v := 0) dX9_testWhat_2 rfl kI_0 ?_
  refine v_iload_n (pc' := 4) dX9_testWhat_3 rfl rfl ?_
  obtain ⟨q3, T⟩ := T
  rcases T with T | ⟨E, rfl, k2⟩
  · obtain ⟨h1, k2, T⟩ := T
    refine v_callV (pc' := 7) (M1 := mX9_testRange) (as := [.int x1, .int 0, .int x2]) (r := r0) (rest := []) 9 dX9_testWhat_4 rfl ko_X9_368 kc_X9_testRange ki_X9_testRange ks_X9_testRange (by decide) (by decide) hdd rfl rfl (le_l rfl) q3 k2 ?_
    exact v_vret dX9_testWhat_7 rfl T
  · exact v_callVx (M1 := mX9_testRange) (as := [.int x1, .int 0, .int x2]) (r := r0) (rest := []) 9 dX9_testWhat_4 rfl ko_X9_368 kc_X9_testRange ki_X9_testRange ks_X9_testRange (by decide) (by decide) hdd rfl rfl (le_l rfl) q3 k2
