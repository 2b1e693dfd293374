theorem dX10_thrown_0 : decode cX10_thrown 0 = .ok (.aload_n 0, 1) := by decide +kernel
theorem dX10_thrown_1 : decode cX10_thrown 1 = .ok (.getfield 72, 3) := by decide +kernel
theorem dX10_thrown_4 : decode cX10_thrown 4 = .ok (.ireturn, 1) := by decide +kernel
theorem dX10_bad_0 : decode cX10_bad 0 = .ok (.iload_n 1, 1) := by decide +kernel
theorem dX10_bad_1 : decode cX10_bad 1 = .ok (.ifCond .eq 25, 3) := by decide +kernel
theorem dX10_bad_4 : decode cX10_bad 4 = .ok (.aload_n 0, 1) := by decide +kernel
theorem dX10_bad_5 : decode cX10_bad 5 = .ok (.getfield 72, 3) := by decide +kernel
theorem dX10_bad_8 : decode cX10_bad 8 = .ok (.ifCond .ne 18, 3) := by decide +kernel
theorem dX10_bad_11 : decode cX10_bad 11 = .ok (.aload_n 0, 1) := by decide +kernel
theorem dX10_bad_12 : decode cX10_bad 12 = .ok (.iload_n 2, 1) := by decide +kernel
theorem dX10_bad_13 : decode cX10_bad 13 = .ok (.putfield 72, 3) := by decide +kernel
theorem dX10_bad_16 : decode cX10_bad 16 = .ok (.aload_n 0, 1) := by decide +kernel
theorem dX10_bad_17 : decode cX10_bad 17 = .ok (.getfield 17, 3) := by decide +kernel
theorem dX10_bad_20 : decode cX10_bad 20 = .ok (.iload_n 3, 1) := by decide +kernel
theorem dX10_bad_21 : decode cX10_bad 21 = .ok (.dup2, 1) := by decide +kernel
theorem dX10_bad_22 : decode cX10_bad 22 = .ok (.iaload, 1) := by decide +kernel
theorem dX10_bad_23 : decode cX10_bad 23 = .ok (.iconst 1, 1) := by decide +kernel
theorem dX10_bad_24 : decode cX10_bad 24 = .ok (.iadd, 1) := by decide +kernel
theorem dX10_bad_25 : decode cX10_bad 25 = .ok (.iastore, 1) := by decide +kernel
theorem dX10_bad_26 : decode cX10_bad 26 = .ok (.aload_n 0, 1) := by decide +kernel
theorem dX10_bad_27 : decode cX10_bad 27 = .ok (.getfield 72, 3) := by decide +kernel
theorem dX10_bad_30 : decode cX10_bad 30 = .ok (.ifCond .eq 7, 3) := by decide +kernel
theorem dX10_bad_33 : decode cX10_bad 33 = .ok (.iconst 1, 1) := by decide +kernel
theorem dX10_bad_34 : decode cX10_bad 34 = .ok (.goto 4, 3) := by decide +kernel
theorem dX10_bad_37 : decode cX10_bad 37 = .ok (.iconst 0, 1) := by decide +kernel
theorem dX10_bad_38 : decode cX10_bad 38 = .ok (.ireturn, 1) := by decide +kernel
theorem dX10_in_0 : decode cX10_in 0 = .ok (.iload_n 0, 1) := by decide +kernel
theorem dX10_in_1 : decode cX10_in 1 = .ok (.iload_n 1, 1) := by decide +kernel
theorem dX10_in_2 : decode cX10_in 2 = .ok (.if_icmp .lt 12, 3) := by decide +kernel
theorem dX10_in_5 : decode cX10_in 5 = .ok (.iload_n 0, 1) := by decide +kernel
theorem dX10_in_6 : decode cX10_in 6 = .ok (.iload_n 2, 1) := by decide +kernel
theorem dX10_in_7 : decode cX10_in 7 = .ok (.if_icmp .gt 7, 3) := by decide +kernel
theorem dX10_in_10 : decode cX10_in 10 = .ok (.iconst 1, 1) := by decide +kernel
theorem dX10_in_11 : decode cX10_in 11 = .ok (.goto 4, 3) := by decide +kernel
theorem dX10_in_14 : decode cX10_in 14 = .ok (.iconst 0, 1) := by decide +kernel
theorem dX10_in_15 : decode cX10_in 15 = .ok (.ireturn, 1) := by decide +kernel
theorem dX10_less_0 : decode cX10_less 0 = .ok (.iload_n 0, 1) := by decide +kernel
theorem dX10_less_1 : decode cX10_less 1 = .ok (.iload_n 1, 1) := by decide +kernel
theorem dX10_less_2 : decode cX10_less 2 = .ok (.if_icmp .ge 7, 3) := by decide +kernel
theorem dX10_less_5 : decode cX10_less 5 = .ok (.iload_n 0, 1) := by decide +kernel
theorem dX10_less_6 : decode cX10_less 6 = .ok (.goto 4, 3) := by decide +kernel
theorem dX10_less_9 : decode cX10_less 9 = .ok (.iload_n 1, 1) := by decide +kernel
theorem dX10_less_10 : decode cX10_less 10 = .ok (.ireturn, 1) := by decide +kernel
theorem dX10_more_0 : decode cX10_more 0 = .ok (.iload_n 0, 1) := by decide +kernel
theorem dX10_more_1 : decode cX10_more 1 = .ok (.iload_n 1, 1) := by decide +kernel
theorem dX10_more_2 : decode cX10_more 2 = .ok (.if_icmp .le 7, 3) := by decide +kernel
theorem dX10_more_5 : decode cX10_more 5 = .ok (.iload_n 0, 1) := by decide +kernel
theorem dX10_more_6 : decode cX10_more 6 = .ok (.goto 4, 3) := by decide +kernel
theorem dX10_more_9 : decode cX10_more 9 = .ok (.iload_n 1, 1) := by decide +kernel
theorem dX10_more_10 : decode cX10_more 10 = .ok (.ireturn, 1) := by decide +kernel
theorem dX10_has_0 : decode cX10_has 0 = .ok (.iload_n 0, 1) := by decide +kernel
theorem dX10_has_1 : decode cX10_has 1 = .ok (.iload_n 1, 1) := by decide +kernel
theorem dX10_has_2 : decode cX10_has 2 = .ok (.ishr, 1) := by decide +kernel
theorem dX10_has_3 : decode cX10_has 3 = .ok (.iconst 1, 1) := by decide +kernel
theorem dX10_has_4 : decode cX10_has 4 = .ok (.iand, 1) := by decide +kernel
theorem dX10_has_5 : decode cX10_has 5 = .ok (.iconst 1, 1) := by decide +kernel
theorem dX10_has_6 : decode cX10_has 6 = .ok (.if_icmp .ne 7, 3) := by decide +kernel
theorem dX10_has_9 : decode cX10_has 9 = .ok (.iconst 1, 1) := by decide +kernel
theorem dX10_has_10 : decode cX10_has 10 = .ok (.goto 4, 3) := by decide +kernel
theorem dX10_has_13 : decode cX10_has 13 = .ok (.iconst 0, 1) := by decide +kernel
theorem dX10_has_14 : decode cX10_has 14 = .ok (.ireturn, 1) := by decide +kernel
theorem dX10_feed_0 : decode cX10_feed 0 = .ok (.aload_n 0, 1) := by decide +kernel
theorem dX10_feed_1 : decode cX10_feed 1 = .ok (.iconst 0, 1) := by decide +kernel
theorem dX10_feed_2 : decode cX10_feed 2 = .ok (.putfield 72, 3) := by decide +kernel
theorem dX10_feed_5 : decode cX10_feed 5 = .ok (.aload_n 0, 1) := by decide +kernel
theorem dX10_feed_6 : decode cX10_feed 6 = .ok (.getfield 75, 3) := by decide +kernel
theorem dX10_feed_9 : decode cX10_feed 9 = .ok (.bipush 20, 2) := by decide +kernel
theorem dX10_feed_11 : decode cX10_feed 11 = .ok (.iadd, 1) := by decide +kernel
theorem dX10_feed_12 : decode cX10_feed 12 = .ok (.sipush 600, 3) := by decide +kernel
theorem dX10_feed_15 : decode cX10_feed 15 = .ok (.if_icmp .le 5, 3) := by decide +kernel
theorem dX10_feed_18 : decode cX10_feed 18 = .ok (.iconst (-1), 1) := by decide +kernel
theorem dX10_feed_19 : decode cX10_feed 19 = .ok (.ireturn, 1) := by decide +kernel
theorem dX10_feed_20 : decode cX10_feed 20 = .ok (.iconst 0, 1) := by decide +kernel
theorem dX10_feed_21 : decode cX10_feed 21 = .ok (.istore 6, 2) := by decide +kernel
theorem dX10_feed_23 : decode cX10_feed 23 = .ok (.iload 6, 2) := by decide +kernel
theorem dX10_feed_25 : decode cX10_feed 25 = .ok (.bipush 20, 2) := by decide +kernel
theorem dX10_feed_27 : decode cX10_feed 27 = .ok (.if_icmp .ge 93, 3) := by decide +kernel
theorem dX10_feed_30 : decode cX10_feed 30 = .ok (.iload 6, 2) := by decide +kernel
theorem dX10_feed_32 : decode cX10_feed 32 = .ok (.iconst 4, 1) := by decide +kernel
theorem dX10_feed_33 : decode cX10_feed 33 = .ok (.if_icmp .ge 7, 3) := by decide +kernel
theorem dX10_feed_36 : decode cX10_feed 36 = .ok (.iload_n 1, 1) := by decide +kernel
theorem dX10_feed_37 : decode cX10_feed 37 = .ok (.goto 39, 3) := by decide +kernel
theorem dX10_feed_40 : decode cX10_feed 40 = .ok (.iload 6, 2) := by decide +kernel
theorem dX10_feed_42 : decode cX10_feed 42 = .ok (.bipush 8, 2) := by decide +kernel
theorem dX10_feed_44 : decode cX10_feed 44 = .ok (.if_icmp .ge 7, 3) := by decide +kernel
theorem dX10_feed_47 : decode cX10_feed 47 = .ok (.iload_n 2, 1) := by decide +kernel
theorem dX10_feed_48 : decode cX10_feed 48 = .ok (.goto 28, 3) := by decide +kernel
theorem dX10_feed_51 : decode cX10_feed 51 = .ok (.iload 6, 2) := by decide +kernel
theorem dX10_feed_53 : decode cX10_feed 53 = .ok (.bipush 12, 2) := by decide +kernel
theorem dX10_feed_55 : decode cX10_feed 55 = .ok (.if_icmp .ge 7, 3) := by decide +kernel
theorem dX10_feed_58 : decode cX10_feed 58 = .ok (.iload_n 3, 1) := by decide +kernel
theorem dX10_feed_59 : decode cX10_feed 59 = .ok (.goto 17, 3) := by decide +kernel
theorem dX10_feed_62 : decode cX10_feed 62 = .ok (.iload 6, 2) := by decide +kernel
theorem dX10_feed_64 : decode cX10_feed 64 = .ok (.bipush 16, 2) := by decide +kernel
theorem dX10_feed_66 : decode cX10_feed 66 = .ok (.if_icmp .ge 8, 3) := by decide +kernel
theorem dX10_feed_69 : decode cX10_feed 69 = .ok (.iload 4, 2) := by decide +kernel
theorem dX10_feed_71 : decode cX10_feed 71 = .ok (.goto 5, 3) := by decide +kernel
theorem dX10_feed_74 : decode cX10_feed 74 = .ok (.iload 5, 2) := by decide +kernel
theorem dX10_feed_76 : decode cX10_feed 76 = .ok (.istore 7, 2) := by decide +kernel
theorem dX10_feed_78 : decode cX10_feed 78 = .ok (.aload_n 0, 1) := by decide +kernel
theorem dX10_feed_79 : decode cX10_feed 79 = .ok (.getfield 13, 3) := by decide +kernel
theorem dX10_feed_82 : decode cX10_feed 82 = .ok (.aload_n 0, 1) := by decide +kernel
theorem dX10_feed_83 : decode cX10_feed 83 = .ok (.getfield 75, 3) := by decide +kernel
theorem dX10_feed_86 : decode cX10_feed 86 = .ok (.iload 7, 2) := by decide +kernel
theorem dX10_feed_88 : decode cX10_feed 88 = .ok (.bipush 24, 2) := by decide +kernel
theorem dX10_feed_90 : decode cX10_feed 90 = .ok (.bipush 8, 2) := by decide +kernel
theorem dX10_feed_92 : decode cX10_feed 92 = .ok (.iload 6, 2) := by decide +kernel
theorem dX10_feed_94 : decode cX10_feed 94 = .ok (.iconst 4, 1) := by decide +kernel
theorem dX10_feed_95 : decode cX10_feed 95 = .ok (.irem, 1) := by decide +kernel
theorem dX10_feed_96 : decode cX10_feed 96 = .ok (.imul, 1) := by decide +kernel
theorem dX10_feed_97 : decode cX10_feed 97 = .ok (.isub, 1) := by decide +kernel
theorem dX10_feed_98 : decode cX10_feed 98 = .ok (.ishr, 1) := by decide +kernel
theorem dX10_feed_99 : decode cX10_feed 99 = .ok (.sipush 255, 3) := by decide +kernel
theorem dX10_feed_102 : decode cX10_feed 102 = .ok (.iand, 1) := by decide +kernel
theorem dX10_feed_103 : decode cX10_feed 103 = .ok (.iastore, 1) := by decide +kernel
theorem dX10_feed_104 : decode cX10_feed 104 = .ok (.aload_n 0, 1) := by decide +kernel
theorem dX10_feed_105 : decode cX10_feed 105 = .ok (.dup, 1) := by decide +kernel
theorem dX10_feed_106 : decode cX10_feed 106 = .ok (.getfield 75, 3) := by decide +kernel
theorem dX10_feed_109 : decode cX10_feed 109 = .ok (.iconst 1, 1) := by decide +kernel
theorem dX10_feed_110 : decode cX10_feed 110 = .ok (.iadd, 1) := by decide +kernel
theorem dX10_feed_111 : decode cX10_feed 111 = .ok (.putfield 75, 3) := by decide +kernel
theorem dX10_feed_114 : decode cX10_feed 114 = .ok (.iinc 6 1, 3) := by decide +kernel
theorem dX10_feed_117 : decode cX10_feed 117 = .ok (.goto (-94), 3) := by decide +kernel
theorem dX10_feed_120 : decode cX10_feed 120 = .ok (.aload_n 0, 1) := by decide +kernel
theorem dX10_feed_121 : decode cX10_feed 121 = .ok (.getfield 75, 3) := by decide +kernel
theorem dX10_feed_124 : decode cX10_feed 124 = .ok (.ireturn, 1) := by decide +kernel
theorem dX10_byteAt_0 : decode cX10_byteAt 0 = .ok (.iload_n 1, 1) := by decide +kernel
theorem dX10_byteAt_1 : decode cX10_byteAt 1 = .ok (.aload_n 0, 1) := by decide +kernel
theorem dX10_byteAt_2 : decode cX10_byteAt 2 = .ok (.getfield 78, 3) := by decide +kernel
theorem dX10_byteAt_5 : decode cX10_byteAt 5 = .ok (.if_icmp .lt 7, 3) := by decide +kernel
theorem dX10_byteAt_8 : decode cX10_byteAt 8 = .ok (.iconst (-1), 1) := by decide +kernel
theorem dX10_byteAt_9 : decode cX10_byteAt 9 = .ok (.goto 9, 3) := by decide +kernel
theorem dX10_byteAt_12 : decode cX10_byteAt 12 = .ok (.aload_n 0, 1) := by decide +kernel
theorem dX10_byteAt_13 : decode cX10_byteAt 13 = .ok (.getfield 13, 3) := by decide +kernel
theorem dX10_byteAt_16 : decode cX10_byteAt 16 = .ok (.iload_n 1, 1) := by decide +kernel
theorem dX10_byteAt_17 : decode cX10_byteAt 17 = .ok (.iaload, 1) := by decide +kernel
theorem dX10_byteAt_18 : decode cX10_byteAt 18 = .ok (.ireturn, 1) := by decide +kernel
theorem dX10_blanks_0 : decode cX10_blanks 0 = .ok (.aload_n 0, 1) := by decide +kernel
theorem dX10_blanks_1 : decode cX10_blanks 1 = .ok (.aload_n 0, 1) := by decide +kernel
theorem dX10_blanks_2 : decode cX10_blanks 2 = .ok (.getfield 81, 3) := by decide +kernel
theorem dX10_blanks_5 : decode cX10_blanks 5 = .ok (.invokevirtual 84, 3) := by decide +kernel
theorem dX10_blanks_8 : decode cX10_blanks 8 = .ok (.bipush 32, 2) := by decide +kernel
theorem dX10_blanks_10 : decode cX10_blanks 10 = .ok (.if_icmp .ne 16, 3) := by decide +kernel
theorem dX10_blanks_13 : decode cX10_blanks 13 = .ok (.aload_n 0, 1) := by decide +kernel
theorem dX10_blanks_14 : decode cX10_blanks 14 = .ok (.dup, 1) := by decide +kernel
theorem dX10_blanks_15 : decode cX10_blanks 15 = .ok (.getfield 81, 3) := by decide +kernel
theorem dX10_blanks_18 : decode cX10_blanks 18 = .ok (.iconst 1, 1) := by decide +kernel
theorem dX10_blanks_19 : decode cX10_blanks 19 = .ok (.iadd, 1) := by decide +kernel
theorem dX10_blanks_20 : decode cX10_blanks 20 = .ok (.putfield 81, 3) := by decide +kernel
theorem dX10_blanks_23 : decode cX10_blanks 23 = .ok (.goto (-23), 3) := by decide +kernel
theorem dX10_blanks_26 : decode cX10_blanks 26 = .ok (.return_, 1) := by decide +kernel
theorem dX10_wrong_0 : decode cX10_wrong 0 = .ok (.aload_n 0, 1) := by decide +kernel
theorem dX10_wrong_1 : decode cX10_wrong 1 = .ok (.getfield 88, 3) := by decide +kernel
theorem dX10_wrong_4 : decode cX10_wrong 4 = .ok (.ifCond .ne 13, 3) := by decide +kernel
theorem dX10_wrong_7 : decode cX10_wrong 7 = .ok (.aload_n 0, 1) := by decide +kernel
theorem dX10_wrong_8 : decode cX10_wrong 8 = .ok (.iload_n 1, 1) := by decide +kernel
theorem dX10_wrong_9 : decode cX10_wrong 9 = .ok (.putfield 88, 3) := by decide +kernel
theorem dX10_wrong_12 : decode cX10_wrong 12 = .ok (.aload_n 0, 1) := by decide +kernel
theorem dX10_wrong_13 : decode cX10_wrong 13 = .ok (.iload_n 2, 1) := by decide +kernel
theorem dX10_wrong_14 : decode cX10_wrong 14 = .ok (.putfield 91, 3) := by decide +kernel
theorem dX10_wrong_17 : decode cX10_wrong 17 = .ok (.return_, 1) := by decide +kernel
theorem dX10_isDigit_0 : decode cX10_isDigit 0 = .ok (.iload_n 0, 1) := by decide +kernel
theorem dX10_isDigit_1 : decode cX10_isDigit 1 = .ok (.bipush 48, 2) := by decide +kernel
theorem dX10_isDigit_3 : decode cX10_isDigit 3 = .ok (.if_icmp .lt 13, 3) := by decide +kernel
theorem dX10_isDigit_6 : decode cX10_isDigit 6 = .ok (.iload_n 0, 1) := by decide +kernel
theorem dX10_isDigit_7 : decode cX10_isDigit 7 = .ok (.bipush 57, 2) := by decide +kernel
theorem dX10_isDigit_9 : decode cX10_isDigit 9 = .ok (.if_icmp .gt 7, 3) := by decide +kernel
theorem dX10_isDigit_12 : decode cX10_isDigit 12 = .ok (.iconst 1, 1) := by decide +kernel
theorem dX10_isDigit_13 : decode cX10_isDigit 13 = .ok (.goto 4, 3) := by decide +kernel
theorem dX10_isDigit_16 : decode cX10_isDigit 16 = .ok (.iconst 0, 1) := by decide +kernel
theorem dX10_isDigit_17 : decode cX10_isDigit 17 = .ok (.ireturn, 1) := by decide +kernel
theorem dX10_isSmall_0 : decode cX10_isSmall 0 = .ok (.iload_n 0, 1) := by decide +kernel
theorem dX10_isSmall_1 : decode cX10_isSmall 1 = .ok (.bipush 97, 2) := by decide +kernel
theorem dX10_isSmall_3 : decode cX10_isSmall 3 = .ok (.if_icmp .lt 13, 3) := by decide +kernel
theorem dX10_isSmall_6 : decode cX10_isSmall 6 = .ok (.iload_n 0, 1) := by decide +kernel
theorem dX10_isSmall_7 : decode cX10_isSmall 7 = .ok (.bipush 122, 2) := by decide +kernel
theorem dX10_isSmall_9 : decode cX10_isSmall 9 = .ok (.if_icmp .gt 7, 3) := by decide +kernel
theorem dX10_isSmall_12 : decode cX10_isSmall 12 = .ok (.iconst 1, 1) := by decide +kernel
theorem dX10_isSmall_13 : decode cX10_isSmall 13 = .ok (.goto 4, 3) := by decide +kernel
theorem dX10_isSmall_16 : decode cX10_isSmall 16 = .ok (.iconst 0, 1) := by decide +kernel
theorem dX10_isSmall_17 : decode cX10_isSmall 17 = .ok (.ireturn, 1) := by decide +kernel
theorem dX10_number_0 : decode cX10_number 0 = .ok (.aload_n 0, 1) := by decide +kernel
theorem dX10_number_1 : decode cX10_number 1 = .ok (.getfield 88, 3) := by decide +kernel
theorem dX10_number_4 : decode cX10_number 4 = .ok (.ifCond .eq 5, 3) := by decide +kernel
theorem dX10_number_7 : decode cX10_number 7 = .ok (.iconst 0, 1) := by decide +kernel
theorem dX10_number_8 : decode cX10_number 8 = .ok (.ireturn, 1) := by decide +kernel
theorem dX10_number_9 : decode cX10_number 9 = .ok (.aload_n 0, 1) := by decide +kernel
theorem dX10_number_10 : decode cX10_number 10 = .ok (.invokevirtual 94, 3) := by decide +kernel
theorem dX10_number_13 : decode cX10_number 13 = .ok (.aload_n 0, 1) := by decide +kernel
theorem dX10_number_14 : decode cX10_number 14 = .ok (.getfield 81, 3) := by decide +kernel
theorem dX10_number_17 : decode cX10_number 17 = .ok (.istore_n 3, 1) := by decide +kernel
theorem dX10_number_18 : decode cX10_number 18 = .ok (.iconst 0, 1) := by decide +kernel
theorem dX10_number_19 : decode cX10_number 19 = .ok (.istore 4, 2) := by decide +kernel
theorem dX10_number_21 : decode cX10_number 21 = .ok (.aload_n 0, 1) := by decide +kernel
theorem dX10_number_22 : decode cX10_number 22 = .ok (.aload_n 0, 1) := by decide +kernel
theorem dX10_number_23 : decode cX10_number 23 = .ok (.getfield 81, 3) := by decide +kernel
theorem dX10_number_26 : decode cX10_number 26 = .ok (.invokevirtual 84, 3) := by decide +kernel
theorem dX10_number_29 : decode cX10_number 29 = .ok (.invokestatic 97, 3) := by decide +kernel
theorem dX10_number_32 : decode cX10_number 32 = .ok (.ifCond .ne 12, 3) := by decide +kernel
theorem dX10_number_35 : decode cX10_number 35 = .ok (.aload_n 0, 1) := by decide +kernel
theorem dX10_number_36 : decode cX10_number 36 = .ok (.iconst 1, 1) := by decide +kernel
theorem dX10_number_37 : decode cX10_number 37 = .ok (.aload_n 0, 1) := by decide +kernel
theorem dX10_number_38 : decode cX10_number 38 = .ok (.getfield 81, 3) := by decide +kernel
theorem dX10_number_41 : decode cX10_number 41 = .ok (.invokevirtual 101, 3) := by decide +kernel
theorem dX10_number_44 : decode cX10_number 44 = .ok (.aload_n 0, 1) := by decide +kernel
theorem dX10_number_45 : decode cX10_number 45 = .ok (.aload_n 0, 1) := by decide +kernel
theorem dX10_number_46 : decode cX10_number 46 = .ok (.getfield 81, 3) := by decide +kernel
theorem dX10_number_49 : decode cX10_number 49 = .ok (.invokevirtual 84, 3) := by decide +kernel
theorem dX10_number_52 : decode cX10_number 52 = .ok (.invokestatic 97, 3) := by decide +kernel
theorem dX10_number_55 : decode cX10_number 55 = .ok (.ifCond .eq 51, 3) := by decide +kernel
theorem dX10_number_58 : decode cX10_number 58 = .ok (.bipush 10, 2) := by decide +kernel
theorem dX10_number_60 : decode cX10_number 60 = .ok (.iload 4, 2) := by decide +kernel
theorem dX10_number_62 : decode cX10_number 62 = .ok (.imul, 1) := by decide +kernel
theorem dX10_number_63 : decode cX10_number 63 = .ok (.aload_n 0, 1) := by decide +kernel
theorem dX10_number_64 : decode cX10_number 64 = .ok (.aload_n 0, 1) := by decide +kernel
theorem dX10_number_65 : decode cX10_number 65 = .ok (.getfield 81, 3) := by decide +kernel
theorem dX10_number_68 : decode cX10_number 68 = .ok (.invokevirtual 84, 3) := by decide +kernel
theorem dX10_number_71 : decode cX10_number 71 = .ok (.iadd, 1) := by decide +kernel
theorem dX10_number_72 : decode cX10_number 72 = .ok (.bipush 48, 2) := by decide +kernel
theorem dX10_number_74 : decode cX10_number 74 = .ok (.isub, 1) := by decide +kernel
theorem dX10_number_75 : decode cX10_number 75 = .ok (.istore 4, 2) := by decide +kernel
theorem dX10_number_77 : decode cX10_number 77 = .ok (.iload 4, 2) := by decide +kernel
theorem dX10_number_79 : decode cX10_number 79 = .ok (.ldc 105, 2) := by decide +kernel
theorem dX10_number_81 : decode cX10_number 81 = .ok (.if_icmp .le 8, 3) := by decide +kernel
theorem dX10_number_84 : decode cX10_number 84 = .ok (.ldc 105, 2) := by decide +kernel
theorem dX10_number_86 : decode cX10_number 86 = .ok (.goto 5, 3) := by decide +kernel
theorem dX10_number_89 : decode cX10_number 89 = .ok (.iload 4, 2) := by decide +kernel
theorem dX10_number_91 : decode cX10_number 91 = .ok (.istore 4, 2) := by decide +kernel
theorem dX10_number_93 : decode cX10_number 93 = .ok (.aload_n 0, 1) := by decide +kernel
theorem dX10_number_94 : decode cX10_number 94 = .ok (.dup, 1) := by decide +kernel
theorem dX10_number_95 : decode cX10_number 95 = .ok (.getfield 81, 3) := by decide +kernel
theorem dX10_number_98 : decode cX10_number 98 = .ok (.iconst 1, 1) := by decide +kernel
theorem dX10_number_99 : decode cX10_number 99 = .ok (.iadd, 1) := by decide +kernel
theorem dX10_number_100 : decode cX10_number 100 = .ok (.putfield 81, 3) := by decide +kernel
theorem dX10_number_103 : decode cX10_number 103 = .ok (.goto (-59), 3) := by decide +kernel
theorem dX10_number_106 : decode cX10_number 106 = .ok (.iload 4, 2) := by decide +kernel
theorem dX10_number_108 : decode cX10_number 108 = .ok (.iload_n 1, 1) := by decide +kernel
theorem dX10_number_109 : decode cX10_number 109 = .ok (.iload_n 2, 1) := by decide +kernel
theorem dX10_number_110 : decode cX10_number 110 = .ok (.invokestatic 106, 3) := by decide +kernel
theorem dX10_number_113 : decode cX10_number 113 = .ok (.ifCond .ne 9, 3) := by decide +kernel
theorem dX10_number_116 : decode cX10_number 116 = .ok (.aload_n 0, 1) := by decide +kernel
theorem dX10_number_117 : decode cX10_number 117 = .ok (.iconst 2, 1) := by decide +kernel
theorem dX10_number_118 : decode cX10_number 118 = .ok (.iload_n 3, 1) := by decide +kernel
theorem dX10_number_119 : decode cX10_number 119 = .ok (.invokevirtual 101, 3) := by decide +kernel
theorem dX10_number_122 : decode cX10_number 122 = .ok (.aload_n 0, 1) := by decide +kernel
theorem dX10_number_123 : decode cX10_number 123 = .ok (.getfield 88, 3) := by decide +kernel
theorem dX10_number_126 : decode cX10_number 126 = .ok (.ifCond .ne 8, 3) := by decide +kernel
theorem dX10_number_129 : decode cX10_number 129 = .ok (.iload 4, 2) := by decide +kernel
theorem dX10_number_131 : decode cX10_number 131 = .ok (.goto 4, 3) := by decide +kernel
theorem dX10_number_134 : decode cX10_number 134 = .ok (.iconst 0, 1) := by decide +kernel
theorem dX10_number_135 : decode cX10_number 135 = .ok (.ireturn, 1) := by decide +kernel
theorem dX10_wordHere_0 : decode cX10_wordHere 0 = .ok (.aload_n 0, 1) := by decide +kernel
theorem dX10_wordHere_1 : decode cX10_wordHere 1 = .ok (.invokevirtual 94, 3) := by decide +kernel
theorem dX10_wordHere_4 : decode cX10_wordHere 4 = .ok (.iconst 0, 1) := by decide +kernel
theorem dX10_wordHere_5 : decode cX10_wordHere 5 = .ok (.istore_n 1, 1) := by decide +kernel
theorem dX10_wordHere_6 : decode cX10_wordHere 6 = .ok (.iconst 0, 1) := by decide +kernel
theorem dX10_wordHere_7 : decode cX10_wordHere 7 = .ok (.istore_n 2, 1) := by decide +kernel
theorem dX10_wordHere_8 : decode cX10_wordHere 8 = .ok (.aload_n 0, 1) := by decide +kernel
theorem dX10_wordHere_9 : decode cX10_wordHere 9 = .ok (.aload_n 0, 1) := by decide +kernel
theorem dX10_wordHere_10 : decode cX10_wordHere 10 = .ok (.getfield 81, 3) := by decide +kernel
theorem dX10_wordHere_13 : decode cX10_wordHere 13 = .ok (.iload_n 2, 1) := by decide +kernel
theorem dX10_wordHere_14 : decode cX10_wordHere 14 = .ok (.iadd, 1) := by decide +kernel
theorem dX10_wordHere_15 : decode cX10_wordHere 15 = .ok (.invokevirtual 84, 3) := by decide +kernel
theorem dX10_wordHere_18 : decode cX10_wordHere 18 = .ok (.invokestatic 110, 3) := by decide +kernel
theorem dX10_wordHere_21 : decode cX10_wordHere 21 = .ok (.ifCond .eq 40, 3) := by decide +kernel
theorem dX10_wordHere_24 : decode cX10_wordHere 24 = .ok (.iload_n 2, 1) := by decide +kernel
theorem dX10_wordHere_25 : decode cX10_wordHere 25 = .ok (.bipush 6, 2) := by decide +kernel
theorem dX10_wordHere_27 : decode cX10_wordHere 27 = .ok (.if_icmp .ge 26, 3) := by decide +kernel
theorem dX10_wordHere_30 : decode cX10_wordHere 30 = .ok (.bipush 27, 2) := by decide +kernel
theorem dX10_wordHere_32 : decode cX10_wordHere 32 = .ok (.iload_n 1, 1) := by decide +kernel
theorem dX10_wordHere_33 : decode cX10_wordHere 33 = .ok (.imul, 1) := by decide +kernel
theorem dX10_wordHere_34 : decode cX10_wordHere 34 = .ok (.aload_n 0, 1) := by decide +kernel
theorem dX10_wordHere_35 : decode cX10_wordHere 35 = .ok (.aload_n 0, 1) := by decide +kernel
theorem dX10_wordHere_36 : decode cX10_wordHere 36 = .ok (.getfield 81, 3) := by decide +kernel
theorem dX10_wordHere_39 : decode cX10_wordHere 39 = .ok (.iload_n 2, 1) := by decide +kernel
theorem dX10_wordHere_40 : decode cX10_wordHere 40 = .ok (.iadd, 1) := by decide +kernel
theorem dX10_wordHere_41 : decode cX10_wordHere 41 = .ok (.invokevirtual 84, 3) := by decide +kernel
theorem dX10_wordHere_44 : decode cX10_wordHere 44 = .ok (.iadd, 1) := by decide +kernel
theorem dX10_wordHere_45 : decode cX10_wordHere 45 = .ok (.bipush 97, 2) := by decide +kernel
theorem dX10_wordHere_47 : decode cX10_wordHere 47 = .ok (.isub, 1) := by decide +kernel
theorem dX10_wordHere_48 : decode cX10_wordHere 48 = .ok (.iconst 1, 1) := by decide +kernel
theorem dX10_wordHere_49 : decode cX10_wordHere 49 = .ok (.iadd, 1) := by decide +kernel
theorem dX10_wordHere_50 : decode cX10_wordHere 50 = .ok (.goto 4, 3) := by decide +kernel
theorem dX10_wordHere_53 : decode cX10_wordHere 53 = .ok (.iload_n 1, 1) := by decide +kernel
theorem dX10_wordHere_54 : decode cX10_wordHere 54 = .ok (.istore_n 1, 1) := by decide +kernel
theorem dX10_wordHere_55 : decode cX10_wordHere 55 = .ok (.iinc 2 1, 3) := by decide +kernel
theorem dX10_wordHere_58 : decode cX10_wordHere 58 = .ok (.goto (-50), 3) := by decide +kernel
theorem dX10_wordHere_61 : decode cX10_wordHere 61 = .ok (.iload_n 2, 1) := by decide +kernel
theorem dX10_wordHere_62 : decode cX10_wordHere 62 = .ok (.bipush 6, 2) := by decide +kernel
theorem dX10_wordHere_64 : decode cX10_wordHere 64 = .ok (.if_icmp .le 7, 3) := by decide +kernel
theorem dX10_wordHere_67 : decode cX10_wordHere 67 = .ok (.iconst (-1), 1) := by decide +kernel
theorem dX10_wordHere_68 : decode cX10_wordHere 68 = .ok (.goto 4, 3) := by decide +kernel
theorem dX10_wordHere_71 : decode cX10_wordHere 71 = .ok (.iload_n 1, 1) := by decide +kernel
theorem dX10_wordHere_72 : decode cX10_wordHere 72 = .ok (.ireturn, 1) := by decide +kernel
theorem dX10_six_0 : decode cX10_six 0 = .ok (.bipush 27, 2) := by decide +kernel
theorem dX10_six_2 : decode cX10_six 2 = .ok (.bipush 27, 2) := by decide +kernel
theorem dX10_six_4 : decode cX10_six 4 = .ok (.iload_n 0, 1) := by decide +kernel
theorem dX10_six_5 : decode cX10_six 5 = .ok (.imul, 1) := by decide +kernel
theorem dX10_six_6 : decode cX10_six 6 = .ok (.iload_n 1, 1) := by decide +kernel
theorem dX10_six_7 : decode cX10_six 7 = .ok (.iadd, 1) := by decide +kernel
theorem dX10_six_8 : decode cX10_six 8 = .ok (.imul, 1) := by decide +kernel
theorem dX10_six_9 : decode cX10_six 9 = .ok (.iload_n 2, 1) := by decide +kernel
theorem dX10_six_10 : decode cX10_six 10 = .ok (.iadd, 1) := by decide +kernel
theorem dX10_six_11 : decode cX10_six 11 = .ok (.istore 6, 2) := by decide +kernel
theorem dX10_six_13 : decode cX10_six 13 = .ok (.iload_n 3, 1) := by decide +kernel
theorem dX10_six_14 : decode cX10_six 14 = .ok (.ifCond .ne 8, 3) := by decide +kernel
theorem dX10_six_17 : decode cX10_six 17 = .ok (.iload 6, 2) := by decide +kernel
theorem dX10_six_19 : decode cX10_six 19 = .ok (.goto 10, 3) := by decide +kernel
theorem dX10_six_22 : decode cX10_six 22 = .ok (.bipush 27, 2) := by decide +kernel
theorem dX10_six_24 : decode cX10_six 24 = .ok (.iload 6, 2) := by decide +kernel
theorem dX10_six_26 : decode cX10_six 26 = .ok (.imul, 1) := by decide +kernel
theorem dX10_six_27 : decode cX10_six 27 = .ok (.iload_n 3, 1) := by decide +kernel
theorem dX10_six_28 : decode cX10_six 28 = .ok (.iadd, 1) := by decide +kernel
theorem dX10_six_29 : decode cX10_six 29 = .ok (.istore 6, 2) := by decide +kernel
theorem dX10_six_31 : decode cX10_six 31 = .ok (.iload 4, 2) := by decide +kernel
theorem dX10_six_33 : decode cX10_six 33 = .ok (.ifCond .ne 8, 3) := by decide +kernel
theorem dX10_six_36 : decode cX10_six 36 = .ok (.iload 6, 2) := by decide +kernel
theorem dX10_six_38 : decode cX10_six 38 = .ok (.goto 11, 3) := by decide +kernel
theorem dX10_six_41 : decode cX10_six 41 = .ok (.bipush 27, 2) := by decide +kernel
theorem dX10_six_43 : decode cX10_six 43 = .ok (.iload 6, 2) := by decide +kernel
theorem dX10_six_45 : decode cX10_six 45 = .ok (.imul, 1) := by decide +kernel
theorem dX10_six_46 : decode cX10_six 46 = .ok (.iload 4, 2) := by decide +kernel
theorem dX10_six_48 : decode cX10_six 48 = .ok (.iadd, 1) := by decide +kernel
theorem dX10_six_49 : decode cX10_six 49 = .ok (.istore 6, 2) := by decide +kernel
theorem dX10_six_51 : decode cX10_six 51 = .ok (.iload 5, 2) := by decide +kernel
theorem dX10_six_53 : decode cX10_six 53 = .ok (.ifCond .ne 8, 3) := by decide +kernel
theorem dX10_six_56 : decode cX10_six 56 = .ok (.iload 6, 2) := by decide +kernel
theorem dX10_six_58 : decode cX10_six 58 = .ok (.goto 11, 3) := by decide +kernel
theorem dX10_six_61 : decode cX10_six 61 = .ok (.bipush 27, 2) := by decide +kernel
theorem dX10_six_63 : decode cX10_six 63 = .ok (.iload 6, 2) := by decide +kernel
theorem dX10_six_65 : decode cX10_six 65 = .ok (.imul, 1) := by decide +kernel
theorem dX10_six_66 : decode cX10_six 66 = .ok (.iload 5, 2) := by decide +kernel
theorem dX10_six_68 : decode cX10_six 68 = .ok (.iadd, 1) := by decide +kernel
theorem dX10_six_69 : decode cX10_six 69 = .ok (.ireturn, 1) := by decide +kernel
theorem dX10_isWord_0 : decode cX10_isWord 0 = .ok (.aload_n 0, 1) := by decide +kernel
theorem dX10_isWord_1 : decode cX10_isWord 1 = .ok (.getfield 88, 3) := by decide +kernel
theorem dX10_isWord_4 : decode cX10_isWord 4 = .ok (.ifCond .ne 26, 3) := by decide +kernel
theorem dX10_isWord_7 : decode cX10_isWord 7 = .ok (.aload_n 0, 1) := by decide +kernel
theorem dX10_isWord_8 : decode cX10_isWord 8 = .ok (.invokevirtual 113, 3) := by decide +kernel
theorem dX10_isWord_11 : decode cX10_isWord 11 = .ok (.iload_n 1, 1) := by decide +kernel
theorem dX10_isWord_12 : decode cX10_isWord 12 = .ok (.iload_n 2, 1) := by decide +kernel
theorem dX10_isWord_13 : decode cX10_isWord 13 = .ok (.iload_n 3, 1) := by decide +kernel
theorem dX10_isWord_14 : decode cX10_isWord 14 = .ok (.iload 4, 2) := by decide +kernel
theorem dX10_isWord_16 : decode cX10_isWord 16 = .ok (.iload 5, 2) := by decide +kernel
theorem dX10_isWord_18 : decode cX10_isWord 18 = .ok (.iload 6, 2) := by decide +kernel
theorem dX10_isWord_20 : decode cX10_isWord 20 = .ok (.invokestatic 117, 3) := by decide +kernel
theorem dX10_isWord_23 : decode cX10_isWord 23 = .ok (.if_icmp .ne 7, 3) := by decide +kernel
theorem dX10_isWord_26 : decode cX10_isWord 26 = .ok (.iconst 1, 1) := by decide +kernel
theorem dX10_isWord_27 : decode cX10_isWord 27 = .ok (.goto 4, 3) := by decide +kernel
theorem dX10_isWord_30 : decode cX10_isWord 30 = .ok (.iconst 0, 1) := by decide +kernel
theorem dX10_isWord_31 : decode cX10_isWord 31 = .ok (.ireturn, 1) := by decide +kernel
theorem dX10_skipWord_0 : decode cX10_skipWord 0 = .ok (.aload_n 0, 1) := by decide +kernel
theorem dX10_skipWord_1 : decode cX10_skipWord 1 = .ok (.aload_n 0, 1) := by decide +kernel
theorem dX10_skipWord_2 : decode cX10_skipWord 2 = .ok (.getfield 81, 3) := by decide +kernel
theorem dX10_skipWord_5 : decode cX10_skipWord 5 = .ok (.invokevirtual 84, 3) := by decide +kernel
theorem dX10_skipWord_8 : decode cX10_skipWord 8 = .ok (.invokestatic 110, 3) := by decide +kernel
theorem dX10_skipWord_11 : decode cX10_skipWord 11 = .ok (.ifCond .eq 16, 3) := by decide +kernel
theorem dX10_skipWord_14 : decode cX10_skipWord 14 = .ok (.aload_n 0, 1) := by decide +kernel
theorem dX10_skipWord_15 : decode cX10_skipWord 15 = .ok (.dup, 1) := by decide +kernel
theorem dX10_skipWord_16 : decode cX10_skipWord 16 = .ok (.getfield 81, 3) := by decide +kernel
theorem dX10_skipWord_19 : decode cX10_skipWord 19 = .ok (.iconst 1, 1) := by decide +kernel
theorem dX10_skipWord_20 : decode cX10_skipWord 20 = .ok (.iadd, 1) := by decide +kernel
theorem dX10_skipWord_21 : decode cX10_skipWord 21 = .ok (.putfield 81, 3) := by decide +kernel
theorem dX10_skipWord_24 : decode cX10_skipWord 24 = .ok (.goto (-24), 3) := by decide +kernel
theorem dX10_skipWord_27 : decode cX10_skipWord 27 = .ok (.return_, 1) := by decide +kernel
theorem dX10_sign_0 : decode cX10_sign 0 = .ok (.aload_n 0, 1) := by decide +kernel
theorem dX10_sign_1 : decode cX10_sign 1 = .ok (.getfield 88, 3) := by decide +kernel
theorem dX10_sign_4 : decode cX10_sign 4 = .ok (.ifCond .eq 4, 3) := by decide +kernel
theorem dX10_sign_7 : decode cX10_sign 7 = .ok (.return_, 1) := by decide +kernel
theorem dX10_sign_8 : decode cX10_sign 8 = .ok (.aload_n 0, 1) := by decide +kernel
theorem dX10_sign_9 : decode cX10_sign 9 = .ok (.invokevirtual 94, 3) := by decide +kernel
theorem dX10_sign_12 : decode cX10_sign 12 = .ok (.aload_n 0, 1) := by decide +kernel
theorem dX10_sign_13 : decode cX10_sign 13 = .ok (.aload_n 0, 1) := by decide +kernel
theorem dX10_sign_14 : decode cX10_sign 14 = .ok (.getfield 81, 3) := by decide +kernel
theorem dX10_sign_17 : decode cX10_sign 17 = .ok (.invokevirtual 84, 3) := by decide +kernel
theorem dX10_sign_20 : decode cX10_sign 20 = .ok (.iload_n 1, 1) := by decide +kernel
theorem dX10_sign_21 : decode cX10_sign 21 = .ok (.if_icmp .ne 16, 3) := by decide +kernel
theorem dX10_sign_24 : decode cX10_sign 24 = .ok (.aload_n 0, 1) := by decide +kernel
theorem dX10_sign_25 : decode cX10_sign 25 = .ok (.dup, 1) := by decide +kernel
theorem dX10_sign_26 : decode cX10_sign 26 = .ok (.getfield 81, 3) := by decide +kernel
theorem dX10_sign_29 : decode cX10_sign 29 = .ok (.iconst 1, 1) := by decide +kernel
theorem dX10_sign_30 : decode cX10_sign 30 = .ok (.iadd, 1) := by decide +kernel
theorem dX10_sign_31 : decode cX10_sign 31 = .ok (.putfield 81, 3) := by decide +kernel
theorem dX10_sign_34 : decode cX10_sign 34 = .ok (.goto 12, 3) := by decide +kernel
theorem dX10_sign_37 : decode cX10_sign 37 = .ok (.aload_n 0, 1) := by decide +kernel
theorem dX10_sign_38 : decode cX10_sign 38 = .ok (.iconst 1, 1) := by decide +kernel
theorem dX10_sign_39 : decode cX10_sign 39 = .ok (.aload_n 0, 1) := by decide +kernel
theorem dX10_sign_40 : decode cX10_sign 40 = .ok (.getfield 81, 3) := by decide +kernel
theorem dX10_sign_43 : decode cX10_sign 43 = .ok (.invokevirtual 101, 3) := by decide +kernel
theorem dX10_sign_46 : decode cX10_sign 46 = .ok (.return_, 1) := by decide +kernel
theorem dX10_starts_0 : decode cX10_starts 0 = .ok (.aload_n 0, 1) := by decide +kernel
theorem dX10_starts_1 : decode cX10_starts 1 = .ok (.iconst 0, 1) := by decide +kernel
theorem dX10_starts_2 : decode cX10_starts 2 = .ok (.putfield 75, 3) := by decide +kernel
theorem dX10_starts_5 : decode cX10_starts 5 = .ok (.aload_n 0, 1) := by decide +kernel
theorem dX10_starts_6 : decode cX10_starts 6 = .ok (.iload_n 1, 1) := by decide +kernel
theorem dX10_starts_7 : decode cX10_starts 7 = .ok (.putfield 78, 3) := by decide +kernel
theorem dX10_starts_10 : decode cX10_starts 10 = .ok (.aload_n 0, 1) := by decide +kernel
theorem dX10_starts_11 : decode cX10_starts 11 = .ok (.iconst 0, 1) := by decide +kernel
theorem dX10_starts_12 : decode cX10_starts 12 = .ok (.putfield 81, 3) := by decide +kernel
theorem dX10_starts_15 : decode cX10_starts 15 = .ok (.aload_n 0, 1) := by decide +kernel
theorem dX10_starts_16 : decode cX10_starts 16 = .ok (.iconst 0, 1) := by decide +kernel
theorem dX10_starts_17 : decode cX10_starts 17 = .ok (.putfield 88, 3) := by decide +kernel
theorem dX10_starts_20 : decode cX10_starts 20 = .ok (.aload_n 0, 1) := by decide +kernel
theorem dX10_starts_21 : decode cX10_starts 21 = .ok (.iconst (-1), 1) := by decide +kernel
theorem dX10_starts_22 : decode cX10_starts 22 = .ok (.putfield 91, 3) := by decide +kernel
theorem dX10_starts_25 : decode cX10_starts 25 = .ok (.aload_n 0, 1) := by decide +kernel
theorem dX10_starts_26 : decode cX10_starts 26 = .ok (.iconst 0, 1) := by decide +kernel
theorem dX10_starts_27 : decode cX10_starts 27 = .ok (.putfield 121, 3) := by decide +kernel
theorem dX10_starts_30 : decode cX10_starts 30 = .ok (.aload_n 0, 1) := by decide +kernel
theorem dX10_starts_31 : decode cX10_starts 31 = .ok (.iconst 0, 1) := by decide +kernel
theorem dX10_starts_32 : decode cX10_starts 32 = .ok (.putfield 124, 3) := by decide +kernel
theorem dX10_starts_35 : decode cX10_starts 35 = .ok (.aload_n 0, 1) := by decide +kernel
theorem dX10_starts_36 : decode cX10_starts 36 = .ok (.invokevirtual 94, 3) := by decide +kernel
theorem dX10_starts_39 : decode cX10_starts 39 = .ok (.return_, 1) := by decide +kernel
theorem dX10_ends_0 : decode cX10_ends 0 = .ok (.aload_n 0, 1) := by decide +kernel
theorem dX10_ends_1 : decode cX10_ends 1 = .ok (.aload_n 0, 1) := by decide +kernel
theorem dX10_ends_2 : decode cX10_ends 2 = .ok (.getfield 91, 3) := by decide +kernel
theorem dX10_ends_5 : decode cX10_ends 5 = .ok (.putfield 9, 3) := by decide +kernel
theorem dX10_ends_8 : decode cX10_ends 8 = .ok (.aload_n 0, 1) := by decide +kernel
theorem dX10_ends_9 : decode cX10_ends 9 = .ok (.getfield 88, 3) := by decide +kernel
theorem dX10_ends_12 : decode cX10_ends 12 = .ok (.bipush 10, 2) := by decide +kernel
theorem dX10_ends_14 : decode cX10_ends 14 = .ok (.isub, 1) := by decide +kernel
theorem dX10_ends_15 : decode cX10_ends 15 = .ok (.ireturn, 1) := by decide +kernel
theorem dX10_stepHere_0 : decode cX10_stepHere 0 = .ok (.aload_n 0, 1) := by decide +kernel
theorem dX10_stepHere_1 : decode cX10_stepHere 1 = .ok (.bipush 13, 2) := by decide +kernel
theorem dX10_stepHere_3 : decode cX10_stepHere 3 = .ok (.iconst 1, 1) := by decide +kernel
theorem dX10_stepHere_4 : decode cX10_stepHere 4 = .ok (.bipush 11, 2) := by decide +kernel
theorem dX10_stepHere_6 : decode cX10_stepHere 6 = .ok (.iconst 5, 1) := by decide +kernel
theorem dX10_stepHere_7 : decode cX10_stepHere 7 = .ok (.iconst 0, 1) := by decide +kernel
theorem dX10_stepHere_8 : decode cX10_stepHere 8 = .ok (.iconst 0, 1) := by decide +kernel
theorem dX10_stepHere_9 : decode cX10_stepHere 9 = .ok (.invokevirtual 127, 3) := by decide +kernel
theorem dX10_stepHere_12 : decode cX10_stepHere 12 = .ok (.ifCond .eq 5, 3) := by decide +kernel
theorem dX10_stepHere_15 : decode cX10_stepHere 15 = .ok (.iconst 0, 1) := by decide +kernel
theorem dX10_stepHere_16 : decode cX10_stepHere 16 = .ok (.ireturn, 1) := by decide +kernel
theorem dX10_stepHere_17 : decode cX10_stepHere 17 = .ok (.aload_n 0, 1) := by decide +kernel
theorem dX10_stepHere_18 : decode cX10_stepHere 18 = .ok (.iconst 4, 1) := by decide +kernel
theorem dX10_stepHere_19 : decode cX10_stepHere 19 = .ok (.bipush 9, 2) := by decide +kernel
theorem dX10_stepHere_21 : decode cX10_stepHere 21 = .ok (.bipush 18, 2) := by decide +kernel
theorem dX10_stepHere_23 : decode cX10_stepHere 23 = .ok (.iconst 0, 1) := by decide +kernel
theorem dX10_stepHere_24 : decode cX10_stepHere 24 = .ok (.iconst 0, 1) := by decide +kernel
theorem dX10_stepHere_25 : decode cX10_stepHere 25 = .ok (.iconst 0, 1) := by decide +kernel
theorem dX10_stepHere_26 : decode cX10_stepHere 26 = .ok (.invokevirtual 127, 3) := by decide +kernel
theorem dX10_stepHere_29 : decode cX10_stepHere 29 = .ok (.ifCond .eq 5, 3) := by decide +kernel
theorem dX10_stepHere_32 : decode cX10_stepHere 32 = .ok (.iconst 1, 1) := by decide +kernel
theorem dX10_stepHere_33 : decode cX10_stepHere 33 = .ok (.ireturn, 1) := by decide +kernel
theorem dX10_stepHere_34 : decode cX10_stepHere 34 = .ok (.aload_n 0, 1) := by decide +kernel
theorem dX10_stepHere_35 : decode cX10_stepHere 35 = .ok (.bipush 12, 2) := by decide +kernel
theorem dX10_stepHere_37 : decode cX10_stepHere 37 = .ok (.bipush 9, 2) := by decide +kernel
theorem dX10_stepHere_39 : decode cX10_stepHere 39 = .ok (.bipush 14, 2) := by decide +kernel
theorem dX10_stepHere_41 : decode cX10_stepHere 41 = .ok (.bipush 11, 2) := by decide +kernel
theorem dX10_stepHere_43 : decode cX10_stepHere 43 = .ok (.iconst 0, 1) := by decide +kernel
theorem dX10_stepHere_44 : decode cX10_stepHere 44 = .ok (.iconst 0, 1) := by decide +kernel
theorem dX10_stepHere_45 : decode cX10_stepHere 45 = .ok (.invokevirtual 127, 3) := by decide +kernel
theorem dX10_stepHere_48 : decode cX10_stepHere 48 = .ok (.ifCond .eq 5, 3) := by decide +kernel
theorem dX10_stepHere_51 : decode cX10_stepHere 51 = .ok (.iconst 2, 1) := by decide +kernel
theorem dX10_stepHere_52 : decode cX10_stepHere 52 = .ok (.ireturn, 1) := by decide +kernel
theorem dX10_stepHere_53 : decode cX10_stepHere 53 = .ok (.aload_n 0, 1) := by decide +kernel
theorem dX10_stepHere_54 : decode cX10_stepHere 54 = .ok (.bipush 7, 2) := by decide +kernel
theorem dX10_stepHere_56 : decode cX10_stepHere 56 = .ok (.bipush 18, 2) := by decide +kernel
theorem dX10_stepHere_58 : decode cX10_stepHere 58 = .ok (.bipush 15, 2) := by decide +kernel
theorem dX10_stepHere_60 : decode cX10_stepHere 60 = .ok (.bipush 23, 2) := by decide +kernel
theorem dX10_stepHere_62 : decode cX10_stepHere 62 = .ok (.iconst 0, 1) := by decide +kernel
theorem dX10_stepHere_63 : decode cX10_stepHere 63 = .ok (.iconst 0, 1) := by decide +kernel
theorem dX10_stepHere_64 : decode cX10_stepHere 64 = .ok (.invokevirtual 127, 3) := by decide +kernel
theorem dX10_stepHere_67 : decode cX10_stepHere 67 = .ok (.ifCond .eq 5, 3) := by decide +kernel
theorem dX10_stepHere_70 : decode cX10_stepHere 70 = .ok (.iconst 3, 1) := by decide +kernel
theorem dX10_stepHere_71 : decode cX10_stepHere 71 = .ok (.ireturn, 1) := by decide +kernel
theorem dX10_stepHere_72 : decode cX10_stepHere 72 = .ok (.aload_n 0, 1) := by decide +kernel
theorem dX10_stepHere_73 : decode cX10_stepHere 73 = .ok (.bipush 16, 2) := by decide +kernel
theorem dX10_stepHere_75 : decode cX10_stepHere 75 = .ok (.bipush 21, 2) := by decide +kernel
theorem dX10_stepHere_77 : decode cX10_stepHere 77 = .ok (.bipush 20, 2) := by decide +kernel
theorem dX10_stepHere_79 : decode cX10_stepHere 79 = .ok (.iconst 0, 1) := by decide +kernel
theorem dX10_stepHere_80 : decode cX10_stepHere 80 = .ok (.iconst 0, 1) := by decide +kernel
theorem dX10_stepHere_81 : decode cX10_stepHere 81 = .ok (.iconst 0, 1) := by decide +kernel
theorem dX10_stepHere_82 : decode cX10_stepHere 82 = .ok (.invokevirtual 127, 3) := by decide +kernel
theorem dX10_stepHere_85 : decode cX10_stepHere 85 = .ok (.ifCond .eq 5, 3) := by decide +kernel
theorem dX10_stepHere_88 : decode cX10_stepHere 88 = .ok (.iconst 4, 1) := by decide +kernel
theorem dX10_stepHere_89 : decode cX10_stepHere 89 = .ok (.ireturn, 1) := by decide +kernel
theorem dX10_stepHere_90 : decode cX10_stepHere 90 = .ok (.aload_n 0, 1) := by decide +kernel
theorem dX10_stepHere_91 : decode cX10_stepHere 91 = .ok (.iconst 3, 1) := by decide +kernel
theorem dX10_stepHere_92 : decode cX10_stepHere 92 = .ok (.bipush 21, 2) := by decide +kernel
theorem dX10_stepHere_94 : decode cX10_stepHere 94 = .ok (.bipush 20, 2) := by decide +kernel
theorem dX10_stepHere_96 : decode cX10_stepHere 96 = .ok (.iconst 0, 1) := by decide +kernel
theorem dX10_stepHere_97 : decode cX10_stepHere 97 = .ok (.iconst 0, 1) := by decide +kernel
theorem dX10_stepHere_98 : decode cX10_stepHere 98 = .ok (.iconst 0, 1) := by decide +kernel
theorem dX10_stepHere_99 : decode cX10_stepHere 99 = .ok (.invokevirtual 127, 3) := by decide +kernel
theorem dX10_stepHere_102 : decode cX10_stepHere 102 = .ok (.ifCond .eq 5, 3) := by decide +kernel
theorem dX10_stepHere_105 : decode cX10_stepHere 105 = .ok (.iconst 5, 1) := by decide +kernel
theorem dX10_stepHere_106 : decode cX10_stepHere 106 = .ok (.ireturn, 1) := by decide +kernel
theorem dX10_stepHere_107 : decode cX10_stepHere 107 = .ok (.aload_n 0, 1) := by decide +kernel
theorem dX10_stepHere_108 : decode cX10_stepHere 108 = .ok (.iconst 4, 1) := by decide +kernel
theorem dX10_stepHere_109 : decode cX10_stepHere 109 = .ok (.bipush 18, 2) := by decide +kernel
theorem dX10_stepHere_111 : decode cX10_stepHere 111 = .ok (.bipush 15, 2) := by decide +kernel
theorem dX10_stepHere_113 : decode cX10_stepHere 113 = .ok (.bipush 16, 2) := by decide +kernel
theorem dX10_stepHere_115 : decode cX10_stepHere 115 = .ok (.iconst 0, 1) := by decide +kernel
theorem dX10_stepHere_116 : decode cX10_stepHere 116 = .ok (.iconst 0, 1) := by decide +kernel
theorem dX10_stepHere_117 : decode cX10_stepHere 117 = .ok (.invokevirtual 127, 3) := by decide +kernel
theorem dX10_stepHere_120 : decode cX10_stepHere 120 = .ok (.ifCond .eq 6, 3) := by decide +kernel
theorem dX10_stepHere_123 : decode cX10_stepHere 123 = .ok (.bipush 6, 2) := by decide +kernel
theorem dX10_stepHere_125 : decode cX10_stepHere 125 = .ok (.ireturn, 1) := by decide +kernel
theorem dX10_stepHere_126 : decode cX10_stepHere 126 = .ok (.aload_n 0, 1) := by decide +kernel
theorem dX10_stepHere_127 : decode cX10_stepHere 127 = .ok (.bipush 23, 2) := by decide +kernel
theorem dX10_stepHere_129 : decode cX10_stepHere 129 = .ok (.bipush 18, 2) := by decide +kernel
theorem dX10_stepHere_131 : decode cX10_stepHere 131 = .ok (.bipush 9, 2) := by decide +kernel
theorem dX10_stepHere_133 : decode cX10_stepHere 133 = .ok (.bipush 20, 2) := by decide +kernel
theorem dX10_stepHere_135 : decode cX10_stepHere 135 = .ok (.iconst 5, 1) := by decide +kernel
theorem dX10_stepHere_136 : decode cX10_stepHere 136 = .ok (.iconst 0, 1) := by decide +kernel
theorem dX10_stepHere_137 : decode cX10_stepHere 137 = .ok (.invokevirtual 127, 3) := by decide +kernel
theorem dX10_stepHere_140 : decode cX10_stepHere 140 = .ok (.ifCond .eq 6, 3) := by decide +kernel
theorem dX10_stepHere_143 : decode cX10_stepHere 143 = .ok (.bipush 7, 2) := by decide +kernel
theorem dX10_stepHere_145 : decode cX10_stepHere 145 = .ok (.ireturn, 1) := by decide +kernel
theorem dX10_stepHere_146 : decode cX10_stepHere 146 = .ok (.aload_n 0, 1) := by decide +kernel
theorem dX10_stepHere_147 : decode cX10_stepHere 147 = .ok (.bipush 19, 2) := by decide +kernel
theorem dX10_stepHere_149 : decode cX10_stepHere 149 = .ok (.bipush 25, 2) := by decide +kernel
theorem dX10_stepHere_151 : decode cX10_stepHere 151 = .ok (.bipush 14, 2) := by decide +kernel
theorem dX10_stepHere_153 : decode cX10_stepHere 153 = .ok (.iconst 3, 1) := by decide +kernel
theorem dX10_stepHere_154 : decode cX10_stepHere 154 = .ok (.iconst 0, 1) := by decide +kernel
theorem dX10_stepHere_155 : decode cX10_stepHere 155 = .ok (.iconst 0, 1) := by decide +kernel
theorem dX10_stepHere_156 : decode cX10_stepHere 156 = .ok (.invokevirtual 127, 3) := by decide +kernel
theorem dX10_stepHere_159 : decode cX10_stepHere 159 = .ok (.ifCond .eq 6, 3) := by decide +kernel
theorem dX10_stepHere_162 : decode cX10_stepHere 162 = .ok (.bipush 8, 2) := by decide +kernel
theorem dX10_stepHere_164 : decode cX10_stepHere 164 = .ok (.ireturn, 1) := by decide +kernel
theorem dX10_stepHere_165 : decode cX10_stepHere 165 = .ok (.aload_n 0, 1) := by decide +kernel
theorem dX10_stepHere_166 : decode cX10_stepHere 166 = .ok (.iconst 3, 1) := by decide +kernel
theorem dX10_stepHere_167 : decode cX10_stepHere 167 = .ok (.bipush 18, 2) := by decide +kernel
theorem dX10_stepHere_169 : decode cX10_stepHere 169 = .ok (.iconst 1, 1) := by decide +kernel
theorem dX10_stepHere_170 : decode cX10_stepHere 170 = .ok (.bipush 19, 2) := by decide +kernel
theorem dX10_stepHere_172 : decode cX10_stepHere 172 = .ok (.bipush 8, 2) := by decide +kernel
theorem dX10_stepHere_174 : decode cX10_stepHere 174 = .ok (.iconst 0, 1) := by decide +kernel
theorem dX10_stepHere_175 : decode cX10_stepHere 175 = .ok (.invokevirtual 127, 3) := by decide +kernel
theorem dX10_stepHere_178 : decode cX10_stepHere 178 = .ok (.ifCond .eq 6, 3) := by decide +kernel
theorem dX10_stepHere_181 : decode cX10_stepHere 181 = .ok (.bipush 9, 2) := by decide +kernel
theorem dX10_stepHere_183 : decode cX10_stepHere 183 = .ok (.ireturn, 1) := by decide +kernel
theorem dX10_stepHere_184 : decode cX10_stepHere 184 = .ok (.aload_n 0, 1) := by decide +kernel
theorem dX10_stepHere_185 : decode cX10_stepHere 185 = .ok (.bipush 19, 2) := by decide +kernel
theorem dX10_stepHere_187 : decode cX10_stepHere 187 = .ok (.bipush 23, 2) := by decide +kernel
theorem dX10_stepHere_189 : decode cX10_stepHere 189 = .ok (.iconst 5, 1) := by decide +kernel
theorem dX10_stepHere_190 : decode cX10_stepHere 190 = .ok (.iconst 5, 1) := by decide +kernel
theorem dX10_stepHere_191 : decode cX10_stepHere 191 = .ok (.bipush 16, 2) := by decide +kernel
theorem dX10_stepHere_193 : decode cX10_stepHere 193 = .ok (.iconst 0, 1) := by decide +kernel
theorem dX10_stepHere_194 : decode cX10_stepHere 194 = .ok (.invokevirtual 127, 3) := by decide +kernel
theorem dX10_stepHere_197 : decode cX10_stepHere 197 = .ok (.ifCond .eq 6, 3) := by decide +kernel
theorem dX10_stepHere_200 : decode cX10_stepHere 200 = .ok (.bipush 10, 2) := by decide +kernel
theorem dX10_stepHere_202 : decode cX10_stepHere 202 = .ok (.ireturn, 1) := by decide +kernel
theorem dX10_stepHere_203 : decode cX10_stepHere 203 = .ok (.aload_n 0, 1) := by decide +kernel
theorem dX10_stepHere_204 : decode cX10_stepHere 204 = .ok (.iconst 1, 1) := by decide +kernel
theorem dX10_stepHere_205 : decode cX10_stepHere 205 = .ok (.bipush 7, 2) := by decide +kernel
theorem dX10_stepHere_207 : decode cX10_stepHere 207 = .ok (.iconst 1, 1) := by decide +kernel
theorem dX10_stepHere_208 : decode cX10_stepHere 208 = .ok (.bipush 9, 2) := by decide +kernel
theorem dX10_stepHere_210 : decode cX10_stepHere 210 = .ok (.bipush 14, 2) := by decide +kernel
theorem dX10_stepHere_212 : decode cX10_stepHere 212 = .ok (.iconst 0, 1) := by decide +kernel
theorem dX10_stepHere_213 : decode cX10_stepHere 213 = .ok (.invokevirtual 127, 3) := by decide +kernel
theorem dX10_stepHere_216 : decode cX10_stepHere 216 = .ok (.ifCond .eq 8, 3) := by decide +kernel
theorem dX10_stepHere_219 : decode cX10_stepHere 219 = .ok (.bipush 11, 2) := by decide +kernel
theorem dX10_stepHere_221 : decode cX10_stepHere 221 = .ok (.goto 4, 3) := by decide +kernel
theorem dX10_stepHere_224 : decode cX10_stepHere 224 = .ok (.iconst (-1), 1) := by decide +kernel
theorem dX10_stepHere_225 : decode cX10_stepHere 225 = .ok (.ireturn, 1) := by decide +kernel
theorem dX10_numbers_0 : decode cX10_numbers 0 = .ok (.aload_n 1, 1) := by decide +kernel
theorem dX10_numbers_1 : decode cX10_numbers 1 = .ok (.iconst 0, 1) := by decide +kernel
theorem dX10_numbers_2 : decode cX10_numbers 2 = .ok (.iaload, 1) := by decide +kernel
theorem dX10_numbers_3 : decode cX10_numbers 3 = .ok (.istore_n 2, 1) := by decide +kernel
theorem dX10_numbers_4 : decode cX10_numbers 4 = .ok (.iload_n 2, 1) := by decide +kernel
theorem dX10_numbers_5 : decode cX10_numbers 5 = .ok (.bipush 7, 2) := by decide +kernel
theorem dX10_numbers_7 : decode cX10_numbers 7 = .ok (.if_icmp .ge 13, 3) := by decide +kernel
theorem dX10_numbers_10 : decode cX10_numbers 10 = .ok (.aload_n 1, 1) := by decide +kernel
theorem dX10_numbers_11 : decode cX10_numbers 11 = .ok (.iconst 1, 1) := by decide +kernel
theorem dX10_numbers_12 : decode cX10_numbers 12 = .ok (.aload_n 0, 1) := by decide +kernel
theorem dX10_numbers_13 : decode cX10_numbers 13 = .ok (.iconst 0, 1) := by decide +kernel
theorem dX10_numbers_14 : decode cX10_numbers 14 = .ok (.bipush 11, 2) := by decide +kernel
theorem dX10_numbers_16 : decode cX10_numbers 16 = .ok (.invokevirtual 131, 3) := by decide +kernel
theorem dX10_numbers_19 : decode cX10_numbers 19 = .ok (.iastore, 1) := by decide +kernel
theorem dX10_numbers_20 : decode cX10_numbers 20 = .ok (.iload_n 2, 1) := by decide +kernel
theorem dX10_numbers_21 : decode cX10_numbers 21 = .ok (.iconst 3, 1) := by decide +kernel
theorem dX10_numbers_22 : decode cX10_numbers 22 = .ok (.if_icmp .lt 9, 3) := by decide +kernel
theorem dX10_numbers_25 : decode cX10_numbers 25 = .ok (.iload_n 2, 1) := by decide +kernel
theorem dX10_numbers_26 : decode cX10_numbers 26 = .ok (.bipush 6, 2) := by decide +kernel
theorem dX10_numbers_28 : decode cX10_numbers 28 = .ok (.if_icmp .ne 13, 3) := by decide +kernel
theorem dX10_numbers_31 : decode cX10_numbers 31 = .ok (.aload_n 1, 1) := by decide +kernel
theorem dX10_numbers_32 : decode cX10_numbers 32 = .ok (.iconst 2, 1) := by decide +kernel
theorem dX10_numbers_33 : decode cX10_numbers 33 = .ok (.aload_n 0, 1) := by decide +kernel
theorem dX10_numbers_34 : decode cX10_numbers 34 = .ok (.iconst 1, 1) := by decide +kernel
theorem dX10_numbers_35 : decode cX10_numbers 35 = .ok (.bipush 99, 2) := by decide +kernel
theorem dX10_numbers_37 : decode cX10_numbers 37 = .ok (.invokevirtual 131, 3) := by decide +kernel
theorem dX10_numbers_40 : decode cX10_numbers 40 = .ok (.iastore, 1) := by decide +kernel
theorem dX10_numbers_41 : decode cX10_numbers 41 = .ok (.iload_n 2, 1) := by decide +kernel
theorem dX10_numbers_42 : decode cX10_numbers 42 = .ok (.iconst 2, 1) := by decide +kernel
theorem dX10_numbers_43 : decode cX10_numbers 43 = .ok (.if_icmp .ne 13, 3) := by decide +kernel
theorem dX10_numbers_46 : decode cX10_numbers 46 = .ok (.aload_n 1, 1) := by decide +kernel
theorem dX10_numbers_47 : decode cX10_numbers 47 = .ok (.iconst 3, 1) := by decide +kernel
theorem dX10_numbers_48 : decode cX10_numbers 48 = .ok (.aload_n 0, 1) := by decide +kernel
theorem dX10_numbers_49 : decode cX10_numbers 49 = .ok (.iconst 0, 1) := by decide +kernel
theorem dX10_numbers_50 : decode cX10_numbers 50 = .ok (.bipush 11, 2) := by decide +kernel
theorem dX10_numbers_52 : decode cX10_numbers 52 = .ok (.invokevirtual 131, 3) := by decide +kernel
theorem dX10_numbers_55 : decode cX10_numbers 55 = .ok (.iastore, 1) := by decide +kernel
theorem dX10_numbers_56 : decode cX10_numbers 56 = .ok (.iload_n 2, 1) := by decide +kernel
theorem dX10_numbers_57 : decode cX10_numbers 57 = .ok (.iconst 3, 1) := by decide +kernel
theorem dX10_numbers_58 : decode cX10_numbers 58 = .ok (.if_icmp .ne 13, 3) := by decide +kernel
theorem dX10_numbers_61 : decode cX10_numbers 61 = .ok (.aload_n 1, 1) := by decide +kernel
theorem dX10_numbers_62 : decode cX10_numbers 62 = .ok (.iconst 2, 1) := by decide +kernel
theorem dX10_numbers_63 : decode cX10_numbers 63 = .ok (.aload_n 0, 1) := by decide +kernel
theorem dX10_numbers_64 : decode cX10_numbers 64 = .ok (.iconst 0, 1) := by decide +kernel
theorem dX10_numbers_65 : decode cX10_numbers 65 = .ok (.bipush 99, 2) := by decide +kernel
theorem dX10_numbers_67 : decode cX10_numbers 67 = .ok (.invokevirtual 131, 3) := by decide +kernel
theorem dX10_numbers_70 : decode cX10_numbers 70 = .ok (.iastore, 1) := by decide +kernel
theorem dX10_numbers_71 : decode cX10_numbers 71 = .ok (.iload_n 2, 1) := by decide +kernel
theorem dX10_numbers_72 : decode cX10_numbers 72 = .ok (.iconst 4, 1) := by decide +kernel
theorem dX10_numbers_73 : decode cX10_numbers 73 = .ok (.if_icmp .ne 23, 3) := by decide +kernel
theorem dX10_numbers_76 : decode cX10_numbers 76 = .ok (.aload_n 1, 1) := by decide +kernel
theorem dX10_numbers_77 : decode cX10_numbers 77 = .ok (.iconst 2, 1) := by decide +kernel
theorem dX10_numbers_78 : decode cX10_numbers 78 = .ok (.aload_n 0, 1) := by decide +kernel
theorem dX10_numbers_79 : decode cX10_numbers 79 = .ok (.iconst 0, 1) := by decide +kernel
theorem dX10_numbers_80 : decode cX10_numbers 80 = .ok (.bipush 31, 2) := by decide +kernel
theorem dX10_numbers_82 : decode cX10_numbers 82 = .ok (.invokevirtual 131, 3) := by decide +kernel
theorem dX10_numbers_85 : decode cX10_numbers 85 = .ok (.iastore, 1) := by decide +kernel
theorem dX10_numbers_86 : decode cX10_numbers 86 = .ok (.aload_n 1, 1) := by decide +kernel
theorem dX10_numbers_87 : decode cX10_numbers 87 = .ok (.iconst 3, 1) := by decide +kernel
theorem dX10_numbers_88 : decode cX10_numbers 88 = .ok (.aload_n 0, 1) := by decide +kernel
theorem dX10_numbers_89 : decode cX10_numbers 89 = .ok (.iconst 0, 1) := by decide +kernel
theorem dX10_numbers_90 : decode cX10_numbers 90 = .ok (.bipush 99, 2) := by decide +kernel
theorem dX10_numbers_92 : decode cX10_numbers 92 = .ok (.invokevirtual 131, 3) := by decide +kernel
theorem dX10_numbers_95 : decode cX10_numbers 95 = .ok (.iastore, 1) := by decide +kernel
theorem dX10_numbers_96 : decode cX10_numbers 96 = .ok (.iload_n 2, 1) := by decide +kernel
theorem dX10_numbers_97 : decode cX10_numbers 97 = .ok (.bipush 7, 2) := by decide +kernel
theorem dX10_numbers_99 : decode cX10_numbers 99 = .ok (.if_icmp .ne 13, 3) := by decide +kernel
theorem dX10_numbers_102 : decode cX10_numbers 102 = .ok (.aload_n 1, 1) := by decide +kernel
theorem dX10_numbers_103 : decode cX10_numbers 103 = .ok (.iconst 1, 1) := by decide +kernel
theorem dX10_numbers_104 : decode cX10_numbers 104 = .ok (.aload_n 0, 1) := by decide +kernel
theorem dX10_numbers_105 : decode cX10_numbers 105 = .ok (.iconst 0, 1) := by decide +kernel
theorem dX10_numbers_106 : decode cX10_numbers 106 = .ok (.bipush 15, 2) := by decide +kernel
theorem dX10_numbers_108 : decode cX10_numbers 108 = .ok (.invokevirtual 131, 3) := by decide +kernel
theorem dX10_numbers_111 : decode cX10_numbers 111 = .ok (.iastore, 1) := by decide +kernel
theorem dX10_numbers_112 : decode cX10_numbers 112 = .ok (.return_, 1) := by decide +kernel
theorem dX10_again_0 : decode cX10_again 0 = .ok (.aload_n 1, 1) := by decide +kernel
theorem dX10_again_1 : decode cX10_again 1 = .ok (.iconst 1, 1) := by decide +kernel
theorem dX10_again_2 : decode cX10_again 2 = .ok (.aload_n 0, 1) := by decide +kernel
theorem dX10_again_3 : decode cX10_again 3 = .ok (.iconst 0, 1) := by decide +kernel
theorem dX10_again_4 : decode cX10_again 4 = .ok (.bipush 60, 2) := by decide +kernel
theorem dX10_again_6 : decode cX10_again 6 = .ok (.invokevirtual 131, 3) := by decide +kernel
theorem dX10_again_9 : decode cX10_again 9 = .ok (.iastore, 1) := by decide +kernel
theorem dX10_again_10 : decode cX10_again 10 = .ok (.aload_n 0, 1) := by decide +kernel
theorem dX10_again_11 : decode cX10_again 11 = .ok (.bipush 91, 2) := by decide +kernel
theorem dX10_again_13 : decode cX10_again 13 = .ok (.invokevirtual 135, 3) := by decide +kernel
theorem dX10_again_16 : decode cX10_again 16 = .ok (.aload_n 0, 1) := by decide +kernel
theorem dX10_again_17 : decode cX10_again 17 = .ok (.invokevirtual 94, 3) := by decide +kernel
theorem dX10_again_20 : decode cX10_again 20 = .ok (.aload_n 0, 1) := by decide +kernel
theorem dX10_again_21 : decode cX10_again 21 = .ok (.getfield 88, 3) := by decide +kernel
theorem dX10_again_24 : decode cX10_again 24 = .ok (.ifCond .ne 27, 3) := by decide +kernel
theorem dX10_again_27 : decode cX10_again 27 = .ok (.aload_n 0, 1) := by decide +kernel
theorem dX10_again_28 : decode cX10_again 28 = .ok (.aload_n 0, 1) := by decide +kernel
theorem dX10_again_29 : decode cX10_again 29 = .ok (.getfield 81, 3) := by decide +kernel
theorem dX10_again_32 : decode cX10_again 32 = .ok (.invokevirtual 84, 3) := by decide +kernel
theorem dX10_again_35 : decode cX10_again 35 = .ok (.bipush 93, 2) := by decide +kernel
theorem dX10_again_37 : decode cX10_again 37 = .ok (.if_icmp .eq 14, 3) := by decide +kernel
theorem dX10_again_40 : decode cX10_again 40 = .ok (.aload_n 0, 1) := by decide +kernel
theorem dX10_again_41 : decode cX10_again 41 = .ok (.invokevirtual 139, 3) := by decide +kernel
theorem dX10_again_44 : decode cX10_again 44 = .ok (.aload_n 0, 1) := by decide +kernel
theorem dX10_again_45 : decode cX10_again 45 = .ok (.invokevirtual 94, 3) := by decide +kernel
theorem dX10_again_48 : decode cX10_again 48 = .ok (.goto (-28), 3) := by decide +kernel
theorem dX10_again_51 : decode cX10_again 51 = .ok (.aload_n 0, 1) := by decide +kernel
theorem dX10_again_52 : decode cX10_again 52 = .ok (.bipush 93, 2) := by decide +kernel
theorem dX10_again_54 : decode cX10_again 54 = .ok (.invokevirtual 135, 3) := by decide +kernel
theorem dX10_again_57 : decode cX10_again 57 = .ok (.aload_n 0, 1) := by decide +kernel
theorem dX10_again_58 : decode cX10_again 58 = .ok (.dup, 1) := by decide +kernel
theorem dX10_again_59 : decode cX10_again 59 = .ok (.getfield 124, 3) := by decide +kernel
theorem dX10_again_62 : decode cX10_again 62 = .ok (.iconst 1, 1) := by decide +kernel
theorem dX10_again_63 : decode cX10_again 63 = .ok (.isub, 1) := by decide +kernel
theorem dX10_again_64 : decode cX10_again 64 = .ok (.putfield 124, 3) := by decide +kernel
theorem dX10_again_67 : decode cX10_again 67 = .ok (.return_, 1) := by decide +kernel
theorem dX10_readsStep_0 : decode cX10_readsStep 0 = .ok (.aload_n 0, 1) := by decide +kernel
theorem dX10_readsStep_1 : decode cX10_readsStep 1 = .ok (.invokevirtual 142, 3) := by decide +kernel
theorem dX10_readsStep_4 : decode cX10_readsStep 4 = .ok (.istore_n 1, 1) := by decide +kernel
theorem dX10_readsStep_5 : decode cX10_readsStep 5 = .ok (.iload_n 1, 1) := by decide +kernel
theorem dX10_readsStep_6 : decode cX10_readsStep 6 = .ok (.iconst (-1), 1) := by decide +kernel
theorem dX10_readsStep_7 : decode cX10_readsStep 7 = .ok (.if_icmp .ne 15, 3) := by decide +kernel
theorem dX10_readsStep_10 : decode cX10_readsStep 10 = .ok (.aload_n 0, 1) := by decide +kernel
theorem dX10_readsStep_11 : decode cX10_readsStep 11 = .ok (.iconst 1, 1) := by decide +kernel
theorem dX10_readsStep_12 : decode cX10_readsStep 12 = .ok (.aload_n 0, 1) := by decide +kernel
theorem dX10_readsStep_13 : decode cX10_readsStep 13 = .ok (.getfield 81, 3) := by decide +kernel
theorem dX10_readsStep_16 : decode cX10_readsStep 16 = .ok (.invokevirtual 101, 3) := by decide +kernel
theorem dX10_readsStep_19 : decode cX10_readsStep 19 = .ok (.goto 27, 3) := by decide +kernel
theorem dX10_readsStep_22 : decode cX10_readsStep 22 = .ok (.iload_n 1, 1) := by decide +kernel
theorem dX10_readsStep_23 : decode cX10_readsStep 23 = .ok (.bipush 11, 2) := by decide +kernel
theorem dX10_readsStep_25 : decode cX10_readsStep 25 = .ok (.if_icmp .ne 21, 3) := by decide +kernel
theorem dX10_readsStep_28 : decode cX10_readsStep 28 = .ok (.aload_n 0, 1) := by decide +kernel
theorem dX10_readsStep_29 : decode cX10_readsStep 29 = .ok (.getfield 124, 3) := by decide +kernel
theorem dX10_readsStep_32 : decode cX10_readsStep 32 = .ok (.bipush 6, 2) := by decide +kernel
theorem dX10_readsStep_34 : decode cX10_readsStep 34 = .ok (.if_icmp .ne 12, 3) := by decide +kernel
theorem dX10_readsStep_37 : decode cX10_readsStep 37 = .ok (.aload_n 0, 1) := by decide +kernel
theorem dX10_readsStep_38 : decode cX10_readsStep 38 = .ok (.iconst 3, 1) := by decide +kernel
theorem dX10_readsStep_39 : decode cX10_readsStep 39 = .ok (.aload_n 0, 1) := by decide +kernel
theorem dX10_readsStep_40 : decode cX10_readsStep 40 = .ok (.getfield 81, 3) := by decide +kernel
theorem dX10_readsStep_43 : decode cX10_readsStep 43 = .ok (.invokevirtual 101, 3) := by decide +kernel
theorem dX10_readsStep_46 : decode cX10_readsStep 46 = .ok (.aload_n 0, 1) := by decide +kernel
theorem dX10_readsStep_47 : decode cX10_readsStep 47 = .ok (.getfield 88, 3) := by decide +kernel
theorem dX10_readsStep_50 : decode cX10_readsStep 50 = .ok (.ifCond .eq 4, 3) := by decide +kernel
theorem dX10_readsStep_53 : decode cX10_readsStep 53 = .ok (.return_, 1) := by decide +kernel
theorem dX10_readsStep_54 : decode cX10_readsStep 54 = .ok (.aload_n 0, 1) := by decide +kernel
theorem dX10_readsStep_55 : decode cX10_readsStep 55 = .ok (.dup, 1) := by decide +kernel
theorem dX10_readsStep_56 : decode cX10_readsStep 56 = .ok (.getfield 124, 3) := by decide +kernel
theorem dX10_readsStep_59 : decode cX10_readsStep 59 = .ok (.iload_n 1, 1) := by decide +kernel
theorem dX10_readsStep_60 : decode cX10_readsStep 60 = .ok (.bipush 11, 2) := by decide +kernel
theorem dX10_readsStep_62 : decode cX10_readsStep 62 = .ok (.if_icmp .ne 7, 3) := by decide +kernel
theorem dX10_readsStep_65 : decode cX10_readsStep 65 = .ok (.iconst 1, 1) := by decide +kernel
theorem dX10_readsStep_66 : decode cX10_readsStep 66 = .ok (.goto 4, 3) := by decide +kernel
theorem dX10_readsStep_69 : decode cX10_readsStep 69 = .ok (.iconst 0, 1) := by decide +kernel
theorem dX10_readsStep_70 : decode cX10_readsStep 70 = .ok (.iadd, 1) := by decide +kernel
theorem dX10_readsStep_71 : decode cX10_readsStep 71 = .ok (.putfield 124, 3) := by decide +kernel
theorem dX10_readsStep_74 : decode cX10_readsStep 74 = .ok (.aload_n 0, 1) := by decide +kernel
theorem dX10_readsStep_75 : decode cX10_readsStep 75 = .ok (.invokevirtual 145, 3) := by decide +kernel
theorem dX10_readsStep_78 : decode cX10_readsStep 78 = .ok (.aload_n 0, 1) := by decide +kernel
theorem dX10_readsStep_79 : decode cX10_readsStep 79 = .ok (.getfield 28, 3) := by decide +kernel
theorem dX10_readsStep_82 : decode cX10_readsStep 82 = .ok (.aload_n 0, 1) := by decide +kernel
theorem dX10_readsStep_83 : decode cX10_readsStep 83 = .ok (.getfield 66, 3) := by decide +kernel
theorem dX10_readsStep_86 : decode cX10_readsStep 86 = .ok (.aaload, 1) := by decide +kernel
theorem dX10_readsStep_87 : decode cX10_readsStep 87 = .ok (.astore_n 2, 1) := by decide +kernel
theorem dX10_readsStep_88 : decode cX10_readsStep 88 = .ok (.aload_n 0, 1) := by decide +kernel
theorem dX10_readsStep_89 : decode cX10_readsStep 89 = .ok (.dup, 1) := by decide +kernel
theorem dX10_readsStep_90 : decode cX10_readsStep 90 = .ok (.getfield 66, 3) := by decide +kernel
theorem dX10_readsStep_93 : decode cX10_readsStep 93 = .ok (.iconst 1, 1) := by decide +kernel
theorem dX10_readsStep_94 : decode cX10_readsStep 94 = .ok (.iadd, 1) := by decide +kernel
theorem dX10_readsStep_95 : decode cX10_readsStep 95 = .ok (.putfield 66, 3) := by decide +kernel
theorem dX10_readsStep_98 : decode cX10_readsStep 98 = .ok (.aload_n 2, 1) := by decide +kernel
theorem dX10_readsStep_99 : decode cX10_readsStep 99 = .ok (.iconst 0, 1) := by decide +kernel
theorem dX10_readsStep_100 : decode cX10_readsStep 100 = .ok (.iload_n 1, 1) := by decide +kernel
theorem dX10_readsStep_101 : decode cX10_readsStep 101 = .ok (.iastore, 1) := by decide +kernel
theorem dX10_readsStep_102 : decode cX10_readsStep 102 = .ok (.aload_n 0, 1) := by decide +kernel
theorem dX10_readsStep_103 : decode cX10_readsStep 103 = .ok (.aload_n 2, 1) := by decide +kernel
theorem dX10_readsStep_104 : decode cX10_readsStep 104 = .ok (.invokevirtual 148, 3) := by decide +kernel
theorem dX10_readsStep_107 : decode cX10_readsStep 107 = .ok (.iload_n 1, 1) := by decide +kernel
theorem dX10_readsStep_108 : decode cX10_readsStep 108 = .ok (.bipush 11, 2) := by decide +kernel
theorem dX10_readsStep_110 : decode cX10_readsStep 110 = .ok (.if_icmp .ne 8, 3) := by decide +kernel
theorem dX10_readsStep_113 : decode cX10_readsStep 113 = .ok (.aload_n 0, 1) := by decide +kernel
theorem dX10_readsStep_114 : decode cX10_readsStep 114 = .ok (.aload_n 2, 1) := by decide +kernel
theorem dX10_readsStep_115 : decode cX10_readsStep 115 = .ok (.invokevirtual 152, 3) := by decide +kernel
theorem dX10_readsStep_118 : decode cX10_readsStep 118 = .ok (.aload_n 2, 1) := by decide +kernel
theorem dX10_readsStep_119 : decode cX10_readsStep 119 = .ok (.iconst 4, 1) := by decide +kernel
theorem dX10_readsStep_120 : decode cX10_readsStep 120 = .ok (.aload_n 0, 1) := by decide +kernel
theorem dX10_readsStep_121 : decode cX10_readsStep 121 = .ok (.getfield 66, 3) := by decide +kernel
theorem dX10_readsStep_124 : decode cX10_readsStep 124 = .ok (.iastore, 1) := by decide +kernel
theorem dX10_readsStep_125 : decode cX10_readsStep 125 = .ok (.aload_n 0, 1) := by decide +kernel
theorem dX10_readsStep_126 : decode cX10_readsStep 126 = .ok (.bipush 59, 2) := by decide +kernel
theorem dX10_readsStep_128 : decode cX10_readsStep 128 = .ok (.invokevirtual 135, 3) := by decide +kernel
theorem dX10_readsStep_131 : decode cX10_readsStep 131 = .ok (.return_, 1) := by decide +kernel
theorem dX10_clause_0 : decode cX10_clause 0 = .ok (.aload_n 0, 1) := by decide +kernel
theorem dX10_clause_1 : decode cX10_clause 1 = .ok (.bipush 19, 2) := by decide +kernel
theorem dX10_clause_3 : decode cX10_clause 3 = .ok (.bipush 9, 2) := by decide +kernel
theorem dX10_clause_5 : decode cX10_clause 5 = .ok (.bipush 26, 2) := by decide +kernel
theorem dX10_clause_7 : decode cX10_clause 7 = .ok (.iconst 5, 1) := by decide +kernel
theorem dX10_clause_8 : decode cX10_clause 8 = .ok (.iconst 0, 1) := by decide +kernel
theorem dX10_clause_9 : decode cX10_clause 9 = .ok (.iconst 0, 1) := by decide +kernel
theorem dX10_clause_10 : decode cX10_clause 10 = .ok (.invokevirtual 127, 3) := by decide +kernel
theorem dX10_clause_13 : decode cX10_clause 13 = .ok (.istore_n 1, 1) := by decide +kernel
theorem dX10_clause_14 : decode cX10_clause 14 = .ok (.aload_n 0, 1) := by decide +kernel
theorem dX10_clause_15 : decode cX10_clause 15 = .ok (.invokevirtual 142, 3) := by decide +kernel
theorem dX10_clause_18 : decode cX10_clause 18 = .ok (.istore_n 2, 1) := by decide +kernel
theorem dX10_clause_19 : decode cX10_clause 19 = .ok (.iload_n 1, 1) := by decide +kernel
theorem dX10_clause_20 : decode cX10_clause 20 = .ok (.ifCond .ne 24, 3) := by decide +kernel
theorem dX10_clause_23 : decode cX10_clause 23 = .ok (.iload_n 2, 1) := by decide +kernel
theorem dX10_clause_24 : decode cX10_clause 24 = .ok (.iconst 0, 1) := by decide +kernel
theorem dX10_clause_25 : decode cX10_clause 25 = .ok (.iconst 4, 1) := by decide +kernel
theorem dX10_clause_26 : decode cX10_clause 26 = .ok (.invokestatic 106, 3) := by decide +kernel
theorem dX10_clause_29 : decode cX10_clause 29 = .ok (.ifCond .ne 15, 3) := by decide +kernel
theorem dX10_clause_32 : decode cX10_clause 32 = .ok (.aload_n 0, 1) := by decide +kernel
theorem dX10_clause_33 : decode cX10_clause 33 = .ok (.iconst 1, 1) := by decide +kernel
theorem dX10_clause_34 : decode cX10_clause 34 = .ok (.aload_n 0, 1) := by decide +kernel
theorem dX10_clause_35 : decode cX10_clause 35 = .ok (.getfield 81, 3) := by decide +kernel
theorem dX10_clause_38 : decode cX10_clause 38 = .ok (.invokevirtual 101, 3) := by decide +kernel
theorem dX10_clause_41 : decode cX10_clause 41 = .ok (.goto 21, 3) := by decide +kernel
theorem dX10_clause_44 : decode cX10_clause 44 = .ok (.aload_n 0, 1) := by decide +kernel
theorem dX10_clause_45 : decode cX10_clause 45 = .ok (.getfield 121, 3) := by decide +kernel
theorem dX10_clause_48 : decode cX10_clause 48 = .ok (.bipush 60, 2) := by decide +kernel
theorem dX10_clause_50 : decode cX10_clause 50 = .ok (.if_icmp .ne 12, 3) := by decide +kernel
theorem dX10_clause_53 : decode cX10_clause 53 = .ok (.aload_n 0, 1) := by decide +kernel
theorem dX10_clause_54 : decode cX10_clause 54 = .ok (.iconst 3, 1) := by decide +kernel
theorem dX10_clause_55 : decode cX10_clause 55 = .ok (.aload_n 0, 1) := by decide +kernel
theorem dX10_clause_56 : decode cX10_clause 56 = .ok (.getfield 81, 3) := by decide +kernel
theorem dX10_clause_59 : decode cX10_clause 59 = .ok (.invokevirtual 101, 3) := by decide +kernel
theorem dX10_clause_62 : decode cX10_clause 62 = .ok (.aload_n 0, 1) := by decide +kernel
theorem dX10_clause_63 : decode cX10_clause 63 = .ok (.getfield 88, 3) := by decide +kernel
theorem dX10_clause_66 : decode cX10_clause 66 = .ok (.ifCond .eq 4, 3) := by decide +kernel
theorem dX10_clause_69 : decode cX10_clause 69 = .ok (.return_, 1) := by decide +kernel
theorem dX10_clause_70 : decode cX10_clause 70 = .ok (.aload_n 0, 1) := by decide +kernel
theorem dX10_clause_71 : decode cX10_clause 71 = .ok (.dup, 1) := by decide +kernel
theorem dX10_clause_72 : decode cX10_clause 72 = .ok (.getfield 121, 3) := by decide +kernel
theorem dX10_clause_75 : decode cX10_clause 75 = .ok (.iconst 1, 1) := by decide +kernel
theorem dX10_clause_76 : decode cX10_clause 76 = .ok (.iadd, 1) := by decide +kernel
theorem dX10_clause_77 : decode cX10_clause 77 = .ok (.putfield 121, 3) := by decide +kernel
theorem dX10_clause_80 : decode cX10_clause 80 = .ok (.iload_n 1, 1) := by decide +kernel
theorem dX10_clause_81 : decode cX10_clause 81 = .ok (.ifCond .ne 8, 3) := by decide +kernel
theorem dX10_clause_84 : decode cX10_clause 84 = .ok (.aload_n 0, 1) := by decide +kernel
theorem dX10_clause_85 : decode cX10_clause 85 = .ok (.invokevirtual 139, 3) := by decide +kernel
theorem dX10_clause_88 : decode cX10_clause 88 = .ok (.return_, 1) := by decide +kernel
theorem dX10_clause_89 : decode cX10_clause 89 = .ok (.aload_n 0, 1) := by decide +kernel
theorem dX10_clause_90 : decode cX10_clause 90 = .ok (.invokevirtual 145, 3) := by decide +kernel
theorem dX10_clause_93 : decode cX10_clause 93 = .ok (.aload_n 0, 1) := by decide +kernel
theorem dX10_clause_94 : decode cX10_clause 94 = .ok (.aload_n 0, 1) := by decide +kernel
theorem dX10_clause_95 : decode cX10_clause 95 = .ok (.bipush 6, 2) := by decide +kernel
theorem dX10_clause_97 : decode cX10_clause 97 = .ok (.bipush 16, 2) := by decide +kernel
theorem dX10_clause_99 : decode cX10_clause 99 = .ok (.invokevirtual 131, 3) := by decide +kernel
theorem dX10_clause_102 : decode cX10_clause 102 = .ok (.putfield 63, 3) := by decide +kernel
theorem dX10_clause_105 : decode cX10_clause 105 = .ok (.aload_n 0, 1) := by decide +kernel
theorem dX10_clause_106 : decode cX10_clause 106 = .ok (.bipush 59, 2) := by decide +kernel
theorem dX10_clause_108 : decode cX10_clause 108 = .ok (.invokevirtual 135, 3) := by decide +kernel
theorem dX10_clause_111 : decode cX10_clause 111 = .ok (.return_, 1) := by decide +kernel
theorem dX10_store_0 : decode cX10_store 0 = .ok (.aload_n 0, 1) := by decide +kernel
theorem dX10_store_1 : decode cX10_store 1 = .ok (.iconst 0, 1) := by decide +kernel
theorem dX10_store_2 : decode cX10_store 2 = .ok (.putfield 72, 3) := by decide +kernel
theorem dX10_store_5 : decode cX10_store 5 = .ok (.aload_n 0, 1) := by decide +kernel
theorem dX10_store_6 : decode cX10_store 6 = .ok (.iload_n 1, 1) := by decide +kernel
theorem dX10_store_7 : decode cX10_store 7 = .ok (.iconst 0, 1) := by decide +kernel
theorem dX10_store_8 : decode cX10_store 8 = .ok (.aload_n 0, 1) := by decide +kernel
theorem dX10_store_9 : decode cX10_store 9 = .ok (.getfield 75, 3) := by decide +kernel
theorem dX10_store_12 : decode cX10_store 12 = .ok (.invokestatic 106, 3) := by decide +kernel
theorem dX10_store_15 : decode cX10_store 15 = .ok (.ifCond .ne 7, 3) := by decide +kernel
theorem dX10_store_18 : decode cX10_store 18 = .ok (.iconst 1, 1) := by decide +kernel
theorem dX10_store_19 : decode cX10_store 19 = .ok (.goto 4, 3) := by decide +kernel
theorem dX10_store_22 : decode cX10_store 22 = .ok (.iconst 0, 1) := by decide +kernel
theorem dX10_store_23 : decode cX10_store 23 = .ok (.iconst 1, 1) := by decide +kernel
theorem dX10_store_24 : decode cX10_store 24 = .ok (.iconst 1, 1) := by decide +kernel
theorem dX10_store_25 : decode cX10_store 25 = .ok (.invokevirtual 155, 3) := by decide +kernel
theorem dX10_store_28 : decode cX10_store 28 = .ok (.ifCond .eq 5, 3) := by decide +kernel
theorem dX10_store_31 : decode cX10_store 31 = .ok (.iconst 0, 1) := by decide +kernel
theorem dX10_store_32 : decode cX10_store 32 = .ok (.ireturn, 1) := by decide +kernel
theorem dX10_store_33 : decode cX10_store 33 = .ok (.aload_n 0, 1) := by decide +kernel
theorem dX10_store_34 : decode cX10_store 34 = .ok (.iload_n 1, 1) := by decide +kernel
theorem dX10_store_35 : decode cX10_store 35 = .ok (.invokevirtual 159, 3) := by decide +kernel
theorem dX10_store_38 : decode cX10_store 38 = .ok (.aload_n 0, 1) := by decide +kernel
theorem dX10_store_39 : decode cX10_store 39 = .ok (.bipush 16, 2) := by decide +kernel
theorem dX10_store_41 : decode cX10_store 41 = .ok (.putfield 63, 3) := by decide +kernel
theorem dX10_store_44 : decode cX10_store 44 = .ok (.aload_n 0, 1) := by decide +kernel
theorem dX10_store_45 : decode cX10_store 45 = .ok (.iconst 0, 1) := by decide +kernel
theorem dX10_store_46 : decode cX10_store 46 = .ok (.putfield 66, 3) := by decide +kernel
theorem dX10_store_49 : decode cX10_store 49 = .ok (.aload_n 0, 1) := by decide +kernel
theorem dX10_store_50 : decode cX10_store 50 = .ok (.getfield 88, 3) := by decide +kernel
theorem dX10_store_53 : decode cX10_store 53 = .ok (.ifCond .ne 25, 3) := by decide +kernel
theorem dX10_store_56 : decode cX10_store 56 = .ok (.aload_n 0, 1) := by decide +kernel
theorem dX10_store_57 : decode cX10_store 57 = .ok (.getfield 81, 3) := by decide +kernel
theorem dX10_store_60 : decode cX10_store 60 = .ok (.aload_n 0, 1) := by decide +kernel
theorem dX10_store_61 : decode cX10_store 61 = .ok (.getfield 78, 3) := by decide +kernel
theorem dX10_store_64 : decode cX10_store 64 = .ok (.if_icmp .ge 14, 3) := by decide +kernel
theorem dX10_store_67 : decode cX10_store 67 = .ok (.aload_n 0, 1) := by decide +kernel
theorem dX10_store_68 : decode cX10_store 68 = .ok (.invokevirtual 162, 3) := by decide +kernel
theorem dX10_store_71 : decode cX10_store 71 = .ok (.aload_n 0, 1) := by decide +kernel
theorem dX10_store_72 : decode cX10_store 72 = .ok (.invokevirtual 94, 3) := by decide +kernel
theorem dX10_store_75 : decode cX10_store 75 = .ok (.goto (-26), 3) := by decide +kernel
theorem dX10_store_78 : decode cX10_store 78 = .ok (.aload_n 0, 1) := by decide +kernel
theorem dX10_store_79 : decode cX10_store 79 = .ok (.getfield 88, 3) := by decide +kernel
theorem dX10_store_82 : decode cX10_store 82 = .ok (.ifCond .eq 8, 3) := by decide +kernel
theorem dX10_store_85 : decode cX10_store 85 = .ok (.aload_n 0, 1) := by decide +kernel
theorem dX10_store_86 : decode cX10_store 86 = .ok (.invokevirtual 165, 3) := by decide +kernel
theorem dX10_store_89 : decode cX10_store 89 = .ok (.ireturn, 1) := by decide +kernel
theorem dX10_store_90 : decode cX10_store 90 = .ok (.aload_n 0, 1) := by decide +kernel
theorem dX10_store_91 : decode cX10_store 91 = .ok (.iconst (-1), 1) := by decide +kernel
theorem dX10_store_92 : decode cX10_store 92 = .ok (.putfield 9, 3) := by decide +kernel
theorem dX10_store_95 : decode cX10_store 95 = .ok (.aload_n 0, 1) := by decide +kernel
theorem dX10_store_96 : decode cX10_store 96 = .ok (.invokevirtual 69, 3) := by decide +kernel
theorem dX10_store_99 : decode cX10_store 99 = .ok (.aload_n 0, 1) := by decide +kernel
theorem dX10_store_100 : decode cX10_store 100 = .ok (.getfield 168, 3) := by decide +kernel
theorem dX10_store_103 : decode cX10_store 103 = .ok (.ireturn, 1) := by decide +kernel
theorem dX10_copies_0 : decode cX10_copies 0 = .ok (.iconst 0, 1) := by decide +kernel
theorem dX10_copies_1 : decode cX10_copies 1 = .ok (.istore_n 2, 1) := by decide +kernel
theorem dX10_copies_2 : decode cX10_copies 2 = .ok (.iload_n 2, 1) := by decide +kernel
theorem dX10_copies_3 : decode cX10_copies 3 = .ok (.sipush 3398, 3) := by decide +kernel
theorem dX10_copies_6 : decode cX10_copies 6 = .ok (.if_icmp .ge 15, 3) := by decide +kernel
theorem dX10_copies_9 : decode cX10_copies 9 = .ok (.aload_n 1, 1) := by decide +kernel
theorem dX10_copies_10 : decode cX10_copies 10 = .ok (.iload_n 2, 1) := by decide +kernel
theorem dX10_copies_11 : decode cX10_copies 11 = .ok (.aload_n 0, 1) := by decide +kernel
theorem dX10_copies_12 : decode cX10_copies 12 = .ok (.iload_n 2, 1) := by decide +kernel
theorem dX10_copies_13 : decode cX10_copies 13 = .ok (.iaload, 1) := by decide +kernel
theorem dX10_copies_14 : decode cX10_copies 14 = .ok (.iastore, 1) := by decide +kernel
theorem dX10_copies_15 : decode cX10_copies 15 = .ok (.iinc 2 1, 3) := by decide +kernel
theorem dX10_copies_18 : decode cX10_copies 18 = .ok (.goto (-16), 3) := by decide +kernel
theorem dX10_copies_21 : decode cX10_copies 21 = .ok (.return_, 1) := by decide +kernel
theorem dX10_safe_0 : decode cX10_safe 0 = .ok (.iconst 0, 1) := by decide +kernel
theorem dX10_safe_1 : decode cX10_safe 1 = .ok (.istore_n 1, 1) := by decide +kernel
theorem dX10_safe_2 : decode cX10_safe 2 = .ok (.iload_n 1, 1) := by decide +kernel
theorem dX10_safe_3 : decode cX10_safe 3 = .ok (.sipush 256, 3) := by decide +kernel
theorem dX10_safe_6 : decode cX10_safe 6 = .ok (.if_icmp .ge 21, 3) := by decide +kernel
theorem dX10_safe_9 : decode cX10_safe 9 = .ok (.aload_n 0, 1) := by decide +kernel
theorem dX10_safe_10 : decode cX10_safe 10 = .ok (.sipush 256, 3) := by decide +kernel
theorem dX10_safe_13 : decode cX10_safe 13 = .ok (.iload_n 1, 1) := by decide +kernel
theorem dX10_safe_14 : decode cX10_safe 14 = .ok (.iadd, 1) := by decide +kernel
theorem dX10_safe_15 : decode cX10_safe 15 = .ok (.aload_n 0, 1) := by decide +kernel
theorem dX10_safe_16 : decode cX10_safe 16 = .ok (.iconst 0, 1) := by decide +kernel
theorem dX10_safe_17 : decode cX10_safe 17 = .ok (.iload_n 1, 1) := by decide +kernel
theorem dX10_safe_18 : decode cX10_safe 18 = .ok (.iadd, 1) := by decide +kernel
theorem dX10_safe_19 : decode cX10_safe 19 = .ok (.iaload, 1) := by decide +kernel
theorem dX10_safe_20 : decode cX10_safe 20 = .ok (.iastore, 1) := by decide +kernel
theorem dX10_safe_21 : decode cX10_safe 21 = .ok (.iinc 1 1, 3) := by decide +kernel
theorem dX10_safe_24 : decode cX10_safe 24 = .ok (.goto (-22), 3) := by decide +kernel
theorem dX10_safe_27 : decode cX10_safe 27 = .ok (.aload_n 0, 1) := by decide +kernel
theorem dX10_safe_28 : decode cX10_safe 28 = .ok (.sipush 3392, 3) := by decide +kernel
theorem dX10_safe_31 : decode cX10_safe 31 = .ok (.iconst 0, 1) := by decide +kernel
theorem dX10_safe_32 : decode cX10_safe 32 = .ok (.iastore, 1) := by decide +kernel
theorem dX10_safe_33 : decode cX10_safe 33 = .ok (.aload_n 0, 1) := by decide +kernel
theorem dX10_safe_34 : decode cX10_safe 34 = .ok (.sipush 3393, 3) := by decide +kernel
theorem dX10_safe_37 : decode cX10_safe 37 = .ok (.iconst 0, 1) := by decide +kernel
theorem dX10_safe_38 : decode cX10_safe 38 = .ok (.iastore, 1) := by decide +kernel
theorem dX10_safe_39 : decode cX10_safe 39 = .ok (.return_, 1) := by decide +kernel
theorem dX10_beginsAnew_0 : decode cX10_beginsAnew 0 = .ok (.aload_n 0, 1) := by decide +kernel
theorem dX10_beginsAnew_1 : decode cX10_beginsAnew 1 = .ok (.aload_n 0, 1) := by decide +kernel
theorem dX10_beginsAnew_2 : decode cX10_beginsAnew 2 = .ok (.getfield 63, 3) := by decide +kernel
theorem dX10_beginsAnew_5 : decode cX10_beginsAnew 5 = .ok (.putfield 168, 3) := by decide +kernel
theorem dX10_beginsAnew_8 : decode cX10_beginsAnew 8 = .ok (.iconst 0, 1) := by decide +kernel
theorem dX10_beginsAnew_9 : decode cX10_beginsAnew 9 = .ok (.istore_n 1, 1) := by decide +kernel
theorem dX10_beginsAnew_10 : decode cX10_beginsAnew 10 = .ok (.iload_n 1, 1) := by decide +kernel
theorem dX10_beginsAnew_11 : decode cX10_beginsAnew 11 = .ok (.sipush 3398, 3) := by decide +kernel
theorem dX10_beginsAnew_14 : decode cX10_beginsAnew 14 = .ok (.if_icmp .ge 16, 3) := by decide +kernel
theorem dX10_beginsAnew_17 : decode cX10_beginsAnew 17 = .ok (.aload_n 0, 1) := by decide +kernel
theorem dX10_beginsAnew_18 : decode cX10_beginsAnew 18 = .ok (.getfield 31, 3) := by decide +kernel
theorem dX10_beginsAnew_21 : decode cX10_beginsAnew 21 = .ok (.iload_n 1, 1) := by decide +kernel
theorem dX10_beginsAnew_22 : decode cX10_beginsAnew 22 = .ok (.iconst 0, 1) := by decide +kernel
theorem dX10_beginsAnew_23 : decode cX10_beginsAnew 23 = .ok (.iastore, 1) := by decide +kernel
theorem dX10_beginsAnew_24 : decode cX10_beginsAnew 24 = .ok (.iinc 1 1, 3) := by decide +kernel
theorem dX10_beginsAnew_27 : decode cX10_beginsAnew 27 = .ok (.goto (-17), 3) := by decide +kernel
theorem dX10_beginsAnew_30 : decode cX10_beginsAnew 30 = .ok (.iconst 0, 1) := by decide +kernel
theorem dX10_beginsAnew_31 : decode cX10_beginsAnew 31 = .ok (.istore_n 1, 1) := by decide +kernel
theorem dX10_beginsAnew_32 : decode cX10_beginsAnew 32 = .ok (.iload_n 1, 1) := by decide +kernel
theorem dX10_beginsAnew_33 : decode cX10_beginsAnew 33 = .ok (.iconst 5, 1) := by decide +kernel
theorem dX10_beginsAnew_34 : decode cX10_beginsAnew 34 = .ok (.if_icmp .ge 18, 3) := by decide +kernel
theorem dX10_beginsAnew_37 : decode cX10_beginsAnew 37 = .ok (.aload_n 0, 1) := by decide +kernel
theorem dX10_beginsAnew_38 : decode cX10_beginsAnew 38 = .ok (.getfield 31, 3) := by decide +kernel
theorem dX10_beginsAnew_41 : decode cX10_beginsAnew 41 = .ok (.iconst 0, 1) := by decide +kernel
theorem dX10_beginsAnew_42 : decode cX10_beginsAnew 42 = .ok (.iload_n 1, 1) := by decide +kernel
theorem dX10_beginsAnew_43 : decode cX10_beginsAnew 43 = .ok (.iadd, 1) := by decide +kernel
theorem dX10_beginsAnew_44 : decode cX10_beginsAnew 44 = .ok (.iconst 1, 1) := by decide +kernel
theorem dX10_beginsAnew_45 : decode cX10_beginsAnew 45 = .ok (.iastore, 1) := by decide +kernel
theorem dX10_beginsAnew_46 : decode cX10_beginsAnew 46 = .ok (.iinc 1 1, 3) := by decide +kernel
theorem dX10_beginsAnew_49 : decode cX10_beginsAnew 49 = .ok (.goto (-17), 3) := by decide +kernel
theorem dX10_beginsAnew_52 : decode cX10_beginsAnew 52 = .ok (.aload_n 0, 1) := by decide +kernel
theorem dX10_beginsAnew_53 : decode cX10_beginsAnew 53 = .ok (.getfield 31, 3) := by decide +kernel
theorem dX10_beginsAnew_56 : decode cX10_beginsAnew 56 = .ok (.iconst 0, 1) := by decide +kernel
theorem dX10_beginsAnew_57 : decode cX10_beginsAnew 57 = .ok (.iconst 0, 1) := by decide +kernel
theorem dX10_beginsAnew_58 : decode cX10_beginsAnew 58 = .ok (.invokestatic 171, 3) := by decide +kernel
theorem dX10_beginsAnew_61 : decode cX10_beginsAnew 61 = .ok (.iconst 1, 1) := by decide +kernel
theorem dX10_beginsAnew_62 : decode cX10_beginsAnew 62 = .ok (.iastore, 1) := by decide +kernel
theorem dX10_beginsAnew_63 : decode cX10_beginsAnew 63 = .ok (.aload_n 0, 1) := by decide +kernel
theorem dX10_beginsAnew_64 : decode cX10_beginsAnew 64 = .ok (.getfield 31, 3) := by decide +kernel
theorem dX10_beginsAnew_67 : decode cX10_beginsAnew 67 = .ok (.iconst 0, 1) := by decide +kernel
theorem dX10_beginsAnew_68 : decode cX10_beginsAnew 68 = .ok (.iconst 1, 1) := by decide +kernel
theorem dX10_beginsAnew_69 : decode cX10_beginsAnew 69 = .ok (.invokestatic 171, 3) := by decide +kernel
theorem dX10_beginsAnew_72 : decode cX10_beginsAnew 72 = .ok (.iconst 2, 1) := by decide +kernel
theorem dX10_beginsAnew_73 : decode cX10_beginsAnew 73 = .ok (.iastore, 1) := by decide +kernel
theorem dX10_beginsAnew_74 : decode cX10_beginsAnew 74 = .ok (.aload_n 0, 1) := by decide +kernel
theorem dX10_beginsAnew_75 : decode cX10_beginsAnew 75 = .ok (.getfield 31, 3) := by decide +kernel
theorem dX10_beginsAnew_78 : decode cX10_beginsAnew 78 = .ok (.iconst 0, 1) := by decide +kernel
theorem dX10_beginsAnew_79 : decode cX10_beginsAnew 79 = .ok (.iconst 2, 1) := by decide +kernel
theorem dX10_beginsAnew_80 : decode cX10_beginsAnew 80 = .ok (.invokestatic 171, 3) := by decide +kernel
theorem dX10_beginsAnew_83 : decode cX10_beginsAnew 83 = .ok (.iconst 4, 1) := by decide +kernel
theorem dX10_beginsAnew_84 : decode cX10_beginsAnew 84 = .ok (.iastore, 1) := by decide +kernel
theorem dX10_beginsAnew_85 : decode cX10_beginsAnew 85 = .ok (.aload_n 0, 1) := by decide +kernel
theorem dX10_beginsAnew_86 : decode cX10_beginsAnew 86 = .ok (.getfield 31, 3) := by decide +kernel
theorem dX10_beginsAnew_89 : decode cX10_beginsAnew 89 = .ok (.invokestatic 174, 3) := by decide +kernel
theorem dX10_beginsAnew_92 : decode cX10_beginsAnew 92 = .ok (.iconst 0, 1) := by decide +kernel
theorem dX10_beginsAnew_93 : decode cX10_beginsAnew 93 = .ok (.istore_n 1, 1) := by decide +kernel
theorem dX10_beginsAnew_94 : decode cX10_beginsAnew 94 = .ok (.iload_n 1, 1) := by decide +kernel
theorem dX10_beginsAnew_95 : decode cX10_beginsAnew 95 = .ok (.aload_n 0, 1) := by decide +kernel
theorem dX10_beginsAnew_96 : decode cX10_beginsAnew 96 = .ok (.getfield 66, 3) := by decide +kernel
theorem dX10_beginsAnew_99 : decode cX10_beginsAnew 99 = .ok (.if_icmp .ge 31, 3) := by decide +kernel
theorem dX10_beginsAnew_102 : decode cX10_beginsAnew 102 = .ok (.aload_n 0, 1) := by decide +kernel
theorem dX10_beginsAnew_103 : decode cX10_beginsAnew 103 = .ok (.aload_n 0, 1) := by decide +kernel
theorem dX10_beginsAnew_104 : decode cX10_beginsAnew 104 = .ok (.getfield 31, 3) := by decide +kernel
theorem dX10_beginsAnew_107 : decode cX10_beginsAnew 107 = .ok (.aload_n 0, 1) := by decide +kernel
theorem dX10_beginsAnew_108 : decode cX10_beginsAnew 108 = .ok (.getfield 28, 3) := by decide +kernel
theorem dX10_beginsAnew_111 : decode cX10_beginsAnew 111 = .ok (.iload_n 1, 1) := by decide +kernel
theorem dX10_beginsAnew_112 : decode cX10_beginsAnew 112 = .ok (.aaload, 1) := by decide +kernel
theorem dX10_beginsAnew_113 : decode cX10_beginsAnew 113 = .ok (.invokevirtual 177, 3) := by decide +kernel
theorem dX10_beginsAnew_116 : decode cX10_beginsAnew 116 = .ok (.pop, 1) := by decide +kernel
theorem dX10_beginsAnew_117 : decode cX10_beginsAnew 117 = .ok (.aload_n 0, 1) := by decide +kernel
theorem dX10_beginsAnew_118 : decode cX10_beginsAnew 118 = .ok (.getfield 31, 3) := by decide +kernel
theorem dX10_beginsAnew_121 : decode cX10_beginsAnew 121 = .ok (.invokestatic 174, 3) := by decide +kernel
theorem dX10_beginsAnew_124 : decode cX10_beginsAnew 124 = .ok (.iinc 1 1, 3) := by decide +kernel
theorem dX10_beginsAnew_127 : decode cX10_beginsAnew 127 = .ok (.goto (-33), 3) := by decide +kernel
theorem dX10_beginsAnew_130 : decode cX10_beginsAnew 130 = .ok (.aload_n 0, 1) := by decide +kernel
theorem dX10_beginsAnew_131 : decode cX10_beginsAnew 131 = .ok (.getfield 31, 3) := by decide +kernel
theorem dX10_beginsAnew_134 : decode cX10_beginsAnew 134 = .ok (.sipush 3394, 3) := by decide +kernel
theorem dX10_beginsAnew_137 : decode cX10_beginsAnew 137 = .ok (.iconst 0, 1) := by decide +kernel
theorem dX10_beginsAnew_138 : decode cX10_beginsAnew 138 = .ok (.iastore, 1) := by decide +kernel
theorem dX10_beginsAnew_139 : decode cX10_beginsAnew 139 = .ok (.aload_n 0, 1) := by decide +kernel
theorem dX10_beginsAnew_140 : decode cX10_beginsAnew 140 = .ok (.iconst 0, 1) := by decide +kernel
theorem dX10_beginsAnew_141 : decode cX10_beginsAnew 141 = .ok (.putfield 181, 3) := by decide +kernel
theorem dX10_beginsAnew_144 : decode cX10_beginsAnew 144 = .ok (.aload_n 0, 1) := by decide +kernel
theorem dX10_beginsAnew_145 : decode cX10_beginsAnew 145 = .ok (.iconst 0, 1) := by decide +kernel
theorem dX10_beginsAnew_146 : decode cX10_beginsAnew 146 = .ok (.putfield 184, 3) := by decide +kernel
theorem dX10_beginsAnew_149 : decode cX10_beginsAnew 149 = .ok (.aload_n 0, 1) := by decide +kernel
theorem dX10_beginsAnew_150 : decode cX10_beginsAnew 150 = .ok (.iconst 0, 1) := by decide +kernel
theorem dX10_beginsAnew_151 : decode cX10_beginsAnew 151 = .ok (.putfield 187, 3) := by decide +kernel
theorem dX10_beginsAnew_154 : decode cX10_beginsAnew 154 = .ok (.aload_n 0, 1) := by decide +kernel
theorem dX10_beginsAnew_155 : decode cX10_beginsAnew 155 = .ok (.iconst 0, 1) := by decide +kernel
theorem dX10_beginsAnew_156 : decode cX10_beginsAnew 156 = .ok (.putfield 190, 3) := by decide +kernel
theorem dX10_beginsAnew_159 : decode cX10_beginsAnew 159 = .ok (.return_, 1) := by decide +kernel
theorem dX10_book_0 : decode cX10_book 0 = .ok (.aload_n 0, 1) := by decide +kernel
theorem dX10_book_1 : decode cX10_book 1 = .ok (.iconst 0, 1) := by decide +kernel
theorem dX10_book_2 : decode cX10_book 2 = .ok (.putfield 72, 3) := by decide +kernel
theorem dX10_book_5 : decode cX10_book 5 = .ok (.aload_n 0, 1) := by decide +kernel
theorem dX10_book_6 : decode cX10_book 6 = .ok (.iload_n 1, 1) := by decide +kernel
theorem dX10_book_7 : decode cX10_book 7 = .ok (.iconst 0, 1) := by decide +kernel
theorem dX10_book_8 : decode cX10_book 8 = .ok (.aload_n 0, 1) := by decide +kernel
theorem dX10_book_9 : decode cX10_book 9 = .ok (.getfield 75, 3) := by decide +kernel
theorem dX10_book_12 : decode cX10_book 12 = .ok (.invokestatic 106, 3) := by decide +kernel
theorem dX10_book_15 : decode cX10_book 15 = .ok (.ifCond .eq 9, 3) := by decide +kernel
theorem dX10_book_18 : decode cX10_book 18 = .ok (.iload_n 1, 1) := by decide +kernel
theorem dX10_book_19 : decode cX10_book 19 = .ok (.bipush 60, 2) := by decide +kernel
theorem dX10_book_21 : decode cX10_book 21 = .ok (.if_icmp .le 7, 3) := by decide +kernel
theorem dX10_book_24 : decode cX10_book 24 = .ok (.iconst 1, 1) := by decide +kernel
theorem dX10_book_25 : decode cX10_book 25 = .ok (.goto 4, 3) := by decide +kernel
theorem dX10_book_28 : decode cX10_book 28 = .ok (.iconst 0, 1) := by decide +kernel
theorem dX10_book_29 : decode cX10_book 29 = .ok (.iconst 1, 1) := by decide +kernel
theorem dX10_book_30 : decode cX10_book 30 = .ok (.iconst 1, 1) := by decide +kernel
theorem dX10_book_31 : decode cX10_book 31 = .ok (.invokevirtual 155, 3) := by decide +kernel
theorem dX10_book_34 : decode cX10_book 34 = .ok (.ifCond .eq 5, 3) := by decide +kernel
theorem dX10_book_37 : decode cX10_book 37 = .ok (.iconst 0, 1) := by decide +kernel
theorem dX10_book_38 : decode cX10_book 38 = .ok (.ireturn, 1) := by decide +kernel
theorem dX10_book_39 : decode cX10_book 39 = .ok (.aload_n 0, 1) := by decide +kernel
theorem dX10_book_40 : decode cX10_book 40 = .ok (.iload_n 1, 1) := by decide +kernel
theorem dX10_book_41 : decode cX10_book 41 = .ok (.invokevirtual 159, 3) := by decide +kernel
theorem dX10_book_44 : decode cX10_book 44 = .ok (.iconst 0, 1) := by decide +kernel
theorem dX10_book_45 : decode cX10_book 45 = .ok (.istore_n 2, 1) := by decide +kernel
theorem dX10_book_46 : decode cX10_book 46 = .ok (.iconst 0, 1) := by decide +kernel
theorem dX10_book_47 : decode cX10_book 47 = .ok (.istore_n 3, 1) := by decide +kernel
theorem dX10_book_48 : decode cX10_book 48 = .ok (.aload_n 0, 1) := by decide +kernel
theorem dX10_book_49 : decode cX10_book 49 = .ok (.getfield 88, 3) := by decide +kernel
theorem dX10_book_52 : decode cX10_book 52 = .ok (.ifCond .ne 115, 3) := by decide +kernel
theorem dX10_book_55 : decode cX10_book 55 = .ok (.aload_n 0, 1) := by decide +kernel
theorem dX10_book_56 : decode cX10_book 56 = .ok (.getfield 81, 3) := by decide +kernel
theorem dX10_book_59 : decode cX10_book 59 = .ok (.aload_n 0, 1) := by decide +kernel
theorem dX10_book_60 : decode cX10_book 60 = .ok (.getfield 78, 3) := by decide +kernel
theorem dX10_book_63 : decode cX10_book 63 = .ok (.if_icmp .ge 104, 3) := by decide +kernel
theorem dX10_book_66 : decode cX10_book 66 = .ok (.aload_n 0, 1) := by decide +kernel
theorem dX10_book_67 : decode cX10_book 67 = .ok (.invokevirtual 94, 3) := by decide +kernel
theorem dX10_book_70 : decode cX10_book 70 = .ok (.aload_n 0, 1) := by decide +kernel
theorem dX10_book_71 : decode cX10_book 71 = .ok (.getfield 81, 3) := by decide +kernel
theorem dX10_book_74 : decode cX10_book 74 = .ok (.istore 4, 2) := by decide +kernel
theorem dX10_book_76 : decode cX10_book 76 = .ok (.aload_n 0, 1) := by decide +kernel
theorem dX10_book_77 : decode cX10_book 77 = .ok (.iconst 0, 1) := by decide +kernel
theorem dX10_book_78 : decode cX10_book 78 = .ok (.bipush 15, 2) := by decide +kernel
theorem dX10_book_80 : decode cX10_book 80 = .ok (.invokevirtual 131, 3) := by decide +kernel
theorem dX10_book_83 : decode cX10_book 83 = .ok (.istore 5, 2) := by decide +kernel
theorem dX10_book_85 : decode cX10_book 85 = .ok (.aload_n 0, 1) := by decide +kernel
theorem dX10_book_86 : decode cX10_book 86 = .ok (.getfield 88, 3) := by decide +kernel
theorem dX10_book_89 : decode cX10_book 89 = .ok (.ifCond .ne 19, 3) := by decide +kernel
theorem dX10_book_92 : decode cX10_book 92 = .ok (.iload_n 3, 1) := by decide +kernel
theorem dX10_book_93 : decode cX10_book 93 = .ok (.iload 5, 2) := by decide +kernel
theorem dX10_book_95 : decode cX10_book 95 = .ok (.invokestatic 193, 3) := by decide +kernel
theorem dX10_book_98 : decode cX10_book 98 = .ok (.ifCond .eq 10, 3) := by decide +kernel
theorem dX10_book_101 : decode cX10_book 101 = .ok (.aload_n 0, 1) := by decide +kernel
theorem dX10_book_102 : decode cX10_book 102 = .ok (.iconst 2, 1) := by decide +kernel
theorem dX10_book_103 : decode cX10_book 103 = .ok (.iload 4, 2) := by decide +kernel
theorem dX10_book_105 : decode cX10_book 105 = .ok (.invokevirtual 101, 3) := by decide +kernel
theorem dX10_book_108 : decode cX10_book 108 = .ok (.aload_n 0, 1) := by decide +kernel
theorem dX10_book_109 : decode cX10_book 109 = .ok (.iconst 0, 1) := by decide +kernel
theorem dX10_book_110 : decode cX10_book 110 = .ok (.bipush 99, 2) := by decide +kernel
theorem dX10_book_112 : decode cX10_book 112 = .ok (.invokevirtual 131, 3) := by decide +kernel
theorem dX10_book_115 : decode cX10_book 115 = .ok (.istore 6, 2) := by decide +kernel
theorem dX10_book_117 : decode cX10_book 117 = .ok (.aload_n 0, 1) := by decide +kernel
theorem dX10_book_118 : decode cX10_book 118 = .ok (.bipush 59, 2) := by decide +kernel
theorem dX10_book_120 : decode cX10_book 120 = .ok (.invokevirtual 135, 3) := by decide +kernel
theorem dX10_book_123 : decode cX10_book 123 = .ok (.aload_n 0, 1) := by decide +kernel
theorem dX10_book_124 : decode cX10_book 124 = .ok (.getfield 88, 3) := by decide +kernel
theorem dX10_book_127 : decode cX10_book 127 = .ok (.ifCond .ne 33, 3) := by decide +kernel
theorem dX10_book_130 : decode cX10_book 130 = .ok (.iload_n 3, 1) := by decide +kernel
theorem dX10_book_131 : decode cX10_book 131 = .ok (.iconst 1, 1) := by decide +kernel
theorem dX10_book_132 : decode cX10_book 132 = .ok (.iload 5, 2) := by decide +kernel
theorem dX10_book_134 : decode cX10_book 134 = .ok (.ishl, 1) := by decide +kernel
theorem dX10_book_135 : decode cX10_book 135 = .ok (.ior, 1) := by decide +kernel
theorem dX10_book_136 : decode cX10_book 136 = .ok (.istore_n 3, 1) := by decide +kernel
theorem dX10_book_137 : decode cX10_book 137 = .ok (.aload_n 0, 1) := by decide +kernel
theorem dX10_book_138 : decode cX10_book 138 = .ok (.getfield 25, 3) := by decide +kernel
theorem dX10_book_141 : decode cX10_book 141 = .ok (.iload_n 2, 1) := by decide +kernel
theorem dX10_book_142 : decode cX10_book 142 = .ok (.aaload, 1) := by decide +kernel
theorem dX10_book_143 : decode cX10_book 143 = .ok (.iconst 0, 1) := by decide +kernel
theorem dX10_book_144 : decode cX10_book 144 = .ok (.iload 5, 2) := by decide +kernel
theorem dX10_book_146 : decode cX10_book 146 = .ok (.iastore, 1) := by decide +kernel
theorem dX10_book_147 : decode cX10_book 147 = .ok (.aload_n 0, 1) := by decide +kernel
theorem dX10_book_148 : decode cX10_book 148 = .ok (.getfield 25, 3) := by decide +kernel
theorem dX10_book_151 : decode cX10_book 151 = .ok (.iload_n 2, 1) := by decide +kernel
theorem dX10_book_152 : decode cX10_book 152 = .ok (.aaload, 1) := by decide +kernel
theorem dX10_book_153 : decode cX10_book 153 = .ok (.iconst 1, 1) := by decide +kernel
theorem dX10_book_154 : decode cX10_book 154 = .ok (.iload 6, 2) := by decide +kernel
theorem dX10_book_156 : decode cX10_book 156 = .ok (.iastore, 1) := by decide +kernel
theorem dX10_book_157 : decode cX10_book 157 = .ok (.iinc 2 1, 3) := by decide +kernel
theorem dX10_book_160 : decode cX10_book 160 = .ok (.aload_n 0, 1) := by decide +kernel
theorem dX10_book_161 : decode cX10_book 161 = .ok (.invokevirtual 94, 3) := by decide +kernel
theorem dX10_book_164 : decode cX10_book 164 = .ok (.goto (-116), 3) := by decide +kernel
theorem dX10_book_167 : decode cX10_book 167 = .ok (.aload_n 0, 1) := by decide +kernel
theorem dX10_book_168 : decode cX10_book 168 = .ok (.getfield 88, 3) := by decide +kernel
theorem dX10_book_171 : decode cX10_book 171 = .ok (.ifCond .eq 8, 3) := by decide +kernel
theorem dX10_book_174 : decode cX10_book 174 = .ok (.aload_n 0, 1) := by decide +kernel
theorem dX10_book_175 : decode cX10_book 175 = .ok (.invokevirtual 165, 3) := by decide +kernel
theorem dX10_book_178 : decode cX10_book 178 = .ok (.ireturn, 1) := by decide +kernel
theorem dX10_book_179 : decode cX10_book 179 = .ok (.aload_n 0, 1) := by decide +kernel
theorem dX10_book_180 : decode cX10_book 180 = .ok (.iconst (-1), 1) := by decide +kernel
theorem dX10_book_181 : decode cX10_book 181 = .ok (.putfield 9, 3) := by decide +kernel
theorem dX10_book_184 : decode cX10_book 184 = .ok (.aload_n 0, 1) := by decide +kernel
theorem dX10_book_185 : decode cX10_book 185 = .ok (.iload_n 2, 1) := by decide +kernel
theorem dX10_book_186 : decode cX10_book 186 = .ok (.putfield 181, 3) := by decide +kernel
theorem dX10_book_189 : decode cX10_book 189 = .ok (.iconst 0, 1) := by decide +kernel
theorem dX10_book_190 : decode cX10_book 190 = .ok (.istore 4, 2) := by decide +kernel
theorem dX10_book_192 : decode cX10_book 192 = .ok (.iload 4, 2) := by decide +kernel
theorem dX10_book_194 : decode cX10_book 194 = .ok (.iload_n 2, 1) := by decide +kernel
theorem dX10_book_195 : decode cX10_book 195 = .ok (.if_icmp .ge 44, 3) := by decide +kernel
theorem dX10_book_198 : decode cX10_book 198 = .ok (.iconst 0, 1) := by decide +kernel
theorem dX10_book_199 : decode cX10_book 199 = .ok (.istore 5, 2) := by decide +kernel
theorem dX10_book_201 : decode cX10_book 201 = .ok (.iload 5, 2) := by decide +kernel
theorem dX10_book_203 : decode cX10_book 203 = .ok (.iconst 2, 1) := by decide +kernel
theorem dX10_book_204 : decode cX10_book 204 = .ok (.if_icmp .ge 29, 3) := by decide +kernel
theorem dX10_book_207 : decode cX10_book 207 = .ok (.aload_n 0, 1) := by decide +kernel
theorem dX10_book_208 : decode cX10_book 208 = .ok (.getfield 22, 3) := by decide +kernel
theorem dX10_book_211 : decode cX10_book 211 = .ok (.iload 4, 2) := by decide +kernel
theorem dX10_book_213 : decode cX10_book 213 = .ok (.aaload, 1) := by decide +kernel
theorem dX10_book_214 : decode cX10_book 214 = .ok (.iload 5, 2) := by decide +kernel
theorem dX10_book_216 : decode cX10_book 216 = .ok (.aload_n 0, 1) := by decide +kernel
theorem dX10_book_217 : decode cX10_book 217 = .ok (.getfield 25, 3) := by decide +kernel
theorem dX10_book_220 : decode cX10_book 220 = .ok (.iload 4, 2) := by decide +kernel
theorem dX10_book_222 : decode cX10_book 222 = .ok (.aaload, 1) := by decide +kernel
theorem dX10_book_223 : decode cX10_book 223 = .ok (.iload 5, 2) := by decide +kernel
theorem dX10_book_225 : decode cX10_book 225 = .ok (.iaload, 1) := by decide +kernel
theorem dX10_book_226 : decode cX10_book 226 = .ok (.iastore, 1) := by decide +kernel
theorem dX10_book_227 : decode cX10_book 227 = .ok (.iinc 5 1, 3) := by decide +kernel
theorem dX10_book_230 : decode cX10_book 230 = .ok (.goto (-29), 3) := by decide +kernel
theorem dX10_book_233 : decode cX10_book 233 = .ok (.iinc 4 1, 3) := by decide +kernel
theorem dX10_book_236 : decode cX10_book 236 = .ok (.goto (-44), 3) := by decide +kernel
theorem dX10_book_239 : decode cX10_book 239 = .ok (.iload_n 2, 1) := by decide +kernel
theorem dX10_book_240 : decode cX10_book 240 = .ok (.ireturn, 1) := by decide +kernel
theorem dX10_fault_0 : decode cX10_fault 0 = .ok (.aload_n 0, 1) := by decide +kernel
theorem dX10_fault_1 : decode cX10_fault 1 = .ok (.iconst 0, 1) := by decide +kernel
theorem dX10_fault_2 : decode cX10_fault 2 = .ok (.putfield 72, 3) := by decide +kernel
theorem dX10_fault_5 : decode cX10_fault 5 = .ok (.aload_n 0, 1) := by decide +kernel
theorem dX10_fault_6 : decode cX10_fault 6 = .ok (.getfield 9, 3) := by decide +kernel
theorem dX10_fault_9 : decode cX10_fault 9 = .ok (.ireturn, 1) := by decide +kernel
theorem dX10_byteOf_0 : decode cX10_byteOf 0 = .ok (.bipush 16, 2) := by decide +kernel
theorem dX10_byteOf_2 : decode cX10_byteOf 2 = .ok (.iconst 1, 1) := by decide +kernel
theorem dX10_byteOf_3 : decode cX10_byteOf 3 = .ok (.iload_n 0, 1) := by decide +kernel
theorem dX10_byteOf_4 : decode cX10_byteOf 4 = .ok (.iconst 4, 1) := by decide +kernel
theorem dX10_byteOf_5 : decode cX10_byteOf 5 = .ok (.idiv, 1) := by decide +kernel
theorem dX10_byteOf_6 : decode cX10_byteOf 6 = .ok (.iadd, 1) := by decide +kernel
theorem dX10_byteOf_7 : decode cX10_byteOf 7 = .ok (.imul, 1) := by decide +kernel
theorem dX10_byteOf_8 : decode cX10_byteOf 8 = .ok (.iconst 4, 1) := by decide +kernel
theorem dX10_byteOf_9 : decode cX10_byteOf 9 = .ok (.iload_n 0, 1) := by decide +kernel
theorem dX10_byteOf_10 : decode cX10_byteOf 10 = .ok (.iconst 4, 1) := by decide +kernel
theorem dX10_byteOf_11 : decode cX10_byteOf 11 = .ok (.irem, 1) := by decide +kernel
theorem dX10_byteOf_12 : decode cX10_byteOf 12 = .ok (.imul, 1) := by decide +kernel
theorem dX10_byteOf_13 : decode cX10_byteOf 13 = .ok (.iadd, 1) := by decide +kernel
theorem dX10_byteOf_14 : decode cX10_byteOf 14 = .ok (.iload_n 1, 1) := by decide +kernel
theorem dX10_byteOf_15 : decode cX10_byteOf 15 = .ok (.iadd, 1) := by decide +kernel
theorem dX10_byteOf_16 : decode cX10_byteOf 16 = .ok (.ireturn, 1) := by decide +kernel
theorem dX10_fieldOf_0 : decode cX10_fieldOf 0 = .ok (.aload_n 0, 1) := by decide +kernel
theorem dX10_fieldOf_1 : decode cX10_fieldOf 1 = .ok (.iload_n 1, 1) := by decide +kernel
theorem dX10_fieldOf_2 : decode cX10_fieldOf 2 = .ok (.iload_n 2, 1) := by decide +kernel
theorem dX10_fieldOf_3 : decode cX10_fieldOf 3 = .ok (.iload_n 3, 1) := by decide +kernel
theorem dX10_fieldOf_4 : decode cX10_fieldOf 4 = .ok (.invokestatic 171, 3) := by decide +kernel
theorem dX10_fieldOf_7 : decode cX10_fieldOf 7 = .ok (.iadd, 1) := by decide +kernel
theorem dX10_fieldOf_8 : decode cX10_fieldOf 8 = .ok (.iaload, 1) := by decide +kernel
theorem dX10_fieldOf_9 : decode cX10_fieldOf 9 = .ok (.ireturn, 1) := by decide +kernel
theorem dX10_cell_0 : decode cX10_cell 0 = .ok (.sipush 512, 3) := by decide +kernel
theorem dX10_cell_3 : decode cX10_cell 3 = .ok (.bipush 12, 2) := by decide +kernel
theorem dX10_cell_5 : decode cX10_cell 5 = .ok (.iload_n 0, 1) := by decide +kernel
theorem dX10_cell_6 : decode cX10_cell 6 = .ok (.imul, 1) := by decide +kernel
theorem dX10_cell_7 : decode cX10_cell 7 = .ok (.iadd, 1) := by decide +kernel
theorem dX10_cell_8 : decode cX10_cell 8 = .ok (.ireturn, 1) := by decide +kernel
theorem dX10_wasAt_0 : decode cX10_wasAt 0 = .ok (.aload_n 0, 1) := by decide +kernel
theorem dX10_wasAt_1 : decode cX10_wasAt 1 = .ok (.iload_n 1, 1) := by decide +kernel
theorem dX10_wasAt_2 : decode cX10_wasAt 2 = .ok (.iconst 2, 1) := by decide +kernel
theorem dX10_wasAt_3 : decode cX10_wasAt 3 = .ok (.iadd, 1) := by decide +kernel
theorem dX10_wasAt_4 : decode cX10_wasAt 4 = .ok (.iaload, 1) := by decide +kernel
theorem dX10_wasAt_5 : decode cX10_wasAt 5 = .ok (.bipush 16, 2) := by decide +kernel
theorem dX10_wasAt_7 : decode cX10_wasAt 7 = .ok (.if_icmp .ge 12, 3) := by decide +kernel
theorem dX10_wasAt_10 : decode cX10_wasAt 10 = .ok (.aload_n 0, 1) := by decide +kernel
theorem dX10_wasAt_11 : decode cX10_wasAt 11 = .ok (.iload_n 1, 1) := by decide +kernel
theorem dX10_wasAt_12 : decode cX10_wasAt 12 = .ok (.bipush 8, 2) := by decide +kernel
theorem dX10_wasAt_14 : decode cX10_wasAt 14 = .ok (.iadd, 1) := by decide +kernel
theorem dX10_wasAt_15 : decode cX10_wasAt 15 = .ok (.iaload, 1) := by decide +kernel
theorem dX10_wasAt_16 : decode cX10_wasAt 16 = .ok (.goto 24, 3) := by decide +kernel
theorem dX10_wasAt_19 : decode cX10_wasAt 19 = .ok (.aload_n 0, 1) := by decide +kernel
theorem dX10_wasAt_20 : decode cX10_wasAt 20 = .ok (.iload_n 1, 1) := by decide +kernel
theorem dX10_wasAt_21 : decode cX10_wasAt 21 = .ok (.bipush 8, 2) := by decide +kernel
theorem dX10_wasAt_23 : decode cX10_wasAt 23 = .ok (.iadd, 1) := by decide +kernel
theorem dX10_wasAt_24 : decode cX10_wasAt 24 = .ok (.iload_n 2, 1) := by decide +kernel
theorem dX10_wasAt_25 : decode cX10_wasAt 25 = .ok (.iconst 4, 1) := by decide +kernel
theorem dX10_wasAt_26 : decode cX10_wasAt 26 = .ok (.idiv, 1) := by decide +kernel
theorem dX10_wasAt_27 : decode cX10_wasAt 27 = .ok (.iadd, 1) := by decide +kernel
theorem dX10_wasAt_28 : decode cX10_wasAt 28 = .ok (.iaload, 1) := by decide +kernel
theorem dX10_wasAt_29 : decode cX10_wasAt 29 = .ok (.bipush 8, 2) := by decide +kernel
theorem dX10_wasAt_31 : decode cX10_wasAt 31 = .ok (.iload_n 2, 1) := by decide +kernel
theorem dX10_wasAt_32 : decode cX10_wasAt 32 = .ok (.iconst 4, 1) := by decide +kernel
theorem dX10_wasAt_33 : decode cX10_wasAt 33 = .ok (.irem, 1) := by decide +kernel
theorem dX10_wasAt_34 : decode cX10_wasAt 34 = .ok (.imul, 1) := by decide +kernel
theorem dX10_wasAt_35 : decode cX10_wasAt 35 = .ok (.ishr, 1) := by decide +kernel
theorem dX10_wasAt_36 : decode cX10_wasAt 36 = .ok (.sipush 255, 3) := by decide +kernel
theorem dX10_wasAt_39 : decode cX10_wasAt 39 = .ok (.iand, 1) := by decide +kernel
theorem dX10_wasAt_40 : decode cX10_wasAt 40 = .ok (.ireturn, 1) := by decide +kernel
theorem dX10_puts_0 : decode cX10_puts 0 = .ok (.aload_n 0, 1) := by decide +kernel
theorem dX10_puts_1 : decode cX10_puts 1 = .ok (.iload_n 1, 1) := by decide +kernel
theorem dX10_puts_2 : decode cX10_puts 2 = .ok (.iconst 2, 1) := by decide +kernel
theorem dX10_puts_3 : decode cX10_puts 3 = .ok (.iadd, 1) := by decide +kernel
theorem dX10_puts_4 : decode cX10_puts 4 = .ok (.iaload, 1) := by decide +kernel
theorem dX10_puts_5 : decode cX10_puts 5 = .ok (.bipush 16, 2) := by decide +kernel
theorem dX10_puts_7 : decode cX10_puts 7 = .ok (.if_icmp .eq 12, 3) := by decide +kernel
theorem dX10_puts_10 : decode cX10_puts 10 = .ok (.aload_n 0, 1) := by decide +kernel
theorem dX10_puts_11 : decode cX10_puts 11 = .ok (.iload_n 1, 1) := by decide +kernel
theorem dX10_puts_12 : decode cX10_puts 12 = .ok (.iconst 2, 1) := by decide +kernel
theorem dX10_puts_13 : decode cX10_puts 13 = .ok (.iadd, 1) := by decide +kernel
theorem dX10_puts_14 : decode cX10_puts 14 = .ok (.iaload, 1) := by decide +kernel
theorem dX10_puts_15 : decode cX10_puts 15 = .ok (.iload_n 2, 1) := by decide +kernel
theorem dX10_puts_16 : decode cX10_puts 16 = .ok (.if_icmp .ne 7, 3) := by decide +kernel
theorem dX10_puts_19 : decode cX10_puts 19 = .ok (.iconst 1, 1) := by decide +kernel
theorem dX10_puts_20 : decode cX10_puts 20 = .ok (.goto 4, 3) := by decide +kernel
theorem dX10_puts_23 : decode cX10_puts 23 = .ok (.iconst 0, 1) := by decide +kernel
theorem dX10_puts_24 : decode cX10_puts 24 = .ok (.ireturn, 1) := by decide +kernel
theorem dX10_isThere_0 : decode cX10_isThere 0 = .ok (.iconst 1, 1) := by decide +kernel
theorem dX10_isThere_1 : decode cX10_isThere 1 = .ok (.istore 4, 2) := by decide +kernel
theorem dX10_isThere_3 : decode cX10_isThere 3 = .ok (.iconst 0, 1) := by decide +kernel
theorem dX10_isThere_4 : decode cX10_isThere 4 = .ok (.istore 5, 2) := by decide +kernel
theorem dX10_isThere_6 : decode cX10_isThere 6 = .ok (.iload 5, 2) := by decide +kernel
theorem dX10_isThere_8 : decode cX10_isThere 8 = .ok (.bipush 16, 2) := by decide +kernel
theorem dX10_isThere_10 : decode cX10_isThere 10 = .ok (.if_icmp .ge 46, 3) := by decide +kernel
theorem dX10_isThere_13 : decode cX10_isThere 13 = .ok (.iload 4, 2) := by decide +kernel
theorem dX10_isThere_15 : decode cX10_isThere 15 = .ok (.iload_n 2, 1) := by decide +kernel
theorem dX10_isThere_16 : decode cX10_isThere 16 = .ok (.bipush 16, 2) := by decide +kernel
theorem dX10_isThere_18 : decode cX10_isThere 18 = .ok (.if_icmp .ge 9, 3) := by decide +kernel
theorem dX10_isThere_21 : decode cX10_isThere 21 = .ok (.iload 5, 2) := by decide +kernel
theorem dX10_isThere_23 : decode cX10_isThere 23 = .ok (.iload_n 2, 1) := by decide +kernel
theorem dX10_isThere_24 : decode cX10_isThere 24 = .ok (.if_icmp .ne 18, 3) := by decide +kernel
theorem dX10_isThere_27 : decode cX10_isThere 27 = .ok (.aload_n 0, 1) := by decide +kernel
theorem dX10_isThere_28 : decode cX10_isThere 28 = .ok (.iconst 0, 1) := by decide +kernel
theorem dX10_isThere_29 : decode cX10_isThere 29 = .ok (.bipush 16, 2) := by decide +kernel
theorem dX10_isThere_31 : decode cX10_isThere 31 = .ok (.iload_n 1, 1) := by decide +kernel
theorem dX10_isThere_32 : decode cX10_isThere 32 = .ok (.imul, 1) := by decide +kernel
theorem dX10_isThere_33 : decode cX10_isThere 33 = .ok (.iadd, 1) := by decide +kernel
theorem dX10_isThere_34 : decode cX10_isThere 34 = .ok (.iload 5, 2) := by decide +kernel
theorem dX10_isThere_36 : decode cX10_isThere 36 = .ok (.iadd, 1) := by decide +kernel
theorem dX10_isThere_37 : decode cX10_isThere 37 = .ok (.iaload, 1) := by decide +kernel
theorem dX10_isThere_38 : decode cX10_isThere 38 = .ok (.iload_n 3, 1) := by decide +kernel
theorem dX10_isThere_39 : decode cX10_isThere 39 = .ok (.if_icmp .ne 7, 3) := by decide +kernel
theorem dX10_isThere_42 : decode cX10_isThere 42 = .ok (.iconst 1, 1) := by decide +kernel
theorem dX10_isThere_43 : decode cX10_isThere 43 = .ok (.goto 4, 3) := by decide +kernel
theorem dX10_isThere_46 : decode cX10_isThere 46 = .ok (.iconst 0, 1) := by decide +kernel
theorem dX10_isThere_47 : decode cX10_isThere 47 = .ok (.iand, 1) := by decide +kernel
theorem dX10_isThere_48 : decode cX10_isThere 48 = .ok (.istore 4, 2) := by decide +kernel
theorem dX10_isThere_50 : decode cX10_isThere 50 = .ok (.iinc 5 1, 3) := by decide +kernel
theorem dX10_isThere_53 : decode cX10_isThere 53 = .ok (.goto (-47), 3) := by decide +kernel
theorem dX10_isThere_56 : decode cX10_isThere 56 = .ok (.iload 4, 2) := by decide +kernel
theorem dX10_isThere_58 : decode cX10_isThere 58 = .ok (.ireturn, 1) := by decide +kernel
theorem dX10_makes_0 : decode cX10_makes 0 = .ok (.aload_n 0, 1) := by decide +kernel
theorem dX10_makes_1 : decode cX10_makes 1 = .ok (.iload_n 1, 1) := by decide +kernel
theorem dX10_makes_2 : decode cX10_makes 2 = .ok (.iload_n 2, 1) := by decide +kernel
theorem dX10_makes_3 : decode cX10_makes 3 = .ok (.iload_n 3, 1) := by decide +kernel
theorem dX10_makes_4 : decode cX10_makes 4 = .ok (.invokestatic 197, 3) := by decide +kernel
theorem dX10_makes_7 : decode cX10_makes 7 = .ok (.ifCond .eq 5, 3) := by decide +kernel
theorem dX10_makes_10 : decode cX10_makes 10 = .ok (.iconst 0, 1) := by decide +kernel
theorem dX10_makes_11 : decode cX10_makes 11 = .ok (.ireturn, 1) := by decide +kernel
theorem dX10_makes_12 : decode cX10_makes 12 = .ok (.aload_n 0, 1) := by decide +kernel
theorem dX10_makes_13 : decode cX10_makes 13 = .ok (.sipush 3392, 3) := by decide +kernel
theorem dX10_makes_16 : decode cX10_makes 16 = .ok (.iaload, 1) := by decide +kernel
theorem dX10_makes_17 : decode cX10_makes 17 = .ok (.invokestatic 201, 3) := by decide +kernel
theorem dX10_makes_20 : decode cX10_makes 20 = .ok (.istore 8, 2) := by decide +kernel
theorem dX10_makes_22 : decode cX10_makes 22 = .ok (.iconst 0, 1) := by decide +kernel
theorem dX10_makes_23 : decode cX10_makes 23 = .ok (.bipush 16, 2) := by decide +kernel
theorem dX10_makes_25 : decode cX10_makes 25 = .ok (.iload_n 1, 1) := by decide +kernel
theorem dX10_makes_26 : decode cX10_makes 26 = .ok (.imul, 1) := by decide +kernel
theorem dX10_makes_27 : decode cX10_makes 27 = .ok (.iadd, 1) := by decide +kernel
theorem dX10_makes_28 : decode cX10_makes 28 = .ok (.istore 9, 2) := by decide +kernel
theorem dX10_makes_30 : decode cX10_makes 30 = .ok (.aload_n 0, 1) := by decide +kernel
theorem dX10_makes_31 : decode cX10_makes 31 = .ok (.sipush 3392, 3) := by decide +kernel
theorem dX10_makes_34 : decode cX10_makes 34 = .ok (.dup2, 1) := by decide +kernel
theorem dX10_makes_35 : decode cX10_makes 35 = .ok (.iaload, 1) := by decide +kernel
theorem dX10_makes_36 : decode cX10_makes 36 = .ok (.iconst 1, 1) := by decide +kernel
theorem dX10_makes_37 : decode cX10_makes 37 = .ok (.iadd, 1) := by decide +kernel
theorem dX10_makes_38 : decode cX10_makes 38 = .ok (.iastore, 1) := by decide +kernel
theorem dX10_makes_39 : decode cX10_makes 39 = .ok (.aload_n 0, 1) := by decide +kernel
theorem dX10_makes_40 : decode cX10_makes 40 = .ok (.sipush 3394, 3) := by decide +kernel
theorem dX10_makes_43 : decode cX10_makes 43 = .ok (.dup2, 1) := by decide +kernel
theorem dX10_makes_44 : decode cX10_makes 44 = .ok (.iaload, 1) := by decide +kernel
theorem dX10_makes_45 : decode cX10_makes 45 = .ok (.iconst 1, 1) := by decide +kernel
theorem dX10_makes_46 : decode cX10_makes 46 = .ok (.iadd, 1) := by decide +kernel
theorem dX10_makes_47 : decode cX10_makes 47 = .ok (.iastore, 1) := by decide +kernel
theorem dX10_makes_48 : decode cX10_makes 48 = .ok (.aload_n 0, 1) := by decide +kernel
theorem dX10_makes_49 : decode cX10_makes 49 = .ok (.iload 8, 2) := by decide +kernel
theorem dX10_makes_51 : decode cX10_makes 51 = .ok (.aload_n 0, 1) := by decide +kernel
theorem dX10_makes_52 : decode cX10_makes 52 = .ok (.sipush 3394, 3) := by decide +kernel
theorem dX10_makes_55 : decode cX10_makes 55 = .ok (.iaload, 1) := by decide +kernel
theorem dX10_makes_56 : decode cX10_makes 56 = .ok (.iastore, 1) := by decide +kernel
theorem dX10_makes_57 : decode cX10_makes 57 = .ok (.aload_n 0, 1) := by decide +kernel
theorem dX10_makes_58 : decode cX10_makes 58 = .ok (.iload 8, 2) := by decide +kernel
theorem dX10_makes_60 : decode cX10_makes 60 = .ok (.iconst 1, 1) := by decide +kernel
theorem dX10_makes_61 : decode cX10_makes 61 = .ok (.iadd, 1) := by decide +kernel
theorem dX10_makes_62 : decode cX10_makes 62 = .ok (.iload_n 1, 1) := by decide +kernel
theorem dX10_makes_63 : decode cX10_makes 63 = .ok (.iastore, 1) := by decide +kernel
theorem dX10_makes_64 : decode cX10_makes 64 = .ok (.aload_n 0, 1) := by decide +kernel
theorem dX10_makes_65 : decode cX10_makes 65 = .ok (.iload 8, 2) := by decide +kernel
theorem dX10_makes_67 : decode cX10_makes 67 = .ok (.iconst 2, 1) := by decide +kernel
theorem dX10_makes_68 : decode cX10_makes 68 = .ok (.iadd, 1) := by decide +kernel
theorem dX10_makes_69 : decode cX10_makes 69 = .ok (.iload_n 2, 1) := by decide +kernel
theorem dX10_makes_70 : decode cX10_makes 70 = .ok (.iastore, 1) := by decide +kernel
theorem dX10_makes_71 : decode cX10_makes 71 = .ok (.aload_n 0, 1) := by decide +kernel
theorem dX10_makes_72 : decode cX10_makes 72 = .ok (.iload 8, 2) := by decide +kernel
theorem dX10_makes_74 : decode cX10_makes 74 = .ok (.iconst 3, 1) := by decide +kernel
theorem dX10_makes_75 : decode cX10_makes 75 = .ok (.iadd, 1) := by decide +kernel
theorem dX10_makes_76 : decode cX10_makes 76 = .ok (.iload_n 3, 1) := by decide +kernel
theorem dX10_makes_77 : decode cX10_makes 77 = .ok (.iastore, 1) := by decide +kernel
theorem dX10_makes_78 : decode cX10_makes 78 = .ok (.aload_n 0, 1) := by decide +kernel
theorem dX10_makes_79 : decode cX10_makes 79 = .ok (.iload 8, 2) := by decide +kernel
theorem dX10_makes_81 : decode cX10_makes 81 = .ok (.iconst 4, 1) := by decide +kernel
theorem dX10_makes_82 : decode cX10_makes 82 = .ok (.iadd, 1) := by decide +kernel
theorem dX10_makes_83 : decode cX10_makes 83 = .ok (.iload 4, 2) := by decide +kernel
theorem dX10_makes_85 : decode cX10_makes 85 = .ok (.iastore, 1) := by decide +kernel
theorem dX10_makes_86 : decode cX10_makes 86 = .ok (.aload_n 0, 1) := by decide +kernel
theorem dX10_makes_87 : decode cX10_makes 87 = .ok (.iload 8, 2) := by decide +kernel
theorem dX10_makes_89 : decode cX10_makes 89 = .ok (.iconst 5, 1) := by decide +kernel
theorem dX10_makes_90 : decode cX10_makes 90 = .ok (.iadd, 1) := by decide +kernel
theorem dX10_makes_91 : decode cX10_makes 91 = .ok (.iload 5, 2) := by decide +kernel
theorem dX10_makes_93 : decode cX10_makes 93 = .ok (.iastore, 1) := by decide +kernel
theorem dX10_makes_94 : decode cX10_makes 94 = .ok (.aload_n 0, 1) := by decide +kernel
theorem dX10_makes_95 : decode cX10_makes 95 = .ok (.iload 8, 2) := by decide +kernel
theorem dX10_makes_97 : decode cX10_makes 97 = .ok (.bipush 6, 2) := by decide +kernel
theorem dX10_makes_99 : decode cX10_makes 99 = .ok (.iadd, 1) := by decide +kernel
theorem dX10_makes_100 : decode cX10_makes 100 = .ok (.iload 6, 2) := by decide +kernel
theorem dX10_makes_102 : decode cX10_makes 102 = .ok (.iastore, 1) := by decide +kernel
theorem dX10_makes_103 : decode cX10_makes 103 = .ok (.aload_n 0, 1) := by decide +kernel
theorem dX10_makes_104 : decode cX10_makes 104 = .ok (.iload 8, 2) := by decide +kernel
theorem dX10_makes_106 : decode cX10_makes 106 = .ok (.bipush 7, 2) := by decide +kernel
theorem dX10_makes_108 : decode cX10_makes 108 = .ok (.iadd, 1) := by decide +kernel
theorem dX10_makes_109 : decode cX10_makes 109 = .ok (.iload 7, 2) := by decide +kernel
theorem dX10_makes_111 : decode cX10_makes 111 = .ok (.iastore, 1) := by decide +kernel
theorem dX10_makes_112 : decode cX10_makes 112 = .ok (.bipush 8, 2) := by decide +kernel
theorem dX10_makes_114 : decode cX10_makes 114 = .ok (.istore 10, 2) := by decide +kernel
theorem dX10_makes_116 : decode cX10_makes 116 = .ok (.iload 10, 2) := by decide +kernel
theorem dX10_makes_118 : decode cX10_makes 118 = .ok (.bipush 12, 2) := by decide +kernel
theorem dX10_makes_120 : decode cX10_makes 120 = .ok (.if_icmp .ge 17, 3) := by decide +kernel
theorem dX10_makes_123 : decode cX10_makes 123 = .ok (.aload_n 0, 1) := by decide +kernel
theorem dX10_makes_124 : decode cX10_makes 124 = .ok (.iload 8, 2) := by decide +kernel
theorem dX10_makes_126 : decode cX10_makes 126 = .ok (.iload 10, 2) := by decide +kernel
theorem dX10_makes_128 : decode cX10_makes 128 = .ok (.iadd, 1) := by decide +kernel
theorem dX10_makes_129 : decode cX10_makes 129 = .ok (.iconst 0, 1) := by decide +kernel
theorem dX10_makes_130 : decode cX10_makes 130 = .ok (.iastore, 1) := by decide +kernel
theorem dX10_makes_131 : decode cX10_makes 131 = .ok (.iinc 10 1, 3) := by decide +kernel
theorem dX10_makes_134 : decode cX10_makes 134 = .ok (.goto (-18), 3) := by decide +kernel
theorem dX10_makes_137 : decode cX10_makes 137 = .ok (.iload_n 2, 1) := by decide +kernel
theorem dX10_makes_138 : decode cX10_makes 138 = .ok (.bipush 16, 2) := by decide +kernel
theorem dX10_makes_140 : decode cX10_makes 140 = .ok (.if_icmp .ge 28, 3) := by decide +kernel
theorem dX10_makes_143 : decode cX10_makes 143 = .ok (.aload_n 0, 1) := by decide +kernel
theorem dX10_makes_144 : decode cX10_makes 144 = .ok (.iload 8, 2) := by decide +kernel
theorem dX10_makes_146 : decode cX10_makes 146 = .ok (.bipush 8, 2) := by decide +kernel
theorem dX10_makes_148 : decode cX10_makes 148 = .ok (.iadd, 1) := by decide +kernel
theorem dX10_makes_149 : decode cX10_makes 149 = .ok (.aload_n 0, 1) := by decide +kernel
theorem dX10_makes_150 : decode cX10_makes 150 = .ok (.iload 9, 2) := by decide +kernel
theorem dX10_makes_152 : decode cX10_makes 152 = .ok (.iload_n 2, 1) := by decide +kernel
theorem dX10_makes_153 : decode cX10_makes 153 = .ok (.iadd, 1) := by decide +kernel
theorem dX10_makes_154 : decode cX10_makes 154 = .ok (.iaload, 1) := by decide +kernel
theorem dX10_makes_155 : decode cX10_makes 155 = .ok (.iastore, 1) := by decide +kernel
theorem dX10_makes_156 : decode cX10_makes 156 = .ok (.aload_n 0, 1) := by decide +kernel
theorem dX10_makes_157 : decode cX10_makes 157 = .ok (.iload 9, 2) := by decide +kernel
theorem dX10_makes_159 : decode cX10_makes 159 = .ok (.iload_n 2, 1) := by decide +kernel
theorem dX10_makes_160 : decode cX10_makes 160 = .ok (.iadd, 1) := by decide +kernel
theorem dX10_makes_161 : decode cX10_makes 161 = .ok (.iload_n 3, 1) := by decide +kernel
theorem dX10_makes_162 : decode cX10_makes 162 = .ok (.iastore, 1) := by decide +kernel
theorem dX10_makes_163 : decode cX10_makes 163 = .ok (.aload_n 0, 1) := by decide +kernel
theorem dX10_makes_164 : decode cX10_makes 164 = .ok (.iload 8, 2) := by decide +kernel
theorem dX10_makes_166 : decode cX10_makes 166 = .ok (.iaload, 1) := by decide +kernel
theorem dX10_makes_167 : decode cX10_makes 167 = .ok (.ireturn, 1) := by decide +kernel
theorem dX10_makes_168 : decode cX10_makes 168 = .ok (.iconst 0, 1) := by decide +kernel
theorem dX10_makes_169 : decode cX10_makes 169 = .ok (.istore 10, 2) := by decide +kernel
theorem dX10_makes_171 : decode cX10_makes 171 = .ok (.iload 10, 2) := by decide +kernel
theorem dX10_makes_173 : decode cX10_makes 173 = .ok (.bipush 16, 2) := by decide +kernel
theorem dX10_makes_175 : decode cX10_makes 175 = .ok (.if_icmp .ge 47, 3) := by decide +kernel
theorem dX10_makes_178 : decode cX10_makes 178 = .ok (.aload_n 0, 1) := by decide +kernel
theorem dX10_makes_179 : decode cX10_makes 179 = .ok (.iload 8, 2) := by decide +kernel
theorem dX10_makes_181 : decode cX10_makes 181 = .ok (.bipush 8, 2) := by decide +kernel
theorem dX10_makes_183 : decode cX10_makes 183 = .ok (.iadd, 1) := by decide +kernel
theorem dX10_makes_184 : decode cX10_makes 184 = .ok (.iload 10, 2) := by decide +kernel
theorem dX10_makes_186 : decode cX10_makes 186 = .ok (.iconst 4, 1) := by decide +kernel
theorem dX10_makes_187 : decode cX10_makes 187 = .ok (.idiv, 1) := by decide +kernel
theorem dX10_makes_188 : decode cX10_makes 188 = .ok (.iadd, 1) := by decide +kernel
theorem dX10_makes_189 : decode cX10_makes 189 = .ok (.dup2, 1) := by decide +kernel
theorem dX10_makes_190 : decode cX10_makes 190 = .ok (.iaload, 1) := by decide +kernel
theorem dX10_makes_191 : decode cX10_makes 191 = .ok (.aload_n 0, 1) := by decide +kernel
theorem dX10_makes_192 : decode cX10_makes 192 = .ok (.iload 9, 2) := by decide +kernel
theorem dX10_makes_194 : decode cX10_makes 194 = .ok (.iload 10, 2) := by decide +kernel
theorem dX10_makes_196 : decode cX10_makes 196 = .ok (.iadd, 1) := by decide +kernel
theorem dX10_makes_197 : decode cX10_makes 197 = .ok (.iaload, 1) := by decide +kernel
theorem dX10_makes_198 : decode cX10_makes 198 = .ok (.bipush 8, 2) := by decide +kernel
theorem dX10_makes_200 : decode cX10_makes 200 = .ok (.iload 10, 2) := by decide +kernel
theorem dX10_makes_202 : decode cX10_makes 202 = .ok (.iconst 4, 1) := by decide +kernel
theorem dX10_makes_203 : decode cX10_makes 203 = .ok (.irem, 1) := by decide +kernel
theorem dX10_makes_204 : decode cX10_makes 204 = .ok (.imul, 1) := by decide +kernel
theorem dX10_makes_205 : decode cX10_makes 205 = .ok (.ishl, 1) := by decide +kernel
theorem dX10_makes_206 : decode cX10_makes 206 = .ok (.ior, 1) := by decide +kernel
theorem dX10_makes_207 : decode cX10_makes 207 = .ok (.iastore, 1) := by decide +kernel
theorem dX10_makes_208 : decode cX10_makes 208 = .ok (.aload_n 0, 1) := by decide +kernel
theorem dX10_makes_209 : decode cX10_makes 209 = .ok (.iload 9, 2) := by decide +kernel
theorem dX10_makes_211 : decode cX10_makes 211 = .ok (.iload 10, 2) := by decide +kernel
theorem dX10_makes_213 : decode cX10_makes 213 = .ok (.iadd, 1) := by decide +kernel
theorem dX10_makes_214 : decode cX10_makes 214 = .ok (.iload_n 3, 1) := by decide +kernel
theorem dX10_makes_215 : decode cX10_makes 215 = .ok (.iastore, 1) := by decide +kernel
theorem dX10_makes_216 : decode cX10_makes 216 = .ok (.iinc 10 1, 3) := by decide +kernel
theorem dX10_makes_219 : decode cX10_makes 219 = .ok (.goto (-48), 3) := by decide +kernel
theorem dX10_makes_222 : decode cX10_makes 222 = .ok (.aload_n 0, 1) := by decide +kernel
theorem dX10_makes_223 : decode cX10_makes 223 = .ok (.iload 8, 2) := by decide +kernel
theorem dX10_makes_225 : decode cX10_makes 225 = .ok (.iaload, 1) := by decide +kernel
theorem dX10_makes_226 : decode cX10_makes 226 = .ok (.ireturn, 1) := by decide +kernel
theorem dX10_bare_0 : decode cX10_bare 0 = .ok (.aload_n 0, 1) := by decide +kernel
theorem dX10_bare_1 : decode cX10_bare 1 = .ok (.iload_n 1, 1) := by decide +kernel
theorem dX10_bare_2 : decode cX10_bare 2 = .ok (.iload_n 2, 1) := by decide +kernel
theorem dX10_bare_3 : decode cX10_bare 3 = .ok (.iload_n 3, 1) := by decide +kernel
theorem dX10_bare_4 : decode cX10_bare 4 = .ok (.iconst 0, 1) := by decide +kernel
theorem dX10_bare_5 : decode cX10_bare 5 = .ok (.iconst 0, 1) := by decide +kernel
theorem dX10_bare_6 : decode cX10_bare 6 = .ok (.iconst 0, 1) := by decide +kernel
theorem dX10_bare_7 : decode cX10_bare 7 = .ok (.iconst 0, 1) := by decide +kernel
theorem dX10_bare_8 : decode cX10_bare 8 = .ok (.invokestatic 204, 3) := by decide +kernel
theorem dX10_bare_11 : decode cX10_bare 11 = .ok (.ireturn, 1) := by decide +kernel
theorem dX10_field_0 : decode cX10_field 0 = .ok (.aload_n 0, 1) := by decide +kernel
theorem dX10_field_1 : decode cX10_field 1 = .ok (.iload_n 1, 1) := by decide +kernel
theorem dX10_field_2 : decode cX10_field 2 = .ok (.iload_n 2, 1) := by decide +kernel
theorem dX10_field_3 : decode cX10_field 3 = .ok (.invokestatic 171, 3) := by decide +kernel
theorem dX10_field_6 : decode cX10_field 6 = .ok (.bipush 16, 2) := by decide +kernel
theorem dX10_field_8 : decode cX10_field 8 = .ok (.idiv, 1) := by decide +kernel
theorem dX10_field_9 : decode cX10_field 9 = .ok (.iload_n 1, 1) := by decide +kernel
theorem dX10_field_10 : decode cX10_field 10 = .ok (.iload_n 2, 1) := by decide +kernel
theorem dX10_field_11 : decode cX10_field 11 = .ok (.invokestatic 171, 3) := by decide +kernel
theorem dX10_field_14 : decode cX10_field 14 = .ok (.bipush 16, 2) := by decide +kernel
theorem dX10_field_16 : decode cX10_field 16 = .ok (.irem, 1) := by decide +kernel
theorem dX10_field_17 : decode cX10_field 17 = .ok (.iload_n 3, 1) := by decide +kernel
theorem dX10_field_18 : decode cX10_field 18 = .ok (.iload 4, 2) := by decide +kernel
theorem dX10_field_20 : decode cX10_field 20 = .ok (.iload 5, 2) := by decide +kernel
theorem dX10_field_22 : decode cX10_field 22 = .ok (.iconst 0, 1) := by decide +kernel
theorem dX10_field_23 : decode cX10_field 23 = .ok (.iconst 0, 1) := by decide +kernel
theorem dX10_field_24 : decode cX10_field 24 = .ok (.invokestatic 204, 3) := by decide +kernel
theorem dX10_field_27 : decode cX10_field 27 = .ok (.ireturn, 1) := by decide +kernel
theorem dX10_putsOff_0 : decode cX10_putsOff 0 = .ok (.sipush 2912, 3) := by decide +kernel
theorem dX10_putsOff_3 : decode cX10_putsOff 3 = .ok (.iconst 3, 1) := by decide +kernel
theorem dX10_putsOff_4 : decode cX10_putsOff 4 = .ok (.aload_n 0, 1) := by decide +kernel
theorem dX10_putsOff_5 : decode cX10_putsOff 5 = .ok (.sipush 3393, 3) := by decide +kernel
theorem dX10_putsOff_8 : decode cX10_putsOff 8 = .ok (.iaload, 1) := by decide +kernel
theorem dX10_putsOff_9 : decode cX10_putsOff 9 = .ok (.imul, 1) := by decide +kernel
theorem dX10_putsOff_10 : decode cX10_putsOff 10 = .ok (.iadd, 1) := by decide +kernel
theorem dX10_putsOff_11 : decode cX10_putsOff 11 = .ok (.istore 4, 2) := by decide +kernel
theorem dX10_putsOff_13 : decode cX10_putsOff 13 = .ok (.aload_n 0, 1) := by decide +kernel
theorem dX10_putsOff_14 : decode cX10_putsOff 14 = .ok (.iload 4, 2) := by decide +kernel
theorem dX10_putsOff_16 : decode cX10_putsOff 16 = .ok (.iload_n 1, 1) := by decide +kernel
theorem dX10_putsOff_17 : decode cX10_putsOff 17 = .ok (.iastore, 1) := by decide +kernel
theorem dX10_putsOff_18 : decode cX10_putsOff 18 = .ok (.aload_n 0, 1) := by decide +kernel
theorem dX10_putsOff_19 : decode cX10_putsOff 19 = .ok (.iload 4, 2) := by decide +kernel
theorem dX10_putsOff_21 : decode cX10_putsOff 21 = .ok (.iconst 1, 1) := by decide +kernel
theorem dX10_putsOff_22 : decode cX10_putsOff 22 = .ok (.iadd, 1) := by decide +kernel
theorem dX10_putsOff_23 : decode cX10_putsOff 23 = .ok (.iload_n 2, 1) := by decide +kernel
theorem dX10_putsOff_24 : decode cX10_putsOff 24 = .ok (.iastore, 1) := by decide +kernel
theorem dX10_putsOff_25 : decode cX10_putsOff 25 = .ok (.aload_n 0, 1) := by decide +kernel
theorem dX10_putsOff_26 : decode cX10_putsOff 26 = .ok (.iload 4, 2) := by decide +kernel
theorem dX10_putsOff_28 : decode cX10_putsOff 28 = .ok (.iconst 2, 1) := by decide +kernel
theorem dX10_putsOff_29 : decode cX10_putsOff 29 = .ok (.iadd, 1) := by decide +kernel
theorem dX10_putsOff_30 : decode cX10_putsOff 30 = .ok (.iload_n 3, 1) := by decide +kernel
theorem dX10_putsOff_31 : decode cX10_putsOff 31 = .ok (.iastore, 1) := by decide +kernel
theorem dX10_putsOff_32 : decode cX10_putsOff 32 = .ok (.aload_n 0, 1) := by decide +kernel
theorem dX10_putsOff_33 : decode cX10_putsOff 33 = .ok (.sipush 3393, 3) := by decide +kernel
theorem dX10_putsOff_36 : decode cX10_putsOff 36 = .ok (.dup2, 1) := by decide +kernel
theorem dX10_putsOff_37 : decode cX10_putsOff 37 = .ok (.iaload, 1) := by decide +kernel
theorem dX10_putsOff_38 : decode cX10_putsOff 38 = .ok (.iconst 1, 1) := by decide +kernel
theorem dX10_putsOff_39 : decode cX10_putsOff 39 = .ok (.iadd, 1) := by decide +kernel
theorem dX10_putsOff_40 : decode cX10_putsOff 40 = .ok (.iastore, 1) := by decide +kernel
theorem dX10_putsOff_41 : decode cX10_putsOff 41 = .ok (.return_, 1) := by decide +kernel
theorem dX10_which_0 : decode cX10_which 0 = .ok (.iconst 0, 1) := by decide +kernel
theorem dX10_which_1 : decode cX10_which 1 = .ok (.istore_n 2, 1) := by decide +kernel
theorem dX10_which_2 : decode cX10_which 2 = .ok (.iload_n 2, 1) := by decide +kernel
theorem dX10_which_3 : decode cX10_which 3 = .ok (.aload_n 0, 1) := by decide +kernel
theorem dX10_which_4 : decode cX10_which 4 = .ok (.sipush 3392, 3) := by decide +kernel
theorem dX10_which_7 : decode cX10_which 7 = .ok (.iaload, 1) := by decide +kernel
theorem dX10_which_8 : decode cX10_which 8 = .ok (.if_icmp .ge 25, 3) := by decide +kernel
theorem dX10_which_11 : decode cX10_which 11 = .ok (.iload_n 1, 1) := by decide +kernel
theorem dX10_which_12 : decode cX10_which 12 = .ok (.ifCond .le 21, 3) := by decide +kernel
theorem dX10_which_15 : decode cX10_which 15 = .ok (.aload_n 0, 1) := by decide +kernel
theorem dX10_which_16 : decode cX10_which 16 = .ok (.iload_n 2, 1) := by decide +kernel
theorem dX10_which_17 : decode cX10_which 17 = .ok (.invokestatic 201, 3) := by decide +kernel
theorem dX10_which_20 : decode cX10_which 20 = .ok (.iaload, 1) := by decide +kernel
theorem dX10_which_21 : decode cX10_which 21 = .ok (.iload_n 1, 1) := by decide +kernel
theorem dX10_which_22 : decode cX10_which 22 = .ok (.if_icmp .ne 5, 3) := by decide +kernel
theorem dX10_which_25 : decode cX10_which 25 = .ok (.iload_n 2, 1) := by decide +kernel
theorem dX10_which_26 : decode cX10_which 26 = .ok (.ireturn, 1) := by decide +kernel
theorem dX10_which_27 : decode cX10_which 27 = .ok (.iinc 2 1, 3) := by decide +kernel
theorem dX10_which_30 : decode cX10_which 30 = .ok (.goto (-28), 3) := by decide +kernel
theorem dX10_which_33 : decode cX10_which 33 = .ok (.iconst (-1), 1) := by decide +kernel
theorem dX10_which_34 : decode cX10_which 34 = .ok (.ireturn, 1) := by decide +kernel
theorem eX10_thrown {G : GG} {d : Nat} {h : Hp} {o : OU} {h' : Hp} (r0 : Nat) (T : kH h r0 = 18 ∧ (o = .inl (some (.int (h.2 r0 0))) ∧ h' = h)) : VM G mX10_thrown d [.ref r0] h o h' := by
  refine V.toM rfl rfl (le_l rfl) (cat_all rfl) ?_
  show V G mX10_thrown d 0 [.ref r0] [] h o h'
  refine v_aload_n (pc' := 1) dX10_thrown_0 rfl rfl ?_
  obtain ⟨q1, T⟩ := T
  refine v_getI (pc' := 4) 8 0 dX10_thrown_1 rfl (by decide) (by decide) rfl kf_X10_72 q1 ?_
  exact v_iret dX10_thrown_4 rfl T
theorem eX10_bad {G : GG} {d : Nat} {h : Hp} {o : OU} {h' : Hp} (r0 : Nat) (x1 : Int32) (x2 : Int32) (x3 : Int32) (T : ((x1 = 0 → kH h r0 = 18 ∧ (((h.2 r0 0) = 0 → (o = .inl (some (.int 0)) ∧ h' = h)) ∧ (¬ (h.2 r0 0) = 0 → (o = .inl (some (.int 1)) ∧ h' = h)))) ∧ (¬ x1 = 0 → kH h r0 = 18 ∧ ((¬ (h.2 r0 0) = 0 → (((h.2 r0 0) = 0 → (o = .inl (some (.int 0)) ∧ h' = h)) ∧ (¬ (h.2 r0 0) = 0 → (o = .inl (some (.int 1)) ∧ h' = h)))) ∧ ((h.2 r0 0) = 0 → kH h (rH h r0 10) = 1 ∧ vp_in x3 (lH h (rH h r0 10)) ∧ ((((upI (upI h.2 r0 0 x2) (rH h r0 10) x3.toNatClampNeg (((upI h.2 r0 0 x2) (rH h r0 10) x3.toNatClampNeg) + 1)) r0 0) = 0 → (o = .inl (some (.int 0)) ∧ h' = (h.1, (upI (upI h.2 r0 0 x2) (rH h r0 10) x3.toNatClampNeg (((upI h.2 r0 0 x2) (rH h r0 10) x3.toNatClampNeg) + 1))))) ∧ (¬ ((upI (upI h.2 r0 0 x2) (rH h r0 10) x3.toNatClampNeg (((upI h.2 r0 0 x2) (rH h r0 10) x3.toNatClampNeg) + 1)) r0 0) = 0 → (o = .inl (some (.int 1)) ∧ h' = (h.1, (upI (upI h.2 r0 0 x2) (rH h r0 10) x3.toNatClampNeg (((upI h.2 r0 0 x2) (rH h r0 10) x3.toNatClampNeg) + 1))))))))))) : VM G mX10_bad d [.ref r0, .int x1, .int x2, .int x3] h o h' := by
  refine V.toM rfl rfl (le_l rfl) (cat_all rfl) ?_
  show V G mX10_bad d 0 [.ref r0, .int x1, .int x2, .int x3] [] h o h'
  refine v_iload_n (pc' := 1) dX10_bad_0 rfl rfl ?_
  refine v_if_eq (tgt := 26) (pc' := 4) dX10_bad_1 (by decide) rfl ⟨fun c1 => ?_, fun c1 => ?_⟩
  · have T := T.1 c1
    refine v_aload_n (pc' := 27) dX10_bad_26 rfl rfl ?_
    obtain ⟨q2, T⟩ := T
    refine v_getI (pc' := 30) 8 0 dX10_bad_27 rfl (by decide) (by decide) rfl kf_X10_72 q2 ?_
    refine v_if_eq (tgt := 37) (pc' := 33) dX10_bad_30 (by decide) rfl ⟨fun c3 => ?_, fun c3 => ?_⟩
    · have T := T.1 c3
      refine v_iconst (pc' := 38) (v := 0) dX10_bad_37 rfl kI_0 ?_
      exact v_zret dX10_bad_38 rfl (Or.inl rfl) T
    · have T := T.2 c3
      refine v_iconst (pc' := 34) (v := 1) dX10_bad_33 rfl kI_1 ?_
      refine v_goto (pc' := 38) dX10_bad_34 (by decide) ?_
      exact v_zret dX10_bad_38 rfl (Or.inr rfl) T
  · have T := T.2 c1
    refine v_aload_n (pc' := 5) dX10_bad_4 rfl rfl ?_
    obtain ⟨q4, T⟩ := T
    refine v_getI (pc' := 8) 8 0 dX10_bad_5 rfl (by decide) (by decide) rfl kf_X10_72 q4 ?_
    refine v_if_ne (tgt := 26) (pc' := 11) dX10_bad_8 (by decide) rfl ⟨fun c5 => ?_, fun c5 => ?_⟩
    · have T := T.1 c5
      refine v_aload_n (pc' := 27) dX10_bad_26 rfl rfl ?_
      refine v_getI (pc' := 30) 8 0 dX10_bad_27 rfl (by decide) (by decide) rfl kf_X10_72 q4 ?_
      refine v_if_eq (tgt := 37) (pc' := 33) dX10_bad_30 (by decide) rfl ⟨fun c6 => ?_, fun c6 => ?_⟩
      · have T := T.1 c6
        refine v_iconst (pc' := 38) (v := 0) dX10_bad_37 rfl kI_0 ?_
        exact v_zret dX10_bad_38 rfl (Or.inl rfl) T
      · have T := T.2 c6
        refine v_iconst (pc' := 34) (v := 1) dX10_bad_33 rfl kI_1 ?_
        refine v_goto (pc' := 38) dX10_bad_34 (by decide) ?_
        exact v_zret dX10_bad_38 rfl (Or.inr rfl) T
    · have T := T.2 c5
      refine v_aload_n (pc' := 12) dX10_bad_11 rfl rfl ?_
      refine v_iload_n (pc' := 13) dX10_bad_12 rfl rfl ?_
      refine v_putI (pc' := 16) 8 0 dX10_bad_13 rfl (by decide) (by decide) rfl rfl kf_X10_72 q4 ?_
      refine v_aload_n (pc' := 17) dX10_bad_16 rfl rfl ?_
      refine v_getR (pc' := 20) 8 10 dX10_bad_17 rfl (by decide) (by decide) rfl kf_X10_17 q4 ?_
      refine v_iload_n (pc' := 21) dX10_bad_20 rfl rfl ?_
      refine v_dup2 (pc' := 22) dX10_bad_21 rfl rfl rfl ?_
      obtain ⟨q7, T⟩ := T
      obtain ⟨q8, T⟩ := T
      refine v_iald (pc' := 23) dX10_bad_22 rfl rfl q7 q8 ?_
      refine v_iconst (pc' := 24) (v := 1) dX10_bad_23 rfl kI_1 ?_
      refine v_iadd (pc' := 25) dX10_bad_24 rfl ?_
      refine v_iast (pc' := 26) dX10_bad_25 rfl rfl q7 q8 ?_
      refine v_aload_n (pc' := 27) dX10_bad_26 rfl rfl ?_
      refine v_getI (pc' := 30) 8 0 dX10_bad_27 rfl (by decide) (by decide) rfl kf_X10_72 q4 ?_
      refine v_if_eq (tgt := 37) (pc' := 33) dX10_bad_30 (by decide) rfl ⟨fun c9 => ?_, fun c9 => ?_⟩
      · have T := T.1 c9
        refine v_iconst (pc' := 38) (v := 0) dX10_bad_37 rfl kI_0 ?_
        exact v_zret dX10_bad_38 rfl (Or.inl rfl) T
      · have T := T.2 c9
        refine v_iconst (pc' := 34) (v := 1) dX10_bad_33 rfl kI_1 ?_
        refine v_goto (pc' := 38) dX10_bad_34 (by decide) ?_
        exact v_zret dX10_bad_38 rfl (Or.inr rfl) T
theorem eX10_in {G : GG} {d : Nat} {h : Hp} {o : OU} {h' : Hp} (x0 : Int32) (x1 : Int32) (x2 : Int32) (T : ((x0 < x1 → (o = .inl (some (.int 0)) ∧ h' = h)) ∧ (¬ x0 < x1 → ((x2 < x0 → (o = .inl (some (.int 0)) ∧ h' = h)) ∧ (¬ x2 < x0 → (o = .inl (some (.int 1)) ∧ h' = h)))))) : VM G mX10_in d [.int x0, .int x1, .int x2] h o h' := by
  refine V.toM rfl rfl (le_l rfl) (cat_all rfl) ?_
  show V G mX10_in d 0 [.int x0, .int x1, .int x2] [] h o h'
  refine v_iload_n (pc' := 1) dX10_in_0 rfl rfl ?_
  refine v_iload_n (pc' := 2) dX10_in_1 rfl rfl ?_
  refine v_icmp_lt (tgt := 14) (pc' := 5) dX10_in_2 (by decide) rfl ⟨fun c1 => ?_, fun c1 => ?_⟩
  · have T := T.1 c1
    refine v_iconst (pc' := 15) (v := 0) dX10_in_14 rfl kI_0 ?_
    exact v_zret dX10_in_15 rfl (Or.inl rfl) T
  · have T := T.2 c1
    refine v_iload_n (pc' := 6) dX10_in_5 rfl rfl ?_
    refine v_iload_n (pc' := 7) dX10_in_6 rfl rfl ?_
    refine v_icmp_gt (tgt := 14) (pc' := 10) dX10_in_7 (by decide) rfl ⟨fun c2 => ?_, fun c2 => ?_⟩
    · have T := T.1 c2
      refine v_iconst (pc' := 15) (v := 0) dX10_in_14 rfl kI_0 ?_
      exact v_zret dX10_in_15 rfl (Or.inl rfl) T
    · have T := T.2 c2
      refine v_iconst (pc' := 11) (v := 1) dX10_in_10 rfl kI_1 ?_
      refine v_goto (pc' := 15) dX10_in_11 (by decide) ?_
      exact v_zret dX10_in_15 rfl (Or.inr rfl) T
theorem eX10_less {G : GG} {d : Nat} {h : Hp} {o : OU} {h' : Hp} (x0 : Int32) (x1 : Int32) (T : ((x1 ≤ x0 → (o = .inl (some (.int x1)) ∧ h' = h)) ∧ (¬ x1 ≤ x0 → (o = .inl (some (.int x0)) ∧ h' = h)))) : VM G mX10_less d [.int x0, .int x1] h o h' := by
  refine V.toM rfl rfl (le_l rfl) (cat_all rfl) ?_
  show V G mX10_less d 0 [.int x0, .int x1] [] h o h'
  refine v_iload_n (pc' := 1) dX10_less_0 rfl rfl ?_
  refine v_iload_n (pc' := 2) dX10_less_1 rfl rfl ?_
  refine v_icmp_ge (tgt := 9) (pc' := 5) dX10_less_2 (by decide) rfl ⟨fun c1 => ?_, fun c1 => ?_⟩
  · have T := T.1 c1
    refine v_iload_n (pc' := 10) dX10_less_9 rfl rfl ?_
    exact v_iret dX10_less_10 rfl T
  · have T := T.2 c1
    refine v_iload_n (pc' := 6) dX10_less_5 rfl rfl ?_
    refine v_goto (pc' := 10) dX10_less_6 (by decide) ?_
    exact v_iret dX10_less_10 rfl T
theorem eX10_more {G : GG} {d : Nat} {h : Hp} {o : OU} {h' : Hp} (x0 : Int32) (x1 : Int32) (T : ((x0 ≤ x1 → (o = .inl (some (.int x1)) ∧ h' = h)) ∧ (¬ x0 ≤ x1 → (o = .inl (some (.int x0)) ∧ h' = h)))) : VM G mX10_more d [.int x0, .int x1] h o h' := by
  refine V.toM rfl rfl (le_l rfl) (cat_all rfl) ?_
  show V G mX10_more d 0 [.int x0, .int x1] [] h o h'
  refine v_iload_n (pc' := 1) dX10_more_0 rfl rfl ?_
  refine v_iload_n (pc' := 2) dX10_more_1 rfl rfl ?_
  refine v_icmp_le (tgt := 9) (pc' := 5) dX10_more_2 (by decide) rfl ⟨fun c1 => ?_, fun c1 => ?_⟩
  · have T := T.1 c1
    refine v_iload_n (pc' := 10) dX10_more_9 rfl rfl ?_
    exact v_iret dX10_more_10 rfl T
  · have T := T.2 c1
    refine v_iload_n (pc' := 6) dX10_more_5 rfl rfl ?_
    refine v_goto (pc' := 10) dX10_more_6 (by decide) ?_
    exact v_iret dX10_more_10 rfl T
theorem eX10_has {G : GG} {d : Nat} {h : Hp} {o : OU} {h' : Hp} (x0 : Int32) (x1 : Int32) (T : ((¬ ((x0 >>> (x1 &&& 31)) &&& 1) = 1 → (o = .inl (some (.int 0)) ∧ h' = h)) ∧ (((x0 >>> (x1 &&& 31)) &&& 1) = 1 → (o = .inl (some (.int 1)) ∧ h' = h)))) : VM G mX10_has d [.int x0, .int x1] h o h' := by
  refine V.toM rfl rfl (le_l rfl) (cat_all rfl) ?_
  show V G mX10_has d 0 [.int x0, .int x1] [] h o h'
  refine v_iload_n (pc' := 1) dX10_has_0 rfl rfl ?_
  refine v_iload_n (pc' := 2) dX10_has_1 rfl rfl ?_
  refine v_ishr (pc' := 3) dX10_has_2 rfl ?_
  refine v_iconst (pc' := 4) (v := 1) dX10_has_3 rfl kI_1 ?_
  refine v_iand (pc' := 5) dX10_has_4 rfl ?_
  refine v_iconst (pc' := 6) (v := 1) dX10_has_5 rfl kI_1 ?_
  refine v_icmp_ne (tgt := 13) (pc' := 9) dX10_has_6 (by decide) rfl ⟨fun c1 => ?_, fun c1 => ?_⟩
  · have T := T.1 c1
    refine v_iconst (pc' := 14) (v := 0) dX10_has_13 rfl kI_0 ?_
    exact v_zret dX10_has_14 rfl (Or.inl rfl) T
  · have T := T.2 c1
    refine v_iconst (pc' := 10) (v := 1) dX10_has_9 rfl kI_1 ?_
    refine v_goto (pc' := 14) dX10_has_10 (by decide) ?_
    exact v_zret dX10_has_14 rfl (Or.inr rfl) T
theorem eX10_feed {G : GG} {d : Nat} {h : Hp} {o : OU} {h' : Hp} (r0 : Nat) (x1 : Int32) (x2 : Int32) (x3 : Int32) (x4 : Int32) (x5 : Int32) (T : kH h r0 = 18 ∧ (((((upI h.2 r0 0 0) r0 1) + 20) ≤ 600 → V G mX10_feed d 23 [.ref r0, .int x1, .int x2, .int x3, .int x4, .int x5, .int 0, uV] [] (h.1, (upI h.2 r0 0 0)) o h') ∧ (¬ (((upI h.2 r0 0 0) r0 1) + 20) ≤ 600 → (o = .inl (some (.int (-1))) ∧ h' = (h.1, (upI h.2 r0 0 0)))))) : VM G mX10_feed d [.ref r0, .int x1, .int x2, .int x3, .int x4, .int x5] h o h' := by
  refine V.toM rfl rfl (le_l rfl) (cat_all rfl) ?_
  show V G mX10_feed d 0 [.ref r0, .int x1, .int x2, .int x3, .int x4, .int x5, uV, uV] [] h o h'
  refine v_aload_n (pc' := 1) dX10_feed_0 rfl rfl ?_
  refine v_iconst (pc' := 2) (v := 0) dX10_feed_1 rfl kI_0 ?_
  obtain ⟨q1, T⟩ := T
  refine v_putI (pc' := 5) 8 0 dX10_feed_2 rfl (by decide) (by decide) rfl rfl kf_X10_72 q1 ?_
  refine v_aload_n (pc' := 6) dX10_feed_5 rfl rfl ?_
  refine v_getI (pc' := 9) 8 1 dX10_feed_6 rfl (by decide) (by decide) rfl kf_X10_75 q1 ?_
  refine v_bipush (pc' := 11) (v := 20) dX10_feed_9 rfl kB_20 ?_
  refine v_iadd (pc' := 12) dX10_feed_11 rfl ?_
  refine v_sipush (pc' := 15) (v := 600) dX10_feed_12 rfl kS_600 ?_
  refine v_icmp_le (tgt := 20) (pc' := 18) dX10_feed_15 (by decide) rfl ⟨fun c2 => ?_, fun c2 => ?_⟩
  · have T := T.1 c2
    refine v_iconst (pc' := 21) (v := 0) dX10_feed_20 rfl kI_0 ?_
    refine v_istore (pc' := 23) (loc' := [.ref r0, .int x1, .int x2, .int x3, .int x4, .int x5, .int 0, uV]) dX10_feed_21 rfl (lt_l rfl) rfl ?_
    exact T
  · have T := T.2 c2
    refine v_iconst (pc' := 19) (v := (-1)) dX10_feed_18 rfl kI_m1 ?_
    exact v_iret dX10_feed_19 rfl T
theorem bX10_feed_23 {G : GG} {d : Nat} {h : Hp} {o : OU} {h' : Hp} (r0 : Nat) (x1 : Int32) (x2 : Int32) (x3 : Int32) (x4 : Int32) (x5 : Int32) (x6 : Int32) (T : ((20 ≤ x6 → kH h r0 = 18 ∧ (o = .inl (some (.int (h.2 r0 1))) ∧ h' = h)) ∧ (¬ 20 ≤ x6 → ((4 ≤ x6 → ((8 ≤ x6 → ((12 ≤ x6 → ((16 ≤ x6 → V G mX10_feed d 76 [.ref r0, .int x1, .int x2, .int x3, .int x4, .int x5, .int x6, uV] [.int x5] h o h') ∧ (¬ 16 ≤ x6 → V G mX10_feed d 76 [.ref r0, .int x1, .int x2, .int x3, .int x4, .int x5, .int x6, uV] [.int x4] h o h'))) ∧ (¬ 12 ≤ x6 → V G mX10_feed d 76 [.ref r0, .int x1, .int x2, .int x3, .int x4, .int x5, .int x6, uV] [.int x3] h o h'))) ∧ (¬ 8 ≤ x6 → V G mX10_feed d 76 [.ref r0, .int x1, .int x2, .int x3, .int x4, .int x5, .int x6, uV] [.int x2] h o h'))) ∧ (¬ 4 ≤ x6 → V G mX10_feed d 76 [.ref r0, .int x1, .int x2, .int x3, .int x4, .int x5, .int x6, uV] [.int x1] h o h'))))) : V G mX10_feed d 23 [.ref r0, .int x1, .int x2, .int x3, .int x4, .int x5, .int x6, uV] [] h o h' := by
  refine v_iload (pc' := 25) dX10_feed_23 rfl rfl ?_
  refine v_bipush (pc' := 27) (v := 20) dX10_feed_25 rfl kB_20 ?_
  refine v_icmp_ge (tgt := 120) (pc' := 30) dX10_feed_27 (by decide) rfl ⟨fun c1 => ?_, fun c1 => ?_⟩
  · have T := T.1 c1
    refine v_aload_n (pc' := 121) dX10_feed_120 rfl rfl ?_
    obtain ⟨q2, T⟩ := T
    refine v_getI (pc' := 124) 8 1 dX10_feed_121 rfl (by decide) (by decide) rfl kf_X10_75 q2 ?_
    exact v_iret dX10_feed_124 rfl T
  · have T := T.2 c1
    refine v_iload (pc' := 32) dX10_feed_30 rfl rfl ?_
    refine v_iconst (pc' := 33) (v := 4) dX10_feed_32 rfl kI_4 ?_
    refine v_icmp_ge (tgt := 40) (pc' := 36) dX10_feed_33 (by decide) rfl ⟨fun c3 => ?_, fun c3 => ?_⟩
    · have T := T.1 c3
      refine v_iload (pc' := 42) dX10_feed_40 rfl rfl ?_
      refine v_bipush (pc' := 44) (v := 8) dX10_feed_42 rfl kB_8 ?_
      refine v_icmp_ge (tgt := 51) (pc' := 47) dX10_feed_44 (by decide) rfl ⟨fun c4 => ?_, fun c4 => ?_⟩
      · have T := T.1 c4
        refine v_iload (pc' := 53) dX10_feed_51 rfl rfl ?_
        refine v_bipush (pc' := 55) (v := 12) dX10_feed_53 rfl kB_12 ?_
        refine v_icmp_ge (tgt := 62) (pc' := 58) dX10_feed_55 (by decide) rfl ⟨fun c5 => ?_, fun c5 => ?_⟩
        · have T := T.1 c5
          refine v_iload (pc' := 64) dX10_feed_62 rfl rfl ?_
          refine v_bipush (pc' := 66) (v := 16) dX10_feed_64 rfl kB_16 ?_
          refine v_icmp_ge (tgt := 74) (pc' := 69) dX10_feed_66 (by decide) rfl ⟨fun c6 => ?_, fun c6 => ?_⟩
          · have T := T.1 c6
            refine v_iload (pc' := 76) dX10_feed_74 rfl rfl ?_
            exact T
          · have T := T.2 c6
            refine v_iload (pc' := 71) dX10_feed_69 rfl rfl ?_
            refine v_goto (pc' := 76) dX10_feed_71 (by decide) ?_
            exact T
        · have T := T.2 c5
          refine v_iload_n (pc' := 59) dX10_feed_58 rfl rfl ?_
          refine v_goto (pc' := 76) dX10_feed_59 (by decide) ?_
          exact T
      · have T := T.2 c4
        refine v_iload_n (pc' := 48) dX10_feed_47 rfl rfl ?_
        refine v_goto (pc' := 76) dX10_feed_48 (by decide) ?_
        exact T
    · have T := T.2 c3
      refine v_iload_n (pc' := 37) dX10_feed_36 rfl rfl ?_
      refine v_goto (pc' := 76) dX10_feed_37 (by decide) ?_
      exact T
theorem bX10_feed_76 {G : GG} {d : Nat} {h : Hp} {o : OU} {h' : Hp} (r0 : Nat) (x1 : Int32) (x2 : Int32) (x3 : Int32) (x4 : Int32) (x5 : Int32) (x6 : Int32) (s0 : Int32) (T : kH h r0 = 18 ∧ kH h (rH h r0 9) = 1 ∧ vp_in (h.2 r0 1) (lH h (rH h r0 9)) ∧ (∀ i4 : Nat → Nat → Int32, i4 = (upI (upI h.2 (rH h r0 9) (h.2 r0 1).toNatClampNeg ((s0 >>> ((24 - (8 * (x6 - x6 / 4 * 4))) &&& 31)) &&& 255)) r0 1 (((upI h.2 (rH h r0 9) (h.2 r0 1).toNatClampNeg ((s0 >>> ((24 - (8 * (x6 - x6 / 4 * 4))) &&& 31)) &&& 255)) r0 1) + 1)) → V G mX10_feed d 23 [.ref r0, .int x1, .int x2, .int x3, .int x4, .int x5, .int (x6 + 1), uV] [] (h.1, i4) o h')) : V G mX10_feed d 76 [.ref r0, .int x1, .int x2, .int x3, .int x4, .int x5, .int x6, uV] [.int s0] h o h' := by
  refine v_istore (pc' := 78) (loc' := [.ref r0, .int x1, .int x2, .int x3, .int x4, .int x5, .int x6, .int s0]) dX10_feed_76 rfl (lt_l rfl) rfl ?_
  refine v_aload_n (pc' := 79) dX10_feed_78 rfl rfl ?_
  obtain ⟨q1, T⟩ := T
  refine v_getR (pc' := 82) 8 9 dX10_feed_79 rfl (by decide) (by decide) rfl kf_X10_13 q1 ?_
  refine v_aload_n (pc' := 83) dX10_feed_82 rfl rfl ?_
  refine v_getI (pc' := 86) 8 1 dX10_feed_83 rfl (by decide) (by decide) rfl kf_X10_75 q1 ?_
  refine v_iload (pc' := 88) dX10_feed_86 rfl rfl ?_
  refine v_bipush (pc' := 90) (v := 24) dX10_feed_88 rfl kB_24 ?_
  refine v_bipush (pc' := 92) (v := 8) dX10_feed_90 rfl kB_8 ?_
  refine v_iload (pc' := 94) dX10_feed_92 rfl rfl ?_
  refine v_iconst (pc' := 95) (v := 4) dX10_feed_94 rfl kI_4 ?_
  refine v_irem (pc' := 96) dX10_feed_95 rfl (by decide) ?_
  refine v_imul (pc' := 97) dX10_feed_96 rfl ?_
  refine v_isub (pc' := 98) dX10_feed_97 rfl ?_
  refine v_ishr (pc' := 99) dX10_feed_98 rfl ?_
  refine v_sipush (pc' := 102) (v := 255) dX10_feed_99 rfl kS_255 ?_
  refine v_iand (pc' := 103) dX10_feed_102 rfl ?_
  obtain ⟨q2, T⟩ := T
  obtain ⟨q3, T⟩ := T
  refine v_iast (pc' := 104) dX10_feed_103 rfl rfl q2 q3 ?_
  refine v_aload_n (pc' := 105) dX10_feed_104 rfl rfl ?_
  refine v_dup (pc' := 106) dX10_feed_105 rfl rfl ?_
  refine v_getI (pc' := 109) 8 1 dX10_feed_106 rfl (by decide) (by decide) rfl kf_X10_75 q1 ?_
  refine v_iconst (pc' := 110) (v := 1) dX10_feed_109 rfl kI_1 ?_
  refine v_iadd (pc' := 111) dX10_feed_110 rfl ?_
  refine v_putI (pc' := 114) 8 1 dX10_feed_111 rfl (by decide) (by decide) rfl rfl kf_X10_75 q1 ?_
  show V G mX10_feed d 114 [.ref r0, .int x1, .int x2, .int x3, .int x4, .int x5, .int x6, .int s0] [] (h.1, (upI (upI h.2 (rH h r0 9) (h.2 r0 1).toNatClampNeg ((s0 >>> ((24 - (8 * (x6 - x6 / 4 * 4))) &&& 31)) &&& 255)) r0 1 (((upI h.2 (rH h r0 9) (h.2 r0 1).toNatClampNeg ((s0 >>> ((24 - (8 * (x6 - x6 / 4 * 4))) &&& 31)) &&& 255)) r0 1) + 1))) o h'
  obtain ⟨i4, e5⟩ : ∃ z : Nat → Nat → Int32, z = (upI (upI h.2 (rH h r0 9) (h.2 r0 1).toNatClampNeg ((s0 >>> ((24 - (8 * (x6 - x6 / 4 * 4))) &&& 31)) &&& 255)) r0 1 (((upI h.2 (rH h r0 9) (h.2 r0 1).toNatClampNeg ((s0 >>> ((24 - (8 * (x6 - x6 / 4 * 4))) &&& 31)) &&& 255)) r0 1) + 1)) := ⟨_, rfl⟩
  rw [← e5]
  have T := T i4 e5
  refine v_iinc (pc' := 117) (loc' := [.ref r0, .int x1, .int x2, .int x3, .int x4, .int x5, .int (x6 + 1), .int s0]) dX10_feed_114 rfl rfl (kX_1 _) rfl ?_
  refine v_goto (pc' := 23) dX10_feed_117 (by decide) ?_
  exact V.drop (llp_r (llp_r (llp_r (llp_r (llp_r (llp_r (llp_r (llp_u llp_nil)))))))) T
theorem eX10_byteAt {G : GG} {d : Nat} {h : Hp} {o : OU} {h' : Hp} (r0 : Nat) (x1 : Int32) (T : kH h r0 = 18 ∧ ((x1 < (h.2 r0 2) → kH h (rH h r0 9) = 1 ∧ vp_in x1 (lH h (rH h r0 9)) ∧ (o = .inl (some (.int (h.2 (rH h r0 9) x1.toNatClampNeg))) ∧ h' = h)) ∧ (¬ x1 < (h.2 r0 2) → (o = .inl (some (.int (-1))) ∧ h' = h)))) : VM G mX10_byteAt d [.ref r0, .int x1] h o h' := by
  refine V.toM rfl rfl (le_l rfl) (cat_all rfl) ?_
  show V G mX10_byteAt d 0 [.ref r0, .int x1] [] h o h'
  refine v_iload_n (pc' := 1) dX10_byteAt_0 rfl rfl ?_
  refine v_aload_n (pc' := 2) dX10_byteAt_1 rfl rfl ?_
  obtain ⟨q1, T⟩ := T
  refine v_getI (pc' := 5) 8 2 dX10_byteAt_2 rfl (by decide) (by decide) rfl kf_X10_78 q1 ?_
  refine v_icmp_lt (tgt := 12) (pc' := 8) dX10_byteAt_5 (by decide) rfl ⟨fun c2 => ?_, fun c2 => ?_⟩
  · have T := T.1 c2
    refine v_aload_n (pc' := 13) dX10_byteAt_12 rfl rfl ?_
    refine v_getR (pc' := 16) 8 9 dX10_byteAt_13 rfl (by decide) (by decide) rfl kf_X10_13 q1 ?_
    refine v_iload_n (pc' := 17) dX10_byteAt_16 rfl rfl ?_
    obtain ⟨q3, T⟩ := T
    obtain ⟨q4, T⟩ := T
    refine v_iald (pc' := 18) dX10_byteAt_17 rfl rfl q3 q4 ?_
    exact v_iret dX10_byteAt_18 rfl T
  · have T := T.2 c2
    refine v_iconst (pc' := 9) (v := (-1)) dX10_byteAt_8 rfl kI_m1 ?_
    refine v_goto (pc' := 18) dX10_byteAt_9 (by decide) ?_
    exact v_iret dX10_byteAt_18 rfl T
theorem eX10_blanks {G : GG} {d : Nat} {h : Hp} {o : OU} {h' : Hp} (r0 : Nat) (hd : 1 ≤ d) (T : kH h r0 = 18 ∧ ∃ z3 h2, VM G mX10_byteAt (d - 1) [.ref r0, .int (h.2 r0 4)] h (.inl (some (.int z3))) h2 ∧ ((¬ z3 = 32 → (o = .inl none ∧ h' = h2)) ∧ (z3 = 32 → kH h2 r0 = 18 ∧ V G mX10_blanks d 0 [.ref r0] [] (h2.1, (upI h2.2 r0 4 ((h2.2 r0 4) + 1))) o h'))) : VM G mX10_blanks d [.ref r0] h o h' := by
  refine V.toM rfl rfl (le_l rfl) (cat_all rfl) ?_
  show V G mX10_blanks d 0 [.ref r0] [] h o h'
  have hdd : d - 1 + 1 ≤ d := by omega
  refine v_aload_n (pc' := 1) dX10_blanks_0 rfl rfl ?_
  refine v_aload_n (pc' := 2) dX10_blanks_1 rfl rfl ?_
  obtain ⟨q1, T⟩ := T
  refine v_getI (pc' := 5) 8 4 dX10_blanks_2 rfl (by decide) (by decide) rfl kf_X10_81 q1 ?_
  obtain ⟨z3, h2, k4, T⟩ := T
  refine v_callV (pc' := 8) (M1 := mX10_byteAt) (as := [.int (h.2 r0 4)]) (r := r0) (rest := []) 8 dX10_blanks_5 rfl ko_X10_84 kc_X10_byteAt ki_X10_byteAt ks_X10_byteAt (by decide) (by decide) hdd rfl rfl (le_l rfl) q1 k4 ?_
  refine v_bipush (pc' := 10) (v := 32) dX10_blanks_8 rfl kB_32 ?_
  refine v_icmp_ne (tgt := 26) (pc' := 13) dX10_blanks_10 (by decide) rfl ⟨fun c5 => ?_, fun c5 => ?_⟩
  · have T := T.1 c5
    exact v_vret dX10_blanks_26 rfl T
  · have T := T.2 c5
    refine v_aload_n (pc' := 14) dX10_blanks_13 rfl rfl ?_
    refine v_dup (pc' := 15) dX10_blanks_14 rfl rfl ?_
    obtain ⟨q6, T⟩ := T
    refine v_getI (pc' := 18) 8 4 dX10_blanks_15 rfl (by decide) (by decide) rfl kf_X10_81 q6 ?_
    refine v_iconst (pc' := 19) (v := 1) dX10_blanks_18 rfl kI_1 ?_
    refine v_iadd (pc' := 20) dX10_blanks_19 rfl ?_
    refine v_putI (pc' := 23) 8 4 dX10_blanks_20 rfl (by decide) (by decide) rfl rfl kf_X10_81 q6 ?_
    refine v_goto (pc' := 0) dX10_blanks_23 (by decide) ?_
    exact T
theorem eX10_wrong {G : GG} {d : Nat} {h : Hp} {o : OU} {h' : Hp} (r0 : Nat) (x1 : Int32) (x2 : Int32) (T : kH h r0 = 18 ∧ ((¬ (h.2 r0 5) = 0 → (o = .inl none ∧ h' = h)) ∧ ((h.2 r0 5) = 0 → (o = .inl none ∧ h' = (h.1, (upI (upI h.2 r0 5 x1) r0 6 x2)))))) : VM G mX10_wrong d [.ref r0, .int x1, .int x2] h o h' := by
  refine V.toM rfl rfl (le_l rfl) (cat_all rfl) ?_
  show V G mX10_wrong d 0 [.ref r0, .int x1, .int x2] [] h o h'
  refine v_aload_n (pc' := 1) dX10_wrong_0 rfl rfl ?_
  obtain ⟨q1, T⟩ := T
  refine v_getI (pc' := 4) 8 5 dX10_wrong_1 rfl (by decide) (by decide) rfl kf_X10_88 q1 ?_
  refine v_if_ne (tgt := 17) (pc' := 7) dX10_wrong_4 (by decide) rfl ⟨fun c2 => ?_, fun c2 => ?_⟩
  · have T := T.1 c2
    exact v_vret dX10_wrong_17 rfl T
  · have T := T.2 c2
    refine v_aload_n (pc' := 8) dX10_wrong_7 rfl rfl ?_
    refine v_iload_n (pc' := 9) dX10_wrong_8 rfl rfl ?_
    refine v_putI (pc' := 12) 8 5 dX10_wrong_9 rfl (by decide) (by decide) rfl rfl kf_X10_88 q1 ?_
    refine v_aload_n (pc' := 13) dX10_wrong_12 rfl rfl ?_
    refine v_iload_n (pc' := 14) dX10_wrong_13 rfl rfl ?_
    refine v_putI (pc' := 17) 8 6 dX10_wrong_14 rfl (by decide) (by decide) rfl rfl kf_X10_91 q1 ?_
    exact v_vret dX10_wrong_17 rfl T
theorem eX10_isDigit {G : GG} {d : Nat} {h : Hp} {o : OU} {h' : Hp} (x0 : Int32) (T : ((x0 < 48 → (o = .inl (some (.int 0)) ∧ h' = h)) ∧ (¬ x0 < 48 → ((57 < x0 → (o = .inl (some (.int 0)) ∧ h' = h)) ∧ (¬ 57 < x0 → (o = .inl (some (.int 1)) ∧ h' = h)))))) : VM G mX10_isDigit d [.int x0] h o h' := by
  refine V.toM rfl rfl (le_l rfl) (cat_all rfl) ?_
  show V G mX10_isDigit d 0 [.int x0] [] h o h'
  refine v_iload_n (pc' := 1) dX10_isDigit_0 rfl rfl ?_
  refine v_bipush (pc' := 3) (v := 48) dX10_isDigit_1 rfl kB_48 ?_
  refine v_icmp_lt (tgt := 16) (pc' := 6) dX10_isDigit_3 (by decide) rfl ⟨fun c1 => ?_, fun c1 => ?_⟩
  · have T := T.1 c1
    refine v_iconst (pc' := 17) (v := 0) dX10_isDigit_16 rfl kI_0 ?_
    exact v_zret dX10_isDigit_17 rfl (Or.inl rfl) T
  · have T := T.2 c1
    refine v_iload_n (pc' := 7) dX10_isDigit_6 rfl rfl ?_
    refine v_bipush (pc' := 9) (v := 57) dX10_isDigit_7 rfl kB_57 ?_
    refine v_icmp_gt (tgt := 16) (pc' := 12) dX10_isDigit_9 (by decide) rfl ⟨fun c2 => ?_, fun c2 => ?_⟩
    · have T := T.1 c2
      refine v_iconst (pc' := 17) (v := 0) dX10_isDigit_16 rfl kI_0 ?_
      exact v_zret dX10_isDigit_17 rfl (Or.inl rfl) T
    · have T := T.2 c2
      refine v_iconst (pc' := 13) (v := 1) dX10_isDigit_12 rfl kI_1 ?_
      refine v_goto (pc' := 17) dX10_isDigit_13 (by decide) ?_
      exact v_zret dX10_isDigit_17 rfl (Or.inr rfl) T
theorem eX10_isSmall {G : GG} {d : Nat} {h : Hp} {o : OU} {h' : Hp} (x0 : Int32) (T : ((x0 < 97 → (o = .inl (some (.int 0)) ∧ h' = h)) ∧ (¬ x0 < 97 → ((122 < x0 → (o = .inl (some (.int 0)) ∧ h' = h)) ∧ (¬ 122 < x0 → (o = .inl (some (.int 1)) ∧ h' = h)))))) : VM G mX10_isSmall d [.int x0] h o h' := by
  refine V.toM rfl rfl (le_l rfl) (cat_all rfl) ?_
  show V G mX10_isSmall d 0 [.int x0] [] h o h'
  refine v_iload_n (pc' := 1) dX10_isSmall_0 rfl rfl ?_
  refine v_bipush (pc' := 3) (v := 97) dX10_isSmall_1 rfl kB_97 ?_
  refine v_icmp_lt (tgt := 16) (pc' := 6) dX10_isSmall_3 (by decide) rfl ⟨fun c1 => ?_, fun c1 => ?_⟩
  · have T := T.1 c1
    refine v_iconst (pc' := 17) (v := 0) dX10_isSmall_16 rfl kI_0 ?_
    exact v_zret dX10_isSmall_17 rfl (Or.inl rfl) T
  · have T := T.2 c1
    refine v_iload_n (pc' := 7) dX10_isSmall_6 rfl rfl ?_
    refine v_bipush (pc' := 9) (v := 122) dX10_isSmall_7 rfl kB_122 ?_
    refine v_icmp_gt (tgt := 16) (pc' := 12) dX10_isSmall_9 (by decide) rfl ⟨fun c2 => ?_, fun c2 => ?_⟩
    · have T := T.1 c2
      refine v_iconst (pc' := 17) (v := 0) dX10_isSmall_16 rfl kI_0 ?_
      exact v_zret dX10_isSmall_17 rfl (Or.inl rfl) T
    · have T := T.2 c2
      refine v_iconst (pc' := 13) (v := 1) dX10_isSmall_12 rfl kI_1 ?_
      refine v_goto (pc' := 17) dX10_isSmall_13 (by decide) ?_
      exact v_zret dX10_isSmall_17 rfl (Or.inr rfl) T
theorem eX10_number {G : GG} {d : Nat} {h : Hp} {o : OU} {h' : Hp} (r0 : Nat) (x1 : Int32) (x2 : Int32) (hd : 1 ≤ d) (T : kH h r0 = 18 ∧ (((h.2 r0 5) = 0 → ∃ h3, VM G mX10_blanks (d - 1) [.ref r0] h (.inl none) h3 ∧ kH h3 r0 = 18 ∧ ∃ z7 h6, VM G mX10_byteAt (d - 1) [.ref r0, .int (h3.2 r0 4)] h3 (.inl (some (.int z7))) h6 ∧ ∃ z10 h9, VM G mX10_isDigit (d - 1) [.int z7] h6 (.inl (some (.int z10))) h9 ∧ ((¬ z10 = 0 → V G mX10_number d 44 [.ref r0, .int x1, .int x2, .int (h3.2 r0 4), .int 0] [] h9 o h') ∧ (z10 = 0 → kH h9 r0 = 18 ∧ ∃ h14, VM G mX10_wrong (d - 1) [.ref r0, .int 1, .int (h9.2 r0 4)] h9 (.inl none) h14 ∧ V G mX10_number d 44 [.ref r0, .int x1, .int x2, .int (h3.2 r0 4), .int 0] [] h14 o h'))) ∧ (¬ (h.2 r0 5) = 0 → (o = .inl (some (.int 0)) ∧ h' = h)))) : VM G mX10_number d [.ref r0, .int x1, .int x2] h o h' := by
  refine V.toM rfl rfl (le_l rfl) (cat_all rfl) ?_
  show V G mX10_number d 0 [.ref r0, .int x1, .int x2, uV, uV] [] h o h'
  have hdd : d - 1 + 1 ≤ d := by omega
  refine v_aload_n (pc' := 1) dX10_number_0 rfl rfl ?_
  obtain ⟨q1, T⟩ := T
  refine v_getI (pc' := 4) 8 5 dX10_number_1 rfl (by decide) (by decide) rfl kf_X10_88 q1 ?_
  refine v_if_eq (tgt := 9) (pc' := 7) dX10_number_4 (by decide) rfl ⟨fun c2 => ?_, fun c2 => ?_⟩
  · have T := T.1 c2
    refine v_aload_n (pc' := 10) dX10_number_9 rfl rfl ?_
    obtain ⟨h3, k4, T⟩ := T
    refine v_callV (pc' := 13) (M1 := mX10_blanks) (as := []) (r := r0) (rest := []) 8 dX10_number_10 rfl ko_X10_94 kc_X10_blanks ki_X10_blanks ks_X10_blanks (by decide) (by decide) hdd rfl rfl (le_l rfl) q1 k4 ?_
    refine v_aload_n (pc' := 14) dX10_number_13 rfl rfl ?_
    obtain ⟨q5, T⟩ := T
    refine v_getI (pc' := 17) 8 4 dX10_number_14 rfl (by decide) (by decide) rfl kf_X10_81 q5 ?_
    refine v_istore_n (pc' := 18) (loc' := [.ref r0, .int x1, .int x2, .int (h3.2 r0 4), uV]) dX10_number_17 rfl (lt_l rfl) rfl ?_
    refine v_iconst (pc' := 19) (v := 0) dX10_number_18 rfl kI_0 ?_
    refine v_istore (pc' := 21) (loc' := [.ref r0, .int x1, .int x2, .int (h3.2 r0 4), .int 0]) dX10_number_19 rfl (lt_l rfl) rfl ?_
    refine v_aload_n (pc' := 22) dX10_number_21 rfl rfl ?_
    refine v_aload_n (pc' := 23) dX10_number_22 rfl rfl ?_
    refine v_getI (pc' := 26) 8 4 dX10_number_23 rfl (by decide) (by decide) rfl kf_X10_81 q5 ?_
    obtain ⟨z7, h6, k8, T⟩ := T
    refine v_callV (pc' := 29) (M1 := mX10_byteAt) (as := [.int (h3.2 r0 4)]) (r := r0) (rest := []) 8 dX10_number_26 rfl ko_X10_84 kc_X10_byteAt ki_X10_byteAt ks_X10_byteAt (by decide) (by decide) hdd rfl rfl (le_l rfl) q5 k8 ?_
    obtain ⟨z10, h9, k11, T⟩ := T
    refine v_callS (pc' := 32) (M1 := mX10_isDigit) (as := [.int z7]) (rest := []) dX10_number_29 rfl ko_X10_97 kc_X10_isDigit kt_X10_isDigit (by decide) hdd rfl rfl (le_l rfl) k11 ?_
    refine v_if_ne (tgt := 44) (pc' := 35) dX10_number_32 (by decide) rfl ⟨fun c12 => ?_, fun c12 => ?_⟩
    · have T := T.1 c12
      exact T
    · have T := T.2 c12
      refine v_aload_n (pc' := 36) dX10_number_35 rfl rfl ?_
      refine v_iconst (pc' := 37) (v := 1) dX10_number_36 rfl kI_1 ?_
      refine v_aload_n (pc' := 38) dX10_number_37 rfl rfl ?_
      obtain ⟨q13, T⟩ := T
      refine v_getI (pc' := 41) 8 4 dX10_number_38 rfl (by decide) (by decide) rfl kf_X10_81 q13 ?_
      obtain ⟨h14, k15, T⟩ := T
      refine v_callV (pc' := 44) (M1 := mX10_wrong) (as := [.int 1, .int (h9.2 r0 4)]) (r := r0) (rest := []) 8 dX10_number_41 rfl ko_X10_101 kc_X10_wrong ki_X10_wrong ks_X10_wrong (by decide) (by decide) hdd rfl rfl (le_l rfl) q13 k15 ?_
      exact T
  · have T := T.2 c2
    refine v_iconst (pc' := 8) (v := 0) dX10_number_7 rfl kI_0 ?_
    exact v_iret dX10_number_8 rfl T
theorem bX10_number_44 {G : GG} {d : Nat} {h : Hp} {o : OU} {h' : Hp} (r0 : Nat) (x1 : Int32) (x2 : Int32) (x3 : Int32) (x4 : Int32) (hd : 1 ≤ d) (T : kH h r0 = 18 ∧ ∃ z3 h2, VM G mX10_byteAt (d - 1) [.ref r0, .int (h.2 r0 4)] h (.inl (some (.int z3))) h2 ∧ ∃ z6 h5, VM G mX10_isDigit (d - 1) [.int z3] h2 (.inl (some (.int z6))) h5 ∧ ((z6 = 0 → ∃ z10 h9, VM G mX10_in (d - 1) [.int x4, .int x1, .int x2] h5 (.inl (some (.int z10))) h9 ∧ ((¬ z10 = 0 → kH h9 r0 = 18 ∧ ((¬ (h9.2 r0 5) = 0 → (o = .inl (some (.int 0)) ∧ h' = h9)) ∧ ((h9.2 r0 5) = 0 → (o = .inl (some (.int x4)) ∧ h' = h9)))) ∧ (z10 = 0 → kH h9 r0 = 18 ∧ ∃ h15, VM G mX10_wrong (d - 1) [.ref r0, .int 2, .int x3] h9 (.inl none) h15 ∧ kH h15 r0 = 18 ∧ ((¬ (h15.2 r0 5) = 0 → (o = .inl (some (.int 0)) ∧ h' = h15)) ∧ ((h15.2 r0 5) = 0 → (o = .inl (some (.int x4)) ∧ h' = h15)))))) ∧ (¬ z6 = 0 → kH h5 r0 = 18 ∧ ∃ z22 h21, VM G mX10_byteAt (d - 1) [.ref r0, .int (h5.2 r0 4)] h5 (.inl (some (.int z22))) h21 ∧ (((((10 * x4) + z22) - 48) ≤ 100000 → kH h21 r0 = 18 ∧ V G mX10_number d 44 [.ref r0, .int x1, .int x2, .int x3, .int (((10 * x4) + z22) - 48)] [] (h21.1, (upI h21.2 r0 4 ((h21.2 r0 4) + 1))) o h') ∧ (¬ (((10 * x4) + z22) - 48) ≤ 100000 → kH h21 r0 = 18 ∧ V G mX10_number d 44 [.ref r0, .int x1, .int x2, .int x3, .int 100000] [] (h21.1, (upI h21.2 r0 4 ((h21.2 r0 4) + 1))) o h'))))) : V G mX10_number d 44 [.ref r0, .int x1, .int x2, .int x3, .int x4] [] h o h' := by
  have hdd : d - 1 + 1 ≤ d := by omega
  refine v_aload_n (pc' := 45) dX10_number_44 rfl rfl ?_
  refine v_aload_n (pc' := 46) dX10_number_45 rfl rfl ?_
  obtain ⟨q1, T⟩ := T
  refine v_getI (pc' := 49) 8 4 dX10_number_46 rfl (by decide) (by decide) rfl kf_X10_81 q1 ?_
  obtain ⟨z3, h2, k4, T⟩ := T
  refine v_callV (pc' := 52) (M1 := mX10_byteAt) (as := [.int (h.2 r0 4)]) (r := r0) (rest := []) 8 dX10_number_49 rfl ko_X10_84 kc_X10_byteAt ki_X10_byteAt ks_X10_byteAt (by decide) (by decide) hdd rfl rfl (le_l rfl) q1 k4 ?_
  obtain ⟨z6, h5, k7, T⟩ := T
  refine v_callS (pc' := 55) (M1 := mX10_isDigit) (as := [.int z3]) (rest := []) dX10_number_52 rfl ko_X10_97 kc_X10_isDigit kt_X10_isDigit (by decide) hdd rfl rfl (le_l rfl) k7 ?_
  refine v_if_eq (tgt := 106) (pc' := 58) dX10_number_55 (by decide) rfl ⟨fun c8 => ?_, fun c8 => ?_⟩
  · have T := T.1 c8
    refine v_iload (pc' := 108) dX10_number_106 rfl rfl ?_
    refine v_iload_n (pc' := 109) dX10_number_108 rfl rfl ?_
    refine v_iload_n (pc' := 110) dX10_number_109 rfl rfl ?_
    obtain ⟨z10, h9, k11, T⟩ := T
    refine v_callS (pc' := 113) (M1 := mX10_in) (as := [.int x4, .int x1, .int x2]) (rest := []) dX10_number_110 rfl ko_X10_106 kc_X10_in kt_X10_in (by decide) hdd rfl rfl (le_l rfl) k11 ?_
    refine v_if_ne (tgt := 122) (pc' := 116) dX10_number_113 (by decide) rfl ⟨fun c12 => ?_, fun c12 => ?_⟩
    · have T := T.1 c12
      refine v_aload_n (pc' := 123) dX10_number_122 rfl rfl ?_
      obtain ⟨q13, T⟩ := T
      refine v_getI (pc' := 126) 8 5 dX10_number_123 rfl (by decide) (by decide) rfl kf_X10_88 q13 ?_
      refine v_if_ne (tgt := 134) (pc' := 129) dX10_number_126 (by decide) rfl ⟨fun c14 => ?_, fun c14 => ?_⟩
      · have T := T.1 c14
        refine v_iconst (pc' := 135) (v := 0) dX10_number_134 rfl kI_0 ?_
        exact v_iret dX10_number_135 rfl T
      · have T := T.2 c14
        refine v_iload (pc' := 131) dX10_number_129 rfl rfl ?_
        refine v_goto (pc' := 135) dX10_number_131 (by decide) ?_
        exact v_iret dX10_number_135 rfl T
    · have T := T.2 c12
      refine v_aload_n (pc' := 117) dX10_number_116 rfl rfl ?_
      refine v_iconst (pc' := 118) (v := 2) dX10_number_117 rfl kI_2 ?_
      refine v_iload_n (pc' := 119) dX10_number_118 rfl rfl ?_
      obtain ⟨q17, T⟩ := T
      obtain ⟨h15, k16, T⟩ := T
      refine v_callV (pc' := 122) (M1 := mX10_wrong) (as := [.int 2, .int x3]) (r := r0) (rest := []) 8 dX10_number_119 rfl ko_X10_101 kc_X10_wrong ki_X10_wrong ks_X10_wrong (by decide) (by decide) hdd rfl rfl (le_l rfl) q17 k16 ?_
      refine v_aload_n (pc' := 123) dX10_number_122 rfl rfl ?_
      obtain ⟨q18, T⟩ := T
      refine v_getI (pc' := 126) 8 5 dX10_number_123 rfl (by decide) (by decide) rfl kf_X10_88 q18 ?_
      refine v_if_ne (tgt := 134) (pc' := 129) dX10_number_126 (by decide) rfl ⟨fun c19 => ?_, fun c19 => ?_⟩
      · have T := T.1 c19
        refine v_iconst (pc' := 135) (v := 0) dX10_number_134 rfl kI_0 ?_
        exact v_iret dX10_number_135 rfl T
      · have T := T.2 c19
        refine v_iload (pc' := 131) dX10_number_129 rfl rfl ?_
        refine v_goto (pc' := 135) dX10_number_131 (by decide) ?_
        exact v_iret dX10_number_135 rfl T
  · have T := T.2 c8
    refine v_bipush (pc' := 60) (v := 10) dX10_number_58 rfl kB_10 ?_
    refine v_iload (pc' := 62) dX10_number_60 rfl rfl ?_
    refine v_imul (pc' := 63) dX10_number_62 rfl ?_
    refine v_aload_n (pc' := 64) dX10_number_63 rfl rfl ?_
    refine v_aload_n (pc' := 65) dX10_number_64 rfl rfl ?_
    obtain ⟨q20, T⟩ := T
    refine v_getI (pc' := 68) 8 4 dX10_number_65 rfl (by decide) (by decide) rfl kf_X10_81 q20 ?_
    obtain ⟨z22, h21, k23, T⟩ := T
    refine v_callV (pc' := 71) (M1 := mX10_byteAt) (as := [.int (h5.2 r0 4)]) (r := r0) (rest := [.int (10 * x4)]) 8 dX10_number_68 rfl ko_X10_84 kc_X10_byteAt ki_X10_byteAt ks_X10_byteAt (by decide) (by decide) hdd rfl rfl (le_l rfl) q20 k23 ?_
    refine v_iadd (pc' := 72) dX10_number_71 rfl ?_
    refine v_bipush (pc' := 74) (v := 48) dX10_number_72 rfl kB_48 ?_
    refine v_isub (pc' := 75) dX10_number_74 rfl ?_
    refine v_istore (pc' := 77) (loc' := [.ref r0, .int x1, .int x2, .int x3, .int (((10 * x4) + z22) - 48)]) dX10_number_75 rfl (lt_l rfl) rfl ?_
    refine v_iload (pc' := 79) dX10_number_77 rfl rfl ?_
    refine v_ldc (pc' := 81) (v := 100000) dX10_number_79 rfl kv_X10_105 ?_
    refine v_icmp_le (tgt := 89) (pc' := 84) dX10_number_81 (by decide) rfl ⟨fun c24 => ?_, fun c24 => ?_⟩
    · have T := T.1 c24
      refine v_iload (pc' := 91) dX10_number_89 rfl rfl ?_
      refine v_istore (pc' := 93) (loc' := [.ref r0, .int x1, .int x2, .int x3, .int (((10 * x4) + z22) - 48)]) dX10_number_91 rfl (lt_l rfl) rfl ?_
      refine v_aload_n (pc' := 94) dX10_number_93 rfl rfl ?_
      refine v_dup (pc' := 95) dX10_number_94 rfl rfl ?_
      obtain ⟨q25, T⟩ := T
      refine v_getI (pc' := 98) 8 4 dX10_number_95 rfl (by decide) (by decide) rfl kf_X10_81 q25 ?_
      refine v_iconst (pc' := 99) (v := 1) dX10_number_98 rfl kI_1 ?_
      refine v_iadd (pc' := 100) dX10_number_99 rfl ?_
      refine v_putI (pc' := 103) 8 4 dX10_number_100 rfl (by decide) (by decide) rfl rfl kf_X10_81 q25 ?_
      refine v_goto (pc' := 44) dX10_number_103 (by decide) ?_
      exact T
    · have T := T.2 c24
      refine v_ldc (pc' := 86) (v := 100000) dX10_number_84 rfl kv_X10_105 ?_
      refine v_goto (pc' := 91) dX10_number_86 (by decide) ?_
      refine v_istore (pc' := 93) (loc' := [.ref r0, .int x1, .int x2, .int x3, .int 100000]) dX10_number_91 rfl (lt_l rfl) rfl ?_
      refine v_aload_n (pc' := 94) dX10_number_93 rfl rfl ?_
      refine v_dup (pc' := 95) dX10_number_94 rfl rfl ?_
      obtain ⟨q26, T⟩ := T
      refine v_getI (pc' := 98) 8 4 dX10_number_95 rfl (by decide) (by decide) rfl kf_X10_81 q26 ?_
      refine v_iconst (pc' := 99) (v := 1) dX10_number_98 rfl kI_1 ?_
      refine v_iadd (pc' := 100) dX10_number_99 rfl ?_
      refine v_putI (pc' := 103) 8 4 dX10_number_100 rfl (by decide) (by decide) rfl rfl kf_X10_81 q26 ?_
      refine v_goto (pc' := 44) dX10_number_103 (by decide) ?_
      exact T
theorem eX10_wordHere {G : GG} {d : Nat} {h : Hp} {o : OU} {h' : Hp} (r0 : Nat) (hd : 1 ≤ d) (T : kH h r0 = 18 ∧ ∃ h1, VM G mX10_blanks (d - 1) [.ref r0] h (.inl none) h1 ∧ V G mX10_wordHere d 8 [.ref r0, .int 0, .int 0] [] h1 o h') : VM G mX10_wordHere d [.ref r0] h o h' := by
  refine V.toM rfl rfl (le_l rfl) (cat_all rfl) ?_
  show V G mX10_wordHere d 0 [.ref r0, uV, uV] [] h o h'
  have hdd : d - 1 + 1 ≤ d := by omega
  refine v_aload_n (pc' := 1) dX10_wordHere_0 rfl rfl ?_
  obtain ⟨q3, T⟩ := T
  obtain ⟨h1, k2, T⟩ := T
  refine v_callV (pc' := 4) (M1 := mX10_blanks) (as := []) (r := r0) (rest := []) 8 dX10_wordHere_1 rfl ko_X10_94 kc_X10_blanks ki_X10_blanks ks_X10_blanks (by decide) (by decide) hdd rfl rfl (le_l rfl) q3 k2 ?_
  refine v_iconst (pc' := 5) (v := 0) dX10_wordHere_4 rfl kI_0 ?_
  refine v_istore_n (pc' := 6) (loc' := [.ref r0, .int 0, uV]) dX10_wordHere_5 rfl (lt_l rfl) rfl ?_
  refine v_iconst (pc' := 7) (v := 0) dX10_wordHere_6 rfl kI_0 ?_
  refine v_istore_n (pc' := 8) (loc' := [.ref r0, .int 0, .int 0]) dX10_wordHere_7 rfl (lt_l rfl) rfl ?_
  exact T
theorem bX10_wordHere_8 {G : GG} {d : Nat} {h : Hp} {o : OU} {h' : Hp} (r0 : Nat) (x1 : Int32) (x2 : Int32) (hd : 1 ≤ d) (T : kH h r0 = 18 ∧ ∃ z3 h2, VM G mX10_byteAt (d - 1) [.ref r0, .int ((h.2 r0 4) + x2)] h (.inl (some (.int z3))) h2 ∧ ∃ z6 h5, VM G mX10_isSmall (d - 1) [.int z3] h2 (.inl (some (.int z6))) h5 ∧ ((z6 = 0 → ((x2 ≤ 6 → (o = .inl (some (.int x1)) ∧ h' = h5)) ∧ (¬ x2 ≤ 6 → (o = .inl (some (.int (-1))) ∧ h' = h5)))) ∧ (¬ z6 = 0 → ((6 ≤ x2 → V G mX10_wordHere d 8 [.ref r0, .int x1, .int (x2 + 1)] [] h5 o h') ∧ (¬ 6 ≤ x2 → kH h5 r0 = 18 ∧ ∃ z13 h12, VM G mX10_byteAt (d - 1) [.ref r0, .int ((h5.2 r0 4) + x2)] h5 (.inl (some (.int z13))) h12 ∧ V G mX10_wordHere d 8 [.ref r0, .int ((((27 * x1) + z13) - 97) + 1), .int (x2 + 1)] [] h12 o h'))))) : V G mX10_wordHere d 8 [.ref r0, .int x1, .int x2] [] h o h' := by
  have hdd : d - 1 + 1 ≤ d := by omega
  refine v_aload_n (pc' := 9) dX10_wordHere_8 rfl rfl ?_
  refine v_aload_n (pc' := 10) dX10_wordHere_9 rfl rfl ?_
  obtain ⟨q1, T⟩ := T
  refine v_getI (pc' := 13) 8 4 dX10_wordHere_10 rfl (by decide) (by decide) rfl kf_X10_81 q1 ?_
  refine v_iload_n (pc' := 14) dX10_wordHere_13 rfl rfl ?_
  refine v_iadd (pc' := 15) dX10_wordHere_14 rfl ?_
  obtain ⟨z3, h2, k4, T⟩ := T
  refine v_callV (pc' := 18) (M1 := mX10_byteAt) (as := [.int ((h.2 r0 4) + x2)]) (r := r0) (rest := []) 8 dX10_wordHere_15 rfl ko_X10_84 kc_X10_byteAt ki_X10_byteAt ks_X10_byteAt (by decide) (by decide) hdd rfl rfl (le_l rfl) q1 k4 ?_
  obtain ⟨z6, h5, k7, T⟩ := T
  refine v_callS (pc' := 21) (M1 := mX10_isSmall) (as := [.int z3]) (rest := []) dX10_wordHere_18 rfl ko_X10_110 kc_X10_isSmall kt_X10_isSmall (by decide) hdd rfl rfl (le_l rfl) k7 ?_
  refine v_if_eq (tgt := 61) (pc' := 24) dX10_wordHere_21 (by decide) rfl ⟨fun c8 => ?_, fun c8 => ?_⟩
  · have T := T.1 c8
    refine v_iload_n (pc' := 62) dX10_wordHere_61 rfl rfl ?_
    refine v_bipush (pc' := 64) (v := 6) dX10_wordHere_62 rfl kB_6 ?_
    refine v_icmp_le (tgt := 71) (pc' := 67) dX10_wordHere_64 (by decide) rfl ⟨fun c9 => ?_, fun c9 => ?_⟩
    · have T := T.1 c9
      refine v_iload_n (pc' := 72) dX10_wordHere_71 rfl rfl ?_
      exact v_iret dX10_wordHere_72 rfl T
    · have T := T.2 c9
      refine v_iconst (pc' := 68) (v := (-1)) dX10_wordHere_67 rfl kI_m1 ?_
      refine v_goto (pc' := 72) dX10_wordHere_68 (by decide) ?_
      exact v_iret dX10_wordHere_72 rfl T
  · have T := T.2 c8
    refine v_iload_n (pc' := 25) dX10_wordHere_24 rfl rfl ?_
    refine v_bipush (pc' := 27) (v := 6) dX10_wordHere_25 rfl kB_6 ?_
    refine v_icmp_ge (tgt := 53) (pc' := 30) dX10_wordHere_27 (by decide) rfl ⟨fun c10 => ?_, fun c10 => ?_⟩
    · have T := T.1 c10
      refine v_iload_n (pc' := 54) dX10_wordHere_53 rfl rfl ?_
      refine v_istore_n (pc' := 55) (loc' := [.ref r0, .int x1, .int x2]) dX10_wordHere_54 rfl (lt_l rfl) rfl ?_
      refine v_iinc (pc' := 58) (loc' := [.ref r0, .int x1, .int (x2 + 1)]) dX10_wordHere_55 rfl rfl (kX_1 _) rfl ?_
      refine v_goto (pc' := 8) dX10_wordHere_58 (by decide) ?_
      exact T
    · have T := T.2 c10
      refine v_bipush (pc' := 32) (v := 27) dX10_wordHere_30 rfl kB_27 ?_
      refine v_iload_n (pc' := 33) dX10_wordHere_32 rfl rfl ?_
      refine v_imul (pc' := 34) dX10_wordHere_33 rfl ?_
      refine v_aload_n (pc' := 35) dX10_wordHere_34 rfl rfl ?_
      refine v_aload_n (pc' := 36) dX10_wordHere_35 rfl rfl ?_
      obtain ⟨q11, T⟩ := T
      refine v_getI (pc' := 39) 8 4 dX10_wordHere_36 rfl (by decide) (by decide) rfl kf_X10_81 q11 ?_
      refine v_iload_n (pc' := 40) dX10_wordHere_39 rfl rfl ?_
      refine v_iadd (pc' := 41) dX10_wordHere_40 rfl ?_
      obtain ⟨z13, h12, k14, T⟩ := T
      refine v_callV (pc' := 44) (M1 := mX10_byteAt) (as := [.int ((h5.2 r0 4) + x2)]) (r := r0) (rest := [.int (27 * x1)]) 8 dX10_wordHere_41 rfl ko_X10_84 kc_X10_byteAt ki_X10_byteAt ks_X10_byteAt (by decide) (by decide) hdd rfl rfl (le_l rfl) q11 k14 ?_
      refine v_iadd (pc' := 45) dX10_wordHere_44 rfl ?_
      refine v_bipush (pc' := 47) (v := 97) dX10_wordHere_45 rfl kB_97 ?_
      refine v_isub (pc' := 48) dX10_wordHere_47 rfl ?_
      refine v_iconst (pc' := 49) (v := 1) dX10_wordHere_48 rfl kI_1 ?_
      refine v_iadd (pc' := 50) dX10_wordHere_49 rfl ?_
      refine v_goto (pc' := 54) dX10_wordHere_50 (by decide) ?_
      refine v_istore_n (pc' := 55) (loc' := [.ref r0, .int ((((27 * x1) + z13) - 97) + 1), .int x2]) dX10_wordHere_54 rfl (lt_l rfl) rfl ?_
      refine v_iinc (pc' := 58) (loc' := [.ref r0, .int ((((27 * x1) + z13) - 97) + 1), .int (x2 + 1)]) dX10_wordHere_55 rfl rfl (kX_1 _) rfl ?_
      refine v_goto (pc' := 8) dX10_wordHere_58 (by decide) ?_
      exact T
theorem eX10_six {G : GG} {d : Nat} {h : Hp} {o : OU} {h' : Hp} (x0 : Int32) (x1 : Int32) (x2 : Int32) (x3 : Int32) (x4 : Int32) (x5 : Int32) (T : ((¬ x3 = 0 → ((¬ x4 = 0 → ((¬ x5 = 0 → (o = .inl (some (.int ((27 * ((27 * ((27 * ((27 * ((27 * x0) + x1)) + x2)) + x3)) + x4)) + x5))) ∧ h' = h)) ∧ (x5 = 0 → (o = .inl (some (.int ((27 * ((27 * ((27 * ((27 * x0) + x1)) + x2)) + x3)) + x4))) ∧ h' = h)))) ∧ (x4 = 0 → ((¬ x5 = 0 → (o = .inl (some (.int ((27 * ((27 * ((27 * ((27 * x0) + x1)) + x2)) + x3)) + x5))) ∧ h' = h)) ∧ (x5 = 0 → (o = .inl (some (.int ((27 * ((27 * ((27 * x0) + x1)) + x2)) + x3))) ∧ h' = h)))))) ∧ (x3 = 0 → ((¬ x4 = 0 → ((¬ x5 = 0 → (o = .inl (some (.int ((27 * ((27 * ((27 * ((27 * x0) + x1)) + x2)) + x4)) + x5))) ∧ h' = h)) ∧ (x5 = 0 → (o = .inl (some (.int ((27 * ((27 * ((27 * x0) + x1)) + x2)) + x4))) ∧ h' = h)))) ∧ (x4 = 0 → ((¬ x5 = 0 → (o = .inl (some (.int ((27 * ((27 * ((27 * x0) + x1)) + x2)) + x5))) ∧ h' = h)) ∧ (x5 = 0 → (o = .inl (some (.int ((27 * ((27 * x0) + x1)) + x2))) ∧ h' = h)))))))) : VM G mX10_six d [.int x0, .int x1, .int x2, .int x3, .int x4, .int x5] h o h' := by
  refine V.toM rfl rfl (le_l rfl) (cat_all rfl) ?_
  show V G mX10_six d 0 [.int x0, .int x1, .int x2, .int x3, .int x4, .int x5, uV] [] h o h'
  refine v_bipush (pc' := 2) (v := 27) dX10_six_0 rfl kB_27 ?_
  refine v_bipush (pc' := 4) (v := 27) dX10_six_2 rfl kB_27 ?_
  refine v_iload_n (pc' := 5) dX10_six_4 rfl rfl ?_
  refine v_imul (pc' := 6) dX10_six_5 rfl ?_
  refine v_iload_n (pc' := 7) dX10_six_6 rfl rfl ?_
  refine v_iadd (pc' := 8) dX10_six_7 rfl ?_
  refine v_imul (pc' := 9) dX10_six_8 rfl ?_
  refine v_iload_n (pc' := 10) dX10_six_9 rfl rfl ?_
  refine v_iadd (pc' := 11) dX10_six_10 rfl ?_
  refine v_istore (pc' := 13) (loc' := [.int x0, .int x1, .int x2, .int x3, .int x4, .int x5, .int ((27 * ((27 * x0) + x1)) + x2)]) dX10_six_11 rfl (lt_l rfl) rfl ?_
  refine v_iload_n (pc' := 14) dX10_six_13 rfl rfl ?_
  refine v_if_ne (tgt := 22) (pc' := 17) dX10_six_14 (by decide) rfl ⟨fun c1 => ?_, fun c1 => ?_⟩
  · have T := T.1 c1
    refine v_bipush (pc' := 24) (v := 27) dX10_six_22 rfl kB_27 ?_
    refine v_iload (pc' := 26) dX10_six_24 rfl rfl ?_
    refine v_imul (pc' := 27) dX10_six_26 rfl ?_
    refine v_iload_n (pc' := 28) dX10_six_27 rfl rfl ?_
    refine v_iadd (pc' := 29) dX10_six_28 rfl ?_
    refine v_istore (pc' := 31) (loc' := [.int x0, .int x1, .int x2, .int x3, .int x4, .int x5, .int ((27 * ((27 * ((27 * x0) + x1)) + x2)) + x3)]) dX10_six_29 rfl (lt_l rfl) rfl ?_
    refine v_iload (pc' := 33) dX10_six_31 rfl rfl ?_
    refine v_if_ne (tgt := 41) (pc' := 36) dX10_six_33 (by decide) rfl ⟨fun c2 => ?_, fun c2 => ?_⟩
    · have T := T.1 c2
      refine v_bipush (pc' := 43) (v := 27) dX10_six_41 rfl kB_27 ?_
      refine v_iload (pc' := 45) dX10_six_43 rfl rfl ?_
      refine v_imul (pc' := 46) dX10_six_45 rfl ?_
      refine v_iload (pc' := 48) dX10_six_46 rfl rfl ?_
      refine v_iadd (pc' := 49) dX10_six_48 rfl ?_
      refine v_istore (pc' := 51) (loc' := [.int x0, .int x1, .int x2, .int x3, .int x4, .int x5, .int ((27 * ((27 * ((27 * ((27 * x0) + x1)) + x2)) + x3)) + x4)]) dX10_six_49 rfl (lt_l rfl) rfl ?_
      refine v_iload (pc' := 53) dX10_six_51 rfl rfl ?_
      refine v_if_ne (tgt := 61) (pc' := 56) dX10_six_53 (by decide) rfl ⟨fun c3 => ?_, fun c3 => ?_⟩
      · have T := T.1 c3
        refine v_bipush (pc' := 63) (v := 27) dX10_six_61 rfl kB_27 ?_
        refine v_iload (pc' := 65) dX10_six_63 rfl rfl ?_
        refine v_imul (pc' := 66) dX10_six_65 rfl ?_
        refine v_iload (pc' := 68) dX10_six_66 rfl rfl ?_
        refine v_iadd (pc' := 69) dX10_six_68 rfl ?_
        exact v_iret dX10_six_69 rfl T
      · have T := T.2 c3
        refine v_iload (pc' := 58) dX10_six_56 rfl rfl ?_
        refine v_goto (pc' := 69) dX10_six_58 (by decide) ?_
        exact v_iret dX10_six_69 rfl T
    · have T := T.2 c2
      refine v_iload (pc' := 38) dX10_six_36 rfl rfl ?_
      refine v_goto (pc' := 49) dX10_six_38 (by decide) ?_
      refine v_istore (pc' := 51) (loc' := [.int x0, .int x1, .int x2, .int x3, .int x4, .int x5, .int ((27 * ((27 * ((27 * x0) + x1)) + x2)) + x3)]) dX10_six_49 rfl (lt_l rfl) rfl ?_
      refine v_iload (pc' := 53) dX10_six_51 rfl rfl ?_
      refine v_if_ne (tgt := 61) (pc' := 56) dX10_six_53 (by decide) rfl ⟨fun c4 => ?_, fun c4 => ?_⟩
      · have T := T.1 c4
        refine v_bipush (pc' := 63) (v := 27) dX10_six_61 rfl kB_27 ?_
        refine v_iload (pc' := 65) dX10_six_63 rfl rfl ?_
        refine v_imul (pc' := 66) dX10_six_65 rfl ?_
        refine v_iload (pc' := 68) dX10_six_66 rfl rfl ?_
        refine v_iadd (pc' := 69) dX10_six_68 rfl ?_
        exact v_iret dX10_six_69 rfl T
      · have T := T.2 c4
        refine v_iload (pc' := 58) dX10_six_56 rfl rfl ?_
        refine v_goto (pc' := 69) dX10_six_58 (by decide) ?_
        exact v_iret dX10_six_69 rfl T
  · have T := T.2 c1
    refine v_iload (pc' := 19) dX10_six_17 rfl rfl ?_
    refine v_goto (pc' := 29) dX10_six_19 (by decide) ?_
    refine v_istore (pc' := 31) (loc' := [.int x0, .int x1, .int x2, .int x3, .int x4, .int x5, .int ((27 * ((27 * x0) + x1)) + x2)]) dX10_six_29 rfl (lt_l rfl) rfl ?_
    refine v_iload (pc' := 33) dX10_six_31 rfl rfl ?_
    refine v_if_ne (tgt := 41) (pc' := 36) dX10_six_33 (by decide) rfl ⟨fun c5 => ?_, fun c5 => ?_⟩
    · have T := T.1 c5
      refine v_bipush (pc' := 43) (v := 27) dX10_six_41 rfl kB_27 ?_
      refine v_iload (pc' := 45) dX10_six_43 rfl rfl ?_
      refine v_imul (pc' := 46) dX10_six_45 rfl ?_
      refine v_iload (pc' := 48) dX10_six_46 rfl rfl ?_
      refine v_iadd (pc' := 49) dX10_six_48 rfl ?_
      refine v_istore (pc' := 51) (loc' := [.int x0, .int x1, .int x2, .int x3, .int x4, .int x5, .int ((27 * ((27 * ((27 * x0) + x1)) + x2)) + x4)]) dX10_six_49 rfl (lt_l rfl) rfl ?_
      refine v_iload (pc' := 53) dX10_six_51 rfl rfl ?_
      refine v_if_ne (tgt := 61) (pc' := 56) dX10_six_53 (by decide) rfl ⟨fun c6 => ?_, fun c6 => ?_⟩
      · have T := T.1 c6
        refine v_bipush (pc' := 63) (v := 27) dX10_six_61 rfl kB_27 ?_
        refine v_iload (pc' := 65) dX10_six_63 rfl rfl ?_
        refine v_imul (pc' := 66) dX10_six_65 rfl ?_
        refine v_iload (pc' := 68) dX10_six_66 rfl rfl ?_
        refine v_iadd (pc' := 69) dX10_six_68 rfl ?_
        exact v_iret dX10_six_69 rfl T
      · have T := T.2 c6
        refine v_iload (pc' := 58) dX10_six_56 rfl rfl ?_
        refine v_goto (pc' := 69) dX10_six_58 (by decide) ?_
        exact v_iret dX10_six_69 rfl T
    · have T := T.2 c5
      refine v_iload (pc' := 38) dX10_six_36 rfl rfl ?_
      refine v_goto (pc' := 49) dX10_six_38 (by decide) ?_
      refine v_istore (pc' := 51) (loc' := [.int x0, .int x1, .int x2, .int x3, .int x4, .int x5, .int ((27 * ((27 * x0) + x1)) + x2)]) dX10_six_49 rfl (lt_l rfl) rfl ?_
      refine v_iload (pc' := 53) dX10_six_51 rfl rfl ?_
      refine v_if_ne (tgt := 61) (pc' := 56) dX10_six_53 (by decide) rfl ⟨fun c7 => ?_, fun c7 => ?_⟩
      · have T := T.1 c7
        refine v_bipush (pc' := 63) (v := 27) dX10_six_61 rfl kB_27 ?_
        refine v_iload (pc' := 65) dX10_six_63 rfl rfl ?_
        refine v_imul (pc' := 66) dX10_six_65 rfl ?_
        refine v_iload (pc' := 68) dX10_six_66 rfl rfl ?_
        refine v_iadd (pc' := 69) dX10_six_68 rfl ?_
        exact v_iret dX10_six_69 rfl T
      · have T := T.2 c7
        refine v_iload (pc' := 58) dX10_six_56 rfl rfl ?_
        refine v_goto (pc' := 69) dX10_six_58 (by decide) ?_
        exact v_iret dX10_six_69 rfl T
theorem eX10_isWord {G : GG} {d : Nat} {h : Hp} {o : OU} {h' : Hp} (r0 : Nat) (x1 : Int32) (x2 : Int32) (x3 : Int32) (x4 : Int32) (x5 : Int32) (x6 : Int32) (hd : 1 ≤ d) (T : kH h r0 = 18 ∧ ((¬ (h.2 r0 5) = 0 → (o = .inl (some (.int 0)) ∧ h' = h)) ∧ ((h.2 r0 5) = 0 → ∃ z4 h3, VM G mX10_wordHere (d - 1) [.ref r0] h (.inl (some (.int z4))) h3 ∧ ∃ z7 h6, VM G mX10_six (d - 1) [.int x1, .int x2, .int x3, .int x4, .int x5, .int x6] h3 (.inl (some (.int z7))) h6 ∧ ((¬ z4 = z7 → (o = .inl (some (.int 0)) ∧ h' = h6)) ∧ (z4 = z7 → (o = .inl (some (.int 1)) ∧ h' = h6)))))) : VM G mX10_isWord d [.ref r0, .int x1, .int x2, .int x3, .int x4, .int x5, .int x6] h o h' := by
  refine V.toM rfl rfl (le_l rfl) (cat_all rfl) ?_
  show V G mX10_isWord d 0 [.ref r0, .int x1, .int x2, .int x3, .int x4, .int x5, .int x6] [] h o h'
  have hdd : d - 1 + 1 ≤ d := by omega
  refine v_aload_n (pc' := 1) dX10_isWord_0 rfl rfl ?_
  obtain ⟨q1, T⟩ := T
  refine v_getI (pc' := 4) 8 5 dX10_isWord_1 rfl (by decide) (by decide) rfl kf_X10_88 q1 ?_
  refine v_if_ne (tgt := 30) (pc' := 7) dX10_isWord_4 (by decide) rfl ⟨fun c2 => ?_, fun c2 => ?_⟩
  · have T := T.1 c2
    refine v_iconst (pc' := 31) (v := 0) dX10_isWord_30 rfl kI_0 ?_
    exact v_zret dX10_isWord_31 rfl (Or.inl rfl) T
  · have T := T.2 c2
    refine v_aload_n (pc' := 8) dX10_isWord_7 rfl rfl ?_
    obtain ⟨z4, h3, k5, T⟩ := T
    refine v_callV (pc' := 11) (M1 := mX10_wordHere) (as := []) (r := r0) (rest := []) 8 dX10_isWord_8 rfl ko_X10_113 kc_X10_wordHere ki_X10_wordHere ks_X10_wordHere (by decide) (by decide) hdd rfl rfl (le_l rfl) q1 k5 ?_
    refine v_iload_n (pc' := 12) dX10_isWord_11 rfl rfl ?_
    refine v_iload_n (pc' := 13) dX10_isWord_12 rfl rfl ?_
    refine v_iload_n (pc' := 14) dX10_isWord_13 rfl rfl ?_
    refine v_iload (pc' := 16) dX10_isWord_14 rfl rfl ?_
    refine v_iload (pc' := 18) dX10_isWord_16 rfl rfl ?_
    refine v_iload (pc' := 20) dX10_isWord_18 rfl rfl ?_
    obtain ⟨z7, h6, k8, T⟩ := T
    refine v_callS (pc' := 23) (M1 := mX10_six) (as := [.int x1, .int x2, .int x3, .int x4, .int x5, .int x6]) (rest := [.int z4]) dX10_isWord_20 rfl ko_X10_117 kc_X10_six kt_X10_six (by decide) hdd rfl rfl (le_l rfl) k8 ?_
    refine v_icmp_ne (tgt := 30) (pc' := 26) dX10_isWord_23 (by decide) rfl ⟨fun c9 => ?_, fun c9 => ?_⟩
    · have T := T.1 c9
      refine v_iconst (pc' := 31) (v := 0) dX10_isWord_30 rfl kI_0 ?_
      exact v_zret dX10_isWord_31 rfl (Or.inl rfl) T
    · have T := T.2 c9
      refine v_iconst (pc' := 27) (v := 1) dX10_isWord_26 rfl kI_1 ?_
      refine v_goto (pc' := 31) dX10_isWord_27 (by decide) ?_
      exact v_zret dX10_isWord_31 rfl (Or.inr rfl) T
theorem eX10_skipWord {G : GG} {d : Nat} {h : Hp} {o : OU} {h' : Hp} (r0 : Nat) (hd : 1 ≤ d) (T : kH h r0 = 18 ∧ ∃ z3 h2, VM G mX10_byteAt (d - 1) [.ref r0, .int (h.2 r0 4)] h (.inl (some (.int z3))) h2 ∧ ∃ z6 h5, VM G mX10_isSmall (d - 1) [.int z3] h2 (.inl (some (.int z6))) h5 ∧ ((z6 = 0 → (o = .inl none ∧ h' = h5)) ∧ (¬ z6 = 0 → kH h5 r0 = 18 ∧ V G mX10_skipWord d 0 [.ref r0] [] (h5.1, (upI h5.2 r0 4 ((h5.2 r0 4) + 1))) o h'))) : VM G mX10_skipWord d [.ref r0] h o h' := by
  refine V.toM rfl rfl (le_l rfl) (cat_all rfl) ?_
  show V G mX10_skipWord d 0 [.ref r0] [] h o h'
  have hdd : d - 1 + 1 ≤ d := by omega
  refine v_aload_n (pc' := 1) dX10_skipWord_0 rfl rfl ?_
  refine v_aload_n (pc' := 2) dX10_skipWord_1 rfl rfl ?_
  obtain ⟨q1, T⟩ := T
  refine v_getI (pc' := 5) 8 4 dX10_skipWord_2 rfl (by decide) (by decide) rfl kf_X10_81 q1 ?_
  obtain ⟨z3, h2, k4, T⟩ := T
  refine v_callV (pc' := 8) (M1 := mX10_byteAt) (as := [.int (h.2 r0 4)]) (r := r0) (rest := []) 8 dX10_skipWord_5 rfl ko_X10_84 kc_X10_byteAt ki_X10_byteAt ks_X10_byteAt (by decide) (by decide) hdd rfl rfl (le_l rfl) q1 k4 ?_
  obtain ⟨z6, h5, k7, T⟩ := T
  refine v_callS (pc' := 11) (M1 := mX10_isSmall) (as := [.int z3]) (rest := []) dX10_skipWord_8 rfl ko_X10_110 kc_X10_isSmall kt_X10_isSmall (by decide) hdd rfl rfl (le_l rfl) k7 ?_
  refine v_if_eq (tgt := 27) (pc' := 14) dX10_skipWord_11 (by decide) rfl ⟨fun c8 => ?_, fun c8 => ?_⟩
  · have T := T.1 c8
    exact v_vret dX10_skipWord_27 rfl T
  · have T := T.2 c8
    refine v_aload_n (pc' := 15) dX10_skipWord_14 rfl rfl ?_
    refine v_dup (pc' := 16) dX10_skipWord_15 rfl rfl ?_
    obtain ⟨q9, T⟩ := T
    refine v_getI (pc' := 19) 8 4 dX10_skipWord_16 rfl (by decide) (by decide) rfl kf_X10_81 q9 ?_
    refine v_iconst (pc' := 20) (v := 1) dX10_skipWord_19 rfl kI_1 ?_
    refine v_iadd (pc' := 21) dX10_skipWord_20 rfl ?_
    refine v_putI (pc' := 24) 8 4 dX10_skipWord_21 rfl (by decide) (by decide) rfl rfl kf_X10_81 q9 ?_
    refine v_goto (pc' := 0) dX10_skipWord_24 (by decide) ?_
    exact T
theorem eX10_sign {G : GG} {d : Nat} {h : Hp} {o : OU} {h' : Hp} (r0 : Nat) (x1 : Int32) (hd : 1 ≤ d) (T : kH h r0 = 18 ∧ (((h.2 r0 5) = 0 → ∃ h3, VM G mX10_blanks (d - 1) [.ref r0] h (.inl none) h3 ∧ kH h3 r0 = 18 ∧ ∃ z7 h6, VM G mX10_byteAt (d - 1) [.ref r0, .int (h3.2 r0 4)] h3 (.inl (some (.int z7))) h6 ∧ ((¬ z7 = x1 → kH h6 r0 = 18 ∧ ∃ h11, VM G mX10_wrong (d - 1) [.ref r0, .int 1, .int (h6.2 r0 4)] h6 (.inl none) h11 ∧ (o = .inl none ∧ h' = h11)) ∧ (z7 = x1 → kH h6 r0 = 18 ∧ (o = .inl none ∧ h' = (h6.1, (upI h6.2 r0 4 ((h6.2 r0 4) + 1))))))) ∧ (¬ (h.2 r0 5) = 0 → (o = .inl none ∧ h' = h)))) : VM G mX10_sign d [.ref r0, .int x1] h o h' := by
  refine V.toM rfl rfl (le_l rfl) (cat_all rfl) ?_
  show V G mX10_sign d 0 [.ref r0, .int x1] [] h o h'
  have hdd : d - 1 + 1 ≤ d := by omega
  refine v_aload_n (pc' := 1) dX10_sign_0 rfl rfl ?_
  obtain ⟨q1, T⟩ := T
  refine v_getI (pc' := 4) 8 5 dX10_sign_1 rfl (by decide) (by decide) rfl kf_X10_88 q1 ?_
  refine v_if_eq (tgt := 8) (pc' := 7) dX10_sign_4 (by decide) rfl ⟨fun c2 => ?_, fun c2 => ?_⟩
  · have T := T.1 c2
    refine v_aload_n (pc' := 9) dX10_sign_8 rfl rfl ?_
    obtain ⟨h3, k4, T⟩ := T
    refine v_callV (pc' := 12) (M1 := mX10_blanks) (as := []) (r := r0) (rest := []) 8 dX10_sign_9 rfl ko_X10_94 kc_X10_blanks ki_X10_blanks ks_X10_blanks (by decide) (by decide) hdd rfl rfl (le_l rfl) q1 k4 ?_
    refine v_aload_n (pc' := 13) dX10_sign_12 rfl rfl ?_
    refine v_aload_n (pc' := 14) dX10_sign_13 rfl rfl ?_
    obtain ⟨q5, T⟩ := T
    refine v_getI (pc' := 17) 8 4 dX10_sign_14 rfl (by decide) (by decide) rfl kf_X10_81 q5 ?_
    obtain ⟨z7, h6, k8, T⟩ := T
    refine v_callV (pc' := 20) (M1 := mX10_byteAt) (as := [.int (h3.2 r0 4)]) (r := r0) (rest := []) 8 dX10_sign_17 rfl ko_X10_84 kc_X10_byteAt ki_X10_byteAt ks_X10_byteAt (by decide) (by decide) hdd rfl rfl (le_l rfl) q5 k8 ?_
    refine v_iload_n (pc' := 21) dX10_sign_20 rfl rfl ?_
    refine v_icmp_ne (tgt := 37) (pc' := 24) dX10_sign_21 (by decide) rfl ⟨fun c9 => ?_, fun c9 => ?_⟩
    · have T := T.1 c9
      refine v_aload_n (pc' := 38) dX10_sign_37 rfl rfl ?_
      refine v_iconst (pc' := 39) (v := 1) dX10_sign_38 rfl kI_1 ?_
      refine v_aload_n (pc' := 40) dX10_sign_39 rfl rfl ?_
      obtain ⟨q10, T⟩ := T
      refine v_getI (pc' := 43) 8 4 dX10_sign_40 rfl (by decide) (by decide) rfl kf_X10_81 q10 ?_
      obtain ⟨h11, k12, T⟩ := T
      refine v_callV (pc' := 46) (M1 := mX10_wrong) (as := [.int 1, .int (h6.2 r0 4)]) (r := r0) (rest := []) 8 dX10_sign_43 rfl ko_X10_101 kc_X10_wrong ki_X10_wrong ks_X10_wrong (by decide) (by decide) hdd rfl rfl (le_l rfl) q10 k12 ?_
      exact v_vret dX10_sign_46 rfl T
    · have T := T.2 c9
      refine v_aload_n (pc' := 25) dX10_sign_24 rfl rfl ?_
      refine v_dup (pc' := 26) dX10_sign_25 rfl rfl ?_
      obtain ⟨q13, T⟩ := T
      refine v_getI (pc' := 29) 8 4 dX10_sign_26 rfl (by decide) (by decide) rfl kf_X10_81 q13 ?_
      refine v_iconst (pc' := 30) (v := 1) dX10_sign_29 rfl kI_1 ?_
      refine v_iadd (pc' := 31) dX10_sign_30 rfl ?_
      refine v_putI (pc' := 34) 8 4 dX10_sign_31 rfl (by decide) (by decide) rfl rfl kf_X10_81 q13 ?_
      refine v_goto (pc' := 46) dX10_sign_34 (by decide) ?_
      exact v_vret dX10_sign_46 rfl T
  · have T := T.2 c2
    exact v_vret dX10_sign_7 rfl T
theorem eX10_starts {G : GG} {d : Nat} {h : Hp} {o : OU} {h' : Hp} (r0 : Nat) (x1 : Int32) (hd : 1 ≤ d) (T : kH h r0 = 18 ∧ ∃ h2, VM G mX10_blanks (d - 1) [.ref r0] (h.1, (upI (upI (upI (upI (upI (upI (upI h.2 r0 1 0) r0 2 x1) r0 4 0) r0 5 0) r0 6 (-1)) r0 7 0) r0 8 0)) (.inl none) h2 ∧ (o = .inl none ∧ h' = h2)) : VM G mX10_starts d [.ref r0, .int x1] h o h' := by
  refine V.toM rfl rfl (le_l rfl) (cat_all rfl) ?_
  show V G mX10_starts d 0 [.ref r0, .int x1] [] h o h'
  have hdd : d - 1 + 1 ≤ d := by omega
  refine v_aload_n (pc' := 1) dX10_starts_0 rfl rfl ?_
  refine v_iconst (pc' := 2) (v := 0) dX10_starts_1 rfl kI_0 ?_
  obtain ⟨q1, T⟩ := T
  refine v_putI (pc' := 5) 8 1 dX10_starts_2 rfl (by decide) (by decide) rfl rfl kf_X10_75 q1 ?_
  refine v_aload_n (pc' := 6) dX10_starts_5 rfl rfl ?_
  refine v_iload_n (pc' := 7) dX10_starts_6 rfl rfl ?_
  refine v_putI (pc' := 10) 8 2 dX10_starts_7 rfl (by decide) (by decide) rfl rfl kf_X10_78 q1 ?_
  refine v_aload_n (pc' := 11) dX10_starts_10 rfl rfl ?_
  refine v_iconst (pc' := 12) (v := 0) dX10_starts_11 rfl kI_0 ?_
  refine v_putI (pc' := 15) 8 4 dX10_starts_12 rfl (by decide) (by decide) rfl rfl kf_X10_81 q1 ?_
  refine v_aload_n (pc' := 16) dX10_starts_15 rfl rfl ?_
  refine v_iconst (pc' := 17) (v := 0) dX10_starts_16 rfl kI_0 ?_
  refine v_putI (pc' := 20) 8 5 dX10_starts_17 rfl (by decide) (by decide) rfl rfl kf_X10_88 q1 ?_
  refine v_aload_n (pc' := 21) dX10_starts_20 rfl rfl ?_
  refine v_iconst (pc' := 22) (v := (-1)) dX10_starts_21 rfl kI_m1 ?_
  refine v_putI (pc' := 25) 8 6 dX10_starts_22 rfl (by decide) (by decide) rfl rfl kf_X10_91 q1 ?_
  refine v_aload_n (pc' := 26) dX10_starts_25 rfl rfl ?_
  refine v_iconst (pc' := 27) (v := 0) dX10_starts_26 rfl kI_0 ?_
  refine v_putI (pc' := 30) 8 7 dX10_starts_27 rfl (by decide) (by decide) rfl rfl kf_X10_121 q1 ?_
  refine v_aload_n (pc' := 31) dX10_starts_30 rfl rfl ?_
  refine v_iconst (pc' := 32) (v := 0) dX10_starts_31 rfl kI_0 ?_
  refine v_putI (pc' := 35) 8 8 dX10_starts_32 rfl (by decide) (by decide) rfl rfl kf_X10_124 q1 ?_
  refine v_aload_n (pc' := 36) dX10_starts_35 rfl rfl ?_
  obtain ⟨h2, k3, T⟩ := T
  refine v_callV (pc' := 39) (M1 := mX10_blanks) (as := []) (r := r0) (rest := []) 8 dX10_starts_36 rfl ko_X10_94 kc_X10_blanks ki_X10_blanks ks_X10_blanks (by decide) (by decide) hdd rfl rfl (le_l rfl) q1 k3 ?_
  exact v_vret dX10_starts_39 rfl T
theorem eX10_ends {G : GG} {d : Nat} {h : Hp} {o : OU} {h' : Hp} (r0 : Nat) (T : kH h r0 = 18 ∧ (o = .inl (some (.int (((upI h.2 r0 3 (h.2 r0 6)) r0 5) - 10))) ∧ h' = (h.1, (upI h.2 r0 3 (h.2 r0 6))))) : VM G mX10_ends d [.ref r0] h o h' := by
  refine V.toM rfl rfl (le_l rfl) (cat_all rfl) ?_
  show V G mX10_ends d 0 [.ref r0] [] h o h'
  refine v_aload_n (pc' := 1) dX10_ends_0 rfl rfl ?_
  refine v_aload_n (pc' := 2) dX10_ends_1 rfl rfl ?_
  obtain ⟨q1, T⟩ := T
  refine v_getI (pc' := 5) 8 6 dX10_ends_2 rfl (by decide) (by decide) rfl kf_X10_91 q1 ?_
  refine v_putI (pc' := 8) 8 3 dX10_ends_5 rfl (by decide) (by decide) rfl rfl kf_X10_9 q1 ?_
  refine v_aload_n (pc' := 9) dX10_ends_8 rfl rfl ?_
  refine v_getI (pc' := 12) 8 5 dX10_ends_9 rfl (by decide) (by decide) rfl kf_X10_88 q1 ?_
  refine v_bipush (pc' := 14) (v := 10) dX10_ends_12 rfl kB_10 ?_
  refine v_isub (pc' := 15) dX10_ends_14 rfl ?_
  exact v_iret dX10_ends_15 rfl T
theorem eX10_stepHere {G : GG} {d : Nat} {h : Hp} {o : OU} {h' : Hp} (r0 : Nat) (hd : 1 ≤ d) (T : kH h r0 = 18 ∧ ∃ z2 h1, VM G mX10_isWord (d - 1) [.ref r0, .int 13, .int 1, .int 11, .int 5, .int 0, .int 0] h (.inl (some (.int z2))) h1 ∧ ((z2 = 0 → kH h1 r0 = 18 ∧ ∃ z7 h6, VM G mX10_isWord (d - 1) [.ref r0, .int 4, .int 9, .int 18, .int 0, .int 0, .int 0] h1 (.inl (some (.int z7))) h6 ∧ ((z7 = 0 → kH h6 r0 = 18 ∧ ∃ z12 h11, VM G mX10_isWord (d - 1) [.ref r0, .int 12, .int 9, .int 14, .int 11, .int 0, .int 0] h6 (.inl (some (.int z12))) h11 ∧ ((z12 = 0 → kH h11 r0 = 18 ∧ ∃ z17 h16, VM G mX10_isWord (d - 1) [.ref r0, .int 7, .int 18, .int 15, .int 23, .int 0, .int 0] h11 (.inl (some (.int z17))) h16 ∧ ((z17 = 0 → kH h16 r0 = 18 ∧ ∃ z22 h21, VM G mX10_isWord (d - 1) [.ref r0, .int 16, .int 21, .int 20, .int 0, .int 0, .int 0] h16 (.inl (some (.int z22))) h21 ∧ ((z22 = 0 → kH h21 r0 = 18 ∧ ∃ z27 h26, VM G mX10_isWord (d - 1) [.ref r0, .int 3, .int 21, .int 20, .int 0, .int 0, .int 0] h21 (.inl (some (.int z27))) h26 ∧ ((z27 = 0 → kH h26 r0 = 18 ∧ ∃ z32 h31, VM G mX10_isWord (d - 1) [.ref r0, .int 4, .int 18, .int 15, .int 16, .int 0, .int 0] h26 (.inl (some (.int z32))) h31 ∧ ((z32 = 0 → kH h31 r0 = 18 ∧ ∃ z37 h36, VM G mX10_isWord (d - 1) [.ref r0, .int 23, .int 18, .int 9, .int 20, .int 5, .int 0] h31 (.inl (some (.int z37))) h36 ∧ ((z37 = 0 → kH h36 r0 = 18 ∧ ∃ z42 h41, VM G mX10_isWord (d - 1) [.ref r0, .int 19, .int 25, .int 14, .int 3, .int 0, .int 0] h36 (.inl (some (.int z42))) h41 ∧ ((z42 = 0 → kH h41 r0 = 18 ∧ ∃ z47 h46, VM G mX10_isWord (d - 1) [.ref r0, .int 3, .int 18, .int 1, .int 19, .int 8, .int 0] h41 (.inl (some (.int z47))) h46 ∧ ((z47 = 0 → kH h46 r0 = 18 ∧ ∃ z52 h51, VM G mX10_isWord (d - 1) [.ref r0, .int 19, .int 23, .int 5, .int 5, .int 16, .int 0] h46 (.inl (some (.int z52))) h51 ∧ ((z52 = 0 → kH h51 r0 = 18 ∧ ∃ z57 h56, VM G mX10_isWord (d - 1) [.ref r0, .int 1, .int 7, .int 1, .int 9, .int 14, .int 0] h51 (.inl (some (.int z57))) h56 ∧ ((z57 = 0 → V G mX10_stepHere d 225 [uV] [.int (-1)] h56 o h') ∧ (¬ z57 = 0 → V G mX10_stepHere d 225 [uV] [.int 11] h56 o h'))) ∧ (¬ z52 = 0 → (o = .inl (some (.int 10)) ∧ h' = h51)))) ∧ (¬ z47 = 0 → (o = .inl (some (.int 9)) ∧ h' = h46)))) ∧ (¬ z42 = 0 → (o = .inl (some (.int 8)) ∧ h' = h41)))) ∧ (¬ z37 = 0 → (o = .inl (some (.int 7)) ∧ h' = h36)))) ∧ (¬ z32 = 0 → (o = .inl (some (.int 6)) ∧ h' = h31)))) ∧ (¬ z27 = 0 → (o = .inl (some (.int 5)) ∧ h' = h26)))) ∧ (¬ z22 = 0 → (o = .inl (some (.int 4)) ∧ h' = h21)))) ∧ (¬ z17 = 0 → (o = .inl (some (.int 3)) ∧ h' = h16)))) ∧ (¬ z12 = 0 → (o = .inl (some (.int 2)) ∧ h' = h11)))) ∧ (¬ z7 = 0 → (o = .inl (some (.int 1)) ∧ h' = h6)))) ∧ (¬ z2 = 0 → (o = .inl (some (.int 0)) ∧ h' = h1)))) : VM G mX10_stepHere d [.ref r0] h o h' := by
  refine V.toM rfl rfl (le_l rfl) (cat_all rfl) ?_
  show V G mX10_stepHere d 0 [.ref r0] [] h o h'
  have hdd : d - 1 + 1 ≤ d := by omega
  refine v_aload_n (pc' := 1) dX10_stepHere_0 rfl rfl ?_
  refine v_bipush (pc' := 3) (v := 13) dX10_stepHere_1 rfl kB_13 ?_
  refine v_iconst (pc' := 4) (v := 1) dX10_stepHere_3 rfl kI_1 ?_
  refine v_bipush (pc' := 6) (v := 11) dX10_stepHere_4 rfl kB_11 ?_
  refine v_iconst (pc' := 7) (v := 5) dX10_stepHere_6 rfl kI_5 ?_
  refine v_iconst (pc' := 8) (v := 0) dX10_stepHere_7 rfl kI_0 ?_
  refine v_iconst (pc' := 9) (v := 0) dX10_stepHere_8 rfl kI_0 ?_
  obtain ⟨q4, T⟩ := T
  obtain ⟨z2, h1, k3, T⟩ := T
  refine v_callV (pc' := 12) (M1 := mX10_isWord) (as := [.int 13, .int 1, .int 11, .int 5, .int 0, .int 0]) (r := r0) (rest := []) 8 dX10_stepHere_9 rfl ko_X10_127 kc_X10_isWord ki_X10_isWord ks_X10_isWord (by decide) (by decide) hdd rfl rfl (le_l rfl) q4 k3 ?_
  refine v_if_eq (tgt := 17) (pc' := 15) dX10_stepHere_12 (by decide) rfl ⟨fun c5 => ?_, fun c5 => ?_⟩
  · have T := T.1 c5
    refine v_aload_n (pc' := 18) dX10_stepHere_17 rfl rfl ?_
    refine v_iconst (pc' := 19) (v := 4) dX10_stepHere_18 rfl kI_4 ?_
    refine v_bipush (pc' := 21) (v := 9) dX10_stepHere_19 rfl kB_9 ?_
    refine v_bipush (pc' := 23) (v := 18) dX10_stepHere_21 rfl kB_18 ?_
    refine v_iconst (pc' := 24) (v := 0) dX10_stepHere_23 rfl kI_0 ?_
    refine v_iconst (pc' := 25) (v := 0) dX10_stepHere_24 rfl kI_0 ?_
    refine v_iconst (pc' := 26) (v := 0) dX10_stepHere_25 rfl kI_0 ?_
    obtain ⟨q9, T⟩ := T
    obtain ⟨z7, h6, k8, T⟩ := T
    refine v_callV (pc' := 29) (M1 := mX10_isWord) (as := [.int 4, .int 9, .int 18, .int 0, .int 0, .int 0]) (r := r0) (rest := []) 8 dX10_stepHere_26 rfl ko_X10_127 kc_X10_isWord ki_X10_isWord ks_X10_isWord (by decide) (by decide) hdd rfl rfl (le_l rfl) q9 k8 ?_
    refine v_if_eq (tgt := 34) (pc' := 32) dX10_stepHere_29 (by decide) rfl ⟨fun c10 => ?_, fun c10 => ?_⟩
    · have T := T.1 c10
      refine v_aload_n (pc' := 35) dX10_stepHere_34 rfl rfl ?_
      refine v_bipush (pc' := 37) (v := 12) dX10_stepHere_35 rfl kB_12 ?_
      refine v_bipush (pc' := 39) (v := 9) dX10_stepHere_37 rfl kB_9 ?_
      refine v_bipush (pc' := 41) (v := 14) dX10_stepHere_39 rfl kB_14 ?_
      refine v_bipush (pc' := 43) (v := 11) dX10_stepHere_41 rfl kB_11 ?_
      refine v_iconst (pc' := 44) (v := 0) dX10_stepHere_43 rfl kI_0 ?_
      refine v_iconst (pc' := 45) (v := 0) dX10_stepHere_44 rfl kI_0 ?_
      obtain ⟨q14, T⟩ := T
      obtain ⟨z12, h11, k13, T⟩ := T
      refine v_callV (pc' := 48) (M1 := mX10_isWord) (as := [.int 12, .int 9, .int 14, .int 11, .int 0, .int 0]) (r := r0) (rest := []) 8 dX10_stepHere_45 rfl ko_X10_127 kc_X10_isWord ki_X10_isWord ks_X10_isWord (by decide) (by decide) hdd rfl rfl (le_l rfl) q14 k13 ?_
      refine v_if_eq (tgt := 53) (pc' := 51) dX10_stepHere_48 (by decide) rfl ⟨fun c15 => ?_, fun c15 => ?_⟩
      · have T := T.1 c15
        refine v_aload_n (pc' := 54) dX10_stepHere_53 rfl rfl ?_
        refine v_bipush (pc' := 56) (v := 7) dX10_stepHere_54 rfl kB_7 ?_
        refine v_bipush (pc' := 58) (v := 18) dX10_stepHere_56 rfl kB_18 ?_
        refine v_bipush (pc' := 60) (v := 15) dX10_stepHere_58 rfl kB_15 ?_
        refine v_bipush (pc' := 62) (v := 23) dX10_stepHere_60 rfl kB_23 ?_
        refine v_iconst (pc' := 63) (v := 0) dX10_stepHere_62 rfl kI_0 ?_
        refine v_iconst (pc' := 64) (v := 0) dX10_stepHere_63 rfl kI_0 ?_
        obtain ⟨q19, T⟩ := T
        obtain ⟨z17, h16, k18, T⟩ := T
        refine v_callV (pc' := 67) (M1 := mX10_isWord) (as := [.int 7, .int 18, .int 15, .int 23, .int 0, .int 0]) (r := r0) (rest := []) 8 dX10_stepHere_64 rfl ko_X10_127 kc_X10_isWord ki_X10_isWord ks_X10_isWord (by decide) (by decide) hdd rfl rfl (le_l rfl) q19 k18 ?_
        refine v_if_eq (tgt := 72) (pc' := 70) dX10_stepHere_67 (by decide) rfl ⟨fun c20 => ?_, fun c20 => ?_⟩
        · have T := T.1 c20
          refine v_aload_n (pc' := 73) dX10_stepHere_72 rfl rfl ?_
          refine v_bipush (pc' := 75) (v := 16) dX10_stepHere_73 rfl kB_16 ?_
          refine v_bipush (pc' := 77) (v := 21) dX10_stepHere_75 rfl kB_21 ?_
          refine v_bipush (pc' := 79) (v := 20) dX10_stepHere_77 rfl kB_20 ?_
          refine v_iconst (pc' := 80) (v := 0) dX10_stepHere_79 rfl kI_0 ?_
          refine v_iconst (pc' := 81) (v := 0) dX10_stepHere_80 rfl kI_0 ?_
          refine v_iconst (pc' := 82) (v := 0) dX10_stepHere_81 rfl kI_0 ?_
          obtain ⟨q24, T⟩ := T
          obtain ⟨z22, h21, k23, T⟩ := T
          refine v_callV (pc' := 85) (M1 := mX10_isWord) (as := [.int 16, .int 21, .int 20, .int 0, .int 0, .int 0]) (r := r0) (rest := []) 8 dX10_stepHere_82 rfl ko_X10_127 kc_X10_isWord ki_X10_isWord ks_X10_isWord (by decide) (by decide) hdd rfl rfl (le_l rfl) q24 k23 ?_
          refine v_if_eq (tgt := 90) (pc' := 88) dX10_stepHere_85 (by decide) rfl ⟨fun c25 => ?_, fun c25 => ?_⟩
          · have T := T.1 c25
            refine v_aload_n (pc' := 91) dX10_stepHere_90 rfl rfl ?_
            refine v_iconst (pc' := 92) (v := 3) dX10_stepHere_91 rfl kI_3 ?_
            refine v_bipush (pc' := 94) (v := 21) dX10_stepHere_92 rfl kB_21 ?_
            refine v_bipush (pc' := 96) (v := 20) dX10_stepHere_94 rfl kB_20 ?_
            refine v_iconst (pc' := 97) (v := 0) dX10_stepHere_96 rfl kI_0 ?_
            refine v_iconst (pc' := 98) (v := 0) dX10_stepHere_97 rfl kI_0 ?_
            refine v_iconst (pc' := 99) (v := 0) dX10_stepHere_98 rfl kI_0 ?_
            obtain ⟨q29, T⟩ := T
            obtain ⟨z27, h26, k28, T⟩ := T
            refine v_callV (pc' := 102) (M1 := mX10_isWord) (as := [.int 3, .int 21, .int 20, .int 0, .int 0, .int 0]) (r := r0) (rest := []) 8 dX10_stepHere_99 rfl ko_X10_127 kc_X10_isWord ki_X10_isWord ks_X10_isWord (by decide) (by decide) hdd rfl rfl (le_l rfl) q29 k28 ?_
            refine v_if_eq (tgt := 107) (pc' := 105) dX10_stepHere_102 (by decide) rfl ⟨fun c30 => ?_, fun c30 => ?_⟩
            · have T := T.1 c30
              refine v_aload_n (pc' := 108) dX10_stepHere_107 rfl rfl ?_
              refine v_iconst (pc' := 109) (v := 4) dX10_stepHere_108 rfl kI_4 ?_
              refine v_bipush (pc' := 111) (v := 18) dX10_stepHere_109 rfl kB_18 ?_
              refine v_bipush (pc' := 113) (v := 15) dX10_stepHere_111 rfl kB_15 ?_
              refine v_bipush (pc' := 115) (v := 16) dX10_stepHere_113 rfl kB_16 ?_
              refine v_iconst (pc' := 116) (v := 0) dX10_stepHere_115 rfl kI_0 ?_
              refine v_iconst (pc' := 117) (v := 0) dX10_stepHere_116 rfl kI_0 ?_
              obtain ⟨q34, T⟩ := T
              obtain ⟨z32, h31, k33, T⟩ := T
              refine v_callV (pc' := 120) (M1 := mX10_isWord) (as := [.int 4, .int 18, .int 15, .int 16, .int 0, .int 0]) (r := r0) (rest := []) 8 dX10_stepHere_117 rfl ko_X10_127 kc_X10_isWord ki_X10_isWord ks_X10_isWord (by decide) (by decide) hdd rfl rfl (le_l rfl) q34 k33 ?_
              refine v_if_eq (tgt := 126) (pc' := 123) dX10_stepHere_120 (by decide) rfl ⟨fun c35 => ?_, fun c35 => ?_⟩
              · have T := T.1 c35
                refine v_aload_n (pc' := 127) dX10_stepHere_126 rfl rfl ?_
                refine v_bipush (pc' := 129) (v := 23) dX10_stepHere_127 rfl kB_23 ?_
                refine v_bipush (pc' := 131) (v := 18) dX10_stepHere_129 rfl kB_18 ?_
                refine v_bipush (pc' := 133) (v := 9) dX10_stepHere_131 rfl kB_9 ?_
                refine v_bipush (pc' := 135) (v := 20) dX10_stepHere_133 rfl kB_20 ?_
                refine v_iconst (pc' := 136) (v := 5) dX10_stepHere_135 rfl kI_5 ?_
                refine v_iconst (pc' := 137) (v := 0) dX10_stepHere_136 rfl kI_0 ?_
                obtain ⟨q39, T⟩ := T
                obtain ⟨z37, h36, k38, T⟩ := T
                refine v_callV (pc' := 140) (M1 := mX10_isWord) (as := [.int 23, .int 18, .int 9, .int 20, .int 5, .int 0]) (r := r0) (rest := []) 8 dX10_stepHere_137 rfl ko_X10_127 kc_X10_isWord ki_X10_isWord ks_X10_isWord (by decide) (by decide) hdd rfl rfl (le_l rfl) q39 k38 ?_
                refine v_if_eq (tgt := 146) (pc' := 143) dX10_stepHere_140 (by decide) rfl ⟨fun c40 => ?_, fun c40 => ?_⟩
                · have T := T.1 c40
                  refine v_aload_n (pc' := 147) dX10_stepHere_146 rfl rfl ?_
                  refine v_bipush (pc' := 149) (v := 19) dX10_stepHere_147 rfl kB_19 ?_
                  refine v_bipush (pc' := 151) (v := 25) dX10_stepHere_149 rfl kB_25 ?_
                  refine v_bipush (pc' := 153) (v := 14) dX10_stepHere_151 rfl kB_14 ?_
                  refine v_iconst (pc' := 154) (v := 3) dX10_stepHere_153 rfl kI_3 ?_
                  refine v_iconst (pc' := 155) (v := 0) dX10_stepHere_154 rfl kI_0 ?_
                  refine v_iconst (pc' := 156) (v := 0) dX10_stepHere_155 rfl kI_0 ?_
                  obtain ⟨q44, T⟩ := T
                  obtain ⟨z42, h41, k43, T⟩ := T
                  refine v_callV (pc' := 159) (M1 := mX10_isWord) (as := [.int 19, .int 25, .int 14, .int 3, .int 0, .int 0]) (r := r0) (rest := []) 8 dX10_stepHere_156 rfl ko_X10_127 kc_X10_isWord ki_X10_isWord ks_X10_isWord (by decide) (by decide) hdd rfl rfl (le_l rfl) q44 k43 ?_
                  refine v_if_eq (tgt := 165) (pc' := 162) dX10_stepHere_159 (by decide) rfl ⟨fun c45 => ?_, fun c45 => ?_⟩
                  · have T := T.1 c45
                    refine v_aload_n (pc' := 166) dX10_stepHere_165 rfl rfl ?_
                    refine v_iconst (pc' := 167) (v := 3) dX10_stepHere_166 rfl kI_3 ?_
                    refine v_bipush (pc' := 169) (v := 18) dX10_stepHere_167 rfl kB_18 ?_
                    refine v_iconst (pc' := 170) (v := 1) dX10_stepHere_169 rfl kI_1 ?_
                    refine v_bipush (pc' := 172) (v := 19) dX10_stepHere_170 rfl kB_19 ?_
                    refine v_bipush (pc' := 174) (v := 8) dX10_stepHere_172 rfl kB_8 ?_
                    refine v_iconst (pc' := 175) (v := 0) dX10_stepHere_174 rfl kI_0 ?_
                    obtain ⟨q49, T⟩ := T
                    obtain ⟨z47, h46, k48, T⟩ := T
                    refine v_callV (pc' := 178) (M1 := mX10_isWord) (as := [.int 3, .int 18, .int 1, .int 19, .int 8, .int 0]) (r := r0) (rest := []) 8 dX10_stepHere_175 rfl ko_X10_127 kc_X10_isWord ki_X10_isWord ks_X10_isWord (by decide) (by decide) hdd rfl rfl (le_l rfl) q49 k48 ?_
                    refine v_if_eq (tgt := 184) (pc' := 181) dX10_stepHere_178 (by decide) rfl ⟨fun c50 => ?_, fun c50 => ?_⟩
                    · have T := T.1 c50
                      refine v_aload_n (pc' := 185) dX10_stepHere_184 rfl rfl ?_
                      refine v_bipush (pc' := 187) (v := 19) dX10_stepHere_185 rfl kB_19 ?_
                      refine v_bipush (pc' := 189) (v := 23) dX10_stepHere_187 rfl kB_23 ?_
                      refine v_iconst (pc' := 190) (v := 5) dX10_stepHere_189 rfl kI_5 ?_
                      refine v_iconst (pc' := 191) (v := 5) dX10_stepHere_190 rfl kI_5 ?_
                      refine v_bipush (pc' := 193) (v := 16) dX10_stepHere_191 rfl kB_16 ?_
                      refine v_iconst (pc' := 194) (v := 0) dX10_stepHere_193 rfl kI_0 ?_
                      obtain ⟨q54, T⟩ := T
                      obtain ⟨z52, h51, k53, T⟩ := T
                      refine v_callV (pc' := 197) (M1 := mX10_isWord) (as := [.int 19, .int 23, .int 5, .int 5, .int 16, .int 0]) (r := r0) (rest := []) 8 dX10_stepHere_194 rfl ko_X10_127 kc_X10_isWord ki_X10_isWord ks_X10_isWord (by decide) (by decide) hdd rfl rfl (le_l rfl) q54 k53 ?_
                      refine v_if_eq (tgt := 203) (pc' := 200) dX10_stepHere_197 (by decide) rfl ⟨fun c55 => ?_, fun c55 => ?_⟩
                      · have T := T.1 c55
                        refine v_aload_n (pc' := 204) dX10_stepHere_203 rfl rfl ?_
                        refine v_iconst (pc' := 205) (v := 1) dX10_stepHere_204 rfl kI_1 ?_
                        refine v_bipush (pc' := 207) (v := 7) dX10_stepHere_205 rfl kB_7 ?_
                        refine v_iconst (pc' := 208) (v := 1) dX10_stepHere_207 rfl kI_1 ?_
                        refine v_bipush (pc' := 210) (v := 9) dX10_stepHere_208 rfl kB_9 ?_
                        refine v_bipush (pc' := 212) (v := 14) dX10_stepHere_210 rfl kB_14 ?_
                        refine v_iconst (pc' := 213) (v := 0) dX10_stepHere_212 rfl kI_0 ?_
                        obtain ⟨q59, T⟩ := T
                        obtain ⟨z57, h56, k58, T⟩ := T
                        refine v_callV (pc' := 216) (M1 := mX10_isWord) (as := [.int 1, .int 7, .int 1, .int 9, .int 14, .int 0]) (r := r0) (rest := []) 8 dX10_stepHere_213 rfl ko_X10_127 kc_X10_isWord ki_X10_isWord ks_X10_isWord (by decide) (by decide) hdd rfl rfl (le_l rfl) q59 k58 ?_
                        refine v_if_eq (tgt := 224) (pc' := 219) dX10_stepHere_216 (by decide) rfl ⟨fun c60 => ?_, fun c60 => ?_⟩
                        · have T := T.1 c60
                          refine v_iconst (pc' := 225) (v := (-1)) dX10_stepHere_224 rfl kI_m1 ?_
                          exact V.drop (llp_u llp_nil) T
                        · have T := T.2 c60
                          refine v_bipush (pc' := 221) (v := 11) dX10_stepHere_219 rfl kB_11 ?_
                          refine v_goto (pc' := 225) dX10_stepHere_221 (by decide) ?_
                          exact V.drop (llp_u llp_nil) T
                      · have T := T.2 c55
                        refine v_bipush (pc' := 202) (v := 10) dX10_stepHere_200 rfl kB_10 ?_
                        exact v_iret dX10_stepHere_202 rfl T
                    · have T := T.2 c50
                      refine v_bipush (pc' := 183) (v := 9) dX10_stepHere_181 rfl kB_9 ?_
                      exact v_iret dX10_stepHere_183 rfl T
                  · have T := T.2 c45
                    refine v_bipush (pc' := 164) (v := 8) dX10_stepHere_162 rfl kB_8 ?_
                    exact v_iret dX10_stepHere_164 rfl T
                · have T := T.2 c40
                  refine v_bipush (pc' := 145) (v := 7) dX10_stepHere_143 rfl kB_7 ?_
                  exact v_iret dX10_stepHere_145 rfl T
              · have T := T.2 c35
                refine v_bipush (pc' := 125) (v := 6) dX10_stepHere_123 rfl kB_6 ?_
                exact v_iret dX10_stepHere_125 rfl T
            · have T := T.2 c30
              refine v_iconst (pc' := 106) (v := 5) dX10_stepHere_105 rfl kI_5 ?_
              exact v_iret dX10_stepHere_106 rfl T
          · have T := T.2 c25
            refine v_iconst (pc' := 89) (v := 4) dX10_stepHere_88 rfl kI_4 ?_
            exact v_iret dX10_stepHere_89 rfl T
        · have T := T.2 c20
          refine v_iconst (pc' := 71) (v := 3) dX10_stepHere_70 rfl kI_3 ?_
          exact v_iret dX10_stepHere_71 rfl T
      · have T := T.2 c15
        refine v_iconst (pc' := 52) (v := 2) dX10_stepHere_51 rfl kI_2 ?_
        exact v_iret dX10_stepHere_52 rfl T
    · have T := T.2 c10
      refine v_iconst (pc' := 33) (v := 1) dX10_stepHere_32 rfl kI_1 ?_
      exact v_iret dX10_stepHere_33 rfl T
  · have T := T.2 c5
    refine v_iconst (pc' := 16) (v := 0) dX10_stepHere_15 rfl kI_0 ?_
    exact v_iret dX10_stepHere_16 rfl T
theorem bX10_stepHere_225 {G : GG} {d : Nat} {h : Hp} {o : OU} {h' : Hp} (s0 : Int32) (T : (o = .inl (some (.int s0)) ∧ h' = h)) : V G mX10_stepHere d 225 [uV] [.int s0] h o h' := by
  exact v_iret dX10_stepHere_225 rfl T
theorem eX10_numbers {G : GG} {d : Nat} {h : Hp} {o : OU} {h' : Hp} (r0 : Nat) (r1 : Nat) (hd : 1 ≤ d) (T : kH h r1 = 1 ∧ vp_in 0 (lH h r1) ∧ ((7 ≤ (h.2 r1 0) → V G mX10_numbers d 20 [.ref r0, .ref r1, .int (h.2 r1 0)] [] h o h') ∧ (¬ 7 ≤ (h.2 r1 0) → kH h r0 = 18 ∧ ∃ z5 h4, VM G mX10_number (d - 1) [.ref r0, .int 0, .int 11] h (.inl (some (.int z5))) h4 ∧ kH h4 r1 = 1 ∧ vp_in 1 (lH h4 r1) ∧ V G mX10_numbers d 20 [.ref r0, .ref r1, .int (h.2 r1 0)] [] (h4.1, (upI h4.2 r1 1 z5)) o h'))) : VM G mX10_numbers d [.ref r0, .ref r1] h o h' := by
  refine V.toM rfl rfl (le_l rfl) (cat_all rfl) ?_
  show V G mX10_numbers d 0 [.ref r0, .ref r1, uV] [] h o h'
  have hdd : d - 1 + 1 ≤ d := by omega
  refine v_aload_n (pc' := 1) dX10_numbers_0 rfl rfl ?_
  refine v_iconst (pc' := 2) (v := 0) dX10_numbers_1 rfl kI_0 ?_
  obtain ⟨q1, T⟩ := T
  obtain ⟨q2, T⟩ := T
  refine v_iald (pc' := 3) dX10_numbers_2 rfl kN_0 q1 q2 ?_
  refine v_istore_n (pc' := 4) (loc' := [.ref r0, .ref r1, .int (h.2 r1 0)]) dX10_numbers_3 rfl (lt_l rfl) rfl ?_
  refine v_iload_n (pc' := 5) dX10_numbers_4 rfl rfl ?_
  refine v_bipush (pc' := 7) (v := 7) dX10_numbers_5 rfl kB_7 ?_
  refine v_icmp_ge (tgt := 20) (pc' := 10) dX10_numbers_7 (by decide) rfl ⟨fun c3 => ?_, fun c3 => ?_⟩
  · have T := T.1 c3
    exact T
  · have T := T.2 c3
    refine v_aload_n (pc' := 11) dX10_numbers_10 rfl rfl ?_
    refine v_iconst (pc' := 12) (v := 1) dX10_numbers_11 rfl kI_1 ?_
    refine v_aload_n (pc' := 13) dX10_numbers_12 rfl rfl ?_
    refine v_iconst (pc' := 14) (v := 0) dX10_numbers_13 rfl kI_0 ?_
    refine v_bipush (pc' := 16) (v := 11) dX10_numbers_14 rfl kB_11 ?_
    obtain ⟨q7, T⟩ := T
    obtain ⟨z5, h4, k6, T⟩ := T
    refine v_callV (pc' := 19) (M1 := mX10_number) (as := [.int 0, .int 11]) (r := r0) (rest := [.int 1, .ref r1]) 8 dX10_numbers_16 rfl ko_X10_131 kc_X10_number ki_X10_number ks_X10_number (by decide) (by decide) hdd rfl rfl (le_l rfl) q7 k6 ?_
    obtain ⟨q8, T⟩ := T
    obtain ⟨q9, T⟩ := T
    refine v_iast (pc' := 20) dX10_numbers_19 rfl kN_1 q8 q9 ?_
    exact T
theorem bX10_numbers_20 {G : GG} {d : Nat} {h : Hp} {o : OU} {h' : Hp} (r0 : Nat) (r1 : Nat) (x2 : Int32) (hd : 1 ≤ d) (T : ((x2 < 3 → kH h r0 = 18 ∧ ∃ z3 h2, VM G mX10_number (d - 1) [.ref r0, .int 1, .int 99] h (.inl (some (.int z3))) h2 ∧ kH h2 r1 = 1 ∧ vp_in 2 (lH h2 r1) ∧ V G mX10_numbers d 41 [.ref r0, .ref r1, .int x2] [] (h2.1, (upI h2.2 r1 2 z3)) o h') ∧ (¬ x2 < 3 → ((¬ x2 = 6 → V G mX10_numbers d 41 [.ref r0, .ref r1, .int x2] [] h o h') ∧ (x2 = 6 → kH h r0 = 18 ∧ ∃ z10 h9, VM G mX10_number (d - 1) [.ref r0, .int 1, .int 99] h (.inl (some (.int z10))) h9 ∧ kH h9 r1 = 1 ∧ vp_in 2 (lH h9 r1) ∧ V G mX10_numbers d 41 [.ref r0, .ref r1, .int x2] [] (h9.1, (upI h9.2 r1 2 z10)) o h'))))) : V G mX10_numbers d 20 [.ref r0, .ref r1, .int x2] [] h o h' := by
  have hdd : d - 1 + 1 ≤ d := by omega
  refine v_iload_n (pc' := 21) dX10_numbers_20 rfl rfl ?_
  refine v_iconst (pc' := 22) (v := 3) dX10_numbers_21 rfl kI_3 ?_
  refine v_icmp_lt (tgt := 31) (pc' := 25) dX10_numbers_22 (by decide) rfl ⟨fun c1 => ?_, fun c1 => ?_⟩
  · have T := T.1 c1
    refine v_aload_n (pc' := 32) dX10_numbers_31 rfl rfl ?_
    refine v_iconst (pc' := 33) (v := 2) dX10_numbers_32 rfl kI_2 ?_
    refine v_aload_n (pc' := 34) dX10_numbers_33 rfl rfl ?_
    refine v_iconst (pc' := 35) (v := 1) dX10_numbers_34 rfl kI_1 ?_
    refine v_bipush (pc' := 37) (v := 99) dX10_numbers_35 rfl kB_99 ?_
    obtain ⟨q5, T⟩ := T
    obtain ⟨z3, h2, k4, T⟩ := T
    refine v_callV (pc' := 40) (M1 := mX10_number) (as := [.int 1, .int 99]) (r := r0) (rest := [.int 2, .ref r1]) 8 dX10_numbers_37 rfl ko_X10_131 kc_X10_number ki_X10_number ks_X10_number (by decide) (by decide) hdd rfl rfl (le_l rfl) q5 k4 ?_
    obtain ⟨q6, T⟩ := T
    obtain ⟨q7, T⟩ := T
    refine v_iast (pc' := 41) dX10_numbers_40 rfl kN_2 q6 q7 ?_
    exact T
  · have T := T.2 c1
    refine v_iload_n (pc' := 26) dX10_numbers_25 rfl rfl ?_
    refine v_bipush (pc' := 28) (v := 6) dX10_numbers_26 rfl kB_6 ?_
    refine v_icmp_ne (tgt := 41) (pc' := 31) dX10_numbers_28 (by decide) rfl ⟨fun c8 => ?_, fun c8 => ?_⟩
    · have T := T.1 c8
      exact T
    · have T := T.2 c8
      refine v_aload_n (pc' := 32) dX10_numbers_31 rfl rfl ?_
      refine v_iconst (pc' := 33) (v := 2) dX10_numbers_32 rfl kI_2 ?_
      refine v_aload_n (pc' := 34) dX10_numbers_33 rfl rfl ?_
      refine v_iconst (pc' := 35) (v := 1) dX10_numbers_34 rfl kI_1 ?_
      refine v_bipush (pc' := 37) (v := 99) dX10_numbers_35 rfl kB_99 ?_
      obtain ⟨q12, T⟩ := T
      obtain ⟨z10, h9, k11, T⟩ := T
      refine v_callV (pc' := 40) (M1 := mX10_number) (as := [.int 1, .int 99]) (r := r0) (rest := [.int 2, .ref r1]) 8 dX10_numbers_37 rfl ko_X10_131 kc_X10_number ki_X10_number ks_X10_number (by decide) (by decide) hdd rfl rfl (le_l rfl) q12 k11 ?_
      obtain ⟨q13, T⟩ := T
      obtain ⟨q14, T⟩ := T
      refine v_iast (pc' := 41) dX10_numbers_40 rfl kN_2 q13 q14 ?_
      exact T
theorem bX10_numbers_41 {G : GG} {d : Nat} {h : Hp} {o : OU} {h' : Hp} (r0 : Nat) (r1 : Nat) (x2 : Int32) (hd : 1 ≤ d) (T : ((¬ x2 = 2 → V G mX10_numbers d 56 [.ref r0, .ref r1, .int x2] [] h o h') ∧ (x2 = 2 → kH h r0 = 18 ∧ ∃ z3 h2, VM G mX10_number (d - 1) [.ref r0, .int 0, .int 11] h (.inl (some (.int z3))) h2 ∧ kH h2 r1 = 1 ∧ vp_in 3 (lH h2 r1) ∧ V G mX10_numbers d 56 [.ref r0, .ref r1, .int x2] [] (h2.1, (upI h2.2 r1 3 z3)) o h'))) : V G mX10_numbers d 41 [.ref r0, .ref r1, .int x2] [] h o h' := by
  have hdd : d - 1 + 1 ≤ d := by omega
  refine v_iload_n (pc' := 42) dX10_numbers_41 rfl rfl ?_
  refine v_iconst (pc' := 43) (v := 2) dX10_numbers_42 rfl kI_2 ?_
  refine v_icmp_ne (tgt := 56) (pc' := 46) dX10_numbers_43 (by decide) rfl ⟨fun c1 => ?_, fun c1 => ?_⟩
  · have T := T.1 c1
    exact T
  · have T := T.2 c1
    refine v_aload_n (pc' := 47) dX10_numbers_46 rfl rfl ?_
    refine v_iconst (pc' := 48) (v := 3) dX10_numbers_47 rfl kI_3 ?_
    refine v_aload_n (pc' := 49) dX10_numbers_48 rfl rfl ?_
    refine v_iconst (pc' := 50) (v := 0) dX10_numbers_49 rfl kI_0 ?_
    refine v_bipush (pc' := 52) (v := 11) dX10_numbers_50 rfl kB_11 ?_
    obtain ⟨q5, T⟩ := T
    obtain ⟨z3, h2, k4, T⟩ := T
    refine v_callV (pc' := 55) (M1 := mX10_number) (as := [.int 0, .int 11]) (r := r0) (rest := [.int 3, .ref r1]) 8 dX10_numbers_52 rfl ko_X10_131 kc_X10_number ki_X10_number ks_X10_number (by decide) (by decide) hdd rfl rfl (le_l rfl) q5 k4 ?_
    obtain ⟨q6, T⟩ := T
    obtain ⟨q7, T⟩ := T
    refine v_iast (pc' := 56) dX10_numbers_55 rfl kN_3 q6 q7 ?_
    exact T
theorem bX10_numbers_56 {G : GG} {d : Nat} {h : Hp} {o : OU} {h' : Hp} (r0 : Nat) (r1 : Nat) (x2 : Int32) (hd : 1 ≤ d) (T : ((¬ x2 = 3 → V G mX10_numbers d 71 [.ref r0, .ref r1, .int x2] [] h o h') ∧ (x2 = 3 → kH h r0 = 18 ∧ ∃ z3 h2, VM G mX10_number (d - 1) [.ref r0, .int 0, .int 99] h (.inl (some (.int z3))) h2 ∧ kH h2 r1 = 1 ∧ vp_in 2 (lH h2 r1) ∧ V G mX10_numbers d 71 [.ref r0, .ref r1, .int x2] [] (h2.1, (upI h2.2 r1 2 z3)) o h'))) : V G mX10_numbers d 56 [.ref r0, .ref r1, .int x2] [] h o h' := by
  have hdd : d - 1 + 1 ≤ d := by omega
  refine v_iload_n (pc' := 57) dX10_numbers_56 rfl rfl ?_
  refine v_iconst (pc' := 58) (v := 3) dX10_numbers_57 rfl kI_3 ?_
  refine v_icmp_ne (tgt := 71) (pc' := 61) dX10_numbers_58 (by decide) rfl ⟨fun c1 => ?_, fun c1 => ?_⟩
  · have T := T.1 c1
    exact T
  · have T := T.2 c1
    refine v_aload_n (pc' := 62) dX10_numbers_61 rfl rfl ?_
    refine v_iconst (pc' := 63) (v := 2) dX10_numbers_62 rfl kI_2 ?_
    refine v_aload_n (pc' := 64) dX10_numbers_63 rfl rfl ?_
    refine v_iconst (pc' := 65) (v := 0) dX10_numbers_64 rfl kI_0 ?_
    refine v_bipush (pc' := 67) (v := 99) dX10_numbers_65 rfl kB_99 ?_
    obtain ⟨q5, T⟩ := T
    obtain ⟨z3, h2, k4, T⟩ := T
    refine v_callV (pc' := 70) (M1 := mX10_number) (as := [.int 0, .int 99]) (r := r0) (rest := [.int 2, .ref r1]) 8 dX10_numbers_67 rfl ko_X10_131 kc_X10_number ki_X10_number ks_X10_number (by decide) (by decide) hdd rfl rfl (le_l rfl) q5 k4 ?_
    obtain ⟨q6, T⟩ := T
    obtain ⟨q7, T⟩ := T
    refine v_iast (pc' := 71) dX10_numbers_70 rfl kN_2 q6 q7 ?_
    exact T
theorem bX10_numbers_71 {G : GG} {d : Nat} {h : Hp} {o : OU} {h' : Hp} (r0 : Nat) (r1 : Nat) (x2 : Int32) (hd : 1 ≤ d) (T : ((¬ x2 = 4 → ((¬ x2 = 7 → (o = .inl none ∧ h' = h)) ∧ (x2 = 7 → kH h r0 = 18 ∧ ∃ z4 h3, VM G mX10_number (d - 1) [.ref r0, .int 0, .int 15] h (.inl (some (.int z4))) h3 ∧ kH h3 r1 = 1 ∧ vp_in 1 (lH h3 r1) ∧ (o = .inl none ∧ h' = (h3.1, (upI h3.2 r1 1 z4)))))) ∧ (x2 = 4 → kH h r0 = 18 ∧ ∃ z10 h9, VM G mX10_number (d - 1) [.ref r0, .int 0, .int 31] h (.inl (some (.int z10))) h9 ∧ kH h9 r1 = 1 ∧ vp_in 2 (lH h9 r1) ∧ kH h9 r0 = 18 ∧ ∃ z16 h15, VM G mX10_number (d - 1) [.ref r0, .int 0, .int 99] (h9.1, (upI h9.2 r1 2 z10)) (.inl (some (.int z16))) h15 ∧ kH h15 r1 = 1 ∧ vp_in 3 (lH h15 r1) ∧ ((¬ x2 = 7 → (o = .inl none ∧ h' = (h15.1, (upI h15.2 r1 3 z16)))) ∧ (x2 = 7 → kH h15 r0 = 18 ∧ ∃ z23 h22, VM G mX10_number (d - 1) [.ref r0, .int 0, .int 15] (h15.1, (upI h15.2 r1 3 z16)) (.inl (some (.int z23))) h22 ∧ kH h22 r1 = 1 ∧ vp_in 1 (lH h22 r1) ∧ (o = .inl none ∧ h' = (h22.1, (upI h22.2 r1 1 z23)))))))) : V G mX10_numbers d 71 [.ref r0, .ref r1, .int x2] [] h o h' := by
  have hdd : d - 1 + 1 ≤ d := by omega
  refine v_iload_n (pc' := 72) dX10_numbers_71 rfl rfl ?_
  refine v_iconst (pc' := 73) (v := 4) dX10_numbers_72 rfl kI_4 ?_
  refine v_icmp_ne (tgt := 96) (pc' := 76) dX10_numbers_73 (by decide) rfl ⟨fun c1 => ?_, fun c1 => ?_⟩
  · have T := T.1 c1
    refine v_iload_n (pc' := 97) dX10_numbers_96 rfl rfl ?_
    refine v_bipush (pc' := 99) (v := 7) dX10_numbers_97 rfl kB_7 ?_
    refine v_icmp_ne (tgt := 112) (pc' := 102) dX10_numbers_99 (by decide) rfl ⟨fun c2 => ?_, fun c2 => ?_⟩
    · have T := T.1 c2
      exact v_vret dX10_numbers_112 rfl T
    · have T := T.2 c2
      refine v_aload_n (pc' := 103) dX10_numbers_102 rfl rfl ?_
      refine v_iconst (pc' := 104) (v := 1) dX10_numbers_103 rfl kI_1 ?_
      refine v_aload_n (pc' := 105) dX10_numbers_104 rfl rfl ?_
      refine v_iconst (pc' := 106) (v := 0) dX10_numbers_105 rfl kI_0 ?_
      refine v_bipush (pc' := 108) (v := 15) dX10_numbers_106 rfl kB_15 ?_
      obtain ⟨q6, T⟩ := T
      obtain ⟨z4, h3, k5, T⟩ := T
      refine v_callV (pc' := 111) (M1 := mX10_number) (as := [.int 0, .int 15]) (r := r0) (rest := [.int 1, .ref r1]) 8 dX10_numbers_108 rfl ko_X10_131 kc_X10_number ki_X10_number ks_X10_number (by decide) (by decide) hdd rfl rfl (le_l rfl) q6 k5 ?_
      obtain ⟨q7, T⟩ := T
      obtain ⟨q8, T⟩ := T
      refine v_iast (pc' := 112) dX10_numbers_111 rfl kN_1 q7 q8 ?_
      exact v_vret dX10_numbers_112 rfl T
  · have T := T.2 c1
    refine v_aload_n (pc' := 77) dX10_numbers_76 rfl rfl ?_
    refine v_iconst (pc' := 78) (v := 2) dX10_numbers_77 rfl kI_2 ?_
    refine v_aload_n (pc' := 79) dX10_numbers_78 rfl rfl ?_
    refine v_iconst (pc' := 80) (v := 0) dX10_numbers_79 rfl kI_0 ?_
    refine v_bipush (pc' := 82) (v := 31) dX10_numbers_80 rfl kB_31 ?_
    obtain ⟨q12, T⟩ := T
    obtain ⟨z10, h9, k11, T⟩ := T
    refine v_callV (pc' := 85) (M1 := mX10_number) (as := [.int 0, .int 31]) (r := r0) (rest := [.int 2, .ref r1]) 8 dX10_numbers_82 rfl ko_X10_131 kc_X10_number ki_X10_number ks_X10_number (by decide) (by decide) hdd rfl rfl (le_l rfl) q12 k11 ?_
    obtain ⟨q13, T⟩ := T
    obtain ⟨q14, T⟩ := T
    refine v_iast (pc' := 86) dX10_numbers_85 rfl kN_2 q13 q14 ?_
    refine v_aload_n (pc' := 87) dX10_numbers_86 rfl rfl ?_
    refine v_iconst (pc' := 88) (v := 3) dX10_numbers_87 rfl kI_3 ?_
    refine v_aload_n (pc' := 89) dX10_numbers_88 rfl rfl ?_
    refine v_iconst (pc' := 90) (v := 0) dX10_numbers_89 rfl kI_0 ?_
    refine v_bipush (pc' := 92) (v := 99) dX10_numbers_90 rfl kB_99 ?_
    obtain ⟨q18, T⟩ := T
    obtain ⟨z16, h15, k17, T⟩ := T
    refine v_callV (pc' := 95) (M1 := mX10_number) (as := [.int 0, .int 99]) (r := r0) (rest := [.int 3, .ref r1]) 8 dX10_numbers_92 rfl ko_X10_131 kc_X10_number ki_X10_number ks_X10_number (by decide) (by decide) hdd rfl rfl (le_l rfl) q18 k17 ?_
    obtain ⟨q19, T⟩ := T
    obtain ⟨q20, T⟩ := T
    refine v_iast (pc' := 96) dX10_numbers_95 rfl kN_3 q19 q20 ?_
    refine v_iload_n (pc' := 97) dX10_numbers_96 rfl rfl ?_
    refine v_bipush (pc' := 99) (v := 7) dX10_numbers_97 rfl kB_7 ?_
    refine v_icmp_ne (tgt := 112) (pc' := 102) dX10_numbers_99 (by decide) rfl ⟨fun c21 => ?_, fun c21 => ?_⟩
    · have T := T.1 c21
      exact v_vret dX10_numbers_112 rfl T
    · have T := T.2 c21
      refine v_aload_n (pc' := 103) dX10_numbers_102 rfl rfl ?_
      refine v_iconst (pc' := 104) (v := 1) dX10_numbers_103 rfl kI_1 ?_
      refine v_aload_n (pc' := 105) dX10_numbers_104 rfl rfl ?_
      refine v_iconst (pc' := 106) (v := 0) dX10_numbers_105 rfl kI_0 ?_
      refine v_bipush (pc' := 108) (v := 15) dX10_numbers_106 rfl kB_15 ?_
      obtain ⟨q25, T⟩ := T
      obtain ⟨z23, h22, k24, T⟩ := T
      refine v_callV (pc' := 111) (M1 := mX10_number) (as := [.int 0, .int 15]) (r := r0) (rest := [.int 1, .ref r1]) 8 dX10_numbers_108 rfl ko_X10_131 kc_X10_number ki_X10_number ks_X10_number (by decide) (by decide) hdd rfl rfl (le_l rfl) q25 k24 ?_
      obtain ⟨q26, T⟩ := T
      obtain ⟨q27, T⟩ := T
      refine v_iast (pc' := 112) dX10_numbers_111 rfl kN_1 q26 q27 ?_
      exact v_vret dX10_numbers_112 rfl T
theorem eX10_again {G : GG} {d : Nat} {h : Hp} {o : OU} {h' : Hp} (r0 : Nat) (r1 : Nat) (hd : 1 ≤ d) (T : kH h r0 = 18 ∧ ∃ z2 h1, VM G mX10_number (d - 1) [.ref r0, .int 0, .int 60] h (.inl (some (.int z2))) h1 ∧ kH h1 r1 = 1 ∧ vp_in 1 (lH h1 r1) ∧ kH h1 r0 = 18 ∧ ∃ h7, VM G mX10_sign (d - 1) [.ref r0, .int 91] (h1.1, (upI h1.2 r1 1 z2)) (.inl none) h7 ∧ kH h7 r0 = 18 ∧ ∃ h10, VM G mX10_blanks (d - 1) [.ref r0] h7 (.inl none) h10 ∧ V G mX10_again d 20 [.ref r0, uV] [] h10 o h') : VM G mX10_again d [.ref r0, .ref r1] h o h' := by
  refine V.toM rfl rfl (le_l rfl) (cat_all rfl) ?_
  show V G mX10_again d 0 [.ref r0, .ref r1] [] h o h'
  have hdd : d - 1 + 1 ≤ d := by omega
  refine v_aload_n (pc' := 1) dX10_again_0 rfl rfl ?_
  refine v_iconst (pc' := 2) (v := 1) dX10_again_1 rfl kI_1 ?_
  refine v_aload_n (pc' := 3) dX10_again_2 rfl rfl ?_
  refine v_iconst (pc' := 4) (v := 0) dX10_again_3 rfl kI_0 ?_
  refine v_bipush (pc' := 6) (v := 60) dX10_again_4 rfl kB_60 ?_
  obtain ⟨q4, T⟩ := T
  obtain ⟨z2, h1, k3, T⟩ := T
  refine v_callV (pc' := 9) (M1 := mX10_number) (as := [.int 0, .int 60]) (r := r0) (rest := [.int 1, .ref r1]) 8 dX10_again_6 rfl ko_X10_131 kc_X10_number ki_X10_number ks_X10_number (by decide) (by decide) hdd rfl rfl (le_l rfl) q4 k3 ?_
  obtain ⟨q5, T⟩ := T
  obtain ⟨q6, T⟩ := T
  refine v_iast (pc' := 10) dX10_again_9 rfl kN_1 q5 q6 ?_
  refine v_aload_n (pc' := 11) dX10_again_10 rfl rfl ?_
  refine v_bipush (pc' := 13) (v := 91) dX10_again_11 rfl kB_91 ?_
  obtain ⟨q9, T⟩ := T
  obtain ⟨h7, k8, T⟩ := T
  refine v_callV (pc' := 16) (M1 := mX10_sign) (as := [.int 91]) (r := r0) (rest := []) 8 dX10_again_13 rfl ko_X10_135 kc_X10_sign ki_X10_sign ks_X10_sign (by decide) (by decide) hdd rfl rfl (le_l rfl) q9 k8 ?_
  refine v_aload_n (pc' := 17) dX10_again_16 rfl rfl ?_
  obtain ⟨q12, T⟩ := T
  obtain ⟨h10, k11, T⟩ := T
  refine v_callV (pc' := 20) (M1 := mX10_blanks) (as := []) (r := r0) (rest := []) 8 dX10_again_17 rfl ko_X10_94 kc_X10_blanks ki_X10_blanks ks_X10_blanks (by decide) (by decide) hdd rfl rfl (le_l rfl) q12 k11 ?_
  exact V.drop (llp_r (llp_u llp_nil)) T
theorem bX10_again_20 {G : GG} {d : Nat} {h : Hp} {o : OU} {h' : Hp} (r0 : Nat) (hd : 1 ≤ d) (T : kH h r0 = 18 ∧ ((¬ (h.2 r0 5) = 0 → ∃ h3, VM G mX10_sign (d - 1) [.ref r0, .int 93] h (.inl none) h3 ∧ kH h3 r0 = 18 ∧ (o = .inl none ∧ h' = (h3.1, (upI h3.2 r0 8 ((h3.2 r0 8) - 1))))) ∧ ((h.2 r0 5) = 0 → ∃ z7 h6, VM G mX10_byteAt (d - 1) [.ref r0, .int (h.2 r0 4)] h (.inl (some (.int z7))) h6 ∧ ((z7 = 93 → kH h6 r0 = 18 ∧ ∃ h10, VM G mX10_sign (d - 1) [.ref r0, .int 93] h6 (.inl none) h10 ∧ kH h10 r0 = 18 ∧ (o = .inl none ∧ h' = (h10.1, (upI h10.2 r0 8 ((h10.2 r0 8) - 1))))) ∧ (¬ z7 = 93 → kH h6 r0 = 18 ∧ ∃ h14, VM G mX10_readsStep (d - 1) [.ref r0] h6 (.inl none) h14 ∧ kH h14 r0 = 18 ∧ ∃ h17, VM G mX10_blanks (d - 1) [.ref r0] h14 (.inl none) h17 ∧ V G mX10_again d 20 [.ref r0, uV] [] h17 o h'))))) : V G mX10_again d 20 [.ref r0, uV] [] h o h' := by
  have hdd : d - 1 + 1 ≤ d := by omega
  refine v_aload_n (pc' := 21) dX10_again_20 rfl rfl ?_
  obtain ⟨q1, T⟩ := T
  refine v_getI (pc' := 24) 8 5 dX10_again_21 rfl (by decide) (by decide) rfl kf_X10_88 q1 ?_
  refine v_if_ne (tgt := 51) (pc' := 27) dX10_again_24 (by decide) rfl ⟨fun c2 => ?_, fun c2 => ?_⟩
  · have T := T.1 c2
    refine v_aload_n (pc' := 52) dX10_again_51 rfl rfl ?_
    refine v_bipush (pc' := 54) (v := 93) dX10_again_52 rfl kB_93 ?_
    obtain ⟨h3, k4, T⟩ := T
    refine v_callV (pc' := 57) (M1 := mX10_sign) (as := [.int 93]) (r := r0) (rest := []) 8 dX10_again_54 rfl ko_X10_135 kc_X10_sign ki_X10_sign ks_X10_sign (by decide) (by decide) hdd rfl rfl (le_l rfl) q1 k4 ?_
    refine v_aload_n (pc' := 58) dX10_again_57 rfl rfl ?_
    refine v_dup (pc' := 59) dX10_again_58 rfl rfl ?_
    obtain ⟨q5, T⟩ := T
    refine v_getI (pc' := 62) 8 8 dX10_again_59 rfl (by decide) (by decide) rfl kf_X10_124 q5 ?_
    refine v_iconst (pc' := 63) (v := 1) dX10_again_62 rfl kI_1 ?_
    refine v_isub (pc' := 64) dX10_again_63 rfl ?_
    refine v_putI (pc' := 67) 8 8 dX10_again_64 rfl (by decide) (by decide) rfl rfl kf_X10_124 q5 ?_
    exact v_vret dX10_again_67 rfl T
  · have T := T.2 c2
    refine v_aload_n (pc' := 28) dX10_again_27 rfl rfl ?_
    refine v_aload_n (pc' := 29) dX10_again_28 rfl rfl ?_
    refine v_getI (pc' := 32) 8 4 dX10_again_29 rfl (by decide) (by decide) rfl kf_X10_81 q1 ?_
    obtain ⟨z7, h6, k8, T⟩ := T
    refine v_callV (pc' := 35) (M1 := mX10_byteAt) (as := [.int (h.2 r0 4)]) (r := r0) (rest := []) 8 dX10_again_32 rfl ko_X10_84 kc_X10_byteAt ki_X10_byteAt ks_X10_byteAt (by decide) (by decide) hdd rfl rfl (le_l rfl) q1 k8 ?_
    refine v_bipush (pc' := 37) (v := 93) dX10_again_35 rfl kB_93 ?_
    refine v_icmp_eq (tgt := 51) (pc' := 40) dX10_again_37 (by decide) rfl ⟨fun c9 => ?_, fun c9 => ?_⟩
    · have T := T.1 c9
      refine v_aload_n (pc' := 52) dX10_again_51 rfl rfl ?_
      refine v_bipush (pc' := 54) (v := 93) dX10_again_52 rfl kB_93 ?_
      obtain ⟨q12, T⟩ := T
      obtain ⟨h10, k11, T⟩ := T
      refine v_callV (pc' := 57) (M1 := mX10_sign) (as := [.int 93]) (r := r0) (rest := []) 8 dX10_again_54 rfl ko_X10_135 kc_X10_sign ki_X10_sign ks_X10_sign (by decide) (by decide) hdd rfl rfl (le_l rfl) q12 k11 ?_
      refine v_aload_n (pc' := 58) dX10_again_57 rfl rfl ?_
      refine v_dup (pc' := 59) dX10_again_58 rfl rfl ?_
      obtain ⟨q13, T⟩ := T
      refine v_getI (pc' := 62) 8 8 dX10_again_59 rfl (by decide) (by decide) rfl kf_X10_124 q13 ?_
      refine v_iconst (pc' := 63) (v := 1) dX10_again_62 rfl kI_1 ?_
      refine v_isub (pc' := 64) dX10_again_63 rfl ?_
      refine v_putI (pc' := 67) 8 8 dX10_again_64 rfl (by decide) (by decide) rfl rfl kf_X10_124 q13 ?_
      exact v_vret dX10_again_67 rfl T
    · have T := T.2 c9
      refine v_aload_n (pc' := 41) dX10_again_40 rfl rfl ?_
      obtain ⟨q16, T⟩ := T
      obtain ⟨h14, k15, T⟩ := T
      refine v_callV (pc' := 44) (M1 := mX10_readsStep) (as := []) (r := r0) (rest := []) 8 dX10_again_41 rfl ko_X10_139 kc_X10_readsStep ki_X10_readsStep ks_X10_readsStep (by decide) (by decide) hdd rfl rfl (le_l rfl) q16 k15 ?_
      refine v_aload_n (pc' := 45) dX10_again_44 rfl rfl ?_
      obtain ⟨q19, T⟩ := T
      obtain ⟨h17, k18, T⟩ := T
      refine v_callV (pc' := 48) (M1 := mX10_blanks) (as := []) (r := r0) (rest := []) 8 dX10_again_45 rfl ko_X10_94 kc_X10_blanks ki_X10_blanks ks_X10_blanks (by decide) (by decide) hdd rfl rfl (le_l rfl) q19 k18 ?_
      refine v_goto (pc' := 20) dX10_again_48 (by decide) ?_
      exact T
theorem eX10_readsStep {G : GG} {d : Nat} {h : Hp} {o : OU} {h' : Hp} (r0 : Nat) (hd : 1 ≤ d) (T : kH h r0 = 18 ∧ ∃ z2 h1, VM G mX10_stepHere (d - 1) [.ref r0] h (.inl (some (.int z2))) h1 ∧ ((¬ z2 = (-1) → ((¬ z2 = 11 → V G mX10_readsStep d 46 [.ref r0, .int z2, uV] [] h1 o h') ∧ (z2 = 11 → kH h1 r0 = 18 ∧ ((¬ (h1.2 r0 8) = 6 → V G mX10_readsStep d 46 [.ref r0, .int z2, uV] [] h1 o h') ∧ ((h1.2 r0 8) = 6 → ∃ h9, VM G mX10_wrong (d - 1) [.ref r0, .int 3, .int (h1.2 r0 4)] h1 (.inl none) h9 ∧ V G mX10_readsStep d 46 [.ref r0, .int z2, uV] [] h9 o h'))))) ∧ (z2 = (-1) → kH h1 r0 = 18 ∧ ∃ h12, VM G mX10_wrong (d - 1) [.ref r0, .int 1, .int (h1.2 r0 4)] h1 (.inl none) h12 ∧ V G mX10_readsStep d 46 [.ref r0, .int z2, uV] [] h12 o h'))) : VM G mX10_readsStep d [.ref r0] h o h' := by
  refine V.toM rfl rfl (le_l rfl) (cat_all rfl) ?_
  show V G mX10_readsStep d 0 [.ref r0, uV, uV] [] h o h'
  have hdd : d - 1 + 1 ≤ d := by omega
  refine v_aload_n (pc' := 1) dX10_readsStep_0 rfl rfl ?_
  obtain ⟨q4, T⟩ := T
  obtain ⟨z2, h1, k3, T⟩ := T
  refine v_callV (pc' := 4) (M1 := mX10_stepHere) (as := []) (r := r0) (rest := []) 8 dX10_readsStep_1 rfl ko_X10_142 kc_X10_stepHere ki_X10_stepHere ks_X10_stepHere (by decide) (by decide) hdd rfl rfl (le_l rfl) q4 k3 ?_
  refine v_istore_n (pc' := 5) (loc' := [.ref r0, .int z2, uV]) dX10_readsStep_4 rfl (lt_l rfl) rfl ?_
  refine v_iload_n (pc' := 6) dX10_readsStep_5 rfl rfl ?_
  refine v_iconst (pc' := 7) (v := (-1)) dX10_readsStep_6 rfl kI_m1 ?_
  refine v_icmp_ne (tgt := 22) (pc' := 10) dX10_readsStep_7 (by decide) rfl ⟨fun c5 => ?_, fun c5 => ?_⟩
  · have T := T.1 c5
    refine v_iload_n (pc' := 23) dX10_readsStep_22 rfl rfl ?_
    refine v_bipush (pc' := 25) (v := 11) dX10_readsStep_23 rfl kB_11 ?_
    refine v_icmp_ne (tgt := 46) (pc' := 28) dX10_readsStep_25 (by decide) rfl ⟨fun c6 => ?_, fun c6 => ?_⟩
    · have T := T.1 c6
      exact T
    · have T := T.2 c6
      refine v_aload_n (pc' := 29) dX10_readsStep_28 rfl rfl ?_
      obtain ⟨q7, T⟩ := T
      refine v_getI (pc' := 32) 8 8 dX10_readsStep_29 rfl (by decide) (by decide) rfl kf_X10_124 q7 ?_
      refine v_bipush (pc' := 34) (v := 6) dX10_readsStep_32 rfl kB_6 ?_
      refine v_icmp_ne (tgt := 46) (pc' := 37) dX10_readsStep_34 (by decide) rfl ⟨fun c8 => ?_, fun c8 => ?_⟩
      · have T := T.1 c8
        exact T
      · have T := T.2 c8
        refine v_aload_n (pc' := 38) dX10_readsStep_37 rfl rfl ?_
        refine v_iconst (pc' := 39) (v := 3) dX10_readsStep_38 rfl kI_3 ?_
        refine v_aload_n (pc' := 40) dX10_readsStep_39 rfl rfl ?_
        refine v_getI (pc' := 43) 8 4 dX10_readsStep_40 rfl (by decide) (by decide) rfl kf_X10_81 q7 ?_
        obtain ⟨h9, k10, T⟩ := T
        refine v_callV (pc' := 46) (M1 := mX10_wrong) (as := [.int 3, .int (h1.2 r0 4)]) (r := r0) (rest := []) 8 dX10_readsStep_43 rfl ko_X10_101 kc_X10_wrong ki_X10_wrong ks_X10_wrong (by decide) (by decide) hdd rfl rfl (le_l rfl) q7 k10 ?_
        exact T
  · have T := T.2 c5
    refine v_aload_n (pc' := 11) dX10_readsStep_10 rfl rfl ?_
    refine v_iconst (pc' := 12) (v := 1) dX10_readsStep_11 rfl kI_1 ?_
    refine v_aload_n (pc' := 13) dX10_readsStep_12 rfl rfl ?_
    obtain ⟨q11, T⟩ := T
    refine v_getI (pc' := 16) 8 4 dX10_readsStep_13 rfl (by decide) (by decide) rfl kf_X10_81 q11 ?_
    obtain ⟨h12, k13, T⟩ := T
    refine v_callV (pc' := 19) (M1 := mX10_wrong) (as := [.int 1, .int (h1.2 r0 4)]) (r := r0) (rest := []) 8 dX10_readsStep_16 rfl ko_X10_101 kc_X10_wrong ki_X10_wrong ks_X10_wrong (by decide) (by decide) hdd rfl rfl (le_l rfl) q11 k13 ?_
    refine v_goto (pc' := 46) dX10_readsStep_19 (by decide) ?_
    exact T
theorem bX10_readsStep_46 {G : GG} {d : Nat} {h : Hp} {o : OU} {h' : Hp} (r0 : Nat) (x1 : Int32) (T : kH h r0 = 18 ∧ (((h.2 r0 5) = 0 → ((¬ x1 = 11 → V G mX10_readsStep d 70 [.ref r0, .int x1, uV] [.int 0, .int (h.2 r0 8), .ref r0] h o h') ∧ (x1 = 11 → V G mX10_readsStep d 70 [.ref r0, .int x1, uV] [.int 1, .int (h.2 r0 8), .ref r0] h o h'))) ∧ (¬ (h.2 r0 5) = 0 → (o = .inl none ∧ h' = h)))) : V G mX10_readsStep d 46 [.ref r0, .int x1, uV] [] h o h' := by
  refine v_aload_n (pc' := 47) dX10_readsStep_46 rfl rfl ?_
  obtain ⟨q1, T⟩ := T
  refine v_getI (pc' := 50) 8 5 dX10_readsStep_47 rfl (by decide) (by decide) rfl kf_X10_88 q1 ?_
  refine v_if_eq (tgt := 54) (pc' := 53) dX10_readsStep_50 (by decide) rfl ⟨fun c2 => ?_, fun c2 => ?_⟩
  · have T := T.1 c2
    refine v_aload_n (pc' := 55) dX10_readsStep_54 rfl rfl ?_
    refine v_dup (pc' := 56) dX10_readsStep_55 rfl rfl ?_
    refine v_getI (pc' := 59) 8 8 dX10_readsStep_56 rfl (by decide) (by decide) rfl kf_X10_124 q1 ?_
    refine v_iload_n (pc' := 60) dX10_readsStep_59 rfl rfl ?_
    refine v_bipush (pc' := 62) (v := 11) dX10_readsStep_60 rfl kB_11 ?_
    refine v_icmp_ne (tgt := 69) (pc' := 65) dX10_readsStep_62 (by decide) rfl ⟨fun c3 => ?_, fun c3 => ?_⟩
    · have T := T.1 c3
      refine v_iconst (pc' := 70) (v := 0) dX10_readsStep_69 rfl kI_0 ?_
      exact T
    · have T := T.2 c3
      refine v_iconst (pc' := 66) (v := 1) dX10_readsStep_65 rfl kI_1 ?_
      refine v_goto (pc' := 70) dX10_readsStep_66 (by decide) ?_
      exact T
  · have T := T.2 c2
    exact v_vret dX10_readsStep_53 rfl T
theorem bX10_readsStep_70 {G : GG} {d : Nat} {h : Hp} {o : OU} {h' : Hp} (r0 : Nat) (x1 : Int32) (s0 : Int32) (s1 : Int32) (t2 : Nat) (hd : 1 ≤ d) (T : kH h t2 = 18 ∧ kH h r0 = 18 ∧ ∃ h2, VM G mX10_skipWord (d - 1) [.ref r0] (h.1, (upI h.2 t2 8 (s1 + s0))) (.inl none) h2 ∧ kH h2 r0 = 18 ∧ kH h2 (rH h2 r0 21) = 7 ∧ vp_in (h2.2 r0 18) (lH h2 (rH h2 r0 21)) ∧ kH h2 (rH h2 (rH h2 r0 21) (h2.2 r0 18).toNatClampNeg) = 1 ∧ vp_in 0 (lH h2 (rH h2 (rH h2 r0 21) (h2.2 r0 18).toNatClampNeg)) ∧ ∃ h10, VM G mX10_numbers (d - 1) [.ref r0, .ref (rH h2 (rH h2 r0 21) (h2.2 r0 18).toNatClampNeg)] (h2.1, (upI (upI h2.2 r0 18 ((h2.2 r0 18) + 1)) (rH h2 (rH h2 r0 21) (h2.2 r0 18).toNatClampNeg) 0 x1)) (.inl none) h10 ∧ ((¬ x1 = 11 → kH h10 r0 = 18 ∧ kH h10 (rH h2 (rH h2 r0 21) (h2.2 r0 18).toNatClampNeg) = 1 ∧ vp_in 4 (lH h10 (rH h2 (rH h2 r0 21) (h2.2 r0 18).toNatClampNeg)) ∧ ∃ h16, VM G mX10_sign (d - 1) [.ref r0, .int 59] (h10.1, (upI h10.2 (rH h2 (rH h2 r0 21) (h2.2 r0 18).toNatClampNeg) 4 (h10.2 r0 18))) (.inl none) h16 ∧ (o = .inl none ∧ h' = h16)) ∧ (x1 = 11 → kH h10 r0 = 18 ∧ ∃ h18, VM G mX10_again (d - 1) [.ref r0, .ref (rH h2 (rH h2 r0 21) (h2.2 r0 18).toNatClampNeg)] h10 (.inl none) h18 ∧ kH h18 r0 = 18 ∧ kH h18 (rH h2 (rH h2 r0 21) (h2.2 r0 18).toNatClampNeg) = 1 ∧ vp_in 4 (lH h18 (rH h2 (rH h2 r0 21) (h2.2 r0 18).toNatClampNeg)) ∧ ∃ h24, VM G mX10_sign (d - 1) [.ref r0, .int 59] (h18.1, (upI h18.2 (rH h2 (rH h2 r0 21) (h2.2 r0 18).toNatClampNeg) 4 (h18.2 r0 18))) (.inl none) h24 ∧ (o = .inl none ∧ h' = h24)))) : V G mX10_readsStep d 70 [.ref r0, .int x1, uV] [.int s0, .int s1, .ref t2] h o h' := by
  have hdd : d - 1 + 1 ≤ d := by omega
  refine v_iadd (pc' := 71) dX10_readsStep_70 rfl ?_
  obtain ⟨q1, T⟩ := T
  refine v_putI (pc' := 74) 8 8 dX10_readsStep_71 rfl (by decide) (by decide) rfl rfl kf_X10_124 q1 ?_
  refine v_aload_n (pc' := 75) dX10_readsStep_74 rfl rfl ?_
  obtain ⟨q4, T⟩ := T
  obtain ⟨h2, k3, T⟩ := T
  refine v_callV (pc' := 78) (M1 := mX10_skipWord) (as := []) (r := r0) (rest := []) 8 dX10_readsStep_75 rfl ko_X10_145 kc_X10_skipWord ki_X10_skipWord ks_X10_skipWord (by decide) (by decide) hdd rfl rfl (le_l rfl) q4 k3 ?_
  refine v_aload_n (pc' := 79) dX10_readsStep_78 rfl rfl ?_
  obtain ⟨q5, T⟩ := T
  refine v_getR (pc' := 82) 8 21 dX10_readsStep_79 rfl (by decide) (by decide) rfl kf_X10_28 q5 ?_
  refine v_aload_n (pc' := 83) dX10_readsStep_82 rfl rfl ?_
  refine v_getI (pc' := 86) 8 18 dX10_readsStep_83 rfl (by decide) (by decide) rfl kf_X10_66 q5 ?_
  obtain ⟨q6, T⟩ := T
  obtain ⟨q7, T⟩ := T
  refine v_aald (pc' := 87) 7 dX10_readsStep_86 rfl rfl (by decide) q6 q7 ?_
  refine v_astore_n (pc' := 88) (loc' := [.ref r0, .int x1, .ref (rH h2 (rH h2 r0 21) (h2.2 r0 18).toNatClampNeg)]) dX10_readsStep_87 rfl (lt_l rfl) rfl ?_
  refine v_aload_n (pc' := 89) dX10_readsStep_88 rfl rfl ?_
  refine v_dup (pc' := 90) dX10_readsStep_89 rfl rfl ?_
  refine v_getI (pc' := 93) 8 18 dX10_readsStep_90 rfl (by decide) (by decide) rfl kf_X10_66 q5 ?_
  refine v_iconst (pc' := 94) (v := 1) dX10_readsStep_93 rfl kI_1 ?_
  refine v_iadd (pc' := 95) dX10_readsStep_94 rfl ?_
  refine v_putI (pc' := 98) 8 18 dX10_readsStep_95 rfl (by decide) (by decide) rfl rfl kf_X10_66 q5 ?_
  refine v_aload_n (pc' := 99) dX10_readsStep_98 rfl rfl ?_
  refine v_iconst (pc' := 100) (v := 0) dX10_readsStep_99 rfl kI_0 ?_
  refine v_iload_n (pc' := 101) dX10_readsStep_100 rfl rfl ?_
  obtain ⟨q8, T⟩ := T
  obtain ⟨q9, T⟩ := T
  refine v_iast (pc' := 102) dX10_readsStep_101 rfl kN_0 q8 q9 ?_
  refine v_aload_n (pc' := 103) dX10_readsStep_102 rfl rfl ?_
  refine v_aload_n (pc' := 104) dX10_readsStep_103 rfl rfl ?_
  obtain ⟨h10, k11, T⟩ := T
  refine v_callV (pc' := 107) (M1 := mX10_numbers) (as := [.ref (rH h2 (rH h2 r0 21) (h2.2 r0 18).toNatClampNeg)]) (r := r0) (rest := []) 8 dX10_readsStep_104 rfl ko_X10_148 kc_X10_numbers ki_X10_numbers ks_X10_numbers (by decide) (by decide) hdd rfl rfl (le_l rfl) q5 k11 ?_
  refine v_iload_n (pc' := 108) dX10_readsStep_107 rfl rfl ?_
  refine v_bipush (pc' := 110) (v := 11) dX10_readsStep_108 rfl kB_11 ?_
  refine v_icmp_ne (tgt := 118) (pc' := 113) dX10_readsStep_110 (by decide) rfl ⟨fun c12 => ?_, fun c12 => ?_⟩
  · have T := T.1 c12
    refine v_aload_n (pc' := 119) dX10_readsStep_118 rfl rfl ?_
    refine v_iconst (pc' := 120) (v := 4) dX10_readsStep_119 rfl kI_4 ?_
    refine v_aload_n (pc' := 121) dX10_readsStep_120 rfl rfl ?_
    obtain ⟨q13, T⟩ := T
    refine v_getI (pc' := 124) 8 18 dX10_readsStep_121 rfl (by decide) (by decide) rfl kf_X10_66 q13 ?_
    obtain ⟨q14, T⟩ := T
    obtain ⟨q15, T⟩ := T
    refine v_iast (pc' := 125) dX10_readsStep_124 rfl kN_4 q14 q15 ?_
    refine v_aload_n (pc' := 126) dX10_readsStep_125 rfl rfl ?_
    refine v_bipush (pc' := 128) (v := 59) dX10_readsStep_126 rfl kB_59 ?_
    obtain ⟨h16, k17, T⟩ := T
    refine v_callV (pc' := 131) (M1 := mX10_sign) (as := [.int 59]) (r := r0) (rest := []) 8 dX10_readsStep_128 rfl ko_X10_135 kc_X10_sign ki_X10_sign ks_X10_sign (by decide) (by decide) hdd rfl rfl (le_l rfl) q13 k17 ?_
    exact v_vret dX10_readsStep_131 rfl T
  · have T := T.2 c12
    refine v_aload_n (pc' := 114) dX10_readsStep_113 rfl rfl ?_
    refine v_aload_n (pc' := 115) dX10_readsStep_114 rfl rfl ?_
    obtain ⟨q20, T⟩ := T
    obtain ⟨h18, k19, T⟩ := T
    refine v_callV (pc' := 118) (M1 := mX10_again) (as := [.ref (rH h2 (rH h2 r0 21) (h2.2 r0 18).toNatClampNeg)]) (r := r0) (rest := []) 8 dX10_readsStep_115 rfl ko_X10_152 kc_X10_again ki_X10_again ks_X10_again (by decide) (by decide) hdd rfl rfl (le_l rfl) q20 k19 ?_
    refine v_aload_n (pc' := 119) dX10_readsStep_118 rfl rfl ?_
    refine v_iconst (pc' := 120) (v := 4) dX10_readsStep_119 rfl kI_4 ?_
    refine v_aload_n (pc' := 121) dX10_readsStep_120 rfl rfl ?_
    obtain ⟨q21, T⟩ := T
    refine v_getI (pc' := 124) 8 18 dX10_readsStep_121 rfl (by decide) (by decide) rfl kf_X10_66 q21 ?_
    obtain ⟨q22, T⟩ := T
    obtain ⟨q23, T⟩ := T
    refine v_iast (pc' := 125) dX10_readsStep_124 rfl kN_4 q22 q23 ?_
    refine v_aload_n (pc' := 126) dX10_readsStep_125 rfl rfl ?_
    refine v_bipush (pc' := 128) (v := 59) dX10_readsStep_126 rfl kB_59 ?_
    obtain ⟨h24, k25, T⟩ := T
    refine v_callV (pc' := 131) (M1 := mX10_sign) (as := [.int 59]) (r := r0) (rest := []) 8 dX10_readsStep_128 rfl ko_X10_135 kc_X10_sign ki_X10_sign ks_X10_sign (by decide) (by decide) hdd rfl rfl (le_l rfl) q21 k25 ?_
    exact v_vret dX10_readsStep_131 rfl T
theorem eX10_clause {G : GG} {d : Nat} {h : Hp} {o : OU} {h' : Hp} (r0 : Nat) (hd : 1 ≤ d) (T : kH h r0 = 18 ∧ ∃ z2 h1, VM G mX10_isWord (d - 1) [.ref r0, .int 19, .int 9, .int 26, .int 5, .int 0, .int 0] h (.inl (some (.int z2))) h1 ∧ kH h1 r0 = 18 ∧ ∃ z6 h5, VM G mX10_stepHere (d - 1) [.ref r0] h1 (.inl (some (.int z6))) h5 ∧ ((¬ z2 = 0 → kH h5 r0 = 18 ∧ ((¬ (h5.2 r0 7) = 60 → V G mX10_clause d 62 [.ref r0, .int z2, uV] [] h5 o h') ∧ ((h5.2 r0 7) = 60 → ∃ h12, VM G mX10_wrong (d - 1) [.ref r0, .int 3, .int (h5.2 r0 4)] h5 (.inl none) h12 ∧ V G mX10_clause d 62 [.ref r0, .int z2, uV] [] h12 o h'))) ∧ (z2 = 0 → ∃ z15 h14, VM G mX10_in (d - 1) [.int z6, .int 0, .int 4] h5 (.inl (some (.int z15))) h14 ∧ ((¬ z15 = 0 → kH h14 r0 = 18 ∧ ((¬ (h14.2 r0 7) = 60 → V G mX10_clause d 62 [.ref r0, .int z2, uV] [] h14 o h') ∧ ((h14.2 r0 7) = 60 → ∃ h20, VM G mX10_wrong (d - 1) [.ref r0, .int 3, .int (h14.2 r0 4)] h14 (.inl none) h20 ∧ V G mX10_clause d 62 [.ref r0, .int z2, uV] [] h20 o h'))) ∧ (z15 = 0 → kH h14 r0 = 18 ∧ ∃ h23, VM G mX10_wrong (d - 1) [.ref r0, .int 1, .int (h14.2 r0 4)] h14 (.inl none) h23 ∧ V G mX10_clause d 62 [.ref r0, .int z2, uV] [] h23 o h'))))) : VM G mX10_clause d [.ref r0] h o h' := by
  refine V.toM rfl rfl (le_l rfl) (cat_all rfl) ?_
  show V G mX10_clause d 0 [.ref r0, uV, uV] [] h o h'
  have hdd : d - 1 + 1 ≤ d := by omega
  refine v_aload_n (pc' := 1) dX10_clause_0 rfl rfl ?_
  refine v_bipush (pc' := 3) (v := 19) dX10_clause_1 rfl kB_19 ?_
  refine v_bipush (pc' := 5) (v := 9) dX10_clause_3 rfl kB_9 ?_
  refine v_bipush (pc' := 7) (v := 26) dX10_clause_5 rfl kB_26 ?_
  refine v_iconst (pc' := 8) (v := 5) dX10_clause_7 rfl kI_5 ?_
  refine v_iconst (pc' := 9) (v := 0) dX10_clause_8 rfl kI_0 ?_
  refine v_iconst (pc' := 10) (v := 0) dX10_clause_9 rfl kI_0 ?_
  obtain ⟨q4, T⟩ := T
  obtain ⟨z2, h1, k3, T⟩ := T
  refine v_callV (pc' := 13) (M1 := mX10_isWord) (as := [.int 19, .int 9, .int 26, .int 5, .int 0, .int 0]) (r := r0) (rest := []) 8 dX10_clause_10 rfl ko_X10_127 kc_X10_isWord ki_X10_isWord ks_X10_isWord (by decide) (by decide) hdd rfl rfl (le_l rfl) q4 k3 ?_
  refine v_istore_n (pc' := 14) (loc' := [.ref r0, .int z2, uV]) dX10_clause_13 rfl (lt_l rfl) rfl ?_
  refine v_aload_n (pc' := 15) dX10_clause_14 rfl rfl ?_
  obtain ⟨q8, T⟩ := T
  obtain ⟨z6, h5, k7, T⟩ := T
  refine v_callV (pc' := 18) (M1 := mX10_stepHere) (as := []) (r := r0) (rest := []) 8 dX10_clause_15 rfl ko_X10_142 kc_X10_stepHere ki_X10_stepHere ks_X10_stepHere (by decide) (by decide) hdd rfl rfl (le_l rfl) q8 k7 ?_
  refine v_istore_n (pc' := 19) (loc' := [.ref r0, .int z2, .int z6]) dX10_clause_18 rfl (lt_l rfl) rfl ?_
  refine v_iload_n (pc' := 20) dX10_clause_19 rfl rfl ?_
  refine v_if_ne (tgt := 44) (pc' := 23) dX10_clause_20 (by decide) rfl ⟨fun c9 => ?_, fun c9 => ?_⟩
  · have T := T.1 c9
    refine v_aload_n (pc' := 45) dX10_clause_44 rfl rfl ?_
    obtain ⟨q10, T⟩ := T
    refine v_getI (pc' := 48) 8 7 dX10_clause_45 rfl (by decide) (by decide) rfl kf_X10_121 q10 ?_
    refine v_bipush (pc' := 50) (v := 60) dX10_clause_48 rfl kB_60 ?_
    refine v_icmp_ne (tgt := 62) (pc' := 53) dX10_clause_50 (by decide) rfl ⟨fun c11 => ?_, fun c11 => ?_⟩
    · have T := T.1 c11
      exact V.drop (llp_r (llp_r (llp_u llp_nil))) T
    · have T := T.2 c11
      refine v_aload_n (pc' := 54) dX10_clause_53 rfl rfl ?_
      refine v_iconst (pc' := 55) (v := 3) dX10_clause_54 rfl kI_3 ?_
      refine v_aload_n (pc' := 56) dX10_clause_55 rfl rfl ?_
      refine v_getI (pc' := 59) 8 4 dX10_clause_56 rfl (by decide) (by decide) rfl kf_X10_81 q10 ?_
      obtain ⟨h12, k13, T⟩ := T
      refine v_callV (pc' := 62) (M1 := mX10_wrong) (as := [.int 3, .int (h5.2 r0 4)]) (r := r0) (rest := []) 8 dX10_clause_59 rfl ko_X10_101 kc_X10_wrong ki_X10_wrong ks_X10_wrong (by decide) (by decide) hdd rfl rfl (le_l rfl) q10 k13 ?_
      exact V.drop (llp_r (llp_r (llp_u llp_nil))) T
  · have T := T.2 c9
    refine v_iload_n (pc' := 24) dX10_clause_23 rfl rfl ?_
    refine v_iconst (pc' := 25) (v := 0) dX10_clause_24 rfl kI_0 ?_
    refine v_iconst (pc' := 26) (v := 4) dX10_clause_25 rfl kI_4 ?_
    obtain ⟨z15, h14, k16, T⟩ := T
    refine v_callS (pc' := 29) (M1 := mX10_in) (as := [.int z6, .int 0, .int 4]) (rest := []) dX10_clause_26 rfl ko_X10_106 kc_X10_in kt_X10_in (by decide) hdd rfl rfl (le_l rfl) k16 ?_
    refine v_if_ne (tgt := 44) (pc' := 32) dX10_clause_29 (by decide) rfl ⟨fun c17 => ?_, fun c17 => ?_⟩
    · have T := T.1 c17
      refine v_aload_n (pc' := 45) dX10_clause_44 rfl rfl ?_
      obtain ⟨q18, T⟩ := T
      refine v_getI (pc' := 48) 8 7 dX10_clause_45 rfl (by decide) (by decide) rfl kf_X10_121 q18 ?_
      refine v_bipush (pc' := 50) (v := 60) dX10_clause_48 rfl kB_60 ?_
      refine v_icmp_ne (tgt := 62) (pc' := 53) dX10_clause_50 (by decide) rfl ⟨fun c19 => ?_, fun c19 => ?_⟩
      · have T := T.1 c19
        exact V.drop (llp_r (llp_r (llp_u llp_nil))) T
      · have T := T.2 c19
        refine v_aload_n (pc' := 54) dX10_clause_53 rfl rfl ?_
        refine v_iconst (pc' := 55) (v := 3) dX10_clause_54 rfl kI_3 ?_
        refine v_aload_n (pc' := 56) dX10_clause_55 rfl rfl ?_
        refine v_getI (pc' := 59) 8 4 dX10_clause_56 rfl (by decide) (by decide) rfl kf_X10_81 q18 ?_
        obtain ⟨h20, k21, T⟩ := T
        refine v_callV (pc' := 62) (M1 := mX10_wrong) (as := [.int 3, .int (h14.2 r0 4)]) (r := r0) (rest := []) 8 dX10_clause_59 rfl ko_X10_101 kc_X10_wrong ki_X10_wrong ks_X10_wrong (by decide) (by decide) hdd rfl rfl (le_l rfl) q18 k21 ?_
        exact V.drop (llp_r (llp_r (llp_u llp_nil))) T
    · have T := T.2 c17
      refine v_aload_n (pc' := 33) dX10_clause_32 rfl rfl ?_
      refine v_iconst (pc' := 34) (v := 1) dX10_clause_33 rfl kI_1 ?_
      refine v_aload_n (pc' := 35) dX10_clause_34 rfl rfl ?_
      obtain ⟨q22, T⟩ := T
      refine v_getI (pc' := 38) 8 4 dX10_clause_35 rfl (by decide) (by decide) rfl kf_X10_81 q22 ?_
      obtain ⟨h23, k24, T⟩ := T
      refine v_callV (pc' := 41) (M1 := mX10_wrong) (as := [.int 1, .int (h14.2 r0 4)]) (r := r0) (rest := []) 8 dX10_clause_38 rfl ko_X10_101 kc_X10_wrong ki_X10_wrong ks_X10_wrong (by decide) (by decide) hdd rfl rfl (le_l rfl) q22 k24 ?_
      refine v_goto (pc' := 62) dX10_clause_41 (by decide) ?_
      exact V.drop (llp_r (llp_r (llp_u llp_nil))) T
theorem bX10_clause_62 {G : GG} {d : Nat} {h : Hp} {o : OU} {h' : Hp} (r0 : Nat) (x1 : Int32) (hd : 1 ≤ d) (T : kH h r0 = 18 ∧ (((h.2 r0 5) = 0 → ((¬ x1 = 0 → ∃ h4, VM G mX10_skipWord (d - 1) [.ref r0] (h.1, (upI h.2 r0 7 ((h.2 r0 7) + 1))) (.inl none) h4 ∧ kH h4 r0 = 18 ∧ ∃ z7 h6, VM G mX10_number (d - 1) [.ref r0, .int 6, .int 16] h4 (.inl (some (.int z7))) h6 ∧ kH h6 r0 = 18 ∧ ∃ h11, VM G mX10_sign (d - 1) [.ref r0, .int 59] (h6.1, (upI h6.2 r0 12 z7)) (.inl none) h11 ∧ (o = .inl none ∧ h' = h11)) ∧ (x1 = 0 → ∃ h13, VM G mX10_readsStep (d - 1) [.ref r0] (h.1, (upI h.2 r0 7 ((h.2 r0 7) + 1))) (.inl none) h13 ∧ (o = .inl none ∧ h' = h13)))) ∧ (¬ (h.2 r0 5) = 0 → (o = .inl none ∧ h' = h)))) : V G mX10_clause d 62 [.ref r0, .int x1, uV] [] h o h' := by
  have hdd : d - 1 + 1 ≤ d := by omega
  refine v_aload_n (pc' := 63) dX10_clause_62 rfl rfl ?_
  obtain ⟨q1, T⟩ := T
  refine v_getI (pc' := 66) 8 5 dX10_clause_63 rfl (by decide) (by decide) rfl kf_X10_88 q1 ?_
  refine v_if_eq (tgt := 70) (pc' := 69) dX10_clause_66 (by decide) rfl ⟨fun c2 => ?_, fun c2 => ?_⟩
  · have T := T.1 c2
    refine v_aload_n (pc' := 71) dX10_clause_70 rfl rfl ?_
    refine v_dup (pc' := 72) dX10_clause_71 rfl rfl ?_
    refine v_getI (pc' := 75) 8 7 dX10_clause_72 rfl (by decide) (by decide) rfl kf_X10_121 q1 ?_
    refine v_iconst (pc' := 76) (v := 1) dX10_clause_75 rfl kI_1 ?_
    refine v_iadd (pc' := 77) dX10_clause_76 rfl ?_
    refine v_putI (pc' := 80) 8 7 dX10_clause_77 rfl (by decide) (by decide) rfl rfl kf_X10_121 q1 ?_
    refine v_iload_n (pc' := 81) dX10_clause_80 rfl rfl ?_
    refine v_if_ne (tgt := 89) (pc' := 84) dX10_clause_81 (by decide) rfl ⟨fun c3 => ?_, fun c3 => ?_⟩
    · have T := T.1 c3
      refine v_aload_n (pc' := 90) dX10_clause_89 rfl rfl ?_
      obtain ⟨h4, k5, T⟩ := T
      refine v_callV (pc' := 93) (M1 := mX10_skipWord) (as := []) (r := r0) (rest := []) 8 dX10_clause_90 rfl ko_X10_145 kc_X10_skipWord ki_X10_skipWord ks_X10_skipWord (by decide) (by decide) hdd rfl rfl (le_l rfl) q1 k5 ?_
      refine v_aload_n (pc' := 94) dX10_clause_93 rfl rfl ?_
      refine v_aload_n (pc' := 95) dX10_clause_94 rfl rfl ?_
      refine v_bipush (pc' := 97) (v := 6) dX10_clause_95 rfl kB_6 ?_
      refine v_bipush (pc' := 99) (v := 16) dX10_clause_97 rfl kB_16 ?_
      obtain ⟨q9, T⟩ := T
      obtain ⟨z7, h6, k8, T⟩ := T
      refine v_callV (pc' := 102) (M1 := mX10_number) (as := [.int 6, .int 16]) (r := r0) (rest := [.ref r0]) 8 dX10_clause_99 rfl ko_X10_131 kc_X10_number ki_X10_number ks_X10_number (by decide) (by decide) hdd rfl rfl (le_l rfl) q9 k8 ?_
      obtain ⟨q10, T⟩ := T
      refine v_putI (pc' := 105) 8 12 dX10_clause_102 rfl (by decide) (by decide) rfl rfl kf_X10_63 q10 ?_
      refine v_aload_n (pc' := 106) dX10_clause_105 rfl rfl ?_
      refine v_bipush (pc' := 108) (v := 59) dX10_clause_106 rfl kB_59 ?_
      obtain ⟨h11, k12, T⟩ := T
      refine v_callV (pc' := 111) (M1 := mX10_sign) (as := [.int 59]) (r := r0) (rest := []) 8 dX10_clause_108 rfl ko_X10_135 kc_X10_sign ki_X10_sign ks_X10_sign (by decide) (by decide) hdd rfl rfl (le_l rfl) q10 k12 ?_
      exact v_vret dX10_clause_111 rfl T
    · have T := T.2 c3
      refine v_aload_n (pc' := 85) dX10_clause_84 rfl rfl ?_
      obtain ⟨h13, k14, T⟩ := T
      refine v_callV (pc' := 88) (M1 := mX10_readsStep) (as := []) (r := r0) (rest := []) 8 dX10_clause_85 rfl ko_X10_139 kc_X10_readsStep ki_X10_readsStep ks_X10_readsStep (by decide) (by decide) hdd rfl rfl (le_l rfl) q1 k14 ?_
      exact v_vret dX10_clause_88 rfl T
  · have T := T.2 c2
    exact v_vret dX10_clause_69 rfl T
theorem eX10_store {G : GG} {d : Nat} {h : Hp} {o : OU} {h' : Hp} (r0 : Nat) (x1 : Int32) (hd : 1 ≤ d) (T : kH h r0 = 18 ∧ ∃ z3 h2, VM G mX10_in (d - 1) [.int x1, .int 0, .int ((upI h.2 r0 0 0) r0 1)] (h.1, (upI h.2 r0 0 0)) (.inl (some (.int z3))) h2 ∧ ((¬ z3 = 0 → kH h2 r0 = 18 ∧ ∃ z7 h6, VM G mX10_bad (d - 1) [.ref r0, .int 0, .int 1, .int 1] h2 (.inl (some (.int z7))) h6 ∧ ((z7 = 0 → kH h6 r0 = 18 ∧ ∃ h11, VM G mX10_starts (d - 1) [.ref r0, .int x1] h6 (.inl none) h11 ∧ kH h11 r0 = 18 ∧ V G mX10_store d 49 [.ref r0, uV] [] (h11.1, (upI (upI h11.2 r0 12 16) r0 18 0)) o h') ∧ (¬ z7 = 0 → (o = .inl (some (.int 0)) ∧ h' = h6)))) ∧ (z3 = 0 → kH h2 r0 = 18 ∧ ∃ z16 h15, VM G mX10_bad (d - 1) [.ref r0, .int 1, .int 1, .int 1] h2 (.inl (some (.int z16))) h15 ∧ ((z16 = 0 → kH h15 r0 = 18 ∧ ∃ h20, VM G mX10_starts (d - 1) [.ref r0, .int x1] h15 (.inl none) h20 ∧ kH h20 r0 = 18 ∧ V G mX10_store d 49 [.ref r0, uV] [] (h20.1, (upI (upI h20.2 r0 12 16) r0 18 0)) o h') ∧ (¬ z16 = 0 → (o = .inl (some (.int 0)) ∧ h' = h15)))))) : VM G mX10_store d [.ref r0, .int x1] h o h' := by
  refine V.toM rfl rfl (le_l rfl) (cat_all rfl) ?_
  show V G mX10_store d 0 [.ref r0, .int x1] [] h o h'
  have hdd : d - 1 + 1 ≤ d := by omega
  refine v_aload_n (pc' := 1) dX10_store_0 rfl rfl ?_
  refine v_iconst (pc' := 2) (v := 0) dX10_store_1 rfl kI_0 ?_
  obtain ⟨q1, T⟩ := T
  refine v_putI (pc' := 5) 8 0 dX10_store_2 rfl (by decide) (by decide) rfl rfl kf_X10_72 q1 ?_
  refine v_aload_n (pc' := 6) dX10_store_5 rfl rfl ?_
  refine v_iload_n (pc' := 7) dX10_store_6 rfl rfl ?_
  refine v_iconst (pc' := 8) (v := 0) dX10_store_7 rfl kI_0 ?_
  refine v_aload_n (pc' := 9) dX10_store_8 rfl rfl ?_
  refine v_getI (pc' := 12) 8 1 dX10_store_9 rfl (by decide) (by decide) rfl kf_X10_75 q1 ?_
  obtain ⟨z3, h2, k4, T⟩ := T
  refine v_callS (pc' := 15) (M1 := mX10_in) (as := [.int x1, .int 0, .int ((upI h.2 r0 0 0) r0 1)]) (rest := [.ref r0]) dX10_store_12 rfl ko_X10_106 kc_X10_in kt_X10_in (by decide) hdd rfl rfl (le_l rfl) k4 ?_
  refine v_if_ne (tgt := 22) (pc' := 18) dX10_store_15 (by decide) rfl ⟨fun c5 => ?_, fun c5 => ?_⟩
  · have T := T.1 c5
    refine v_iconst (pc' := 23) (v := 0) dX10_store_22 rfl kI_0 ?_
    refine v_iconst (pc' := 24) (v := 1) dX10_store_23 rfl kI_1 ?_
    refine v_iconst (pc' := 25) (v := 1) dX10_store_24 rfl kI_1 ?_
    obtain ⟨q9, T⟩ := T
    obtain ⟨z7, h6, k8, T⟩ := T
    refine v_callV (pc' := 28) (M1 := mX10_bad) (as := [.int 0, .int 1, .int 1]) (r := r0) (rest := []) 8 dX10_store_25 rfl ko_X10_155 kc_X10_bad ki_X10_bad ks_X10_bad (by decide) (by decide) hdd rfl rfl (le_l rfl) q9 k8 ?_
    refine v_if_eq (tgt := 33) (pc' := 31) dX10_store_28 (by decide) rfl ⟨fun c10 => ?_, fun c10 => ?_⟩
    · have T := T.1 c10
      refine v_aload_n (pc' := 34) dX10_store_33 rfl rfl ?_
      refine v_iload_n (pc' := 35) dX10_store_34 rfl rfl ?_
      obtain ⟨q13, T⟩ := T
      obtain ⟨h11, k12, T⟩ := T
      refine v_callV (pc' := 38) (M1 := mX10_starts) (as := [.int x1]) (r := r0) (rest := []) 8 dX10_store_35 rfl ko_X10_159 kc_X10_starts ki_X10_starts ks_X10_starts (by decide) (by decide) hdd rfl rfl (le_l rfl) q13 k12 ?_
      refine v_aload_n (pc' := 39) dX10_store_38 rfl rfl ?_
      refine v_bipush (pc' := 41) (v := 16) dX10_store_39 rfl kB_16 ?_
      obtain ⟨q14, T⟩ := T
      refine v_putI (pc' := 44) 8 12 dX10_store_41 rfl (by decide) (by decide) rfl rfl kf_X10_63 q14 ?_
      refine v_aload_n (pc' := 45) dX10_store_44 rfl rfl ?_
      refine v_iconst (pc' := 46) (v := 0) dX10_store_45 rfl kI_0 ?_
      refine v_putI (pc' := 49) 8 18 dX10_store_46 rfl (by decide) (by decide) rfl rfl kf_X10_66 q14 ?_
      exact V.drop (llp_r (llp_u llp_nil)) T
    · have T := T.2 c10
      refine v_iconst (pc' := 32) (v := 0) dX10_store_31 rfl kI_0 ?_
      exact v_iret dX10_store_32 rfl T
  · have T := T.2 c5
    refine v_iconst (pc' := 19) (v := 1) dX10_store_18 rfl kI_1 ?_
    refine v_goto (pc' := 23) dX10_store_19 (by decide) ?_
    refine v_iconst (pc' := 24) (v := 1) dX10_store_23 rfl kI_1 ?_
    refine v_iconst (pc' := 25) (v := 1) dX10_store_24 rfl kI_1 ?_
    obtain ⟨q18, T⟩ := T
    obtain ⟨z16, h15, k17, T⟩ := T
    refine v_callV (pc' := 28) (M1 := mX10_bad) (as := [.int 1, .int 1, .int 1]) (r := r0) (rest := []) 8 dX10_store_25 rfl ko_X10_155 kc_X10_bad ki_X10_bad ks_X10_bad (by decide) (by decide) hdd rfl rfl (le_l rfl) q18 k17 ?_
    refine v_if_eq (tgt := 33) (pc' := 31) dX10_store_28 (by decide) rfl ⟨fun c19 => ?_, fun c19 => ?_⟩
    · have T := T.1 c19
      refine v_aload_n (pc' := 34) dX10_store_33 rfl rfl ?_
      refine v_iload_n (pc' := 35) dX10_store_34 rfl rfl ?_
      obtain ⟨q22, T⟩ := T
      obtain ⟨h20, k21, T⟩ := T
      refine v_callV (pc' := 38) (M1 := mX10_starts) (as := [.int x1]) (r := r0) (rest := []) 8 dX10_store_35 rfl ko_X10_159 kc_X10_starts ki_X10_starts ks_X10_starts (by decide) (by decide) hdd rfl rfl (le_l rfl) q22 k21 ?_
      refine v_aload_n (pc' := 39) dX10_store_38 rfl rfl ?_
      refine v_bipush (pc' := 41) (v := 16) dX10_store_39 rfl kB_16 ?_
      obtain ⟨q23, T⟩ := T
      refine v_putI (pc' := 44) 8 12 dX10_store_41 rfl (by decide) (by decide) rfl rfl kf_X10_63 q23 ?_
      refine v_aload_n (pc' := 45) dX10_store_44 rfl rfl ?_
      refine v_iconst (pc' := 46) (v := 0) dX10_store_45 rfl kI_0 ?_
      refine v_putI (pc' := 49) 8 18 dX10_store_46 rfl (by decide) (by decide) rfl rfl kf_X10_66 q23 ?_
      exact V.drop (llp_r (llp_u llp_nil)) T
    · have T := T.2 c19
      refine v_iconst (pc' := 32) (v := 0) dX10_store_31 rfl kI_0 ?_
      exact v_iret dX10_store_32 rfl T
theorem bX10_store_49 {G : GG} {d : Nat} {h : Hp} {o : OU} {h' : Hp} (r0 : Nat) (hd : 1 ≤ d) (T : kH h r0 = 18 ∧ ((¬ (h.2 r0 5) = 0 → (((h.2 r0 5) = 0 → ∃ h4, VM G mX10_beginsAnew (d - 1) [.ref r0] (h.1, (upI h.2 r0 3 (-1))) (.inl none) h4 ∧ kH h4 r0 = 18 ∧ (o = .inl (some (.int (h4.2 r0 11))) ∧ h' = h4)) ∧ (¬ (h.2 r0 5) = 0 → ∃ z8 h7, VM G mX10_ends (d - 1) [.ref r0] h (.inl (some (.int z8))) h7 ∧ (o = .inl (some (.int z8)) ∧ h' = h7)))) ∧ ((h.2 r0 5) = 0 → (((h.2 r0 2) ≤ (h.2 r0 4) → (((h.2 r0 5) = 0 → ∃ h12, VM G mX10_beginsAnew (d - 1) [.ref r0] (h.1, (upI h.2 r0 3 (-1))) (.inl none) h12 ∧ kH h12 r0 = 18 ∧ (o = .inl (some (.int (h12.2 r0 11))) ∧ h' = h12)) ∧ (¬ (h.2 r0 5) = 0 → ∃ z16 h15, VM G mX10_ends (d - 1) [.ref r0] h (.inl (some (.int z16))) h15 ∧ (o = .inl (some (.int z16)) ∧ h' = h15)))) ∧ (¬ (h.2 r0 2) ≤ (h.2 r0 4) → ∃ h18, VM G mX10_clause (d - 1) [.ref r0] h (.inl none) h18 ∧ kH h18 r0 = 18 ∧ ∃ h20, VM G mX10_blanks (d - 1) [.ref r0] h18 (.inl none) h20 ∧ V G mX10_store d 49 [.ref r0, uV] [] h20 o h'))))) : V G mX10_store d 49 [.ref r0, uV] [] h o h' := by
  have hdd : d - 1 + 1 ≤ d := by omega
  refine v_aload_n (pc' := 50) dX10_store_49 rfl rfl ?_
  obtain ⟨q1, T⟩ := T
  refine v_getI (pc' := 53) 8 5 dX10_store_50 rfl (by decide) (by decide) rfl kf_X10_88 q1 ?_
  refine v_if_ne (tgt := 78) (pc' := 56) dX10_store_53 (by decide) rfl ⟨fun c2 => ?_, fun c2 => ?_⟩
  · have T := T.1 c2
    refine v_aload_n (pc' := 79) dX10_store_78 rfl rfl ?_
    refine v_getI (pc' := 82) 8 5 dX10_store_79 rfl (by decide) (by decide) rfl kf_X10_88 q1 ?_
    refine v_if_eq (tgt := 90) (pc' := 85) dX10_store_82 (by decide) rfl ⟨fun c3 => ?_, fun c3 => ?_⟩
    · have T := T.1 c3
      refine v_aload_n (pc' := 91) dX10_store_90 rfl rfl ?_
      refine v_iconst (pc' := 92) (v := (-1)) dX10_store_91 rfl kI_m1 ?_
      refine v_putI (pc' := 95) 8 3 dX10_store_92 rfl (by decide) (by decide) rfl rfl kf_X10_9 q1 ?_
      refine v_aload_n (pc' := 96) dX10_store_95 rfl rfl ?_
      obtain ⟨h4, k5, T⟩ := T
      refine v_callV (pc' := 99) (M1 := mX10_beginsAnew) (as := []) (r := r0) (rest := []) 8 dX10_store_96 rfl ko_X10_69 kc_X10_beginsAnew ki_X10_beginsAnew ks_X10_beginsAnew (by decide) (by decide) hdd rfl rfl (le_l rfl) q1 k5 ?_
      refine v_aload_n (pc' := 100) dX10_store_99 rfl rfl ?_
      obtain ⟨q6, T⟩ := T
      refine v_getI (pc' := 103) 8 11 dX10_store_100 rfl (by decide) (by decide) rfl kf_X10_168 q6 ?_
      exact v_iret dX10_store_103 rfl T
    · have T := T.2 c3
      refine v_aload_n (pc' := 86) dX10_store_85 rfl rfl ?_
      obtain ⟨z8, h7, k9, T⟩ := T
      refine v_callV (pc' := 89) (M1 := mX10_ends) (as := []) (r := r0) (rest := []) 8 dX10_store_86 rfl ko_X10_165 kc_X10_ends ki_X10_ends ks_X10_ends (by decide) (by decide) hdd rfl rfl (le_l rfl) q1 k9 ?_
      exact v_iret dX10_store_89 rfl T
  · have T := T.2 c2
    refine v_aload_n (pc' := 57) dX10_store_56 rfl rfl ?_
    refine v_getI (pc' := 60) 8 4 dX10_store_57 rfl (by decide) (by decide) rfl kf_X10_81 q1 ?_
    refine v_aload_n (pc' := 61) dX10_store_60 rfl rfl ?_
    refine v_getI (pc' := 64) 8 2 dX10_store_61 rfl (by decide) (by decide) rfl kf_X10_78 q1 ?_
    refine v_icmp_ge (tgt := 78) (pc' := 67) dX10_store_64 (by decide) rfl ⟨fun c10 => ?_, fun c10 => ?_⟩
    · have T := T.1 c10
      refine v_aload_n (pc' := 79) dX10_store_78 rfl rfl ?_
      refine v_getI (pc' := 82) 8 5 dX10_store_79 rfl (by decide) (by decide) rfl kf_X10_88 q1 ?_
      refine v_if_eq (tgt := 90) (pc' := 85) dX10_store_82 (by decide) rfl ⟨fun c11 => ?_, fun c11 => ?_⟩
      · have T := T.1 c11
        refine v_aload_n (pc' := 91) dX10_store_90 rfl rfl ?_
        refine v_iconst (pc' := 92) (v := (-1)) dX10_store_91 rfl kI_m1 ?_
        refine v_putI (pc' := 95) 8 3 dX10_store_92 rfl (by decide) (by decide) rfl rfl kf_X10_9 q1 ?_
        refine v_aload_n (pc' := 96) dX10_store_95 rfl rfl ?_
        obtain ⟨h12, k13, T⟩ := T
        refine v_callV (pc' := 99) (M1 := mX10_beginsAnew) (as := []) (r := r0) (rest := []) 8 dX10_store_96 rfl ko_X10_69 kc_X10_beginsAnew ki_X10_beginsAnew ks_X10_beginsAnew (by decide) (by decide) hdd rfl rfl (le_l rfl) q1 k13 ?_
        refine v_aload_n (pc' := 100) dX10_store_99 rfl rfl ?_
        obtain ⟨q14, T⟩ := T
        refine v_getI (pc' := 103) 8 11 dX10_store_100 rfl (by decide) (by decide) rfl kf_X10_168 q14 ?_
        exact v_iret dX10_store_103 rfl T
      · have T := T.2 c11
        refine v_aload_n (pc' := 86) dX10_store_85 rfl rfl ?_
        obtain ⟨z16, h15, k17, T⟩ := T
        refine v_callV (pc' := 89) (M1 := mX10_ends) (as := []) (r := r0) (rest := []) 8 dX10_store_86 rfl ko_X10_165 kc_X10_ends ki_X10_ends ks_X10_ends (by decide) (by decide) hdd rfl rfl (le_l rfl) q1 k17 ?_
        exact v_iret dX10_store_89 rfl T
    · have T := T.2 c10
      refine v_aload_n (pc' := 68) dX10_store_67 rfl rfl ?_
      obtain ⟨h18, k19, T⟩ := T
      refine v_callV (pc' := 71) (M1 := mX10_clause) (as := []) (r := r0) (rest := []) 8 dX10_store_68 rfl ko_X10_162 kc_X10_clause ki_X10_clause ks_X10_clause (by decide) (by decide) hdd rfl rfl (le_l rfl) q1 k19 ?_
      refine v_aload_n (pc' := 72) dX10_store_71 rfl rfl ?_
      obtain ⟨q22, T⟩ := T
      obtain ⟨h20, k21, T⟩ := T
      refine v_callV (pc' := 75) (M1 := mX10_blanks) (as := []) (r := r0) (rest := []) 8 dX10_store_72 rfl ko_X10_94 kc_X10_blanks ki_X10_blanks ks_X10_blanks (by decide) (by decide) hdd rfl rfl (le_l rfl) q22 k21 ?_
      refine v_goto (pc' := 49) dX10_store_75 (by decide) ?_
      exact T
theorem eX10_copies {G : GG} {d : Nat} {h : Hp} {o : OU} {h' : Hp} (r0 : Nat) (r1 : Nat) (T : V G mX10_copies d 2 [.ref r0, .ref r1, .int 0] [] h o h') : VM G mX10_copies d [.ref r0, .ref r1] h o h' := by
  refine V.toM rfl rfl (le_l rfl) (cat_all rfl) ?_
  show V G mX10_copies d 0 [.ref r0, .ref r1, uV] [] h o h'
  refine v_iconst (pc' := 1) (v := 0) dX10_copies_0 rfl kI_0 ?_
  refine v_istore_n (pc' := 2) (loc' := [.ref r0, .ref r1, .int 0]) dX10_copies_1 rfl (lt_l rfl) rfl ?_
  exact T
theorem bX10_copies_2 {G : GG} {d : Nat} {h : Hp} {o : OU} {h' : Hp} (r0 : Nat) (r1 : Nat) (x2 : Int32) (T : ((3398 ≤ x2 → (o = .inl none ∧ h' = h)) ∧ (¬ 3398 ≤ x2 → kH h r0 = 1 ∧ vp_in x2 (lH h r0) ∧ kH h r1 = 1 ∧ vp_in x2 (lH h r1) ∧ V G mX10_copies d 2 [.ref r0, .ref r1, .int (x2 + 1)] [] (h.1, (upI h.2 r1 x2.toNatClampNeg (h.2 r0 x2.toNatClampNeg))) o h'))) : V G mX10_copies d 2 [.ref r0, .ref r1, .int x2] [] h o h' := by
  refine v_iload_n (pc' := 3) dX10_copies_2 rfl rfl ?_
  refine v_sipush (pc' := 6) (v := 3398) dX10_copies_3 rfl kS_3398 ?_
  refine v_icmp_ge (tgt := 21) (pc' := 9) dX10_copies_6 (by decide) rfl ⟨fun c1 => ?_, fun c1 => ?_⟩
  · have T := T.1 c1
    exact v_vret dX10_copies_21 rfl T
  · have T := T.2 c1
    refine v_aload_n (pc' := 10) dX10_copies_9 rfl rfl ?_
    refine v_iload_n (pc' := 11) dX10_copies_10 rfl rfl ?_
    refine v_aload_n (pc' := 12) dX10_copies_11 rfl rfl ?_
    refine v_iload_n (pc' := 13) dX10_copies_12 rfl rfl ?_
    obtain ⟨q2, T⟩ := T
    obtain ⟨q3, T⟩ := T
    refine v_iald (pc' := 14) dX10_copies_13 rfl rfl q2 q3 ?_
    obtain ⟨q4, T⟩ := T
    obtain ⟨q5, T⟩ := T
    refine v_iast (pc' := 15) dX10_copies_14 rfl rfl q4 q5 ?_
    refine v_iinc (pc' := 18) (loc' := [.ref r0, .ref r1, .int (x2 + 1)]) dX10_copies_15 rfl rfl (kX_1 _) rfl ?_
    refine v_goto (pc' := 2) dX10_copies_18 (by decide) ?_
    exact T
theorem eX10_safe {G : GG} {d : Nat} {h : Hp} {o : OU} {h' : Hp} (r0 : Nat) (T : V G mX10_safe d 2 [.ref r0, .int 0] [] h o h') : VM G mX10_safe d [.ref r0] h o h' := by
  refine V.toM rfl rfl (le_l rfl) (cat_all rfl) ?_
  show V G mX10_safe d 0 [.ref r0, uV] [] h o h'
  refine v_iconst (pc' := 1) (v := 0) dX10_safe_0 rfl kI_0 ?_
  refine v_istore_n (pc' := 2) (loc' := [.ref r0, .int 0]) dX10_safe_1 rfl (lt_l rfl) rfl ?_
  exact T
theorem bX10_safe_2 {G : GG} {d : Nat} {h : Hp} {o : OU} {h' : Hp} (r0 : Nat) (x1 : Int32) (T : ((256 ≤ x1 → kH h r0 = 1 ∧ vp_in 3392 (lH h r0) ∧ vp_in 3393 (lH h r0) ∧ (o = .inl none ∧ h' = (h.1, (upI (upI h.2 r0 3392 0) r0 3393 0)))) ∧ (¬ 256 ≤ x1 → kH h r0 = 1 ∧ vp_in (0 + x1) (lH h r0) ∧ vp_in (256 + x1) (lH h r0) ∧ V G mX10_safe d 2 [.ref r0, .int (x1 + 1)] [] (h.1, (upI h.2 r0 (256 + x1).toNatClampNeg (h.2 r0 (0 + x1).toNatClampNeg))) o h'))) : V G mX10_safe d 2 [.ref r0, .int x1] [] h o h' := by
  refine v_iload_n (pc' := 3) dX10_safe_2 rfl rfl ?_
  refine v_sipush (pc' := 6) (v := 256) dX10_safe_3 rfl kS_256 ?_
  refine v_icmp_ge (tgt := 27) (pc' := 9) dX10_safe_6 (by decide) rfl ⟨fun c1 => ?_, fun c1 => ?_⟩
  · have T := T.1 c1
    refine v_aload_n (pc' := 28) dX10_safe_27 rfl rfl ?_
    refine v_sipush (pc' := 31) (v := 3392) dX10_safe_28 rfl kS_3392 ?_
    refine v_iconst (pc' := 32) (v := 0) dX10_safe_31 rfl kI_0 ?_
    obtain ⟨q2, T⟩ := T
    obtain ⟨q3, T⟩ := T
    refine v_iast (pc' := 33) dX10_safe_32 rfl kN_3392 q2 q3 ?_
    refine v_aload_n (pc' := 34) dX10_safe_33 rfl rfl ?_
    refine v_sipush (pc' := 37) (v := 3393) dX10_safe_34 rfl kS_3393 ?_
    refine v_iconst (pc' := 38) (v := 0) dX10_safe_37 rfl kI_0 ?_
    obtain ⟨q4, T⟩ := T
    refine v_iast (pc' := 39) dX10_safe_38 rfl kN_3393 q2 q4 ?_
    exact v_vret dX10_safe_39 rfl T
  · have T := T.2 c1
    refine v_aload_n (pc' := 10) dX10_safe_9 rfl rfl ?_
    refine v_sipush (pc' := 13) (v := 256) dX10_safe_10 rfl kS_256 ?_
    refine v_iload_n (pc' := 14) dX10_safe_13 rfl rfl ?_
    refine v_iadd (pc' := 15) dX10_safe_14 rfl ?_
    refine v_aload_n (pc' := 16) dX10_safe_15 rfl rfl ?_
    refine v_iconst (pc' := 17) (v := 0) dX10_safe_16 rfl kI_0 ?_
    refine v_iload_n (pc' := 18) dX10_safe_17 rfl rfl ?_
    refine v_iadd (pc' := 19) dX10_safe_18 rfl ?_
    obtain ⟨q5, T⟩ := T
    obtain ⟨q6, T⟩ := T
    refine v_iald (pc' := 20) dX10_safe_19 rfl rfl q5 q6 ?_
    obtain ⟨q7, T⟩ := T
    refine v_iast (pc' := 21) dX10_safe_20 rfl rfl q5 q7 ?_
    refine v_iinc (pc' := 24) (loc' := [.ref r0, .int (x1 + 1)]) dX10_safe_21 rfl rfl (kX_1 _) rfl ?_
    refine v_goto (pc' := 2) dX10_safe_24 (by decide) ?_
    exact T
theorem eX10_beginsAnew {G : GG} {d : Nat} {h : Hp} {o : OU} {h' : Hp} (r0 : Nat) (T : kH h r0 = 18 ∧ V G mX10_beginsAnew d 10 [.ref r0, .int 0] [] (h.1, (upI h.2 r0 11 (h.2 r0 12))) o h') : VM G mX10_beginsAnew d [.ref r0] h o h' := by
  refine V.toM rfl rfl (le_l rfl) (cat_all rfl) ?_
  show V G mX10_beginsAnew d 0 [.ref r0, uV] [] h o h'
  refine v_aload_n (pc' := 1) dX10_beginsAnew_0 rfl rfl ?_
  refine v_aload_n (pc' := 2) dX10_beginsAnew_1 rfl rfl ?_
  obtain ⟨q1, T⟩ := T
  refine v_getI (pc' := 5) 8 12 dX10_beginsAnew_2 rfl (by decide) (by decide) rfl kf_X10_63 q1 ?_
  refine v_putI (pc' := 8) 8 11 dX10_beginsAnew_5 rfl (by decide) (by decide) rfl rfl kf_X10_168 q1 ?_
  refine v_iconst (pc' := 9) (v := 0) dX10_beginsAnew_8 rfl kI_0 ?_
  refine v_istore_n (pc' := 10) (loc' := [.ref r0, .int 0]) dX10_beginsAnew_9 rfl (lt_l rfl) rfl ?_
  exact T
theorem bX10_beginsAnew_10 {G : GG} {d : Nat} {h : Hp} {o : OU} {h' : Hp} (r0 : Nat) (x1 : Int32) (T : ((3398 ≤ x1 → V G mX10_beginsAnew d 32 [.ref r0, .int 0] [] h o h') ∧ (¬ 3398 ≤ x1 → kH h r0 = 18 ∧ kH h (rH h r0 22) = 1 ∧ vp_in x1 (lH h (rH h r0 22)) ∧ V G mX10_beginsAnew d 10 [.ref r0, .int (x1 + 1)] [] (h.1, (upI h.2 (rH h r0 22) x1.toNatClampNeg 0)) o h'))) : V G mX10_beginsAnew d 10 [.ref r0, .int x1] [] h o h' := by
  refine v_iload_n (pc' := 11) dX10_beginsAnew_10 rfl rfl ?_
  refine v_sipush (pc' := 14) (v := 3398) dX10_beginsAnew_11 rfl kS_3398 ?_
  refine v_icmp_ge (tgt := 30) (pc' := 17) dX10_beginsAnew_14 (by decide) rfl ⟨fun c1 => ?_, fun c1 => ?_⟩
  · have T := T.1 c1
    refine v_iconst (pc' := 31) (v := 0) dX10_beginsAnew_30 rfl kI_0 ?_
    refine v_istore_n (pc' := 32) (loc' := [.ref r0, .int 0]) dX10_beginsAnew_31 rfl (lt_l rfl) rfl ?_
    exact T
  · have T := T.2 c1
    refine v_aload_n (pc' := 18) dX10_beginsAnew_17 rfl rfl ?_
    obtain ⟨q2, T⟩ := T
    refine v_getR (pc' := 21) 8 22 dX10_beginsAnew_18 rfl (by decide) (by decide) rfl kf_X10_31 q2 ?_
    refine v_iload_n (pc' := 22) dX10_beginsAnew_21 rfl rfl ?_
    refine v_iconst (pc' := 23) (v := 0) dX10_beginsAnew_22 rfl kI_0 ?_
    obtain ⟨q3, T⟩ := T
    obtain ⟨q4, T⟩ := T
    refine v_iast (pc' := 24) dX10_beginsAnew_23 rfl rfl q3 q4 ?_
    refine v_iinc (pc' := 27) (loc' := [.ref r0, .int (x1 + 1)]) dX10_beginsAnew_24 rfl rfl (kX_1 _) rfl ?_
    refine v_goto (pc' := 10) dX10_beginsAnew_27 (by decide) ?_
    exact T
theorem bX10_beginsAnew_32 {G : GG} {d : Nat} {h : Hp} {o : OU} {h' : Hp} (r0 : Nat) (x1 : Int32) (hd : 1 ≤ d) (T : ((5 ≤ x1 → kH h r0 = 18 ∧ ∃ z4 h3, VM G mX10_byteOf (d - 1) [.int 0, .int 0] h (.inl (some (.int z4))) h3 ∧ kH h3 (rH h r0 22) = 1 ∧ vp_in z4 (lH h3 (rH h r0 22)) ∧ kH h3 r0 = 18 ∧ ∃ z10 h9, VM G mX10_byteOf (d - 1) [.int 0, .int 1] (h3.1, (upI h3.2 (rH h r0 22) z4.toNatClampNeg 1)) (.inl (some (.int z10))) h9 ∧ kH h9 (rH h3 r0 22) = 1 ∧ vp_in z10 (lH h9 (rH h3 r0 22)) ∧ kH h9 r0 = 18 ∧ ∃ z16 h15, VM G mX10_byteOf (d - 1) [.int 0, .int 2] (h9.1, (upI h9.2 (rH h3 r0 22) z10.toNatClampNeg 2)) (.inl (some (.int z16))) h15 ∧ kH h15 (rH h9 r0 22) = 1 ∧ vp_in z16 (lH h15 (rH h9 r0 22)) ∧ kH h15 r0 = 18 ∧ ∃ h21, VM G mX10_safe (d - 1) [.ref (rH h15 r0 22)] (h15.1, (upI h15.2 (rH h9 r0 22) z16.toNatClampNeg 4)) (.inl none) h21 ∧ V G mX10_beginsAnew d 94 [.ref r0, .int 0] [] h21 o h') ∧ (¬ 5 ≤ x1 → kH h r0 = 18 ∧ kH h (rH h r0 22) = 1 ∧ vp_in (0 + x1) (lH h (rH h r0 22)) ∧ V G mX10_beginsAnew d 32 [.ref r0, .int (x1 + 1)] [] (h.1, (upI h.2 (rH h r0 22) (0 + x1).toNatClampNeg 1)) o h'))) : V G mX10_beginsAnew d 32 [.ref r0, .int x1] [] h o h' := by
  have hdd : d - 1 + 1 ≤ d := by omega
  refine v_iload_n (pc' := 33) dX10_beginsAnew_32 rfl rfl ?_
  refine v_iconst (pc' := 34) (v := 5) dX10_beginsAnew_33 rfl kI_5 ?_
  refine v_icmp_ge (tgt := 52) (pc' := 37) dX10_beginsAnew_34 (by decide) rfl ⟨fun c1 => ?_, fun c1 => ?_⟩
  · have T := T.1 c1
    refine v_aload_n (pc' := 53) dX10_beginsAnew_52 rfl rfl ?_
    obtain ⟨q2, T⟩ := T
    refine v_getR (pc' := 56) 8 22 dX10_beginsAnew_53 rfl (by decide) (by decide) rfl kf_X10_31 q2 ?_
    refine v_iconst (pc' := 57) (v := 0) dX10_beginsAnew_56 rfl kI_0 ?_
    refine v_iconst (pc' := 58) (v := 0) dX10_beginsAnew_57 rfl kI_0 ?_
    obtain ⟨z4, h3, k5, T⟩ := T
    refine v_callS (pc' := 61) (M1 := mX10_byteOf) (as := [.int 0, .int 0]) (rest := [.ref (rH h r0 22)]) dX10_beginsAnew_58 rfl ko_X10_171 kc_X10_byteOf kt_X10_byteOf (by decide) hdd rfl rfl (le_l rfl) k5 ?_
    refine v_iconst (pc' := 62) (v := 1) dX10_beginsAnew_61 rfl kI_1 ?_
    obtain ⟨q6, T⟩ := T
    obtain ⟨q7, T⟩ := T
    refine v_iast (pc' := 63) dX10_beginsAnew_62 rfl rfl q6 q7 ?_
    refine v_aload_n (pc' := 64) dX10_beginsAnew_63 rfl rfl ?_
    obtain ⟨q8, T⟩ := T
    refine v_getR (pc' := 67) 8 22 dX10_beginsAnew_64 rfl (by decide) (by decide) rfl kf_X10_31 q8 ?_
    refine v_iconst (pc' := 68) (v := 0) dX10_beginsAnew_67 rfl kI_0 ?_
    refine v_iconst (pc' := 69) (v := 1) dX10_beginsAnew_68 rfl kI_1 ?_
    obtain ⟨z10, h9, k11, T⟩ := T
    refine v_callS (pc' := 72) (M1 := mX10_byteOf) (as := [.int 0, .int 1]) (rest := [.ref (rH h3 r0 22)]) dX10_beginsAnew_69 rfl ko_X10_171 kc_X10_byteOf kt_X10_byteOf (by decide) hdd rfl rfl (le_l rfl) k11 ?_
    refine v_iconst (pc' := 73) (v := 2) dX10_beginsAnew_72 rfl kI_2 ?_
    obtain ⟨q12, T⟩ := T
    obtain ⟨q13, T⟩ := T
    refine v_iast (pc' := 74) dX10_beginsAnew_73 rfl rfl q12 q13 ?_
    refine v_aload_n (pc' := 75) dX10_beginsAnew_74 rfl rfl ?_
    obtain ⟨q14, T⟩ := T
    refine v_getR (pc' := 78) 8 22 dX10_beginsAnew_75 rfl (by decide) (by decide) rfl kf_X10_31 q14 ?_
    refine v_iconst (pc' := 79) (v := 0) dX10_beginsAnew_78 rfl kI_0 ?_
    refine v_iconst (pc' := 80) (v := 2) dX10_beginsAnew_79 rfl kI_2 ?_
    obtain ⟨z16, h15, k17, T⟩ := T
    refine v_callS (pc' := 83) (M1 := mX10_byteOf) (as := [.int 0, .int 2]) (rest := [.ref (rH h9 r0 22)]) dX10_beginsAnew_80 rfl ko_X10_171 kc_X10_byteOf kt_X10_byteOf (by decide) hdd rfl rfl (le_l rfl) k17 ?_
    refine v_iconst (pc' := 84) (v := 4) dX10_beginsAnew_83 rfl kI_4 ?_
    obtain ⟨q18, T⟩ := T
    obtain ⟨q19, T⟩ := T
    refine v_iast (pc' := 85) dX10_beginsAnew_84 rfl rfl q18 q19 ?_
    refine v_aload_n (pc' := 86) dX10_beginsAnew_85 rfl rfl ?_
    obtain ⟨q20, T⟩ := T
    refine v_getR (pc' := 89) 8 22 dX10_beginsAnew_86 rfl (by decide) (by decide) rfl kf_X10_31 q20 ?_
    obtain ⟨h21, k22, T⟩ := T
    refine v_callS (pc' := 92) (M1 := mX10_safe) (as := [.ref (rH h15 r0 22)]) (rest := []) dX10_beginsAnew_89 rfl ko_X10_174 kc_X10_safe kt_X10_safe (by decide) hdd rfl rfl (le_l rfl) k22 ?_
    refine v_iconst (pc' := 93) (v := 0) dX10_beginsAnew_92 rfl kI_0 ?_
    refine v_istore_n (pc' := 94) (loc' := [.ref r0, .int 0]) dX10_beginsAnew_93 rfl (lt_l rfl) rfl ?_
    exact T
  · have T := T.2 c1
    refine v_aload_n (pc' := 38) dX10_beginsAnew_37 rfl rfl ?_
    obtain ⟨q23, T⟩ := T
    refine v_getR (pc' := 41) 8 22 dX10_beginsAnew_38 rfl (by decide) (by decide) rfl kf_X10_31 q23 ?_
    refine v_iconst (pc' := 42) (v := 0) dX10_beginsAnew_41 rfl kI_0 ?_
    refine v_iload_n (pc' := 43) dX10_beginsAnew_42 rfl rfl ?_
    refine v_iadd (pc' := 44) dX10_beginsAnew_43 rfl ?_
    refine v_iconst (pc' := 45) (v := 1) dX10_beginsAnew_44 rfl kI_1 ?_
    obtain ⟨q24, T⟩ := T
    obtain ⟨q25, T⟩ := T
    refine v_iast (pc' := 46) dX10_beginsAnew_45 rfl rfl q24 q25 ?_
    refine v_iinc (pc' := 49) (loc' := [.ref r0, .int (x1 + 1)]) dX10_beginsAnew_46 rfl rfl (kX_1 _) rfl ?_
    refine v_goto (pc' := 32) dX10_beginsAnew_49 (by decide) ?_
    exact T
theorem bX10_beginsAnew_94 {G : GG} {d : Nat} {h : Hp} {o : OU} {h' : Hp} (r0 : Nat) (x1 : Int32) (hd : 1 ≤ d) (T : kH h r0 = 18 ∧ (((h.2 r0 18) ≤ x1 → kH h (rH h r0 22) = 1 ∧ vp_in 3394 (lH h (rH h r0 22)) ∧ (o = .inl none ∧ h' = (h.1, (upI (upI (upI (upI (upI h.2 (rH h r0 22) 3394 0) r0 13 0) r0 14 0) r0 15 0) r0 16 0)))) ∧ (¬ (h.2 r0 18) ≤ x1 → kH h (rH h r0 21) = 7 ∧ vp_in x1 (lH h (rH h r0 21)) ∧ ∃ z8 h7, VM G mX10_does (d - 1) [.ref r0, .ref (rH h r0 22), .ref (rH h (rH h r0 21) x1.toNatClampNeg)] h (.inl (some (.int z8))) h7 ∧ kH h7 r0 = 18 ∧ ∃ h11, VM G mX10_safe (d - 1) [.ref (rH h7 r0 22)] h7 (.inl none) h11 ∧ V G mX10_beginsAnew d 94 [.ref r0, .int (x1 + 1)] [] h11 o h'))) : V G mX10_beginsAnew d 94 [.ref r0, .int x1] [] h o h' := by
  have hdd : d - 1 + 1 ≤ d := by omega
  refine v_iload_n (pc' := 95) dX10_beginsAnew_94 rfl rfl ?_
  refine v_aload_n (pc' := 96) dX10_beginsAnew_95 rfl rfl ?_
  obtain ⟨q1, T⟩ := T
  refine v_getI (pc' := 99) 8 18 dX10_beginsAnew_96 rfl (by decide) (by decide) rfl kf_X10_66 q1 ?_
  refine v_icmp_ge (tgt := 130) (pc' := 102) dX10_beginsAnew_99 (by decide) rfl ⟨fun c2 => ?_, fun c2 => ?_⟩
  · have T := T.1 c2
    refine v_aload_n (pc' := 131) dX10_beginsAnew_130 rfl rfl ?_
    refine v_getR (pc' := 134) 8 22 dX10_beginsAnew_131 rfl (by decide) (by decide) rfl kf_X10_31 q1 ?_
    refine v_sipush (pc' := 137) (v := 3394) dX10_beginsAnew_134 rfl kS_3394 ?_
    refine v_iconst (pc' := 138) (v := 0) dX10_beginsAnew_137 rfl kI_0 ?_
    obtain ⟨q3, T⟩ := T
    obtain ⟨q4, T⟩ := T
    refine v_iast (pc' := 139) dX10_beginsAnew_138 rfl kN_3394 q3 q4 ?_
    refine v_aload_n (pc' := 140) dX10_beginsAnew_139 rfl rfl ?_
    refine v_iconst (pc' := 141) (v := 0) dX10_beginsAnew_140 rfl kI_0 ?_
    refine v_putI (pc' := 144) 8 13 dX10_beginsAnew_141 rfl (by decide) (by decide) rfl rfl kf_X10_181 q1 ?_
    refine v_aload_n (pc' := 145) dX10_beginsAnew_144 rfl rfl ?_
    refine v_iconst (pc' := 146) (v := 0) dX10_beginsAnew_145 rfl kI_0 ?_
    refine v_putI (pc' := 149) 8 14 dX10_beginsAnew_146 rfl (by decide) (by decide) rfl rfl kf_X10_184 q1 ?_
    refine v_aload_n (pc' := 150) dX10_beginsAnew_149 rfl rfl ?_
    refine v_iconst (pc' := 151) (v := 0) dX10_beginsAnew_150 rfl kI_0 ?_
    refine v_putI (pc' := 154) 8 15 dX10_beginsAnew_151 rfl (by decide) (by decide) rfl rfl kf_X10_187 q1 ?_
    refine v_aload_n (pc' := 155) dX10_beginsAnew_154 rfl rfl ?_
    refine v_iconst (pc' := 156) (v := 0) dX10_beginsAnew_155 rfl kI_0 ?_
    refine v_putI (pc' := 159) 8 16 dX10_beginsAnew_156 rfl (by decide) (by decide) rfl rfl kf_X10_190 q1 ?_
    exact v_vret dX10_beginsAnew_159 rfl T
  · have T := T.2 c2
    refine v_aload_n (pc' := 103) dX10_beginsAnew_102 rfl rfl ?_
    refine v_aload_n (pc' := 104) dX10_beginsAnew_103 rfl rfl ?_
    refine v_getR (pc' := 107) 8 22 dX10_beginsAnew_104 rfl (by decide) (by decide) rfl kf_X10_31 q1 ?_
    refine v_aload_n (pc' := 108) dX10_beginsAnew_107 rfl rfl ?_
    refine v_getR (pc' := 111) 8 21 dX10_beginsAnew_108 rfl (by decide) (by decide) rfl kf_X10_28 q1 ?_
    refine v_iload_n (pc' := 112) dX10_beginsAnew_111 rfl rfl ?_
    obtain ⟨q5, T⟩ := T
    obtain ⟨q6, T⟩ := T
    refine v_aald (pc' := 113) 7 dX10_beginsAnew_112 rfl rfl (by decide) q5 q6 ?_
    obtain ⟨z8, h7, k9, T⟩ := T
    refine v_callV (pc' := 116) (M1 := mX10_does) (as := [.ref (rH h r0 22), .ref (rH h (rH h r0 21) x1.toNatClampNeg)]) (r := r0) (rest := []) 8 dX10_beginsAnew_113 rfl ko_X10_177 kc_X10_does ki_X10_does ks_X10_does (by decide) (by decide) hdd rfl rfl (le_l rfl) q1 k9 ?_
    refine v_pop (pc' := 117) dX10_beginsAnew_116 rfl rfl ?_
    refine v_aload_n (pc' := 118) dX10_beginsAnew_117 rfl rfl ?_
    obtain ⟨q10, T⟩ := T
    refine v_getR (pc' := 121) 8 22 dX10_beginsAnew_118 rfl (by decide) (by decide) rfl kf_X10_31 q10 ?_
    obtain ⟨h11, k12, T⟩ := T
    refine v_callS (pc' := 124) (M1 := mX10_safe) (as := [.ref (rH h7 r0 22)]) (rest := []) dX10_beginsAnew_121 rfl ko_X10_174 kc_X10_safe kt_X10_safe (by decide) hdd rfl rfl (le_l rfl) k12 ?_
    refine v_iinc (pc' := 127) (loc' := [.ref r0, .int (x1 + 1)]) dX10_beginsAnew_124 rfl rfl (kX_1 _) rfl ?_
    refine v_goto (pc' := 94) dX10_beginsAnew_127 (by decide) ?_
    exact T
theorem eX10_book {G : GG} {d : Nat} {h : Hp} {o : OU} {h' : Hp} (r0 : Nat) (x1 : Int32) (hd : 1 ≤ d) (T : kH h r0 = 18 ∧ ∃ z3 h2, VM G mX10_in (d - 1) [.int x1, .int 0, .int ((upI h.2 r0 0 0) r0 1)] (h.1, (upI h.2 r0 0 0)) (.inl (some (.int z3))) h2 ∧ ((z3 = 0 → kH h2 r0 = 18 ∧ ∃ z7 h6, VM G mX10_bad (d - 1) [.ref r0, .int 1, .int 1, .int 1] h2 (.inl (some (.int z7))) h6 ∧ ((z7 = 0 → kH h6 r0 = 18 ∧ ∃ h11, VM G mX10_starts (d - 1) [.ref r0, .int x1] h6 (.inl none) h11 ∧ V G mX10_book d 48 [.ref r0, uV, .int 0, .int 0, uV, uV, uV] [] h11 o h') ∧ (¬ z7 = 0 → (o = .inl (some (.int 0)) ∧ h' = h6)))) ∧ (¬ z3 = 0 → ((x1 ≤ 60 → kH h2 r0 = 18 ∧ ∃ z16 h15, VM G mX10_bad (d - 1) [.ref r0, .int 0, .int 1, .int 1] h2 (.inl (some (.int z16))) h15 ∧ ((z16 = 0 → kH h15 r0 = 18 ∧ ∃ h20, VM G mX10_starts (d - 1) [.ref r0, .int x1] h15 (.inl none) h20 ∧ V G mX10_book d 48 [.ref r0, uV, .int 0, .int 0, uV, uV, uV] [] h20 o h') ∧ (¬ z16 = 0 → (o = .inl (some (.int 0)) ∧ h' = h15)))) ∧ (¬ x1 ≤ 60 → kH h2 r0 = 18 ∧ ∃ z24 h23, VM G mX10_bad (d - 1) [.ref r0, .int 1, .int 1, .int 1] h2 (.inl (some (.int z24))) h23 ∧ ((z24 = 0 → kH h23 r0 = 18 ∧ ∃ h28, VM G mX10_starts (d - 1) [.ref r0, .int x1] h23 (.inl none) h28 ∧ V G mX10_book d 48 [.ref r0, uV, .int 0, .int 0, uV, uV, uV] [] h28 o h') ∧ (¬ z24 = 0 → (o = .inl (some (.int 0)) ∧ h' = h23)))))))) : VM G mX10_book d [.ref r0, .int x1] h o h' := by
  refine V.toM rfl rfl (le_l rfl) (cat_all rfl) ?_
  show V G mX10_book d 0 [.ref r0, .int x1, uV, uV, uV, uV, uV] [] h o h'
  have hdd : d - 1 + 1 ≤ d := by omega
  refine v_aload_n (pc' := 1) dX10_book_0 rfl rfl ?_
  refine v_iconst (pc' := 2) (v := 0) dX10_book_1 rfl kI_0 ?_
  obtain ⟨q1, T⟩ := T
  refine v_putI (pc' := 5) 8 0 dX10_book_2 rfl (by decide) (by decide) rfl rfl kf_X10_72 q1 ?_
  refine v_aload_n (pc' := 6) dX10_book_5 rfl rfl ?_
  refine v_iload_n (pc' := 7) dX10_book_6 rfl rfl ?_
  refine v_iconst (pc' := 8) (v := 0) dX10_book_7 rfl kI_0 ?_
  refine v_aload_n (pc' := 9) dX10_book_8 rfl rfl ?_
  refine v_getI (pc' := 12) 8 1 dX10_book_9 rfl (by decide) (by decide) rfl kf_X10_75 q1 ?_
  obtain ⟨z3, h2, k4, T⟩ := T
  refine v_callS (pc' := 15) (M1 := mX10_in) (as := [.int x1, .int 0, .int ((upI h.2 r0 0 0) r0 1)]) (rest := [.ref r0]) dX10_book_12 rfl ko_X10_106 kc_X10_in kt_X10_in (by decide) hdd rfl rfl (le_l rfl) k4 ?_
  refine v_if_eq (tgt := 24) (pc' := 18) dX10_book_15 (by decide) rfl ⟨fun c5 => ?_, fun c5 => ?_⟩
  · have T := T.1 c5
    refine v_iconst (pc' := 25) (v := 1) dX10_book_24 rfl kI_1 ?_
    refine v_goto (pc' := 29) dX10_book_25 (by decide) ?_
    refine v_iconst (pc' := 30) (v := 1) dX10_book_29 rfl kI_1 ?_
    refine v_iconst (pc' := 31) (v := 1) dX10_book_30 rfl kI_1 ?_
    obtain ⟨q9, T⟩ := T
    obtain ⟨z7, h6, k8, T⟩ := T
    refine v_callV (pc' := 34) (M1 := mX10_bad) (as := [.int 1, .int 1, .int 1]) (r := r0) (rest := []) 8 dX10_book_31 rfl ko_X10_155 kc_X10_bad ki_X10_bad ks_X10_bad (by decide) (by decide) hdd rfl rfl (le_l rfl) q9 k8 ?_
    refine v_if_eq (tgt := 39) (pc' := 37) dX10_book_34 (by decide) rfl ⟨fun c10 => ?_, fun c10 => ?_⟩
    · have T := T.1 c10
      refine v_aload_n (pc' := 40) dX10_book_39 rfl rfl ?_
      refine v_iload_n (pc' := 41) dX10_book_40 rfl rfl ?_
      obtain ⟨q13, T⟩ := T
      obtain ⟨h11, k12, T⟩ := T
      refine v_callV (pc' := 44) (M1 := mX10_starts) (as := [.int x1]) (r := r0) (rest := []) 8 dX10_book_41 rfl ko_X10_159 kc_X10_starts ki_X10_starts ks_X10_starts (by decide) (by decide) hdd rfl rfl (le_l rfl) q13 k12 ?_
      refine v_iconst (pc' := 45) (v := 0) dX10_book_44 rfl kI_0 ?_
      refine v_istore_n (pc' := 46) (loc' := [.ref r0, .int x1, .int 0, uV, uV, uV, uV]) dX10_book_45 rfl (lt_l rfl) rfl ?_
      refine v_iconst (pc' := 47) (v := 0) dX10_book_46 rfl kI_0 ?_
      refine v_istore_n (pc' := 48) (loc' := [.ref r0, .int x1, .int 0, .int 0, uV, uV, uV]) dX10_book_47 rfl (lt_l rfl) rfl ?_
      exact V.drop (llp_r (llp_u (llp_r (llp_r (llp_r (llp_r (llp_r llp_nil))))))) T
    · have T := T.2 c10
      refine v_iconst (pc' := 38) (v := 0) dX10_book_37 rfl kI_0 ?_
      exact v_iret dX10_book_38 rfl T
  · have T := T.2 c5
    refine v_iload_n (pc' := 19) dX10_book_18 rfl rfl ?_
    refine v_bipush (pc' := 21) (v := 60) dX10_book_19 rfl kB_60 ?_
    refine v_icmp_le (tgt := 28) (pc' := 24) dX10_book_21 (by decide) rfl ⟨fun c14 => ?_, fun c14 => ?_⟩
    · have T := T.1 c14
      refine v_iconst (pc' := 29) (v := 0) dX10_book_28 rfl kI_0 ?_
      refine v_iconst (pc' := 30) (v := 1) dX10_book_29 rfl kI_1 ?_
      refine v_iconst (pc' := 31) (v := 1) dX10_book_30 rfl kI_1 ?_
      obtain ⟨q18, T⟩ := T
      obtain ⟨z16, h15, k17, T⟩ := T
      refine v_callV (pc' := 34) (M1 := mX10_bad) (as := [.int 0, .int 1, .int 1]) (r := r0) (rest := []) 8 dX10_book_31 rfl ko_X10_155 kc_X10_bad ki_X10_bad ks_X10_bad (by decide) (by decide) hdd rfl rfl (le_l rfl) q18 k17 ?_
      refine v_if_eq (tgt := 39) (pc' := 37) dX10_book_34 (by decide) rfl ⟨fun c19 => ?_, fun c19 => ?_⟩
      · have T := T.1 c19
        refine v_aload_n (pc' := 40) dX10_book_39 rfl rfl ?_
        refine v_iload_n (pc' := 41) dX10_book_40 rfl rfl ?_
        obtain ⟨q22, T⟩ := T
        obtain ⟨h20, k21, T⟩ := T
        refine v_callV (pc' := 44) (M1 := mX10_starts) (as := [.int x1]) (r := r0) (rest := []) 8 dX10_book_41 rfl ko_X10_159 kc_X10_starts ki_X10_starts ks_X10_starts (by decide) (by decide) hdd rfl rfl (le_l rfl) q22 k21 ?_
        refine v_iconst (pc' := 45) (v := 0) dX10_book_44 rfl kI_0 ?_
        refine v_istore_n (pc' := 46) (loc' := [.ref r0, .int x1, .int 0, uV, uV, uV, uV]) dX10_book_45 rfl (lt_l rfl) rfl ?_
        refine v_iconst (pc' := 47) (v := 0) dX10_book_46 rfl kI_0 ?_
        refine v_istore_n (pc' := 48) (loc' := [.ref r0, .int x1, .int 0, .int 0, uV, uV, uV]) dX10_book_47 rfl (lt_l rfl) rfl ?_
        exact V.drop (llp_r (llp_u (llp_r (llp_r (llp_r (llp_r (llp_r llp_nil))))))) T
      · have T := T.2 c19
        refine v_iconst (pc' := 38) (v := 0) dX10_book_37 rfl kI_0 ?_
        exact v_iret dX10_book_38 rfl T
    · have T := T.2 c14
      refine v_iconst (pc' := 25) (v := 1) dX10_book_24 rfl kI_1 ?_
      refine v_goto (pc' := 29) dX10_book_25 (by decide) ?_
      refine v_iconst (pc' := 30) (v := 1) dX10_book_29 rfl kI_1 ?_
      refine v_iconst (pc' := 31) (v := 1) dX10_book_30 rfl kI_1 ?_
      obtain ⟨q26, T⟩ := T
      obtain ⟨z24, h23, k25, T⟩ := T
      refine v_callV (pc' := 34) (M1 := mX10_bad) (as := [.int 1, .int 1, .int 1]) (r := r0) (rest := []) 8 dX10_book_31 rfl ko_X10_155 kc_X10_bad ki_X10_bad ks_X10_bad (by decide) (by decide) hdd rfl rfl (le_l rfl) q26 k25 ?_
      refine v_if_eq (tgt := 39) (pc' := 37) dX10_book_34 (by decide) rfl ⟨fun c27 => ?_, fun c27 => ?_⟩
      · have T := T.1 c27
        refine v_aload_n (pc' := 40) dX10_book_39 rfl rfl ?_
        refine v_iload_n (pc' := 41) dX10_book_40 rfl rfl ?_
        obtain ⟨q30, T⟩ := T
        obtain ⟨h28, k29, T⟩ := T
        refine v_callV (pc' := 44) (M1 := mX10_starts) (as := [.int x1]) (r := r0) (rest := []) 8 dX10_book_41 rfl ko_X10_159 kc_X10_starts ki_X10_starts ks_X10_starts (by decide) (by decide) hdd rfl rfl (le_l rfl) q30 k29 ?_
        refine v_iconst (pc' := 45) (v := 0) dX10_book_44 rfl kI_0 ?_
        refine v_istore_n (pc' := 46) (loc' := [.ref r0, .int x1, .int 0, uV, uV, uV, uV]) dX10_book_45 rfl (lt_l rfl) rfl ?_
        refine v_iconst (pc' := 47) (v := 0) dX10_book_46 rfl kI_0 ?_
        refine v_istore_n (pc' := 48) (loc' := [.ref r0, .int x1, .int 0, .int 0, uV, uV, uV]) dX10_book_47 rfl (lt_l rfl) rfl ?_
        exact V.drop (llp_r (llp_u (llp_r (llp_r (llp_r (llp_r (llp_r llp_nil))))))) T
      · have T := T.2 c27
        refine v_iconst (pc' := 38) (v := 0) dX10_book_37 rfl kI_0 ?_
        exact v_iret dX10_book_38 rfl T
theorem bX10_book_48 {G : GG} {d : Nat} {h : Hp} {o : OU} {h' : Hp} (r0 : Nat) (x2 : Int32) (x3 : Int32) (hd : 1 ≤ d) (T : kH h r0 = 18 ∧ ((¬ (h.2 r0 5) = 0 → (((h.2 r0 5) = 0 → V G mX10_book d 192 [.ref r0, uV, .int x2, uV, .int 0, uV, uV] [] (h.1, (upI (upI h.2 r0 3 (-1)) r0 13 x2)) o h') ∧ (¬ (h.2 r0 5) = 0 → ∃ z5 h4, VM G mX10_ends (d - 1) [.ref r0] h (.inl (some (.int z5))) h4 ∧ (o = .inl (some (.int z5)) ∧ h' = h4)))) ∧ ((h.2 r0 5) = 0 → (((h.2 r0 2) ≤ (h.2 r0 4) → (((h.2 r0 5) = 0 → V G mX10_book d 192 [.ref r0, uV, .int x2, uV, .int 0, uV, uV] [] (h.1, (upI (upI h.2 r0 3 (-1)) r0 13 x2)) o h') ∧ (¬ (h.2 r0 5) = 0 → ∃ z10 h9, VM G mX10_ends (d - 1) [.ref r0] h (.inl (some (.int z10))) h9 ∧ (o = .inl (some (.int z10)) ∧ h' = h9)))) ∧ (¬ (h.2 r0 2) ≤ (h.2 r0 4) → ∃ h12, VM G mX10_blanks (d - 1) [.ref r0] h (.inl none) h12 ∧ kH h12 r0 = 18 ∧ ∃ z16 h15, VM G mX10_number (d - 1) [.ref r0, .int 0, .int 15] h12 (.inl (some (.int z16))) h15 ∧ kH h15 r0 = 18 ∧ ((¬ (h15.2 r0 5) = 0 → V G mX10_book d 108 [.ref r0, uV, .int x2, .int x3, uV, .int z16, uV] [] h15 o h') ∧ ((h15.2 r0 5) = 0 → ∃ z21 h20, VM G mX10_has (d - 1) [.int x3, .int z16] h15 (.inl (some (.int z21))) h20 ∧ ((z21 = 0 → V G mX10_book d 108 [.ref r0, uV, .int x2, .int x3, uV, .int z16, uV] [] h20 o h') ∧ (¬ z21 = 0 → kH h20 r0 = 18 ∧ ∃ h24, VM G mX10_wrong (d - 1) [.ref r0, .int 2, .int (h12.2 r0 4)] h20 (.inl none) h24 ∧ V G mX10_book d 108 [.ref r0, uV, .int x2, .int x3, uV, .int z16, uV] [] h24 o h'))))))))) : V G mX10_book d 48 [.ref r0, uV, .int x2, .int x3, uV, uV, uV] [] h o h' := by
  have hdd : d - 1 + 1 ≤ d := by omega
  refine v_aload_n (pc' := 49) dX10_book_48 rfl rfl ?_
  obtain ⟨q1, T⟩ := T
  refine v_getI (pc' := 52) 8 5 dX10_book_49 rfl (by decide) (by decide) rfl kf_X10_88 q1 ?_
  refine v_if_ne (tgt := 167) (pc' := 55) dX10_book_52 (by decide) rfl ⟨fun c2 => ?_, fun c2 => ?_⟩
  · have T := T.1 c2
    refine v_aload_n (pc' := 168) dX10_book_167 rfl rfl ?_
    refine v_getI (pc' := 171) 8 5 dX10_book_168 rfl (by decide) (by decide) rfl kf_X10_88 q1 ?_
    refine v_if_eq (tgt := 179) (pc' := 174) dX10_book_171 (by decide) rfl ⟨fun c3 => ?_, fun c3 => ?_⟩
    · have T := T.1 c3
      refine v_aload_n (pc' := 180) dX10_book_179 rfl rfl ?_
      refine v_iconst (pc' := 181) (v := (-1)) dX10_book_180 rfl kI_m1 ?_
      refine v_putI (pc' := 184) 8 3 dX10_book_181 rfl (by decide) (by decide) rfl rfl kf_X10_9 q1 ?_
      refine v_aload_n (pc' := 185) dX10_book_184 rfl rfl ?_
      refine v_iload_n (pc' := 186) dX10_book_185 rfl rfl ?_
      refine v_putI (pc' := 189) 8 13 dX10_book_186 rfl (by decide) (by decide) rfl rfl kf_X10_181 q1 ?_
      refine v_iconst (pc' := 190) (v := 0) dX10_book_189 rfl kI_0 ?_
      refine v_istore (pc' := 192) (loc' := [.ref r0, uV, .int x2, .int x3, .int 0, uV, uV]) dX10_book_190 rfl (lt_l rfl) rfl ?_
      exact V.drop (llp_r (llp_r (llp_r (llp_u (llp_r (llp_r (llp_r llp_nil))))))) T
    · have T := T.2 c3
      refine v_aload_n (pc' := 175) dX10_book_174 rfl rfl ?_
      obtain ⟨z5, h4, k6, T⟩ := T
      refine v_callV (pc' := 178) (M1 := mX10_ends) (as := []) (r := r0) (rest := []) 8 dX10_book_175 rfl ko_X10_165 kc_X10_ends ki_X10_ends ks_X10_ends (by decide) (by decide) hdd rfl rfl (le_l rfl) q1 k6 ?_
      exact v_iret dX10_book_178 rfl T
  · have T := T.2 c2
    refine v_aload_n (pc' := 56) dX10_book_55 rfl rfl ?_
    refine v_getI (pc' := 59) 8 4 dX10_book_56 rfl (by decide) (by decide) rfl kf_X10_81 q1 ?_
    refine v_aload_n (pc' := 60) dX10_book_59 rfl rfl ?_
    refine v_getI (pc' := 63) 8 2 dX10_book_60 rfl (by decide) (by decide) rfl kf_X10_78 q1 ?_
    refine v_icmp_ge (tgt := 167) (pc' := 66) dX10_book_63 (by decide) rfl ⟨fun c7 => ?_, fun c7 => ?_⟩
    · have T := T.1 c7
      refine v_aload_n (pc' := 168) dX10_book_167 rfl rfl ?_
      refine v_getI (pc' := 171) 8 5 dX10_book_168 rfl (by decide) (by decide) rfl kf_X10_88 q1 ?_
      refine v_if_eq (tgt := 179) (pc' := 174) dX10_book_171 (by decide) rfl ⟨fun c8 => ?_, fun c8 => ?_⟩
      · have T := T.1 c8
        refine v_aload_n (pc' := 180) dX10_book_179 rfl rfl ?_
        refine v_iconst (pc' := 181) (v := (-1)) dX10_book_180 rfl kI_m1 ?_
        refine v_putI (pc' := 184) 8 3 dX10_book_181 rfl (by decide) (by decide) rfl rfl kf_X10_9 q1 ?_
        refine v_aload_n (pc' := 185) dX10_book_184 rfl rfl ?_
        refine v_iload_n (pc' := 186) dX10_book_185 rfl rfl ?_
        refine v_putI (pc' := 189) 8 13 dX10_book_186 rfl (by decide) (by decide) rfl rfl kf_X10_181 q1 ?_
        refine v_iconst (pc' := 190) (v := 0) dX10_book_189 rfl kI_0 ?_
        refine v_istore (pc' := 192) (loc' := [.ref r0, uV, .int x2, .int x3, .int 0, uV, uV]) dX10_book_190 rfl (lt_l rfl) rfl ?_
        exact V.drop (llp_r (llp_r (llp_r (llp_u (llp_r (llp_r (llp_r llp_nil))))))) T
      · have T := T.2 c8
        refine v_aload_n (pc' := 175) dX10_book_174 rfl rfl ?_
        obtain ⟨z10, h9, k11, T⟩ := T
        refine v_callV (pc' := 178) (M1 := mX10_ends) (as := []) (r := r0) (rest := []) 8 dX10_book_175 rfl ko_X10_165 kc_X10_ends ki_X10_ends ks_X10_ends (by decide) (by decide) hdd rfl rfl (le_l rfl) q1 k11 ?_
        exact v_iret dX10_book_178 rfl T
    · have T := T.2 c7
      refine v_aload_n (pc' := 67) dX10_book_66 rfl rfl ?_
      obtain ⟨h12, k13, T⟩ := T
      refine v_callV (pc' := 70) (M1 := mX10_blanks) (as := []) (r := r0) (rest := []) 8 dX10_book_67 rfl ko_X10_94 kc_X10_blanks ki_X10_blanks ks_X10_blanks (by decide) (by decide) hdd rfl rfl (le_l rfl) q1 k13 ?_
      refine v_aload_n (pc' := 71) dX10_book_70 rfl rfl ?_
      obtain ⟨q14, T⟩ := T
      refine v_getI (pc' := 74) 8 4 dX10_book_71 rfl (by decide) (by decide) rfl kf_X10_81 q14 ?_
      refine v_istore (pc' := 76) (loc' := [.ref r0, uV, .int x2, .int x3, .int (h12.2 r0 4), uV, uV]) dX10_book_74 rfl (lt_l rfl) rfl ?_
      refine v_aload_n (pc' := 77) dX10_book_76 rfl rfl ?_
      refine v_iconst (pc' := 78) (v := 0) dX10_book_77 rfl kI_0 ?_
      refine v_bipush (pc' := 80) (v := 15) dX10_book_78 rfl kB_15 ?_
      obtain ⟨z16, h15, k17, T⟩ := T
      refine v_callV (pc' := 83) (M1 := mX10_number) (as := [.int 0, .int 15]) (r := r0) (rest := []) 8 dX10_book_80 rfl ko_X10_131 kc_X10_number ki_X10_number ks_X10_number (by decide) (by decide) hdd rfl rfl (le_l rfl) q14 k17 ?_
      refine v_istore (pc' := 85) (loc' := [.ref r0, uV, .int x2, .int x3, .int (h12.2 r0 4), .int z16, uV]) dX10_book_83 rfl (lt_l rfl) rfl ?_
      refine v_aload_n (pc' := 86) dX10_book_85 rfl rfl ?_
      obtain ⟨q18, T⟩ := T
      refine v_getI (pc' := 89) 8 5 dX10_book_86 rfl (by decide) (by decide) rfl kf_X10_88 q18 ?_
      refine v_if_ne (tgt := 108) (pc' := 92) dX10_book_89 (by decide) rfl ⟨fun c19 => ?_, fun c19 => ?_⟩
      · have T := T.1 c19
        exact V.drop (llp_r (llp_r (llp_r (llp_r (llp_u (llp_r (llp_r llp_nil))))))) T
      · have T := T.2 c19
        refine v_iload_n (pc' := 93) dX10_book_92 rfl rfl ?_
        refine v_iload (pc' := 95) dX10_book_93 rfl rfl ?_
        obtain ⟨z21, h20, k22, T⟩ := T
        refine v_callS (pc' := 98) (M1 := mX10_has) (as := [.int x3, .int z16]) (rest := []) dX10_book_95 rfl ko_X10_193 kc_X10_has kt_X10_has (by decide) hdd rfl rfl (le_l rfl) k22 ?_
        refine v_if_eq (tgt := 108) (pc' := 101) dX10_book_98 (by decide) rfl ⟨fun c23 => ?_, fun c23 => ?_⟩
        · have T := T.1 c23
          exact V.drop (llp_r (llp_r (llp_r (llp_r (llp_u (llp_r (llp_r llp_nil))))))) T
        · have T := T.2 c23
          refine v_aload_n (pc' := 102) dX10_book_101 rfl rfl ?_
          refine v_iconst (pc' := 103) (v := 2) dX10_book_102 rfl kI_2 ?_
          refine v_iload (pc' := 105) dX10_book_103 rfl rfl ?_
          obtain ⟨q26, T⟩ := T
          obtain ⟨h24, k25, T⟩ := T
          refine v_callV (pc' := 108) (M1 := mX10_wrong) (as := [.int 2, .int (h12.2 r0 4)]) (r := r0) (rest := []) 8 dX10_book_105 rfl ko_X10_101 kc_X10_wrong ki_X10_wrong ks_X10_wrong (by decide) (by decide) hdd rfl rfl (le_l rfl) q26 k25 ?_
          exact V.drop (llp_r (llp_r (llp_r (llp_r (llp_u (llp_r (llp_r llp_nil))))))) T
theorem bX10_book_108 {G : GG} {d : Nat} {h : Hp} {o : OU} {h' : Hp} (r0 : Nat) (x2 : Int32) (x3 : Int32) (x5 : Int32) (hd : 1 ≤ d) (T : kH h r0 = 18 ∧ ∃ z2 h1, VM G mX10_number (d - 1) [.ref r0, .int 0, .int 99] h (.inl (some (.int z2))) h1 ∧ kH h1 r0 = 18 ∧ ∃ h5, VM G mX10_sign (d - 1) [.ref r0, .int 59] h1 (.inl none) h5 ∧ kH h5 r0 = 18 ∧ ((¬ (h5.2 r0 5) = 0 → ∃ h10, VM G mX10_blanks (d - 1) [.ref r0] h5 (.inl none) h10 ∧ V G mX10_book d 48 [.ref r0, uV, .int x2, .int x3, uV, uV, uV] [] h10 o h') ∧ ((h5.2 r0 5) = 0 → kH h5 (rH h5 r0 20) = 7 ∧ vp_in x2 (lH h5 (rH h5 r0 20)) ∧ kH h5 (rH h5 (rH h5 r0 20) x2.toNatClampNeg) = 1 ∧ vp_in 0 (lH h5 (rH h5 (rH h5 r0 20) x2.toNatClampNeg)) ∧ vp_in 1 (lH h5 (rH h5 (rH h5 r0 20) x2.toNatClampNeg)) ∧ ∃ h17, VM G mX10_blanks (d - 1) [.ref r0] (h5.1, (upI (upI h5.2 (rH h5 (rH h5 r0 20) x2.toNatClampNeg) 0 x5) (rH h5 (rH h5 r0 20) x2.toNatClampNeg) 1 z2)) (.inl none) h17 ∧ V G mX10_book d 48 [.ref r0, uV, .int (x2 + 1), .int (x3 ||| (1 <<< (x5 &&& 31))), uV, uV, uV] [] h17 o h'))) : V G mX10_book d 108 [.ref r0, uV, .int x2, .int x3, uV, .int x5, uV] [] h o h' := by
  have hdd : d - 1 + 1 ≤ d := by omega
  refine v_aload_n (pc' := 109) dX10_book_108 rfl rfl ?_
  refine v_iconst (pc' := 110) (v := 0) dX10_book_109 rfl kI_0 ?_
  refine v_bipush (pc' := 112) (v := 99) dX10_book_110 rfl kB_99 ?_
  obtain ⟨q4, T⟩ := T
  obtain ⟨z2, h1, k3, T⟩ := T
  refine v_callV (pc' := 115) (M1 := mX10_number) (as := [.int 0, .int 99]) (r := r0) (rest := []) 8 dX10_book_112 rfl ko_X10_131 kc_X10_number ki_X10_number ks_X10_number (by decide) (by decide) hdd rfl rfl (le_l rfl) q4 k3 ?_
  refine v_istore (pc' := 117) (loc' := [.ref r0, uV, .int x2, .int x3, uV, .int x5, .int z2]) dX10_book_115 rfl (lt_l rfl) rfl ?_
  refine v_aload_n (pc' := 118) dX10_book_117 rfl rfl ?_
  refine v_bipush (pc' := 120) (v := 59) dX10_book_118 rfl kB_59 ?_
  obtain ⟨q7, T⟩ := T
  obtain ⟨h5, k6, T⟩ := T
  refine v_callV (pc' := 123) (M1 := mX10_sign) (as := [.int 59]) (r := r0) (rest := []) 8 dX10_book_120 rfl ko_X10_135 kc_X10_sign ki_X10_sign ks_X10_sign (by decide) (by decide) hdd rfl rfl (le_l rfl) q7 k6 ?_
  refine v_aload_n (pc' := 124) dX10_book_123 rfl rfl ?_
  obtain ⟨q8, T⟩ := T
  refine v_getI (pc' := 127) 8 5 dX10_book_124 rfl (by decide) (by decide) rfl kf_X10_88 q8 ?_
  refine v_if_ne (tgt := 160) (pc' := 130) dX10_book_127 (by decide) rfl ⟨fun c9 => ?_, fun c9 => ?_⟩
  · have T := T.1 c9
    refine v_aload_n (pc' := 161) dX10_book_160 rfl rfl ?_
    obtain ⟨h10, k11, T⟩ := T
    refine v_callV (pc' := 164) (M1 := mX10_blanks) (as := []) (r := r0) (rest := []) 8 dX10_book_161 rfl ko_X10_94 kc_X10_blanks ki_X10_blanks ks_X10_blanks (by decide) (by decide) hdd rfl rfl (le_l rfl) q8 k11 ?_
    refine v_goto (pc' := 48) dX10_book_164 (by decide) ?_
    exact V.drop (llp_r (llp_r (llp_r (llp_r (llp_r (llp_u (llp_u llp_nil))))))) T
  · have T := T.2 c9
    refine v_iload_n (pc' := 131) dX10_book_130 rfl rfl ?_
    refine v_iconst (pc' := 132) (v := 1) dX10_book_131 rfl kI_1 ?_
    refine v_iload (pc' := 134) dX10_book_132 rfl rfl ?_
    refine v_ishl (pc' := 135) dX10_book_134 rfl ?_
    refine v_ior (pc' := 136) dX10_book_135 rfl ?_
    refine v_istore_n (pc' := 137) (loc' := [.ref r0, uV, .int x2, .int (x3 ||| (1 <<< (x5 &&& 31))), uV, .int x5, .int z2]) dX10_book_136 rfl (lt_l rfl) rfl ?_
    refine v_aload_n (pc' := 138) dX10_book_137 rfl rfl ?_
    refine v_getR (pc' := 141) 8 20 dX10_book_138 rfl (by decide) (by decide) rfl kf_X10_25 q8 ?_
    refine v_iload_n (pc' := 142) dX10_book_141 rfl rfl ?_
    obtain ⟨q12, T⟩ := T
    obtain ⟨q13, T⟩ := T
    refine v_aald (pc' := 143) 7 dX10_book_142 rfl rfl (by decide) q12 q13 ?_
    refine v_iconst (pc' := 144) (v := 0) dX10_book_143 rfl kI_0 ?_
    refine v_iload (pc' := 146) dX10_book_144 rfl rfl ?_
    obtain ⟨q14, T⟩ := T
    obtain ⟨q15, T⟩ := T
    refine v_iast (pc' := 147) dX10_book_146 rfl kN_0 q14 q15 ?_
    refine v_aload_n (pc' := 148) dX10_book_147 rfl rfl ?_
    refine v_getR (pc' := 151) 8 20 dX10_book_148 rfl (by decide) (by decide) rfl kf_X10_25 q8 ?_
    refine v_iload_n (pc' := 152) dX10_book_151 rfl rfl ?_
    refine v_aald (pc' := 153) 7 dX10_book_152 rfl rfl (by decide) q12 q13 ?_
    refine v_iconst (pc' := 154) (v := 1) dX10_book_153 rfl kI_1 ?_
    refine v_iload (pc' := 156) dX10_book_154 rfl rfl ?_
    obtain ⟨q16, T⟩ := T
    refine v_iast (pc' := 157) dX10_book_156 rfl kN_1 q14 q16 ?_
    refine v_iinc (pc' := 160) (loc' := [.ref r0, uV, .int (x2 + 1), .int (x3 ||| (1 <<< (x5 &&& 31))), uV, .int x5, .int z2]) dX10_book_157 rfl rfl (kX_1 _) rfl ?_
    refine v_aload_n (pc' := 161) dX10_book_160 rfl rfl ?_
    obtain ⟨h17, k18, T⟩ := T
    refine v_callV (pc' := 164) (M1 := mX10_blanks) (as := []) (r := r0) (rest := []) 8 dX10_book_161 rfl ko_X10_94 kc_X10_blanks ki_X10_blanks ks_X10_blanks (by decide) (by decide) hdd rfl rfl (le_l rfl) q8 k18 ?_
    refine v_goto (pc' := 48) dX10_book_164 (by decide) ?_
    exact V.drop (llp_r (llp_r (llp_r (llp_r (llp_r (llp_u (llp_u llp_nil))))))) T
theorem bX10_book_192 {G : GG} {d : Nat} {h : Hp} {o : OU} {h' : Hp} (r0 : Nat) (x2 : Int32) (x4 : Int32) (T : ((x2 ≤ x4 → (o = .inl (some (.int x2)) ∧ h' = h)) ∧ (¬ x2 ≤ x4 → V G mX10_book d 201 [.ref r0, uV, .int x2, uV, .int x4, .int 0, uV] [] h o h'))) : V G mX10_book d 192 [.ref r0, uV, .int x2, uV, .int x4, uV, uV] [] h o h' := by
  refine v_iload (pc' := 194) dX10_book_192 rfl rfl ?_
  refine v_iload_n (pc' := 195) dX10_book_194 rfl rfl ?_
  refine v_icmp_ge (tgt := 239) (pc' := 198) dX10_book_195 (by decide) rfl ⟨fun c1 => ?_, fun c1 => ?_⟩
  · have T := T.1 c1
    refine v_iload_n (pc' := 240) dX10_book_239 rfl rfl ?_
    exact v_iret dX10_book_240 rfl T
  · have T := T.2 c1
    refine v_iconst (pc' := 199) (v := 0) dX10_book_198 rfl kI_0 ?_
    refine v_istore (pc' := 201) (loc' := [.ref r0, uV, .int x2, uV, .int x4, .int 0, uV]) dX10_book_199 rfl (lt_l rfl) rfl ?_
    exact T
theorem bX10_book_201 {G : GG} {d : Nat} {h : Hp} {o : OU} {h' : Hp} (r0 : Nat) (x2 : Int32) (x4 : Int32) (x5 : Int32) (T : ((2 ≤ x5 → V G mX10_book d 192 [.ref r0, uV, .int x2, uV, .int (x4 + 1), uV, uV] [] h o h') ∧ (¬ 2 ≤ x5 → kH h r0 = 18 ∧ kH h (rH h r0 19) = 7 ∧ vp_in x4 (lH h (rH h r0 19)) ∧ kH h (rH h r0 20) = 7 ∧ vp_in x4 (lH h (rH h r0 20)) ∧ kH h (rH h (rH h r0 20) x4.toNatClampNeg) = 1 ∧ vp_in x5 (lH h (rH h (rH h r0 20) x4.toNatClampNeg)) ∧ kH h (rH h (rH h r0 19) x4.toNatClampNeg) = 1 ∧ vp_in x5 (lH h (rH h (rH h r0 19) x4.toNatClampNeg)) ∧ (∀ i11 : Nat → Nat → Int32, i11 = (upI h.2 (rH h (rH h r0 19) x4.toNatClampNeg) x5.toNatClampNeg (h.2 (rH h (rH h r0 20) x4.toNatClampNeg) x5.toNatClampNeg)) → V G mX10_book d 201 [.ref r0, uV, .int x2, uV, .int x4, .int (x5 + 1), uV] [] (h.1, i11) o h')))) : V G mX10_book d 201 [.ref r0, uV, .int x2, uV, .int x4, .int x5, uV] [] h o h' := by
  refine v_iload (pc' := 203) dX10_book_201 rfl rfl ?_
  refine v_iconst (pc' := 204) (v := 2) dX10_book_203 rfl kI_2 ?_
  refine v_icmp_ge (tgt := 233) (pc' := 207) dX10_book_204 (by decide) rfl ⟨fun c1 => ?_, fun c1 => ?_⟩
  · have T := T.1 c1
    refine v_iinc (pc' := 236) (loc' := [.ref r0, uV, .int x2, uV, .int (x4 + 1), .int x5, uV]) dX10_book_233 rfl rfl (kX_1 _) rfl ?_
    refine v_goto (pc' := 192) dX10_book_236 (by decide) ?_
    exact V.drop (llp_r (llp_r (llp_r (llp_r (llp_r (llp_u (llp_r llp_nil))))))) T
  · have T := T.2 c1
    refine v_aload_n (pc' := 208) dX10_book_207 rfl rfl ?_
    obtain ⟨q2, T⟩ := T
    refine v_getR (pc' := 211) 8 19 dX10_book_208 rfl (by decide) (by decide) rfl kf_X10_22 q2 ?_
    refine v_iload (pc' := 213) dX10_book_211 rfl rfl ?_
    obtain ⟨q3, T⟩ := T
    obtain ⟨q4, T⟩ := T
    refine v_aald (pc' := 214) 7 dX10_book_213 rfl rfl (by decide) q3 q4 ?_
    refine v_iload (pc' := 216) dX10_book_214 rfl rfl ?_
    refine v_aload_n (pc' := 217) dX10_book_216 rfl rfl ?_
    refine v_getR (pc' := 220) 8 20 dX10_book_217 rfl (by decide) (by decide) rfl kf_X10_25 q2 ?_
    refine v_iload (pc' := 222) dX10_book_220 rfl rfl ?_
    obtain ⟨q5, T⟩ := T
    obtain ⟨q6, T⟩ := T
    refine v_aald (pc' := 223) 7 dX10_book_222 rfl rfl (by decide) q5 q6 ?_
    refine v_iload (pc' := 225) dX10_book_223 rfl rfl ?_
    obtain ⟨q7, T⟩ := T
    obtain ⟨q8, T⟩ := T
    refine v_iald (pc' := 226) dX10_book_225 rfl rfl q7 q8 ?_
    obtain ⟨q9, T⟩ := T
    obtain ⟨q10, T⟩ := T
    refine v_iast (pc' := 227) dX10_book_226 rfl rfl q9 q10 ?_
    show V G mX10_book d 227 [.ref r0, uV, .int x2, uV, .int x4, .int x5, uV] [] (h.1, (upI h.2 (rH h (rH h r0 19) x4.toNatClampNeg) x5.toNatClampNeg (h.2 (rH h (rH h r0 20) x4.toNatClampNeg) x5.toNatClampNeg))) o h'
    obtain ⟨i11, e12⟩ : ∃ z : Nat → Nat → Int32, z = (upI h.2 (rH h (rH h r0 19) x4.toNatClampNeg) x5.toNatClampNeg (h.2 (rH h (rH h r0 20) x4.toNatClampNeg) x5.toNatClampNeg)) := ⟨_, rfl⟩
    rw [← e12]
    have T := T i11 e12
    refine v_iinc (pc' := 230) (loc' := [.ref r0, uV, .int x2, uV, .int x4, .int (x5 + 1), uV]) dX10_book_227 rfl rfl (kX_1 _) rfl ?_
    refine v_goto (pc' := 201) dX10_book_230 (by decide) ?_
    exact T
theorem eX10_fault {G : GG} {d : Nat} {h : Hp} {o : OU} {h' : Hp} (r0 : Nat) (T : kH h r0 = 18 ∧ (o = .inl (some (.int ((upI h.2 r0 0 0) r0 3))) ∧ h' = (h.1, (upI h.2 r0 0 0)))) : VM G mX10_fault d [.ref r0] h o h' := by
  refine V.toM rfl rfl (le_l rfl) (cat_all rfl) ?_
  show V G mX10_fault d 0 [.ref r0] [] h o h'
  refine v_aload_n (pc' := 1) dX10_fault_0 rfl rfl ?_
  refine v_iconst (pc' := 2) (v := 0) dX10_fault_1 rfl kI_0 ?_
  obtain ⟨q1, T⟩ := T
  refine v_putI (pc' := 5) 8 0 dX10_fault_2 rfl (by decide) (by decide) rfl rfl kf_X10_72 q1 ?_
  refine v_aload_n (pc' := 6) dX10_fault_5 rfl rfl ?_
  refine v_getI (pc' := 9) 8 3 dX10_fault_6 rfl (by decide) (by decide) rfl kf_X10_9 q1 ?_
  exact v_iret dX10_fault_9 rfl T
theorem eX10_byteOf {G : GG} {d : Nat} {h : Hp} {o : OU} {h' : Hp} (x0 : Int32) (x1 : Int32) (T : (o = .inl (some (.int (((16 * (1 + (x0 / 4))) + (4 * (x0 - x0 / 4 * 4))) + x1))) ∧ h' = h)) : VM G mX10_byteOf d [.int x0, .int x1] h o h' := by
  refine V.toM rfl rfl (le_l rfl) (cat_all rfl) ?_
  show V G mX10_byteOf d 0 [.int x0, .int x1] [] h o h'
  refine v_bipush (pc' := 2) (v := 16) dX10_byteOf_0 rfl kB_16 ?_
  refine v_iconst (pc' := 3) (v := 1) dX10_byteOf_2 rfl kI_1 ?_
  refine v_iload_n (pc' := 4) dX10_byteOf_3 rfl rfl ?_
  refine v_iconst (pc' := 5) (v := 4) dX10_byteOf_4 rfl kI_4 ?_
  refine v_idiv (pc' := 6) dX10_byteOf_5 rfl (by decide) ?_
  refine v_iadd (pc' := 7) dX10_byteOf_6 rfl ?_
  refine v_imul (pc' := 8) dX10_byteOf_7 rfl ?_
  refine v_iconst (pc' := 9) (v := 4) dX10_byteOf_8 rfl kI_4 ?_
  refine v_iload_n (pc' := 10) dX10_byteOf_9 rfl rfl ?_
  refine v_iconst (pc' := 11) (v := 4) dX10_byteOf_10 rfl kI_4 ?_
  refine v_irem (pc' := 12) dX10_byteOf_11 rfl (by decide) ?_
  refine v_imul (pc' := 13) dX10_byteOf_12 rfl ?_
  refine v_iadd (pc' := 14) dX10_byteOf_13 rfl ?_
  refine v_iload_n (pc' := 15) dX10_byteOf_14 rfl rfl ?_
  refine v_iadd (pc' := 16) dX10_byteOf_15 rfl ?_
  exact v_iret dX10_byteOf_16 rfl T
theorem eX10_fieldOf {G : GG} {d : Nat} {h : Hp} {o : OU} {h' : Hp} (r0 : Nat) (x1 : Int32) (x2 : Int32) (x3 : Int32) (hd : 1 ≤ d) (T : ∃ z2 h1, VM G mX10_byteOf (d - 1) [.int x2, .int x3] h (.inl (some (.int z2))) h1 ∧ kH h1 r0 = 1 ∧ vp_in (x1 + z2) (lH h1 r0) ∧ (o = .inl (some (.int (h1.2 r0 (x1 + z2).toNatClampNeg))) ∧ h' = h1)) : VM G mX10_fieldOf d [.ref r0, .int x1, .int x2, .int x3] h o h' := by
  refine V.toM rfl rfl (le_l rfl) (cat_all rfl) ?_
  show V G mX10_fieldOf d 0 [.ref r0, .int x1, .int x2, .int x3] [] h o h'
  have hdd : d - 1 + 1 ≤ d := by omega
  refine v_aload_n (pc' := 1) dX10_fieldOf_0 rfl rfl ?_
  refine v_iload_n (pc' := 2) dX10_fieldOf_1 rfl rfl ?_
  refine v_iload_n (pc' := 3) dX10_fieldOf_2 rfl rfl ?_
  refine v_iload_n (pc' := 4) dX10_fieldOf_3 rfl rfl ?_
  obtain ⟨z2, h1, k3, T⟩ := T
  refine v_callS (pc' := 7) (M1 := mX10_byteOf) (as := [.int x2, .int x3]) (rest := [.int x1, .ref r0]) dX10_fieldOf_4 rfl ko_X10_171 kc_X10_byteOf kt_X10_byteOf (by decide) hdd rfl rfl (le_l rfl) k3 ?_
  refine v_iadd (pc' := 8) dX10_fieldOf_7 rfl ?_
  obtain ⟨q4, T⟩ := T
  obtain ⟨q5, T⟩ := T
  refine v_iald (pc' := 9) dX10_fieldOf_8 rfl rfl q4 q5 ?_
  exact v_iret dX10_fieldOf_9 rfl T
theorem eX10_cell {G : GG} {d : Nat} {h : Hp} {o : OU} {h' : Hp} (x0 : Int32) (T : (o = .inl (some (.int (512 + (12 * x0)))) ∧ h' = h)) : VM G mX10_cell d [.int x0] h o h' := by
  refine V.toM rfl rfl (le_l rfl) (cat_all rfl) ?_
  show V G mX10_cell d 0 [.int x0] [] h o h'
  refine v_sipush (pc' := 3) (v := 512) dX10_cell_0 rfl kS_512 ?_
  refine v_bipush (pc' := 5) (v := 12) dX10_cell_3 rfl kB_12 ?_
  refine v_iload_n (pc' := 6) dX10_cell_5 rfl rfl ?_
  refine v_imul (pc' := 7) dX10_cell_6 rfl ?_
  refine v_iadd (pc' := 8) dX10_cell_7 rfl ?_
  exact v_iret dX10_cell_8 rfl T
theorem eX10_wasAt {G : GG} {d : Nat} {h : Hp} {o : OU} {h' : Hp} (r0 : Nat) (x1 : Int32) (x2 : Int32) (T : kH h r0 = 1 ∧ vp_in (x1 + 2) (lH h r0) ∧ ((16 ≤ (h.2 r0 (x1 + 2).toNatClampNeg) → vp_in ((x1 + 8) + (x2 / 4)) (lH h r0) ∧ (o = .inl (some (.int (((h.2 r0 ((x1 + 8) + (x2 / 4)).toNatClampNeg) >>> ((8 * (x2 - x2 / 4 * 4)) &&& 31)) &&& 255))) ∧ h' = h)) ∧ (¬ 16 ≤ (h.2 r0 (x1 + 2).toNatClampNeg) → vp_in (x1 + 8) (lH h r0) ∧ (o = .inl (some (.int (h.2 r0 (x1 + 8).toNatClampNeg))) ∧ h' = h)))) : VM G mX10_wasAt d [.ref r0, .int x1, .int x2] h o h' := by
  refine V.toM rfl rfl (le_l rfl) (cat_all rfl) ?_
  show V G mX10_wasAt d 0 [.ref r0, .int x1, .int x2] [] h o h'
  refine v_aload_n (pc' := 1) dX10_wasAt_0 rfl rfl ?_
  refine v_iload_n (pc' := 2) dX10_wasAt_1 rfl rfl ?_
  refine v_iconst (pc' := 3) (v := 2) dX10_wasAt_2 rfl kI_2 ?_
  refine v_iadd (pc' := 4) dX10_wasAt_3 rfl ?_
  obtain ⟨q1, T⟩ := T
  obtain ⟨q2, T⟩ := T
  refine v_iald (pc' := 5) dX10_wasAt_4 rfl rfl q1 q2 ?_
  refine v_bipush (pc' := 7) (v := 16) dX10_wasAt_5 rfl kB_16 ?_
  refine v_icmp_ge (tgt := 19) (pc' := 10) dX10_wasAt_7 (by decide) rfl ⟨fun c3 => ?_, fun c3 => ?_⟩
  · have T := T.1 c3
    refine v_aload_n (pc' := 20) dX10_wasAt_19 rfl rfl ?_
    refine v_iload_n (pc' := 21) dX10_wasAt_20 rfl rfl ?_
    refine v_bipush (pc' := 23) (v := 8) dX10_wasAt_21 rfl kB_8 ?_
    refine v_iadd (pc' := 24) dX10_wasAt_23 rfl ?_
    refine v_iload_n (pc' := 25) dX10_wasAt_24 rfl rfl ?_
    refine v_iconst (pc' := 26) (v := 4) dX10_wasAt_25 rfl kI_4 ?_
    refine v_idiv (pc' := 27) dX10_wasAt_26 rfl (by decide) ?_
    refine v_iadd (pc' := 28) dX10_wasAt_27 rfl ?_
    obtain ⟨q4, T⟩ := T
    refine v_iald (pc' := 29) dX10_wasAt_28 rfl rfl q1 q4 ?_
    refine v_bipush (pc' := 31) (v := 8) dX10_wasAt_29 rfl kB_8 ?_
    refine v_iload_n (pc' := 32) dX10_wasAt_31 rfl rfl ?_
    refine v_iconst (pc' := 33) (v := 4) dX10_wasAt_32 rfl kI_4 ?_
    refine v_irem (pc' := 34) dX10_wasAt_33 rfl (by decide) ?_
    refine v_imul (pc' := 35) dX10_wasAt_34 rfl ?_
    refine v_ishr (pc' := 36) dX10_wasAt_35 rfl ?_
    refine v_sipush (pc' := 39) (v := 255) dX10_wasAt_36 rfl kS_255 ?_
    refine v_iand (pc' := 40) dX10_wasAt_39 rfl ?_
    exact v_iret dX10_wasAt_40 rfl T
  · have T := T.2 c3
    refine v_aload_n (pc' := 11) dX10_wasAt_10 rfl rfl ?_
    refine v_iload_n (pc' := 12) dX10_wasAt_11 rfl rfl ?_
    refine v_bipush (pc' := 14) (v := 8) dX10_wasAt_12 rfl kB_8 ?_
    refine v_iadd (pc' := 15) dX10_wasAt_14 rfl ?_
    obtain ⟨q5, T⟩ := T
    refine v_iald (pc' := 16) dX10_wasAt_15 rfl rfl q1 q5 ?_
    refine v_goto (pc' := 40) dX10_wasAt_16 (by decide) ?_
    exact v_iret dX10_wasAt_40 rfl T
theorem eX10_puts {G : GG} {d : Nat} {h : Hp} {o : OU} {h' : Hp} (r0 : Nat) (x1 : Int32) (x2 : Int32) (T : kH h r0 = 1 ∧ vp_in (x1 + 2) (lH h r0) ∧ (((h.2 r0 (x1 + 2).toNatClampNeg) = 16 → (o = .inl (some (.int 1)) ∧ h' = h)) ∧ (¬ (h.2 r0 (x1 + 2).toNatClampNeg) = 16 → ((¬ (h.2 r0 (x1 + 2).toNatClampNeg) = x2 → (o = .inl (some (.int 0)) ∧ h' = h)) ∧ ((h.2 r0 (x1 + 2).toNatClampNeg) = x2 → (o = .inl (some (.int 1)) ∧ h' = h)))))) : VM G mX10_puts d [.ref r0, .int x1, .int x2] h o h' := by
  refine V.toM rfl rfl (le_l rfl) (cat_all rfl) ?_
  show V G mX10_puts d 0 [.ref r0, .int x1, .int x2] [] h o h'
  refine v_aload_n (pc' := 1) dX10_puts_0 rfl rfl ?_
  refine v_iload_n (pc' := 2) dX10_puts_1 rfl rfl ?_
  refine v_iconst (pc' := 3) (v := 2) dX10_puts_2 rfl kI_2 ?_
  refine v_iadd (pc' := 4) dX10_puts_3 rfl ?_
  obtain ⟨q1, T⟩ := T
  obtain ⟨q2, T⟩ := T
  refine v_iald (pc' := 5) dX10_puts_4 rfl rfl q1 q2 ?_
  refine v_bipush (pc' := 7) (v := 16) dX10_puts_5 rfl kB_16 ?_
  refine v_icmp_eq (tgt := 19) (pc' := 10) dX10_puts_7 (by decide) rfl ⟨fun c3 => ?_, fun c3 => ?_⟩
  · have T := T.1 c3
    refine v_iconst (pc' := 20) (v := 1) dX10_puts_19 rfl kI_1 ?_
    refine v_goto (pc' := 24) dX10_puts_20 (by decide) ?_
    exact v_zret dX10_puts_24 rfl (Or.inr rfl) T
  · have T := T.2 c3
    refine v_aload_n (pc' := 11) dX10_puts_10 rfl rfl ?_
    refine v_iload_n (pc' := 12) dX10_puts_11 rfl rfl ?_
    refine v_iconst (pc' := 13) (v := 2) dX10_puts_12 rfl kI_2 ?_
    refine v_iadd (pc' := 14) dX10_puts_13 rfl ?_
    refine v_iald (pc' := 15) dX10_puts_14 rfl rfl q1 q2 ?_
    refine v_iload_n (pc' := 16) dX10_puts_15 rfl rfl ?_
    refine v_icmp_ne (tgt := 23) (pc' := 19) dX10_puts_16 (by decide) rfl ⟨fun c4 => ?_, fun c4 => ?_⟩
    · have T := T.1 c4
      refine v_iconst (pc' := 24) (v := 0) dX10_puts_23 rfl kI_0 ?_
      exact v_zret dX10_puts_24 rfl (Or.inl rfl) T
    · have T := T.2 c4
      refine v_iconst (pc' := 20) (v := 1) dX10_puts_19 rfl kI_1 ?_
      refine v_goto (pc' := 24) dX10_puts_20 (by decide) ?_
      exact v_zret dX10_puts_24 rfl (Or.inr rfl) T
theorem eX10_isThere {G : GG} {d : Nat} {h : Hp} {o : OU} {h' : Hp} (r0 : Nat) (x1 : Int32) (x2 : Int32) (x3 : Int32) (T : V G mX10_isThere d 6 [.ref r0, .int x1, .int x2, .int x3, .int 1, .int 0] [] h o h') : VM G mX10_isThere d [.ref r0, .int x1, .int x2, .int x3] h o h' := by
  refine V.toM rfl rfl (le_l rfl) (cat_all rfl) ?_
  show V G mX10_isThere d 0 [.ref r0, .int x1, .int x2, .int x3, uV, uV] [] h o h'
  refine v_iconst (pc' := 1) (v := 1) dX10_isThere_0 rfl kI_1 ?_
  refine v_istore (pc' := 3) (loc' := [.ref r0, .int x1, .int x2, .int x3, .int 1, uV]) dX10_isThere_1 rfl (lt_l rfl) rfl ?_
  refine v_iconst (pc' := 4) (v := 0) dX10_isThere_3 rfl kI_0 ?_
  refine v_istore (pc' := 6) (loc' := [.ref r0, .int x1, .int x2, .int x3, .int 1, .int 0]) dX10_isThere_4 rfl (lt_l rfl) rfl ?_
  exact T
theorem bX10_isThere_6 {G : GG} {d : Nat} {h : Hp} {o : OU} {h' : Hp} (r0 : Nat) (x1 : Int32) (x2 : Int32) (x3 : Int32) (x4 : Int32) (x5 : Int32) (T : ((16 ≤ x5 → (x4 = 0 ∨ x4 = 1) ∧ (o = .inl (some (.int x4)) ∧ h' = h)) ∧ (¬ 16 ≤ x5 → ((16 ≤ x2 → kH h r0 = 1 ∧ vp_in ((0 + (16 * x1)) + x5) (lH h r0) ∧ ((¬ (h.2 r0 ((0 + (16 * x1)) + x5).toNatClampNeg) = x3 → V G mX10_isThere d 6 [.ref r0, .int x1, .int x2, .int x3, .int (x4 &&& 0), .int (x5 + 1)] [] h o h') ∧ ((h.2 r0 ((0 + (16 * x1)) + x5).toNatClampNeg) = x3 → V G mX10_isThere d 6 [.ref r0, .int x1, .int x2, .int x3, .int (x4 &&& 1), .int (x5 + 1)] [] h o h'))) ∧ (¬ 16 ≤ x2 → ((¬ x5 = x2 → V G mX10_isThere d 6 [.ref r0, .int x1, .int x2, .int x3, .int (x4 &&& 1), .int (x5 + 1)] [] h o h') ∧ (x5 = x2 → kH h r0 = 1 ∧ vp_in ((0 + (16 * x1)) + x5) (lH h r0) ∧ ((¬ (h.2 r0 ((0 + (16 * x1)) + x5).toNatClampNeg) = x3 → V G mX10_isThere d 6 [.ref r0, .int x1, .int x2, .int x3, .int (x4 &&& 0), .int (x5 + 1)] [] h o h') ∧ ((h.2 r0 ((0 + (16 * x1)) + x5).toNatClampNeg) = x3 → V G mX10_isThere d 6 [.ref r0, .int x1, .int x2, .int x3, .int (x4 &&& 1), .int (x5 + 1)] [] h o h'))))))))) : V G mX10_isThere d 6 [.ref r0, .int x1, .int x2, .int x3, .int x4, .int x5] [] h o h' := by
  refine v_iload (pc' := 8) dX10_isThere_6 rfl rfl ?_
  refine v_bipush (pc' := 10) (v := 16) dX10_isThere_8 rfl kB_16 ?_
  refine v_icmp_ge (tgt := 56) (pc' := 13) dX10_isThere_10 (by decide) rfl ⟨fun c1 => ?_, fun c1 => ?_⟩
  · have T := T.1 c1
    refine v_iload (pc' := 58) dX10_isThere_56 rfl rfl ?_
    obtain ⟨q2, T⟩ := T
    exact v_zret dX10_isThere_58 rfl q2 T
  · have T := T.2 c1
    refine v_iload (pc' := 15) dX10_isThere_13 rfl rfl ?_
    refine v_iload_n (pc' := 16) dX10_isThere_15 rfl rfl ?_
    refine v_bipush (pc' := 18) (v := 16) dX10_isThere_16 rfl kB_16 ?_
    refine v_icmp_ge (tgt := 27) (pc' := 21) dX10_isThere_18 (by decide) rfl ⟨fun c3 => ?_, fun c3 => ?_⟩
    · have T := T.1 c3
      refine v_aload_n (pc' := 28) dX10_isThere_27 rfl rfl ?_
      refine v_iconst (pc' := 29) (v := 0) dX10_isThere_28 rfl kI_0 ?_
      refine v_bipush (pc' := 31) (v := 16) dX10_isThere_29 rfl kB_16 ?_
      refine v_iload_n (pc' := 32) dX10_isThere_31 rfl rfl ?_
      refine v_imul (pc' := 33) dX10_isThere_32 rfl ?_
      refine v_iadd (pc' := 34) dX10_isThere_33 rfl ?_
      refine v_iload (pc' := 36) dX10_isThere_34 rfl rfl ?_
      refine v_iadd (pc' := 37) dX10_isThere_36 rfl ?_
      obtain ⟨q4, T⟩ := T
      obtain ⟨q5, T⟩ := T
      refine v_iald (pc' := 38) dX10_isThere_37 rfl rfl q4 q5 ?_
      refine v_iload_n (pc' := 39) dX10_isThere_38 rfl rfl ?_
      refine v_icmp_ne (tgt := 46) (pc' := 42) dX10_isThere_39 (by decide) rfl ⟨fun c6 => ?_, fun c6 => ?_⟩
      · have T := T.1 c6
        refine v_iconst (pc' := 47) (v := 0) dX10_isThere_46 rfl kI_0 ?_
        refine v_iand (pc' := 48) dX10_isThere_47 rfl ?_
        refine v_istore (pc' := 50) (loc' := [.ref r0, .int x1, .int x2, .int x3, .int (x4 &&& 0), .int x5]) dX10_isThere_48 rfl (lt_l rfl) rfl ?_
        refine v_iinc (pc' := 53) (loc' := [.ref r0, .int x1, .int x2, .int x3, .int (x4 &&& 0), .int (x5 + 1)]) dX10_isThere_50 rfl rfl (kX_1 _) rfl ?_
        refine v_goto (pc' := 6) dX10_isThere_53 (by decide) ?_
        exact T
      · have T := T.2 c6
        refine v_iconst (pc' := 43) (v := 1) dX10_isThere_42 rfl kI_1 ?_
        refine v_goto (pc' := 47) dX10_isThere_43 (by decide) ?_
        refine v_iand (pc' := 48) dX10_isThere_47 rfl ?_
        refine v_istore (pc' := 50) (loc' := [.ref r0, .int x1, .int x2, .int x3, .int (x4 &&& 1), .int x5]) dX10_isThere_48 rfl (lt_l rfl) rfl ?_
        refine v_iinc (pc' := 53) (loc' := [.ref r0, .int x1, .int x2, .int x3, .int (x4 &&& 1), .int (x5 + 1)]) dX10_isThere_50 rfl rfl (kX_1 _) rfl ?_
        refine v_goto (pc' := 6) dX10_isThere_53 (by decide) ?_
        exact T
    · have T := T.2 c3
      refine v_iload (pc' := 23) dX10_isThere_21 rfl rfl ?_
      refine v_iload_n (pc' := 24) dX10_isThere_23 rfl rfl ?_
      refine v_icmp_ne (tgt := 42) (pc' := 27) dX10_isThere_24 (by decide) rfl ⟨fun c7 => ?_, fun c7 => ?_⟩
      · have T := T.1 c7
        refine v_iconst (pc' := 43) (v := 1) dX10_isThere_42 rfl kI_1 ?_
        refine v_goto (pc' := 47) dX10_isThere_43 (by decide) ?_
        refine v_iand (pc' := 48) dX10_isThere_47 rfl ?_
        refine v_istore (pc' := 50) (loc' := [.ref r0, .int x1, .int x2, .int x3, .int (x4 &&& 1), .int x5]) dX10_isThere_48 rfl (lt_l rfl) rfl ?_
        refine v_iinc (pc' := 53) (loc' := [.ref r0, .int x1, .int x2, .int x3, .int (x4 &&& 1), .int (x5 + 1)]) dX10_isThere_50 rfl rfl (kX_1 _) rfl ?_
        refine v_goto (pc' := 6) dX10_isThere_53 (by decide) ?_
        exact T
      · have T := T.2 c7
        refine v_aload_n (pc' := 28) dX10_isThere_27 rfl rfl ?_
        refine v_iconst (pc' := 29) (v := 0) dX10_isThere_28 rfl kI_0 ?_
        refine v_bipush (pc' := 31) (v := 16) dX10_isThere_29 rfl kB_16 ?_
        refine v_iload_n (pc' := 32) dX10_isThere_31 rfl rfl ?_
        refine v_imul (pc' := 33) dX10_isThere_32 rfl ?_
        refine v_iadd (pc' := 34) dX10_isThere_33 rfl ?_
        refine v_iload (pc' := 36) dX10_isThere_34 rfl rfl ?_
        refine v_iadd (pc' := 37) dX10_isThere_36 rfl ?_
        obtain ⟨q8, T⟩ := T
        obtain ⟨q9, T⟩ := T
        refine v_iald (pc' := 38) dX10_isThere_37 rfl rfl q8 q9 ?_
        refine v_iload_n (pc' := 39) dX10_isThere_38 rfl rfl ?_
        refine v_icmp_ne (tgt := 46) (pc' := 42) dX10_isThere_39 (by decide) rfl ⟨fun c10 => ?_, fun c10 => ?_⟩
        · have T := T.1 c10
          refine v_iconst (pc' := 47) (v := 0) dX10_isThere_46 rfl kI_0 ?_
          refine v_iand (pc' := 48) dX10_isThere_47 rfl ?_
          refine v_istore (pc' := 50) (loc' := [.ref r0, .int x1, .int x2, .int x3, .int (x4 &&& 0), .int x5]) dX10_isThere_48 rfl (lt_l rfl) rfl ?_
          refine v_iinc (pc' := 53) (loc' := [.ref r0, .int x1, .int x2, .int x3, .int (x4 &&& 0), .int (x5 + 1)]) dX10_isThere_50 rfl rfl (kX_1 _) rfl ?_
          refine v_goto (pc' := 6) dX10_isThere_53 (by decide) ?_
          exact T
        · have T := T.2 c10
          refine v_iconst (pc' := 43) (v := 1) dX10_isThere_42 rfl kI_1 ?_
          refine v_goto (pc' := 47) dX10_isThere_43 (by decide) ?_
          refine v_iand (pc' := 48) dX10_isThere_47 rfl ?_
          refine v_istore (pc' := 50) (loc' := [.ref r0, .int x1, .int x2, .int x3, .int (x4 &&& 1), .int x5]) dX10_isThere_48 rfl (lt_l rfl) rfl ?_
          refine v_iinc (pc' := 53) (loc' := [.ref r0, .int x1, .int x2, .int x3, .int (x4 &&& 1), .int (x5 + 1)]) dX10_isThere_50 rfl rfl (kX_1 _) rfl ?_
          refine v_goto (pc' := 6) dX10_isThere_53 (by decide) ?_
          exact T
theorem eX10_makes {G : GG} {d : Nat} {h : Hp} {o : OU} {h' : Hp} (r0 : Nat) (x1 : Int32) (x2 : Int32) (x3 : Int32) (x4 : Int32) (x5 : Int32) (x6 : Int32) (x7 : Int32) (hd : 1 ≤ d) (T : ∃ z2 h1, VM G mX10_isThere (d - 1) [.ref r0, .int x1, .int x2, .int x3] h (.inl (some (.int z2))) h1 ∧ ((z2 = 0 → kH h1 r0 = 1 ∧ vp_in 3392 (lH h1 r0) ∧ ∃ z8 h7, VM G mX10_cell (d - 1) [.int (h1.2 r0 3392)] h1 (.inl (some (.int z8))) h7 ∧ kH h7 r0 = 1 ∧ vp_in 3392 (lH h7 r0) ∧ vp_in 3394 (lH h7 r0) ∧ vp_in z8 (lH h7 r0) ∧ (∀ i14 : Nat → Nat → Int32, i14 = (upI (upI (upI h7.2 r0 3392 ((h7.2 r0 3392) + 1)) r0 3394 (((upI h7.2 r0 3392 ((h7.2 r0 3392) + 1)) r0 3394) + 1)) r0 z8.toNatClampNeg ((upI (upI h7.2 r0 3392 ((h7.2 r0 3392) + 1)) r0 3394 (((upI h7.2 r0 3392 ((h7.2 r0 3392) + 1)) r0 3394) + 1)) r0 3394)) → vp_in (z8 + 1) (lH h7 r0) ∧ vp_in (z8 + 2) (lH h7 r0) ∧ vp_in (z8 + 3) (lH h7 r0) ∧ vp_in (z8 + 4) (lH h7 r0) ∧ (∀ i20 : Nat → Nat → Int32, i20 = (upI (upI (upI (upI i14 r0 (z8 + 1).toNatClampNeg x1) r0 (z8 + 2).toNatClampNeg x2) r0 (z8 + 3).toNatClampNeg x3) r0 (z8 + 4).toNatClampNeg x4) → vp_in (z8 + 5) (lH h7 r0) ∧ vp_in (z8 + 6) (lH h7 r0) ∧ vp_in (z8 + 7) (lH h7 r0) ∧ V G mX10_makes d 116 [.ref r0, uV, .int x2, .int x3, uV, uV, uV, uV, .int z8, .int (0 + (16 * x1)), .int 8] [] (h7.1, (upI (upI (upI i20 r0 (z8 + 5).toNatClampNeg x5) r0 (z8 + 6).toNatClampNeg x6) r0 (z8 + 7).toNatClampNeg x7)) o h'))) ∧ (¬ z2 = 0 → (o = .inl (some (.int 0)) ∧ h' = h1)))) : VM G mX10_makes d [.ref r0, .int x1, .int x2, .int x3, .int x4, .int x5, .int x6, .int x7] h o h' := by
  refine V.toM rfl rfl (le_l rfl) (cat_all rfl) ?_
  show V G mX10_makes d 0 [.ref r0, .int x1, .int x2, .int x3, .int x4, .int x5, .int x6, .int x7, uV, uV, uV] [] h o h'
  have hdd : d - 1 + 1 ≤ d := by omega
  refine v_aload_n (pc' := 1) dX10_makes_0 rfl rfl ?_
  refine v_iload_n (pc' := 2) dX10_makes_1 rfl rfl ?_
  refine v_iload_n (pc' := 3) dX10_makes_2 rfl rfl ?_
  refine v_iload_n (pc' := 4) dX10_makes_3 rfl rfl ?_
  obtain ⟨z2, h1, k3, T⟩ := T
  refine v_callS (pc' := 7) (M1 := mX10_isThere) (as := [.ref r0, .int x1, .int x2, .int x3]) (rest := []) dX10_makes_4 rfl ko_X10_197 kc_X10_isThere kt_X10_isThere (by decide) hdd rfl rfl (le_l rfl) k3 ?_
  refine v_if_eq (tgt := 12) (pc' := 10) dX10_makes_7 (by decide) rfl ⟨fun c4 => ?_, fun c4 => ?_⟩
  · have T := T.1 c4
    refine v_aload_n (pc' := 13) dX10_makes_12 rfl rfl ?_
    refine v_sipush (pc' := 16) (v := 3392) dX10_makes_13 rfl kS_3392 ?_
    obtain ⟨q5, T⟩ := T
    obtain ⟨q6, T⟩ := T
    refine v_iald (pc' := 17) dX10_makes_16 rfl kN_3392 q5 q6 ?_
    obtain ⟨z8, h7, k9, T⟩ := T
    refine v_callS (pc' := 20) (M1 := mX10_cell) (as := [.int (h1.2 r0 3392)]) (rest := []) dX10_makes_17 rfl ko_X10_201 kc_X10_cell kt_X10_cell (by decide) hdd rfl rfl (le_l rfl) k9 ?_
    refine v_istore (pc' := 22) (loc' := [.ref r0, .int x1, .int x2, .int x3, .int x4, .int x5, .int x6, .int x7, .int z8, uV, uV]) dX10_makes_20 rfl (lt_l rfl) rfl ?_
    refine v_iconst (pc' := 23) (v := 0) dX10_makes_22 rfl kI_0 ?_
    refine v_bipush (pc' := 25) (v := 16) dX10_makes_23 rfl kB_16 ?_
    refine v_iload_n (pc' := 26) dX10_makes_25 rfl rfl ?_
    refine v_imul (pc' := 27) dX10_makes_26 rfl ?_
    refine v_iadd (pc' := 28) dX10_makes_27 rfl ?_
    refine v_istore (pc' := 30) (loc' := [.ref r0, .int x1, .int x2, .int x3, .int x4, .int x5, .int x6, .int x7, .int z8, .int (0 + (16 * x1)), uV]) dX10_makes_28 rfl (lt_l rfl) rfl ?_
    refine v_aload_n (pc' := 31) dX10_makes_30 rfl rfl ?_
    refine v_sipush (pc' := 34) (v := 3392) dX10_makes_31 rfl kS_3392 ?_
    refine v_dup2 (pc' := 35) dX10_makes_34 rfl rfl rfl ?_
    obtain ⟨q10, T⟩ := T
    obtain ⟨q11, T⟩ := T
    refine v_iald (pc' := 36) dX10_makes_35 rfl kN_3392 q10 q11 ?_
    refine v_iconst (pc' := 37) (v := 1) dX10_makes_36 rfl kI_1 ?_
    refine v_iadd (pc' := 38) dX10_makes_37 rfl ?_
    refine v_iast (pc' := 39) dX10_makes_38 rfl kN_3392 q10 q11 ?_
    refine v_aload_n (pc' := 40) dX10_makes_39 rfl rfl ?_
    refine v_sipush (pc' := 43) (v := 3394) dX10_makes_40 rfl kS_3394 ?_
    refine v_dup2 (pc' := 44) dX10_makes_43 rfl rfl rfl ?_
    obtain ⟨q12, T⟩ := T
    refine v_iald (pc' := 45) dX10_makes_44 rfl kN_3394 q10 q12 ?_
    refine v_iconst (pc' := 46) (v := 1) dX10_makes_45 rfl kI_1 ?_
    refine v_iadd (pc' := 47) dX10_makes_46 rfl ?_
    refine v_iast (pc' := 48) dX10_makes_47 rfl kN_3394 q10 q12 ?_
    refine v_aload_n (pc' := 49) dX10_makes_48 rfl rfl ?_
    refine v_iload (pc' := 51) dX10_makes_49 rfl rfl ?_
    refine v_aload_n (pc' := 52) dX10_makes_51 rfl rfl ?_
    refine v_sipush (pc' := 55) (v := 3394) dX10_makes_52 rfl kS_3394 ?_
    refine v_iald (pc' := 56) dX10_makes_55 rfl kN_3394 q10 q12 ?_
    obtain ⟨q13, T⟩ := T
    refine v_iast (pc' := 57) dX10_makes_56 rfl rfl q10 q13 ?_
    show V G mX10_makes d 57 [.ref r0, .int x1, .int x2, .int x3, .int x4, .int x5, .int x6, .int x7, .int z8, .int (0 + (16 * x1)), uV] [] (h7.1, (upI (upI (upI h7.2 r0 3392 ((h7.2 r0 3392) + 1)) r0 3394 (((upI h7.2 r0 3392 ((h7.2 r0 3392) + 1)) r0 3394) + 1)) r0 z8.toNatClampNeg ((upI (upI h7.2 r0 3392 ((h7.2 r0 3392) + 1)) r0 3394 (((upI h7.2 r0 3392 ((h7.2 r0 3392) + 1)) r0 3394) + 1)) r0 3394))) o h'
    obtain ⟨i14, e15⟩ : ∃ z : Nat → Nat → Int32, z = (upI (upI (upI h7.2 r0 3392 ((h7.2 r0 3392) + 1)) r0 3394 (((upI h7.2 r0 3392 ((h7.2 r0 3392) + 1)) r0 3394) + 1)) r0 z8.toNatClampNeg ((upI (upI h7.2 r0 3392 ((h7.2 r0 3392) + 1)) r0 3394 (((upI h7.2 r0 3392 ((h7.2 r0 3392) + 1)) r0 3394) + 1)) r0 3394)) := ⟨_, rfl⟩
    rw [← e15]
    have T := T i14 e15
    refine v_aload_n (pc' := 58) dX10_makes_57 rfl rfl ?_
    refine v_iload (pc' := 60) dX10_makes_58 rfl rfl ?_
    refine v_iconst (pc' := 61) (v := 1) dX10_makes_60 rfl kI_1 ?_
    refine v_iadd (pc' := 62) dX10_makes_61 rfl ?_
    refine v_iload_n (pc' := 63) dX10_makes_62 rfl rfl ?_
    obtain ⟨q16, T⟩ := T
    refine v_iast (pc' := 64) dX10_makes_63 rfl rfl q10 q16 ?_
    refine v_aload_n (pc' := 65) dX10_makes_64 rfl rfl ?_
    refine v_iload (pc' := 67) dX10_makes_65 rfl rfl ?_
    refine v_iconst (pc' := 68) (v := 2) dX10_makes_67 rfl kI_2 ?_
    refine v_iadd (pc' := 69) dX10_makes_68 rfl ?_
    refine v_iload_n (pc' := 70) dX10_makes_69 rfl rfl ?_
    obtain ⟨q17, T⟩ := T
    refine v_iast (pc' := 71) dX10_makes_70 rfl rfl q10 q17 ?_
    refine v_aload_n (pc' := 72) dX10_makes_71 rfl rfl ?_
    refine v_iload (pc' := 74) dX10_makes_72 rfl rfl ?_
    refine v_iconst (pc' := 75) (v := 3) dX10_makes_74 rfl kI_3 ?_
    refine v_iadd (pc' := 76) dX10_makes_75 rfl ?_
    refine v_iload_n (pc' := 77) dX10_makes_76 rfl rfl ?_
    obtain ⟨q18, T⟩ := T
    refine v_iast (pc' := 78) dX10_makes_77 rfl rfl q10 q18 ?_
    refine v_aload_n (pc' := 79) dX10_makes_78 rfl rfl ?_
    refine v_iload (pc' := 81) dX10_makes_79 rfl rfl ?_
    refine v_iconst (pc' := 82) (v := 4) dX10_makes_81 rfl kI_4 ?_
    refine v_iadd (pc' := 83) dX10_makes_82 rfl ?_
    refine v_iload (pc' := 85) dX10_makes_83 rfl rfl ?_
    obtain ⟨q19, T⟩ := T
    refine v_iast (pc' := 86) dX10_makes_85 rfl rfl q10 q19 ?_
    show V G mX10_makes d 86 [.ref r0, .int x1, .int x2, .int x3, .int x4, .int x5, .int x6, .int x7, .int z8, .int (0 + (16 * x1)), uV] [] (h7.1, (upI (upI (upI (upI i14 r0 (z8 + 1).toNatClampNeg x1) r0 (z8 + 2).toNatClampNeg x2) r0 (z8 + 3).toNatClampNeg x3) r0 (z8 + 4).toNatClampNeg x4)) o h'
    obtain ⟨i20, e21⟩ : ∃ z : Nat → Nat → Int32, z = (upI (upI (upI (upI i14 r0 (z8 + 1).toNatClampNeg x1) r0 (z8 + 2).toNatClampNeg x2) r0 (z8 + 3).toNatClampNeg x3) r0 (z8 + 4).toNatClampNeg x4) := ⟨_, rfl⟩
    rw [← e21]
    have T := T i20 e21
    refine v_aload_n (pc' := 87) dX10_makes_86 rfl rfl ?_
    refine v_iload (pc' := 89) dX10_makes_87 rfl rfl ?_
    refine v_iconst (pc' := 90) (v := 5) dX10_makes_89 rfl kI_5 ?_
    refine v_iadd (pc' := 91) dX10_makes_90 rfl ?_
    refine v_iload (pc' := 93) dX10_makes_91 rfl rfl ?_
    obtain ⟨q22, T⟩ := T
    refine v_iast (pc' := 94) dX10_makes_93 rfl rfl q10 q22 ?_
    refine v_aload_n (pc' := 95) dX10_makes_94 rfl rfl ?_
    refine v_iload (pc' := 97) dX10_makes_95 rfl rfl ?_
    refine v_bipush (pc' := 99) (v := 6) dX10_makes_97 rfl kB_6 ?_
    refine v_iadd (pc' := 100) dX10_makes_99 rfl ?_
    refine v_iload (pc' := 102) dX10_makes_100 rfl rfl ?_
    obtain ⟨q23, T⟩ := T
    refine v_iast (pc' := 103) dX10_makes_102 rfl rfl q10 q23 ?_
    refine v_aload_n (pc' := 104) dX10_makes_103 rfl rfl ?_
    refine v_iload (pc' := 106) dX10_makes_104 rfl rfl ?_
    refine v_bipush (pc' := 108) (v := 7) dX10_makes_106 rfl kB_7 ?_
    refine v_iadd (pc' := 109) dX10_makes_108 rfl ?_
    refine v_iload (pc' := 111) dX10_makes_109 rfl rfl ?_
    obtain ⟨q24, T⟩ := T
    refine v_iast (pc' := 112) dX10_makes_111 rfl rfl q10 q24 ?_
    refine v_bipush (pc' := 114) (v := 8) dX10_makes_112 rfl kB_8 ?_
    refine v_istore (pc' := 116) (loc' := [.ref r0, .int x1, .int x2, .int x3, .int x4, .int x5, .int x6, .int x7, .int z8, .int (0 + (16 * x1)), .int 8]) dX10_makes_114 rfl (lt_l rfl) rfl ?_
    exact V.drop (llp_r (llp_u (llp_r (llp_r (llp_u (llp_u (llp_u (llp_u (llp_r (llp_r (llp_r llp_nil))))))))))) T
  · have T := T.2 c4
    refine v_iconst (pc' := 11) (v := 0) dX10_makes_10 rfl kI_0 ?_
    exact v_iret dX10_makes_11 rfl T
theorem bX10_makes_116 {G : GG} {d : Nat} {h : Hp} {o : OU} {h' : Hp} (r0 : Nat) (x2 : Int32) (x3 : Int32) (x8 : Int32) (x9 : Int32) (x10 : Int32) (T : ((12 ≤ x10 → ((16 ≤ x2 → V G mX10_makes d 171 [.ref r0, uV, uV, .int x3, uV, uV, uV, uV, .int x8, .int x9, .int 0] [] h o h') ∧ (¬ 16 ≤ x2 → kH h r0 = 1 ∧ vp_in (x9 + x2) (lH h r0) ∧ vp_in (x8 + 8) (lH h r0) ∧ vp_in x8 (lH h r0) ∧ (o = .inl (some (.int ((upI (upI h.2 r0 (x8 + 8).toNatClampNeg (h.2 r0 (x9 + x2).toNatClampNeg)) r0 (x9 + x2).toNatClampNeg x3) r0 x8.toNatClampNeg))) ∧ h' = (h.1, (upI (upI h.2 r0 (x8 + 8).toNatClampNeg (h.2 r0 (x9 + x2).toNatClampNeg)) r0 (x9 + x2).toNatClampNeg x3)))))) ∧ (¬ 12 ≤ x10 → kH h r0 = 1 ∧ vp_in (x8 + x10) (lH h r0) ∧ V G mX10_makes d 116 [.ref r0, uV, .int x2, .int x3, uV, uV, uV, uV, .int x8, .int x9, .int (x10 + 1)] [] (h.1, (upI h.2 r0 (x8 + x10).toNatClampNeg 0)) o h'))) : V G mX10_makes d 116 [.ref r0, uV, .int x2, .int x3, uV, uV, uV, uV, .int x8, .int x9, .int x10] [] h o h' := by
  refine v_iload (pc' := 118) dX10_makes_116 rfl rfl ?_
  refine v_bipush (pc' := 120) (v := 12) dX10_makes_118 rfl kB_12 ?_
  refine v_icmp_ge (tgt := 137) (pc' := 123) dX10_makes_120 (by decide) rfl ⟨fun c1 => ?_, fun c1 => ?_⟩
  · have T := T.1 c1
    refine v_iload_n (pc' := 138) dX10_makes_137 rfl rfl ?_
    refine v_bipush (pc' := 140) (v := 16) dX10_makes_138 rfl kB_16 ?_
    refine v_icmp_ge (tgt := 168) (pc' := 143) dX10_makes_140 (by decide) rfl ⟨fun c2 => ?_, fun c2 => ?_⟩
    · have T := T.1 c2
      refine v_iconst (pc' := 169) (v := 0) dX10_makes_168 rfl kI_0 ?_
      refine v_istore (pc' := 171) (loc' := [.ref r0, uV, .int x2, .int x3, uV, uV, uV, uV, .int x8, .int x9, .int 0]) dX10_makes_169 rfl (lt_l rfl) rfl ?_
      exact V.drop (llp_r (llp_r (llp_u (llp_r (llp_r (llp_r (llp_r (llp_r (llp_r (llp_r (llp_r llp_nil))))))))))) T
    · have T := T.2 c2
      refine v_aload_n (pc' := 144) dX10_makes_143 rfl rfl ?_
      refine v_iload (pc' := 146) dX10_makes_144 rfl rfl ?_
      refine v_bipush (pc' := 148) (v := 8) dX10_makes_146 rfl kB_8 ?_
      refine v_iadd (pc' := 149) dX10_makes_148 rfl ?_
      refine v_aload_n (pc' := 150) dX10_makes_149 rfl rfl ?_
      refine v_iload (pc' := 152) dX10_makes_150 rfl rfl ?_
      refine v_iload_n (pc' := 153) dX10_makes_152 rfl rfl ?_
      refine v_iadd (pc' := 154) dX10_makes_153 rfl ?_
      obtain ⟨q3, T⟩ := T
      obtain ⟨q4, T⟩ := T
      refine v_iald (pc' := 155) dX10_makes_154 rfl rfl q3 q4 ?_
      obtain ⟨q5, T⟩ := T
      refine v_iast (pc' := 156) dX10_makes_155 rfl rfl q3 q5 ?_
      refine v_aload_n (pc' := 157) dX10_makes_156 rfl rfl ?_
      refine v_iload (pc' := 159) dX10_makes_157 rfl rfl ?_
      refine v_iload_n (pc' := 160) dX10_makes_159 rfl rfl ?_
      refine v_iadd (pc' := 161) dX10_makes_160 rfl ?_
      refine v_iload_n (pc' := 162) dX10_makes_161 rfl rfl ?_
      refine v_iast (pc' := 163) dX10_makes_162 rfl rfl q3 q4 ?_
      refine v_aload_n (pc' := 164) dX10_makes_163 rfl rfl ?_
      refine v_iload (pc' := 166) dX10_makes_164 rfl rfl ?_
      obtain ⟨q6, T⟩ := T
      refine v_iald (pc' := 167) dX10_makes_166 rfl rfl q3 q6 ?_
      exact v_iret dX10_makes_167 rfl T
  · have T := T.2 c1
    refine v_aload_n (pc' := 124) dX10_makes_123 rfl rfl ?_
    refine v_iload (pc' := 126) dX10_makes_124 rfl rfl ?_
    refine v_iload (pc' := 128) dX10_makes_126 rfl rfl ?_
    refine v_iadd (pc' := 129) dX10_makes_128 rfl ?_
    refine v_iconst (pc' := 130) (v := 0) dX10_makes_129 rfl kI_0 ?_
    obtain ⟨q7, T⟩ := T
    obtain ⟨q8, T⟩ := T
    refine v_iast (pc' := 131) dX10_makes_130 rfl rfl q7 q8 ?_
    refine v_iinc (pc' := 134) (loc' := [.ref r0, uV, .int x2, .int x3, uV, uV, uV, uV, .int x8, .int x9, .int (x10 + 1)]) dX10_makes_131 rfl rfl (kX_1 _) rfl ?_
    refine v_goto (pc' := 116) dX10_makes_134 (by decide) ?_
    exact T
theorem bX10_makes_171 {G : GG} {d : Nat} {h : Hp} {o : OU} {h' : Hp} (r0 : Nat) (x3 : Int32) (x8 : Int32) (x9 : Int32) (x10 : Int32) (T : ((16 ≤ x10 → kH h r0 = 1 ∧ vp_in x8 (lH h r0) ∧ (o = .inl (some (.int (h.2 r0 x8.toNatClampNeg))) ∧ h' = h)) ∧ (¬ 16 ≤ x10 → kH h r0 = 1 ∧ vp_in ((x8 + 8) + (x10 / 4)) (lH h r0) ∧ vp_in (x9 + x10) (lH h r0) ∧ (∀ i7 : Nat → Nat → Int32, i7 = (upI h.2 r0 ((x8 + 8) + (x10 / 4)).toNatClampNeg ((h.2 r0 ((x8 + 8) + (x10 / 4)).toNatClampNeg) ||| ((h.2 r0 (x9 + x10).toNatClampNeg) <<< ((8 * (x10 - x10 / 4 * 4)) &&& 31)))) → V G mX10_makes d 171 [.ref r0, uV, uV, .int x3, uV, uV, uV, uV, .int x8, .int x9, .int (x10 + 1)] [] (h.1, (upI i7 r0 (x9 + x10).toNatClampNeg x3)) o h')))) : V G mX10_makes d 171 [.ref r0, uV, uV, .int x3, uV, uV, uV, uV, .int x8, .int x9, .int x10] [] h o h' := by
  refine v_iload (pc' := 173) dX10_makes_171 rfl rfl ?_
  refine v_bipush (pc' := 175) (v := 16) dX10_makes_173 rfl kB_16 ?_
  refine v_icmp_ge (tgt := 222) (pc' := 178) dX10_makes_175 (by decide) rfl ⟨fun c1 => ?_, fun c1 => ?_⟩
  · have T := T.1 c1
    refine v_aload_n (pc' := 223) dX10_makes_222 rfl rfl ?_
    refine v_iload (pc' := 225) dX10_makes_223 rfl rfl ?_
    obtain ⟨q2, T⟩ := T
    obtain ⟨q3, T⟩ := T
    refine v_iald (pc' := 226) dX10_makes_225 rfl rfl q2 q3 ?_
    exact v_iret dX10_makes_226 rfl T
  · have T := T.2 c1
    refine v_aload_n (pc' := 179) dX10_makes_178 rfl rfl ?_
    refine v_iload (pc' := 181) dX10_makes_179 rfl rfl ?_
    refine v_bipush (pc' := 183) (v := 8) dX10_makes_181 rfl kB_8 ?_
    refine v_iadd (pc' := 184) dX10_makes_183 rfl ?_
    refine v_iload (pc' := 186) dX10_makes_184 rfl rfl ?_
    refine v_iconst (pc' := 187) (v := 4) dX10_makes_186 rfl kI_4 ?_
    refine v_idiv (pc' := 188) dX10_makes_187 rfl (by decide) ?_
    refine v_iadd (pc' := 189) dX10_makes_188 rfl ?_
    refine v_dup2 (pc' := 190) dX10_makes_189 rfl rfl rfl ?_
    obtain ⟨q4, T⟩ := T
    obtain ⟨q5, T⟩ := T
    refine v_iald (pc' := 191) dX10_makes_190 rfl rfl q4 q5 ?_
    refine v_aload_n (pc' := 192) dX10_makes_191 rfl rfl ?_
    refine v_iload (pc' := 194) dX10_makes_192 rfl rfl ?_
    refine v_iload (pc' := 196) dX10_makes_194 rfl rfl ?_
    refine v_iadd (pc' := 197) dX10_makes_196 rfl ?_
    obtain ⟨q6, T⟩ := T
    refine v_iald (pc' := 198) dX10_makes_197 rfl rfl q4 q6 ?_
    refine v_bipush (pc' := 200) (v := 8) dX10_makes_198 rfl kB_8 ?_
    refine v_iload (pc' := 202) dX10_makes_200 rfl rfl ?_
    refine v_iconst (pc' := 203) (v := 4) dX10_makes_202 rfl kI_4 ?_
    refine v_irem (pc' := 204) dX10_makes_203 rfl (by decide) ?_
    refine v_imul (pc' := 205) dX10_makes_204 rfl ?_
    refine v_ishl (pc' := 206) dX10_makes_205 rfl ?_
    refine v_ior (pc' := 207) dX10_makes_206 rfl ?_
    refine v_iast (pc' := 208) dX10_makes_207 rfl rfl q4 q5 ?_
    show V G mX10_makes d 208 [.ref r0, uV, uV, .int x3, uV, uV, uV, uV, .int x8, .int x9, .int x10] [] (h.1, (upI h.2 r0 ((x8 + 8) + (x10 / 4)).toNatClampNeg ((h.2 r0 ((x8 + 8) + (x10 / 4)).toNatClampNeg) ||| ((h.2 r0 (x9 + x10).toNatClampNeg) <<< ((8 * (x10 - x10 / 4 * 4)) &&& 31))))) o h'
    obtain ⟨i7, e8⟩ : ∃ z : Nat → Nat → Int32, z = (upI h.2 r0 ((x8 + 8) + (x10 / 4)).toNatClampNeg ((h.2 r0 ((x8 + 8) + (x10 / 4)).toNatClampNeg) ||| ((h.2 r0 (x9 + x10).toNatClampNeg) <<< ((8 * (x10 - x10 / 4 * 4)) &&& 31)))) := ⟨_, rfl⟩
    rw [← e8]
    have T := T i7 e8
    refine v_aload_n (pc' := 209) dX10_makes_208 rfl rfl ?_
    refine v_iload (pc' := 211) dX10_makes_209 rfl rfl ?_
    refine v_iload (pc' := 213) dX10_makes_211 rfl rfl ?_
    refine v_iadd (pc' := 214) dX10_makes_213 rfl ?_
    refine v_iload_n (pc' := 215) dX10_makes_214 rfl rfl ?_
    refine v_iast (pc' := 216) dX10_makes_215 rfl rfl q4 q6 ?_
    refine v_iinc (pc' := 219) (loc' := [.ref r0, uV, uV, .int x3, uV, uV, uV, uV, .int x8, .int x9, .int (x10 + 1)]) dX10_makes_216 rfl rfl (kX_1 _) rfl ?_
    refine v_goto (pc' := 171) dX10_makes_219 (by decide) ?_
    exact T
theorem eX10_bare {G : GG} {d : Nat} {h : Hp} {o : OU} {h' : Hp} (r0 : Nat) (x1 : Int32) (x2 : Int32) (x3 : Int32) (hd : 1 ≤ d) (T : ∃ z2 h1, VM G mX10_makes (d - 1) [.ref r0, .int x1, .int x2, .int x3, .int 0, .int 0, .int 0, .int 0] h (.inl (some (.int z2))) h1 ∧ (o = .inl (some (.int z2)) ∧ h' = h1)) : VM G mX10_bare d [.ref r0, .int x1, .int x2, .int x3] h o h' := by
  refine V.toM rfl rfl (le_l rfl) (cat_all rfl) ?_
  show V G mX10_bare d 0 [.ref r0, .int x1, .int x2, .int x3] [] h o h'
  have hdd : d - 1 + 1 ≤ d := by omega
  refine v_aload_n (pc' := 1) dX10_bare_0 rfl rfl ?_
  refine v_iload_n (pc' := 2) dX10_bare_1 rfl rfl ?_
  refine v_iload_n (pc' := 3) dX10_bare_2 rfl rfl ?_
  refine v_iload_n (pc' := 4) dX10_bare_3 rfl rfl ?_
  refine v_iconst (pc' := 5) (v := 0) dX10_bare_4 rfl kI_0 ?_
  refine v_iconst (pc' := 6) (v := 0) dX10_bare_5 rfl kI_0 ?_
  refine v_iconst (pc' := 7) (v := 0) dX10_bare_6 rfl kI_0 ?_
  refine v_iconst (pc' := 8) (v := 0) dX10_bare_7 rfl kI_0 ?_
  obtain ⟨z2, h1, k3, T⟩ := T
  refine v_callS (pc' := 11) (M1 := mX10_makes) (as := [.ref r0, .int x1, .int x2, .int x3, .int 0, .int 0, .int 0, .int 0]) (rest := []) dX10_bare_8 rfl ko_X10_204 kc_X10_makes kt_X10_makes (by decide) hdd rfl rfl (le_l rfl) k3 ?_
  exact v_iret dX10_bare_11 rfl T
theorem eX10_field {G : GG} {d : Nat} {h : Hp} {o : OU} {h' : Hp} (r0 : Nat) (x1 : Int32) (x2 : Int32) (x3 : Int32) (x4 : Int32) (x5 : Int32) (hd : 1 ≤ d) (T : ∃ z2 h1, VM G mX10_byteOf (d - 1) [.int x1, .int x2] h (.inl (some (.int z2))) h1 ∧ ∃ z5 h4, VM G mX10_byteOf (d - 1) [.int x1, .int x2] h1 (.inl (some (.int z5))) h4 ∧ ∃ z8 h7, VM G mX10_makes (d - 1) [.ref r0, .int (z2 / 16), .int (z5 - z5 / 16 * 16), .int x3, .int x4, .int x5, .int 0, .int 0] h4 (.inl (some (.int z8))) h7 ∧ (o = .inl (some (.int z8)) ∧ h' = h7)) : VM G mX10_field d [.ref r0, .int x1, .int x2, .int x3, .int x4, .int x5] h o h' := by
  refine V.toM rfl rfl (le_l rfl) (cat_all rfl) ?_
  show V G mX10_field d 0 [.ref r0, .int x1, .int x2, .int x3, .int x4, .int x5] [] h o h'
  have hdd : d - 1 + 1 ≤ d := by omega
  refine v_aload_n (pc' := 1) dX10_field_0 rfl rfl ?_
  refine v_iload_n (pc' := 2) dX10_field_1 rfl rfl ?_
  refine v_iload_n (pc' := 3) dX10_field_2 rfl rfl ?_
  obtain ⟨z2, h1, k3, T⟩ := T
  refine v_callS (pc' := 6) (M1 := mX10_byteOf) (as := [.int x1, .int x2]) (rest := [.ref r0]) dX10_field_3 rfl ko_X10_171 kc_X10_byteOf kt_X10_byteOf (by decide) hdd rfl rfl (le_l rfl) k3 ?_
  refine v_bipush (pc' := 8) (v := 16) dX10_field_6 rfl kB_16 ?_
  refine v_idiv (pc' := 9) dX10_field_8 rfl (by decide) ?_
  refine v_iload_n (pc' := 10) dX10_field_9 rfl rfl ?_
  refine v_iload_n (pc' := 11) dX10_field_10 rfl rfl ?_
  obtain ⟨z5, h4, k6, T⟩ := T
  refine v_callS (pc' := 14) (M1 := mX10_byteOf) (as := [.int x1, .int x2]) (rest := [.int (z2 / 16), .ref r0]) dX10_field_11 rfl ko_X10_171 kc_X10_byteOf kt_X10_byteOf (by decide) hdd rfl rfl (le_l rfl) k6 ?_
  refine v_bipush (pc' := 16) (v := 16) dX10_field_14 rfl kB_16 ?_
  refine v_irem (pc' := 17) dX10_field_16 rfl (by decide) ?_
  refine v_iload_n (pc' := 18) dX10_field_17 rfl rfl ?_
  refine v_iload (pc' := 20) dX10_field_18 rfl rfl ?_
  refine v_iload (pc' := 22) dX10_field_20 rfl rfl ?_
  refine v_iconst (pc' := 23) (v := 0) dX10_field_22 rfl kI_0 ?_
  refine v_iconst (pc' := 24) (v := 0) dX10_field_23 rfl kI_0 ?_
  obtain ⟨z8, h7, k9, T⟩ := T
  refine v_callS (pc' := 27) (M1 := mX10_makes) (as := [.ref r0, .int (z2 / 16), .int (z5 - z5 / 16 * 16), .int x3, .int x4, .int x5, .int 0, .int 0]) (rest := []) dX10_field_24 rfl ko_X10_204 kc_X10_makes kt_X10_makes (by decide) hdd rfl rfl (le_l rfl) k9 ?_
  exact v_iret dX10_field_27 rfl T
theorem eX10_putsOff {G : GG} {d : Nat} {h : Hp} {o : OU} {h' : Hp} (r0 : Nat) (x1 : Int32) (x2 : Int32) (x3 : Int32) (T : kH h r0 = 1 ∧ vp_in 3393 (lH h r0) ∧ vp_in (2912 + (3 * (h.2 r0 3393))) (lH h r0) ∧ vp_in ((2912 + (3 * (h.2 r0 3393))) + 1) (lH h r0) ∧ vp_in ((2912 + (3 * (h.2 r0 3393))) + 2) (lH h r0) ∧ (∀ i6 : Nat → Nat → Int32, i6 = (upI (upI (upI h.2 r0 (2912 + (3 * (h.2 r0 3393))).toNatClampNeg x1) r0 ((2912 + (3 * (h.2 r0 3393))) + 1).toNatClampNeg x2) r0 ((2912 + (3 * (h.2 r0 3393))) + 2).toNatClampNeg x3) → (o = .inl none ∧ h' = (h.1, (upI i6 r0 3393 ((i6 r0 3393) + 1)))))) : VM G mX10_putsOff d [.ref r0, .int x1, .int x2, .int x3] h o h' := by
  refine V.toM rfl rfl (le_l rfl) (cat_all rfl) ?_
  show V G mX10_putsOff d 0 [.ref r0, .int x1, .int x2, .int x3, uV] [] h o h'
  refine v_sipush (pc' := 3) (v := 2912) dX10_putsOff_0 rfl kS_2912 ?_
  refine v_iconst (pc' := 4) (v := 3) dX10_putsOff_3 rfl kI_3 ?_
  refine v_aload_n (pc' := 5) dX10_putsOff_4 rfl rfl ?_
  refine v_sipush (pc' := 8) (v := 3393) dX10_putsOff_5 rfl kS_3393 ?_
  obtain ⟨q1, T⟩ := T
  obtain ⟨q2, T⟩ := T
  refine v_iald (pc' := 9) dX10_putsOff_8 rfl kN_3393 q1 q2 ?_
  refine v_imul (pc' := 10) dX10_putsOff_9 rfl ?_
  refine v_iadd (pc' := 11) dX10_putsOff_10 rfl ?_
  refine v_istore (pc' := 13) (loc' := [.ref r0, .int x1, .int x2, .int x3, .int (2912 + (3 * (h.2 r0 3393)))]) dX10_putsOff_11 rfl (lt_l rfl) rfl ?_
  refine v_aload_n (pc' := 14) dX10_putsOff_13 rfl rfl ?_
  refine v_iload (pc' := 16) dX10_putsOff_14 rfl rfl ?_
  refine v_iload_n (pc' := 17) dX10_putsOff_16 rfl rfl ?_
  obtain ⟨q3, T⟩ := T
  refine v_iast (pc' := 18) dX10_putsOff_17 rfl rfl q1 q3 ?_
  refine v_aload_n (pc' := 19) dX10_putsOff_18 rfl rfl ?_
  refine v_iload (pc' := 21) dX10_putsOff_19 rfl rfl ?_
  refine v_iconst (pc' := 22) (v := 1) dX10_putsOff_21 rfl kI_1 ?_
  refine v_iadd (pc' := 23) dX10_putsOff_22 rfl ?_
  refine v_iload_n (pc' := 24) dX10_putsOff_23 rfl rfl ?_
  obtain ⟨q4, T⟩ := T
  refine v_iast (pc' := 25) dX10_putsOff_24 rfl rfl q1 q4 ?_
  refine v_aload_n (pc' := 26) dX10_putsOff_25 rfl rfl ?_
  refine v_iload (pc' := 28) dX10_putsOff_26 rfl rfl ?_
  refine v_iconst (pc' := 29) (v := 2) dX10_putsOff_28 rfl kI_2 ?_
  refine v_iadd (pc' := 30) dX10_putsOff_29 rfl ?_
  refine v_iload_n (pc' := 31) dX10_putsOff_30 rfl rfl ?_
  obtain ⟨q5, T⟩ := T
  refine v_iast (pc' := 32) dX10_putsOff_31 rfl rfl q1 q5 ?_
  show V G mX10_putsOff d 32 [.ref r0, .int x1, .int x2, .int x3, .int (2912 + (3 * (h.2 r0 3393)))] [] (h.1, (upI (upI (upI h.2 r0 (2912 + (3 * (h.2 r0 3393))).toNatClampNeg x1) r0 ((2912 + (3 * (h.2 r0 3393))) + 1).toNatClampNeg x2) r0 ((2912 + (3 * (h.2 r0 3393))) + 2).toNatClampNeg x3)) o h'
  obtain ⟨i6, e7⟩ : ∃ z : Nat → Nat → Int32, z = (upI (upI (upI h.2 r0 (2912 + (3 * (h.2 r0 3393))).toNatClampNeg x1) r0 ((2912 + (3 * (h.2 r0 3393))) + 1).toNatClampNeg x2) r0 ((2912 + (3 * (h.2 r0 3393))) + 2).toNatClampNeg x3) := ⟨_, rfl⟩
  rw [← e7]
  have T := T i6 e7
  refine v_aload_n (pc' := 33) dX10_putsOff_32 rfl rfl ?_
  refine v_sipush (pc' := 36) (v := 3393) dX10_putsOff_33 rfl kS_3393 ?_
  refine v_dup2 (pc' := 37) dX10_putsOff_36 rfl rfl rfl ?_
  refine v_iald (pc' := 38) dX10_putsOff_37 rfl kN_3393 q1 q2 ?_
  refine v_iconst (pc' := 39) (v := 1) dX10_putsOff_38 rfl kI_1 ?_
  refine v_iadd (pc' := 40) dX10_putsOff_39 rfl ?_
  refine v_iast (pc' := 41) dX10_putsOff_40 rfl kN_3393 q1 q2 ?_
  exact v_vret dX10_putsOff_41 rfl T
theorem eX10_which {G : GG} {d : Nat} {h : Hp} {o : OU} {h' : Hp} (r0 : Nat) (x1 : Int32) (T : V G mX10_which d 2 [.ref r0, .int x1, .int 0] [] h o h') : VM G mX10_which d [.ref r0, .int x1] h o h' := by
  refine V.toM rfl rfl (le_l rfl) (cat_all rfl) ?_
  show V G mX10_which d 0 [.ref r0, .int x1, uV] [] h o h'
  refine v_iconst (pc' := 1) (v := 0) dX10_which_0 rfl kI_0 ?_
  refine v_istore_n (pc' := 2) (loc' := [.ref r0, .int x1, .int 0]) dX10_which_1 rfl (lt_l rfl) rfl ?_
  exact T
theorem bX10_which_2 {G : GG} {d : Nat} {h : Hp} {o : OU} {h' : Hp} (r0 : Nat) (x1 : Int32) (x2 : Int32) (hd : 1 ≤ d) (T : kH h r0 = 1 ∧ vp_in 3392 (lH h r0) ∧ (((h.2 r0 3392) ≤ x2 → (o = .inl (some (.int (-1))) ∧ h' = h)) ∧ (¬ (h.2 r0 3392) ≤ x2 → ((x1 ≤ 0 → (o = .inl (some (.int (-1))) ∧ h' = h)) ∧ (¬ x1 ≤ 0 → ∃ z6 h5, VM G mX10_cell (d - 1) [.int x2] h (.inl (some (.int z6))) h5 ∧ kH h5 r0 = 1 ∧ vp_in z6 (lH h5 r0) ∧ ((¬ (h5.2 r0 z6.toNatClampNeg) = x1 → V G mX10_which d 2 [.ref r0, .int x1, .int (x2 + 1)] [] h5 o h') ∧ ((h5.2 r0 z6.toNatClampNeg) = x1 → (o = .inl (some (.int x2)) ∧ h' = h5)))))))) : V G mX10_which d 2 [.ref r0, .int x1, .int x2] [] h o h' := by
  have hdd : d - 1 + 1 ≤ d := by omega
  refine v_iload_n (pc' := 3) dX10_which_2 rfl rfl ?_
  refine v_aload_n (pc' := 4) dX10_which_3 rfl rfl ?_
  refine v_sipush (pc' := 7) (v := 3392) dX10_which_4 rfl kS_3392 ?_
  obtain ⟨q1, T⟩ := T
  obtain ⟨q2, T⟩ := T
  refine v_iald (pc' := 8) dX10_which_7 rfl kN_3392 q1 q2 ?_
  refine v_icmp_ge (tgt := 33) (pc' := 11) dX10_which_8 (by decide) rfl ⟨fun c3 => ?_, fun c3 => ?_⟩
  · have T := T.1 c3
    refine v_iconst (pc' := 34) (v := (-1)) dX10_which_33 rfl kI_m1 ?_
    exact v_iret dX10_which_34 rfl T
  · have T := T.2 c3
    refine v_iload_n (pc' := 12) dX10_which_11 rfl rfl ?_
    refine v_if_le (tgt := 33) (pc' := 15) dX10_which_12 (by decide) rfl ⟨fun c4 => ?_, fun c4 => ?_⟩
    · have T := T.1 c4
      refine v_iconst (pc' := 34) (v := (-1)) dX10_which_33 rfl kI_m1 ?_
      exact v_iret dX10_which_34 rfl T
    · have T := T.2 c4
      refine v_aload_n (pc' := 16) dX10_which_15 rfl rfl ?_
      refine v_iload_n (pc' := 17) dX10_which_16 rfl rfl ?_
      obtain ⟨z6, h5, k7, T⟩ := T
      refine v_callS (pc' := 20) (M1 := mX10_cell) (as := [.int x2]) (rest := [.ref r0]) dX10_which_17 rfl ko_X10_201 kc_X10_cell kt_X10_cell (by decide) hdd rfl rfl (le_l rfl) k7 ?_
      obtain ⟨q8, T⟩ := T
      obtain ⟨q9, T⟩ := T
      refine v_iald (pc' := 21) dX10_which_20 rfl rfl q8 q9 ?_
      refine v_iload_n (pc' := 22) dX10_which_21 rfl rfl ?_
      refine v_icmp_ne (tgt := 27) (pc' := 25) dX10_which_22 (by decide) rfl ⟨fun c10 => ?_, fun c10 => ?_⟩
      · have T := T.1 c10
        refine v_iinc (pc' := 30) (loc' := [.ref r0, .int x1, .int (x2 + 1)]) dX10_which_27 rfl rfl (kX_1 _) rfl ?_
        refine v_goto (pc' := 2) dX10_which_30 (by decide) ?_
        exact T
      · have T := T.2 c10
        refine v_iload_n (pc' := 26) dX10_which_25 rfl rfl ?_
        exact v_iret dX10_which_26 rfl T
