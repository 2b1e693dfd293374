theorem dX8_entryNamed_0 : decode cX8_entryNamed 0 = .ok (.aload_n 0, 1) := by decide +kernel
theorem dX8_entryNamed_1 : decode cX8_entryNamed 1 = .ok (.iload_n 1, 1) := by decide +kernel
theorem dX8_entryNamed_2 : decode cX8_entryNamed 2 = .ok (.iload_n 2, 1) := by decide +kernel
theorem dX8_entryNamed_3 : decode cX8_entryNamed 3 = .ok (.invokevirtual 9, 3) := by decide +kernel
theorem dX8_entryNamed_6 : decode cX8_entryNamed 6 = .ok (.ifCond .ne 5, 3) := by decide +kernel
theorem dX8_entryNamed_9 : decode cX8_entryNamed 9 = .ok (.iconst (-1), 1) := by decide +kernel
theorem dX8_entryNamed_10 : decode cX8_entryNamed 10 = .ok (.ireturn, 1) := by decide +kernel
theorem dX8_entryNamed_11 : decode cX8_entryNamed 11 = .ok (.iconst 2, 1) := by decide +kernel
theorem dX8_entryNamed_12 : decode cX8_entryNamed 12 = .ok (.istore 4, 2) := by decide +kernel
theorem dX8_entryNamed_14 : decode cX8_entryNamed 14 = .ok (.iload 4, 2) := by decide +kernel
theorem dX8_entryNamed_16 : decode cX8_entryNamed 16 = .ok (.iconst 3, 1) := by decide +kernel
theorem dX8_entryNamed_17 : decode cX8_entryNamed 17 = .ok (.if_icmp .gt 64, 3) := by decide +kernel
theorem dX8_entryNamed_20 : decode cX8_entryNamed 20 = .ok (.aload_n 0, 1) := by decide +kernel
theorem dX8_entryNamed_21 : decode cX8_entryNamed 21 = .ok (.iload_n 1, 1) := by decide +kernel
theorem dX8_entryNamed_22 : decode cX8_entryNamed 22 = .ok (.iload_n 2, 1) := by decide +kernel
theorem dX8_entryNamed_23 : decode cX8_entryNamed 23 = .ok (.iload 4, 2) := by decide +kernel
theorem dX8_entryNamed_25 : decode cX8_entryNamed 25 = .ok (.invokevirtual 15, 3) := by decide +kernel
theorem dX8_entryNamed_28 : decode cX8_entryNamed 28 = .ok (.istore 5, 2) := by decide +kernel
theorem dX8_entryNamed_30 : decode cX8_entryNamed 30 = .ok (.iconst 0, 1) := by decide +kernel
theorem dX8_entryNamed_31 : decode cX8_entryNamed 31 = .ok (.istore 6, 2) := by decide +kernel
theorem dX8_entryNamed_33 : decode cX8_entryNamed 33 = .ok (.iload 5, 2) := by decide +kernel
theorem dX8_entryNamed_35 : decode cX8_entryNamed 35 = .ok (.ifCond .eq 40, 3) := by decide +kernel
theorem dX8_entryNamed_38 : decode cX8_entryNamed 38 = .ok (.iload 6, 2) := by decide +kernel
theorem dX8_entryNamed_40 : decode cX8_entryNamed 40 = .ok (.bipush 8, 2) := by decide +kernel
theorem dX8_entryNamed_42 : decode cX8_entryNamed 42 = .ok (.if_icmp .ge 33, 3) := by decide +kernel
theorem dX8_entryNamed_45 : decode cX8_entryNamed 45 = .ok (.aload_n 0, 1) := by decide +kernel
theorem dX8_entryNamed_46 : decode cX8_entryNamed 46 = .ok (.iload_n 1, 1) := by decide +kernel
theorem dX8_entryNamed_47 : decode cX8_entryNamed 47 = .ok (.iload 5, 2) := by decide +kernel
theorem dX8_entryNamed_49 : decode cX8_entryNamed 49 = .ok (.iconst 2, 1) := by decide +kernel
theorem dX8_entryNamed_50 : decode cX8_entryNamed 50 = .ok (.iload 6, 2) := by decide +kernel
theorem dX8_entryNamed_52 : decode cX8_entryNamed 52 = .ok (.imul, 1) := by decide +kernel
theorem dX8_entryNamed_53 : decode cX8_entryNamed 53 = .ok (.invokevirtual 19, 3) := by decide +kernel
theorem dX8_entryNamed_56 : decode cX8_entryNamed 56 = .ok (.iload_n 3, 1) := by decide +kernel
theorem dX8_entryNamed_57 : decode cX8_entryNamed 57 = .ok (.if_icmp .ne 12, 3) := by decide +kernel
theorem dX8_entryNamed_60 : decode cX8_entryNamed 60 = .ok (.iload 5, 2) := by decide +kernel
theorem dX8_entryNamed_62 : decode cX8_entryNamed 62 = .ok (.bipush 8, 2) := by decide +kernel
theorem dX8_entryNamed_64 : decode cX8_entryNamed 64 = .ok (.imul, 1) := by decide +kernel
theorem dX8_entryNamed_65 : decode cX8_entryNamed 65 = .ok (.iload 6, 2) := by decide +kernel
theorem dX8_entryNamed_67 : decode cX8_entryNamed 67 = .ok (.iadd, 1) := by decide +kernel
theorem dX8_entryNamed_68 : decode cX8_entryNamed 68 = .ok (.ireturn, 1) := by decide +kernel
theorem dX8_entryNamed_69 : decode cX8_entryNamed 69 = .ok (.iinc 6 1, 3) := by decide +kernel
theorem dX8_entryNamed_72 : decode cX8_entryNamed 72 = .ok (.goto (-39), 3) := by decide +kernel
theorem dX8_entryNamed_75 : decode cX8_entryNamed 75 = .ok (.iinc 4 1, 3) := by decide +kernel
theorem dX8_entryNamed_78 : decode cX8_entryNamed 78 = .ok (.goto (-64), 3) := by decide +kernel
theorem dX8_entryNamed_81 : decode cX8_entryNamed 81 = .ok (.iconst (-1), 1) := by decide +kernel
theorem dX8_entryNamed_82 : decode cX8_entryNamed 82 = .ok (.ireturn, 1) := by decide +kernel
theorem dX8_nodeOfEntry_0 : decode cX8_nodeOfEntry 0 = .ok (.aload_n 0, 1) := by decide +kernel
theorem dX8_nodeOfEntry_1 : decode cX8_nodeOfEntry 1 = .ok (.iload_n 1, 1) := by decide +kernel
theorem dX8_nodeOfEntry_2 : decode cX8_nodeOfEntry 2 = .ok (.iload_n 2, 1) := by decide +kernel
theorem dX8_nodeOfEntry_3 : decode cX8_nodeOfEntry 3 = .ok (.bipush 8, 2) := by decide +kernel
theorem dX8_nodeOfEntry_5 : decode cX8_nodeOfEntry 5 = .ok (.idiv, 1) := by decide +kernel
theorem dX8_nodeOfEntry_6 : decode cX8_nodeOfEntry 6 = .ok (.iload_n 2, 1) := by decide +kernel
theorem dX8_nodeOfEntry_7 : decode cX8_nodeOfEntry 7 = .ok (.bipush 8, 2) := by decide +kernel
theorem dX8_nodeOfEntry_9 : decode cX8_nodeOfEntry 9 = .ok (.irem, 1) := by decide +kernel
theorem dX8_nodeOfEntry_10 : decode cX8_nodeOfEntry 10 = .ok (.iconst 2, 1) := by decide +kernel
theorem dX8_nodeOfEntry_11 : decode cX8_nodeOfEntry 11 = .ok (.imul, 1) := by decide +kernel
theorem dX8_nodeOfEntry_12 : decode cX8_nodeOfEntry 12 = .ok (.iconst 1, 1) := by decide +kernel
theorem dX8_nodeOfEntry_13 : decode cX8_nodeOfEntry 13 = .ok (.iadd, 1) := by decide +kernel
theorem dX8_nodeOfEntry_14 : decode cX8_nodeOfEntry 14 = .ok (.invokevirtual 19, 3) := by decide +kernel
theorem dX8_nodeOfEntry_17 : decode cX8_nodeOfEntry 17 = .ok (.ireturn, 1) := by decide +kernel
theorem dX8_freeEntries_0 : decode cX8_freeEntries 0 = .ok (.iconst 0, 1) := by decide +kernel
theorem dX8_freeEntries_1 : decode cX8_freeEntries 1 = .ok (.istore_n 3, 1) := by decide +kernel
theorem dX8_freeEntries_2 : decode cX8_freeEntries 2 = .ok (.iconst 2, 1) := by decide +kernel
theorem dX8_freeEntries_3 : decode cX8_freeEntries 3 = .ok (.istore 4, 2) := by decide +kernel
theorem dX8_freeEntries_5 : decode cX8_freeEntries 5 = .ok (.aload_n 0, 1) := by decide +kernel
theorem dX8_freeEntries_6 : decode cX8_freeEntries 6 = .ok (.iload_n 1, 1) := by decide +kernel
theorem dX8_freeEntries_7 : decode cX8_freeEntries 7 = .ok (.iload_n 2, 1) := by decide +kernel
theorem dX8_freeEntries_8 : decode cX8_freeEntries 8 = .ok (.invokevirtual 9, 3) := by decide +kernel
theorem dX8_freeEntries_11 : decode cX8_freeEntries 11 = .ok (.ifCond .eq 63, 3) := by decide +kernel
theorem dX8_freeEntries_14 : decode cX8_freeEntries 14 = .ok (.iload 4, 2) := by decide +kernel
theorem dX8_freeEntries_16 : decode cX8_freeEntries 16 = .ok (.iconst 3, 1) := by decide +kernel
theorem dX8_freeEntries_17 : decode cX8_freeEntries 17 = .ok (.if_icmp .gt 57, 3) := by decide +kernel
theorem dX8_freeEntries_20 : decode cX8_freeEntries 20 = .ok (.aload_n 0, 1) := by decide +kernel
theorem dX8_freeEntries_21 : decode cX8_freeEntries 21 = .ok (.iload_n 1, 1) := by decide +kernel
theorem dX8_freeEntries_22 : decode cX8_freeEntries 22 = .ok (.iload_n 2, 1) := by decide +kernel
theorem dX8_freeEntries_23 : decode cX8_freeEntries 23 = .ok (.iload 4, 2) := by decide +kernel
theorem dX8_freeEntries_25 : decode cX8_freeEntries 25 = .ok (.invokevirtual 15, 3) := by decide +kernel
theorem dX8_freeEntries_28 : decode cX8_freeEntries 28 = .ok (.istore 5, 2) := by decide +kernel
theorem dX8_freeEntries_30 : decode cX8_freeEntries 30 = .ok (.iconst 0, 1) := by decide +kernel
theorem dX8_freeEntries_31 : decode cX8_freeEntries 31 = .ok (.istore 6, 2) := by decide +kernel
theorem dX8_freeEntries_33 : decode cX8_freeEntries 33 = .ok (.iload 5, 2) := by decide +kernel
theorem dX8_freeEntries_35 : decode cX8_freeEntries 35 = .ok (.ifCond .eq 33, 3) := by decide +kernel
theorem dX8_freeEntries_38 : decode cX8_freeEntries 38 = .ok (.iload 6, 2) := by decide +kernel
theorem dX8_freeEntries_40 : decode cX8_freeEntries 40 = .ok (.bipush 8, 2) := by decide +kernel
theorem dX8_freeEntries_42 : decode cX8_freeEntries 42 = .ok (.if_icmp .ge 26, 3) := by decide +kernel
theorem dX8_freeEntries_45 : decode cX8_freeEntries 45 = .ok (.aload_n 0, 1) := by decide +kernel
theorem dX8_freeEntries_46 : decode cX8_freeEntries 46 = .ok (.iload_n 1, 1) := by decide +kernel
theorem dX8_freeEntries_47 : decode cX8_freeEntries 47 = .ok (.iload 5, 2) := by decide +kernel
theorem dX8_freeEntries_49 : decode cX8_freeEntries 49 = .ok (.iconst 2, 1) := by decide +kernel
theorem dX8_freeEntries_50 : decode cX8_freeEntries 50 = .ok (.iload 6, 2) := by decide +kernel
theorem dX8_freeEntries_52 : decode cX8_freeEntries 52 = .ok (.imul, 1) := by decide +kernel
theorem dX8_freeEntries_53 : decode cX8_freeEntries 53 = .ok (.invokevirtual 19, 3) := by decide +kernel
theorem dX8_freeEntries_56 : decode cX8_freeEntries 56 = .ok (.ifCond .ne 6, 3) := by decide +kernel
theorem dX8_freeEntries_59 : decode cX8_freeEntries 59 = .ok (.iinc 3 1, 3) := by decide +kernel
theorem dX8_freeEntries_62 : decode cX8_freeEntries 62 = .ok (.iinc 6 1, 3) := by decide +kernel
theorem dX8_freeEntries_65 : decode cX8_freeEntries 65 = .ok (.goto (-32), 3) := by decide +kernel
theorem dX8_freeEntries_68 : decode cX8_freeEntries 68 = .ok (.iinc 4 1, 3) := by decide +kernel
theorem dX8_freeEntries_71 : decode cX8_freeEntries 71 = .ok (.goto (-66), 3) := by decide +kernel
theorem dX8_freeEntries_74 : decode cX8_freeEntries 74 = .ok (.iload_n 3, 1) := by decide +kernel
theorem dX8_freeEntries_75 : decode cX8_freeEntries 75 = .ok (.ireturn, 1) := by decide +kernel
theorem dX8_timesNamed_0 : decode cX8_timesNamed 0 = .ok (.iconst 0, 1) := by decide +kernel
theorem dX8_timesNamed_1 : decode cX8_timesNamed 1 = .ok (.istore 4, 2) := by decide +kernel
theorem dX8_timesNamed_3 : decode cX8_timesNamed 3 = .ok (.iconst 2, 1) := by decide +kernel
theorem dX8_timesNamed_4 : decode cX8_timesNamed 4 = .ok (.istore 5, 2) := by decide +kernel
theorem dX8_timesNamed_6 : decode cX8_timesNamed 6 = .ok (.aload_n 0, 1) := by decide +kernel
theorem dX8_timesNamed_7 : decode cX8_timesNamed 7 = .ok (.iload_n 1, 1) := by decide +kernel
theorem dX8_timesNamed_8 : decode cX8_timesNamed 8 = .ok (.iload_n 2, 1) := by decide +kernel
theorem dX8_timesNamed_9 : decode cX8_timesNamed 9 = .ok (.invokevirtual 9, 3) := by decide +kernel
theorem dX8_timesNamed_12 : decode cX8_timesNamed 12 = .ok (.ifCond .eq 80, 3) := by decide +kernel
theorem dX8_timesNamed_15 : decode cX8_timesNamed 15 = .ok (.iload 5, 2) := by decide +kernel
theorem dX8_timesNamed_17 : decode cX8_timesNamed 17 = .ok (.iconst 3, 1) := by decide +kernel
theorem dX8_timesNamed_18 : decode cX8_timesNamed 18 = .ok (.if_icmp .gt 74, 3) := by decide +kernel
theorem dX8_timesNamed_21 : decode cX8_timesNamed 21 = .ok (.aload_n 0, 1) := by decide +kernel
theorem dX8_timesNamed_22 : decode cX8_timesNamed 22 = .ok (.iload_n 1, 1) := by decide +kernel
theorem dX8_timesNamed_23 : decode cX8_timesNamed 23 = .ok (.iload_n 2, 1) := by decide +kernel
theorem dX8_timesNamed_24 : decode cX8_timesNamed 24 = .ok (.iload 5, 2) := by decide +kernel
theorem dX8_timesNamed_26 : decode cX8_timesNamed 26 = .ok (.invokevirtual 15, 3) := by decide +kernel
theorem dX8_timesNamed_29 : decode cX8_timesNamed 29 = .ok (.istore 6, 2) := by decide +kernel
theorem dX8_timesNamed_31 : decode cX8_timesNamed 31 = .ok (.iconst 0, 1) := by decide +kernel
theorem dX8_timesNamed_32 : decode cX8_timesNamed 32 = .ok (.istore 7, 2) := by decide +kernel
theorem dX8_timesNamed_34 : decode cX8_timesNamed 34 = .ok (.iload 6, 2) := by decide +kernel
theorem dX8_timesNamed_36 : decode cX8_timesNamed 36 = .ok (.ifCond .eq 50, 3) := by decide +kernel
theorem dX8_timesNamed_39 : decode cX8_timesNamed 39 = .ok (.iload 7, 2) := by decide +kernel
theorem dX8_timesNamed_41 : decode cX8_timesNamed 41 = .ok (.bipush 8, 2) := by decide +kernel
theorem dX8_timesNamed_43 : decode cX8_timesNamed 43 = .ok (.if_icmp .ge 43, 3) := by decide +kernel
theorem dX8_timesNamed_46 : decode cX8_timesNamed 46 = .ok (.aload_n 0, 1) := by decide +kernel
theorem dX8_timesNamed_47 : decode cX8_timesNamed 47 = .ok (.iload_n 1, 1) := by decide +kernel
theorem dX8_timesNamed_48 : decode cX8_timesNamed 48 = .ok (.iload 6, 2) := by decide +kernel
theorem dX8_timesNamed_50 : decode cX8_timesNamed 50 = .ok (.iconst 2, 1) := by decide +kernel
theorem dX8_timesNamed_51 : decode cX8_timesNamed 51 = .ok (.iload 7, 2) := by decide +kernel
theorem dX8_timesNamed_53 : decode cX8_timesNamed 53 = .ok (.imul, 1) := by decide +kernel
theorem dX8_timesNamed_54 : decode cX8_timesNamed 54 = .ok (.invokevirtual 19, 3) := by decide +kernel
theorem dX8_timesNamed_57 : decode cX8_timesNamed 57 = .ok (.ifCond .eq 23, 3) := by decide +kernel
theorem dX8_timesNamed_60 : decode cX8_timesNamed 60 = .ok (.aload_n 0, 1) := by decide +kernel
theorem dX8_timesNamed_61 : decode cX8_timesNamed 61 = .ok (.iload_n 1, 1) := by decide +kernel
theorem dX8_timesNamed_62 : decode cX8_timesNamed 62 = .ok (.iload 6, 2) := by decide +kernel
theorem dX8_timesNamed_64 : decode cX8_timesNamed 64 = .ok (.iconst 2, 1) := by decide +kernel
theorem dX8_timesNamed_65 : decode cX8_timesNamed 65 = .ok (.iload 7, 2) := by decide +kernel
theorem dX8_timesNamed_67 : decode cX8_timesNamed 67 = .ok (.imul, 1) := by decide +kernel
theorem dX8_timesNamed_68 : decode cX8_timesNamed 68 = .ok (.iconst 1, 1) := by decide +kernel
theorem dX8_timesNamed_69 : decode cX8_timesNamed 69 = .ok (.iadd, 1) := by decide +kernel
theorem dX8_timesNamed_70 : decode cX8_timesNamed 70 = .ok (.invokevirtual 19, 3) := by decide +kernel
theorem dX8_timesNamed_73 : decode cX8_timesNamed 73 = .ok (.iload_n 3, 1) := by decide +kernel
theorem dX8_timesNamed_74 : decode cX8_timesNamed 74 = .ok (.if_icmp .ne 6, 3) := by decide +kernel
theorem dX8_timesNamed_77 : decode cX8_timesNamed 77 = .ok (.iinc 4 1, 3) := by decide +kernel
theorem dX8_timesNamed_80 : decode cX8_timesNamed 80 = .ok (.iinc 7 1, 3) := by decide +kernel
theorem dX8_timesNamed_83 : decode cX8_timesNamed 83 = .ok (.goto (-49), 3) := by decide +kernel
theorem dX8_timesNamed_86 : decode cX8_timesNamed 86 = .ok (.iinc 5 1, 3) := by decide +kernel
theorem dX8_timesNamed_89 : decode cX8_timesNamed 89 = .ok (.goto (-83), 3) := by decide +kernel
theorem dX8_timesNamed_92 : decode cX8_timesNamed 92 = .ok (.iload 4, 2) := by decide +kernel
theorem dX8_timesNamed_94 : decode cX8_timesNamed 94 = .ok (.ireturn, 1) := by decide +kernel
theorem dX8_namedNodes_0 : decode cX8_namedNodes 0 = .ok (.iconst 0, 1) := by decide +kernel
theorem dX8_namedNodes_1 : decode cX8_namedNodes 1 = .ok (.istore_n 3, 1) := by decide +kernel
theorem dX8_namedNodes_2 : decode cX8_namedNodes 2 = .ok (.iconst 2, 1) := by decide +kernel
theorem dX8_namedNodes_3 : decode cX8_namedNodes 3 = .ok (.istore 4, 2) := by decide +kernel
theorem dX8_namedNodes_5 : decode cX8_namedNodes 5 = .ok (.aload_n 0, 1) := by decide +kernel
theorem dX8_namedNodes_6 : decode cX8_namedNodes 6 = .ok (.iload_n 1, 1) := by decide +kernel
theorem dX8_namedNodes_7 : decode cX8_namedNodes 7 = .ok (.iload_n 2, 1) := by decide +kernel
theorem dX8_namedNodes_8 : decode cX8_namedNodes 8 = .ok (.invokevirtual 9, 3) := by decide +kernel
theorem dX8_namedNodes_11 : decode cX8_namedNodes 11 = .ok (.ifCond .eq 78, 3) := by decide +kernel
theorem dX8_namedNodes_14 : decode cX8_namedNodes 14 = .ok (.iload 4, 2) := by decide +kernel
theorem dX8_namedNodes_16 : decode cX8_namedNodes 16 = .ok (.iconst 3, 1) := by decide +kernel
theorem dX8_namedNodes_17 : decode cX8_namedNodes 17 = .ok (.if_icmp .gt 72, 3) := by decide +kernel
theorem dX8_namedNodes_20 : decode cX8_namedNodes 20 = .ok (.aload_n 0, 1) := by decide +kernel
theorem dX8_namedNodes_21 : decode cX8_namedNodes 21 = .ok (.iload_n 1, 1) := by decide +kernel
theorem dX8_namedNodes_22 : decode cX8_namedNodes 22 = .ok (.iload_n 2, 1) := by decide +kernel
theorem dX8_namedNodes_23 : decode cX8_namedNodes 23 = .ok (.iload 4, 2) := by decide +kernel
theorem dX8_namedNodes_25 : decode cX8_namedNodes 25 = .ok (.invokevirtual 15, 3) := by decide +kernel
theorem dX8_namedNodes_28 : decode cX8_namedNodes 28 = .ok (.istore 5, 2) := by decide +kernel
theorem dX8_namedNodes_30 : decode cX8_namedNodes 30 = .ok (.iconst 0, 1) := by decide +kernel
theorem dX8_namedNodes_31 : decode cX8_namedNodes 31 = .ok (.istore 6, 2) := by decide +kernel
theorem dX8_namedNodes_33 : decode cX8_namedNodes 33 = .ok (.iload 5, 2) := by decide +kernel
theorem dX8_namedNodes_35 : decode cX8_namedNodes 35 = .ok (.ifCond .eq 48, 3) := by decide +kernel
theorem dX8_namedNodes_38 : decode cX8_namedNodes 38 = .ok (.iload 6, 2) := by decide +kernel
theorem dX8_namedNodes_40 : decode cX8_namedNodes 40 = .ok (.bipush 8, 2) := by decide +kernel
theorem dX8_namedNodes_42 : decode cX8_namedNodes 42 = .ok (.if_icmp .ge 41, 3) := by decide +kernel
theorem dX8_namedNodes_45 : decode cX8_namedNodes 45 = .ok (.aload_n 0, 1) := by decide +kernel
theorem dX8_namedNodes_46 : decode cX8_namedNodes 46 = .ok (.iload_n 1, 1) := by decide +kernel
theorem dX8_namedNodes_47 : decode cX8_namedNodes 47 = .ok (.iload 5, 2) := by decide +kernel
theorem dX8_namedNodes_49 : decode cX8_namedNodes 49 = .ok (.iconst 2, 1) := by decide +kernel
theorem dX8_namedNodes_50 : decode cX8_namedNodes 50 = .ok (.iload 6, 2) := by decide +kernel
theorem dX8_namedNodes_52 : decode cX8_namedNodes 52 = .ok (.imul, 1) := by decide +kernel
theorem dX8_namedNodes_53 : decode cX8_namedNodes 53 = .ok (.invokevirtual 19, 3) := by decide +kernel
theorem dX8_namedNodes_56 : decode cX8_namedNodes 56 = .ok (.ifCond .eq 21, 3) := by decide +kernel
theorem dX8_namedNodes_59 : decode cX8_namedNodes 59 = .ok (.iload_n 3, 1) := by decide +kernel
theorem dX8_namedNodes_60 : decode cX8_namedNodes 60 = .ok (.iconst 1, 1) := by decide +kernel
theorem dX8_namedNodes_61 : decode cX8_namedNodes 61 = .ok (.aload_n 0, 1) := by decide +kernel
theorem dX8_namedNodes_62 : decode cX8_namedNodes 62 = .ok (.iload_n 1, 1) := by decide +kernel
theorem dX8_namedNodes_63 : decode cX8_namedNodes 63 = .ok (.iload 5, 2) := by decide +kernel
theorem dX8_namedNodes_65 : decode cX8_namedNodes 65 = .ok (.iconst 2, 1) := by decide +kernel
theorem dX8_namedNodes_66 : decode cX8_namedNodes 66 = .ok (.iload 6, 2) := by decide +kernel
theorem dX8_namedNodes_68 : decode cX8_namedNodes 68 = .ok (.imul, 1) := by decide +kernel
theorem dX8_namedNodes_69 : decode cX8_namedNodes 69 = .ok (.iconst 1, 1) := by decide +kernel
theorem dX8_namedNodes_70 : decode cX8_namedNodes 70 = .ok (.iadd, 1) := by decide +kernel
theorem dX8_namedNodes_71 : decode cX8_namedNodes 71 = .ok (.invokevirtual 19, 3) := by decide +kernel
theorem dX8_namedNodes_74 : decode cX8_namedNodes 74 = .ok (.ishl, 1) := by decide +kernel
theorem dX8_namedNodes_75 : decode cX8_namedNodes 75 = .ok (.ior, 1) := by decide +kernel
theorem dX8_namedNodes_76 : decode cX8_namedNodes 76 = .ok (.istore_n 3, 1) := by decide +kernel
theorem dX8_namedNodes_77 : decode cX8_namedNodes 77 = .ok (.iinc 6 1, 3) := by decide +kernel
theorem dX8_namedNodes_80 : decode cX8_namedNodes 80 = .ok (.goto (-47), 3) := by decide +kernel
theorem dX8_namedNodes_83 : decode cX8_namedNodes 83 = .ok (.iinc 4 1, 3) := by decide +kernel
theorem dX8_namedNodes_86 : decode cX8_namedNodes 86 = .ok (.goto (-81), 3) := by decide +kernel
theorem dX8_namedNodes_89 : decode cX8_namedNodes 89 = .ok (.iload_n 3, 1) := by decide +kernel
theorem dX8_namedNodes_90 : decode cX8_namedNodes 90 = .ok (.ireturn, 1) := by decide +kernel
theorem dX8_reachedNodes_0 : decode cX8_reachedNodes 0 = .ok (.iconst 1, 1) := by decide +kernel
theorem dX8_reachedNodes_1 : decode cX8_reachedNodes 1 = .ok (.istore_n 2, 1) := by decide +kernel
theorem dX8_reachedNodes_2 : decode cX8_reachedNodes 2 = .ok (.iconst 1, 1) := by decide +kernel
theorem dX8_reachedNodes_3 : decode cX8_reachedNodes 3 = .ok (.istore_n 3, 1) := by decide +kernel
theorem dX8_reachedNodes_4 : decode cX8_reachedNodes 4 = .ok (.iconst 0, 1) := by decide +kernel
theorem dX8_reachedNodes_5 : decode cX8_reachedNodes 5 = .ok (.istore 4, 2) := by decide +kernel
theorem dX8_reachedNodes_7 : decode cX8_reachedNodes 7 = .ok (.iload 4, 2) := by decide +kernel
theorem dX8_reachedNodes_9 : decode cX8_reachedNodes 9 = .ok (.bipush 12, 2) := by decide +kernel
theorem dX8_reachedNodes_11 : decode cX8_reachedNodes 11 = .ok (.if_icmp .ge 46, 3) := by decide +kernel
theorem dX8_reachedNodes_14 : decode cX8_reachedNodes 14 = .ok (.iload_n 3, 1) := by decide +kernel
theorem dX8_reachedNodes_15 : decode cX8_reachedNodes 15 = .ok (.ifCond .eq 42, 3) := by decide +kernel
theorem dX8_reachedNodes_18 : decode cX8_reachedNodes 18 = .ok (.iload_n 3, 1) := by decide +kernel
theorem dX8_reachedNodes_19 : decode cX8_reachedNodes 19 = .ok (.invokestatic 22, 3) := by decide +kernel
theorem dX8_reachedNodes_22 : decode cX8_reachedNodes 22 = .ok (.istore 5, 2) := by decide +kernel
theorem dX8_reachedNodes_24 : decode cX8_reachedNodes 24 = .ok (.aload_n 0, 1) := by decide +kernel
theorem dX8_reachedNodes_25 : decode cX8_reachedNodes 25 = .ok (.iload_n 1, 1) := by decide +kernel
theorem dX8_reachedNodes_26 : decode cX8_reachedNodes 26 = .ok (.iload 5, 2) := by decide +kernel
theorem dX8_reachedNodes_28 : decode cX8_reachedNodes 28 = .ok (.invokestatic 28, 3) := by decide +kernel
theorem dX8_reachedNodes_31 : decode cX8_reachedNodes 31 = .ok (.iload_n 2, 1) := by decide +kernel
theorem dX8_reachedNodes_32 : decode cX8_reachedNodes 32 = .ok (.iconst (-1), 1) := by decide +kernel
theorem dX8_reachedNodes_33 : decode cX8_reachedNodes 33 = .ok (.ixor, 1) := by decide +kernel
theorem dX8_reachedNodes_34 : decode cX8_reachedNodes 34 = .ok (.iand, 1) := by decide +kernel
theorem dX8_reachedNodes_35 : decode cX8_reachedNodes 35 = .ok (.istore 6, 2) := by decide +kernel
theorem dX8_reachedNodes_37 : decode cX8_reachedNodes 37 = .ok (.iload_n 2, 1) := by decide +kernel
theorem dX8_reachedNodes_38 : decode cX8_reachedNodes 38 = .ok (.iload 6, 2) := by decide +kernel
theorem dX8_reachedNodes_40 : decode cX8_reachedNodes 40 = .ok (.ior, 1) := by decide +kernel
theorem dX8_reachedNodes_41 : decode cX8_reachedNodes 41 = .ok (.istore_n 2, 1) := by decide +kernel
theorem dX8_reachedNodes_42 : decode cX8_reachedNodes 42 = .ok (.iload_n 3, 1) := by decide +kernel
theorem dX8_reachedNodes_43 : decode cX8_reachedNodes 43 = .ok (.iload_n 3, 1) := by decide +kernel
theorem dX8_reachedNodes_44 : decode cX8_reachedNodes 44 = .ok (.iconst 1, 1) := by decide +kernel
theorem dX8_reachedNodes_45 : decode cX8_reachedNodes 45 = .ok (.isub, 1) := by decide +kernel
theorem dX8_reachedNodes_46 : decode cX8_reachedNodes 46 = .ok (.iand, 1) := by decide +kernel
theorem dX8_reachedNodes_47 : decode cX8_reachedNodes 47 = .ok (.iload 6, 2) := by decide +kernel
theorem dX8_reachedNodes_49 : decode cX8_reachedNodes 49 = .ok (.ior, 1) := by decide +kernel
theorem dX8_reachedNodes_50 : decode cX8_reachedNodes 50 = .ok (.istore_n 3, 1) := by decide +kernel
theorem dX8_reachedNodes_51 : decode cX8_reachedNodes 51 = .ok (.iinc 4 1, 3) := by decide +kernel
theorem dX8_reachedNodes_54 : decode cX8_reachedNodes 54 = .ok (.goto (-47), 3) := by decide +kernel
theorem dX8_reachedNodes_57 : decode cX8_reachedNodes 57 = .ok (.iload_n 2, 1) := by decide +kernel
theorem dX8_reachedNodes_58 : decode cX8_reachedNodes 58 = .ok (.ireturn, 1) := by decide +kernel
theorem dX8_linkedNodes_0 : decode cX8_linkedNodes 0 = .ok (.iconst 0, 1) := by decide +kernel
theorem dX8_linkedNodes_1 : decode cX8_linkedNodes 1 = .ok (.istore_n 2, 1) := by decide +kernel
theorem dX8_linkedNodes_2 : decode cX8_linkedNodes 2 = .ok (.iconst 0, 1) := by decide +kernel
theorem dX8_linkedNodes_3 : decode cX8_linkedNodes 3 = .ok (.istore_n 3, 1) := by decide +kernel
theorem dX8_linkedNodes_4 : decode cX8_linkedNodes 4 = .ok (.iload_n 3, 1) := by decide +kernel
theorem dX8_linkedNodes_5 : decode cX8_linkedNodes 5 = .ok (.bipush 12, 2) := by decide +kernel
theorem dX8_linkedNodes_7 : decode cX8_linkedNodes 7 = .ok (.if_icmp .ge 25, 3) := by decide +kernel
theorem dX8_linkedNodes_10 : decode cX8_linkedNodes 10 = .ok (.aload_n 0, 1) := by decide +kernel
theorem dX8_linkedNodes_11 : decode cX8_linkedNodes 11 = .ok (.iload_n 1, 1) := by decide +kernel
theorem dX8_linkedNodes_12 : decode cX8_linkedNodes 12 = .ok (.iload_n 3, 1) := by decide +kernel
theorem dX8_linkedNodes_13 : decode cX8_linkedNodes 13 = .ok (.iconst 0, 1) := by decide +kernel
theorem dX8_linkedNodes_14 : decode cX8_linkedNodes 14 = .ok (.invokevirtual 15, 3) := by decide +kernel
theorem dX8_linkedNodes_17 : decode cX8_linkedNodes 17 = .ok (.ifCond .eq 9, 3) := by decide +kernel
theorem dX8_linkedNodes_20 : decode cX8_linkedNodes 20 = .ok (.iload_n 2, 1) := by decide +kernel
theorem dX8_linkedNodes_21 : decode cX8_linkedNodes 21 = .ok (.iconst 1, 1) := by decide +kernel
theorem dX8_linkedNodes_22 : decode cX8_linkedNodes 22 = .ok (.iload_n 3, 1) := by decide +kernel
theorem dX8_linkedNodes_23 : decode cX8_linkedNodes 23 = .ok (.ishl, 1) := by decide +kernel
theorem dX8_linkedNodes_24 : decode cX8_linkedNodes 24 = .ok (.ior, 1) := by decide +kernel
theorem dX8_linkedNodes_25 : decode cX8_linkedNodes 25 = .ok (.istore_n 2, 1) := by decide +kernel
theorem dX8_linkedNodes_26 : decode cX8_linkedNodes 26 = .ok (.iinc 3 1, 3) := by decide +kernel
theorem dX8_linkedNodes_29 : decode cX8_linkedNodes 29 = .ok (.goto (-25), 3) := by decide +kernel
theorem dX8_linkedNodes_32 : decode cX8_linkedNodes 32 = .ok (.iload_n 2, 1) := by decide +kernel
theorem dX8_linkedNodes_33 : decode cX8_linkedNodes 33 = .ok (.ireturn, 1) := by decide +kernel
theorem dX8_usedBlocks_0 : decode cX8_usedBlocks 0 = .ok (.iconst 0, 1) := by decide +kernel
theorem dX8_usedBlocks_1 : decode cX8_usedBlocks 1 = .ok (.istore_n 2, 1) := by decide +kernel
theorem dX8_usedBlocks_2 : decode cX8_usedBlocks 2 = .ok (.iconst 0, 1) := by decide +kernel
theorem dX8_usedBlocks_3 : decode cX8_usedBlocks 3 = .ok (.istore_n 3, 1) := by decide +kernel
theorem dX8_usedBlocks_4 : decode cX8_usedBlocks 4 = .ok (.iload_n 3, 1) := by decide +kernel
theorem dX8_usedBlocks_5 : decode cX8_usedBlocks 5 = .ok (.aload_n 0, 1) := by decide +kernel
theorem dX8_usedBlocks_6 : decode cX8_usedBlocks 6 = .ok (.getfield 34, 3) := by decide +kernel
theorem dX8_usedBlocks_9 : decode cX8_usedBlocks 9 = .ok (.if_icmp .ge 25, 3) := by decide +kernel
theorem dX8_usedBlocks_12 : decode cX8_usedBlocks 12 = .ok (.aload_n 0, 1) := by decide +kernel
theorem dX8_usedBlocks_13 : decode cX8_usedBlocks 13 = .ok (.iload_n 1, 1) := by decide +kernel
theorem dX8_usedBlocks_14 : decode cX8_usedBlocks 14 = .ok (.iconst 0, 1) := by decide +kernel
theorem dX8_usedBlocks_15 : decode cX8_usedBlocks 15 = .ok (.iload_n 3, 1) := by decide +kernel
theorem dX8_usedBlocks_16 : decode cX8_usedBlocks 16 = .ok (.invokevirtual 19, 3) := by decide +kernel
theorem dX8_usedBlocks_19 : decode cX8_usedBlocks 19 = .ok (.ifCond .eq 9, 3) := by decide +kernel
theorem dX8_usedBlocks_22 : decode cX8_usedBlocks 22 = .ok (.iload_n 2, 1) := by decide +kernel
theorem dX8_usedBlocks_23 : decode cX8_usedBlocks 23 = .ok (.iconst 1, 1) := by decide +kernel
theorem dX8_usedBlocks_24 : decode cX8_usedBlocks 24 = .ok (.iload_n 3, 1) := by decide +kernel
theorem dX8_usedBlocks_25 : decode cX8_usedBlocks 25 = .ok (.ishl, 1) := by decide +kernel
theorem dX8_usedBlocks_26 : decode cX8_usedBlocks 26 = .ok (.ior, 1) := by decide +kernel
theorem dX8_usedBlocks_27 : decode cX8_usedBlocks 27 = .ok (.istore_n 2, 1) := by decide +kernel
theorem dX8_usedBlocks_28 : decode cX8_usedBlocks 28 = .ok (.iinc 3 1, 3) := by decide +kernel
theorem dX8_usedBlocks_31 : decode cX8_usedBlocks 31 = .ok (.goto (-27), 3) := by decide +kernel
theorem dX8_usedBlocks_34 : decode cX8_usedBlocks 34 = .ok (.iload_n 2, 1) := by decide +kernel
theorem dX8_usedBlocks_35 : decode cX8_usedBlocks 35 = .ok (.ireturn, 1) := by decide +kernel
theorem dX8_pointedBlocks_0 : decode cX8_pointedBlocks 0 = .ok (.iconst 0, 1) := by decide +kernel
theorem dX8_pointedBlocks_1 : decode cX8_pointedBlocks 1 = .ok (.istore_n 3, 1) := by decide +kernel
theorem dX8_pointedBlocks_2 : decode cX8_pointedBlocks 2 = .ok (.iconst 0, 1) := by decide +kernel
theorem dX8_pointedBlocks_3 : decode cX8_pointedBlocks 3 = .ok (.istore 4, 2) := by decide +kernel
theorem dX8_pointedBlocks_5 : decode cX8_pointedBlocks 5 = .ok (.iload 4, 2) := by decide +kernel
theorem dX8_pointedBlocks_7 : decode cX8_pointedBlocks 7 = .ok (.bipush 12, 2) := by decide +kernel
theorem dX8_pointedBlocks_9 : decode cX8_pointedBlocks 9 = .ok (.if_icmp .ge 44, 3) := by decide +kernel
theorem dX8_pointedBlocks_12 : decode cX8_pointedBlocks 12 = .ok (.iload_n 2, 1) := by decide +kernel
theorem dX8_pointedBlocks_13 : decode cX8_pointedBlocks 13 = .ok (.iload 4, 2) := by decide +kernel
theorem dX8_pointedBlocks_15 : decode cX8_pointedBlocks 15 = .ok (.ishr, 1) := by decide +kernel
theorem dX8_pointedBlocks_16 : decode cX8_pointedBlocks 16 = .ok (.iconst 1, 1) := by decide +kernel
theorem dX8_pointedBlocks_17 : decode cX8_pointedBlocks 17 = .ok (.iand, 1) := by decide +kernel
theorem dX8_pointedBlocks_18 : decode cX8_pointedBlocks 18 = .ok (.ifCond .eq 29, 3) := by decide +kernel
theorem dX8_pointedBlocks_21 : decode cX8_pointedBlocks 21 = .ok (.iload_n 3, 1) := by decide +kernel
theorem dX8_pointedBlocks_22 : decode cX8_pointedBlocks 22 = .ok (.iconst 1, 1) := by decide +kernel
theorem dX8_pointedBlocks_23 : decode cX8_pointedBlocks 23 = .ok (.aload_n 0, 1) := by decide +kernel
theorem dX8_pointedBlocks_24 : decode cX8_pointedBlocks 24 = .ok (.iload_n 1, 1) := by decide +kernel
theorem dX8_pointedBlocks_25 : decode cX8_pointedBlocks 25 = .ok (.iload 4, 2) := by decide +kernel
theorem dX8_pointedBlocks_27 : decode cX8_pointedBlocks 27 = .ok (.iconst 2, 1) := by decide +kernel
theorem dX8_pointedBlocks_28 : decode cX8_pointedBlocks 28 = .ok (.invokevirtual 15, 3) := by decide +kernel
theorem dX8_pointedBlocks_31 : decode cX8_pointedBlocks 31 = .ok (.ishl, 1) := by decide +kernel
theorem dX8_pointedBlocks_32 : decode cX8_pointedBlocks 32 = .ok (.ior, 1) := by decide +kernel
theorem dX8_pointedBlocks_33 : decode cX8_pointedBlocks 33 = .ok (.istore_n 3, 1) := by decide +kernel
theorem dX8_pointedBlocks_34 : decode cX8_pointedBlocks 34 = .ok (.iload_n 3, 1) := by decide +kernel
theorem dX8_pointedBlocks_35 : decode cX8_pointedBlocks 35 = .ok (.iconst 1, 1) := by decide +kernel
theorem dX8_pointedBlocks_36 : decode cX8_pointedBlocks 36 = .ok (.aload_n 0, 1) := by decide +kernel
theorem dX8_pointedBlocks_37 : decode cX8_pointedBlocks 37 = .ok (.iload_n 1, 1) := by decide +kernel
theorem dX8_pointedBlocks_38 : decode cX8_pointedBlocks 38 = .ok (.iload 4, 2) := by decide +kernel
theorem dX8_pointedBlocks_40 : decode cX8_pointedBlocks 40 = .ok (.iconst 3, 1) := by decide +kernel
theorem dX8_pointedBlocks_41 : decode cX8_pointedBlocks 41 = .ok (.invokevirtual 15, 3) := by decide +kernel
theorem dX8_pointedBlocks_44 : decode cX8_pointedBlocks 44 = .ok (.ishl, 1) := by decide +kernel
theorem dX8_pointedBlocks_45 : decode cX8_pointedBlocks 45 = .ok (.ior, 1) := by decide +kernel
theorem dX8_pointedBlocks_46 : decode cX8_pointedBlocks 46 = .ok (.istore_n 3, 1) := by decide +kernel
theorem dX8_pointedBlocks_47 : decode cX8_pointedBlocks 47 = .ok (.iinc 4 1, 3) := by decide +kernel
theorem dX8_pointedBlocks_50 : decode cX8_pointedBlocks 50 = .ok (.goto (-45), 3) := by decide +kernel
theorem dX8_pointedBlocks_53 : decode cX8_pointedBlocks 53 = .ok (.iload_n 3, 1) := by decide +kernel
theorem dX8_pointedBlocks_54 : decode cX8_pointedBlocks 54 = .ok (.ireturn, 1) := by decide +kernel
theorem dX8_leakedBlocks_0 : decode cX8_leakedBlocks 0 = .ok (.aload_n 0, 1) := by decide +kernel
theorem dX8_leakedBlocks_1 : decode cX8_leakedBlocks 1 = .ok (.iload_n 1, 1) := by decide +kernel
theorem dX8_leakedBlocks_2 : decode cX8_leakedBlocks 2 = .ok (.aload_n 0, 1) := by decide +kernel
theorem dX8_leakedBlocks_3 : decode cX8_leakedBlocks 3 = .ok (.iload_n 1, 1) := by decide +kernel
theorem dX8_leakedBlocks_4 : decode cX8_leakedBlocks 4 = .ok (.invokestatic 38, 3) := by decide +kernel
theorem dX8_leakedBlocks_7 : decode cX8_leakedBlocks 7 = .ok (.invokestatic 42, 3) := by decide +kernel
theorem dX8_leakedBlocks_10 : decode cX8_leakedBlocks 10 = .ok (.istore_n 2, 1) := by decide +kernel
theorem dX8_leakedBlocks_11 : decode cX8_leakedBlocks 11 = .ok (.aload_n 0, 1) := by decide +kernel
theorem dX8_leakedBlocks_12 : decode cX8_leakedBlocks 12 = .ok (.iload_n 1, 1) := by decide +kernel
theorem dX8_leakedBlocks_13 : decode cX8_leakedBlocks 13 = .ok (.invokestatic 45, 3) := by decide +kernel
theorem dX8_leakedBlocks_16 : decode cX8_leakedBlocks 16 = .ok (.iload_n 2, 1) := by decide +kernel
theorem dX8_leakedBlocks_17 : decode cX8_leakedBlocks 17 = .ok (.iconst (-1), 1) := by decide +kernel
theorem dX8_leakedBlocks_18 : decode cX8_leakedBlocks 18 = .ok (.ixor, 1) := by decide +kernel
theorem dX8_leakedBlocks_19 : decode cX8_leakedBlocks 19 = .ok (.iand, 1) := by decide +kernel
theorem dX8_leakedBlocks_20 : decode cX8_leakedBlocks 20 = .ok (.bipush (-16), 2) := by decide +kernel
theorem dX8_leakedBlocks_22 : decode cX8_leakedBlocks 22 = .ok (.iand, 1) := by decide +kernel
theorem dX8_leakedBlocks_23 : decode cX8_leakedBlocks 23 = .ok (.ireturn, 1) := by decide +kernel
theorem dX8_brokenEntries_0 : decode cX8_brokenEntries 0 = .ok (.aload_n 0, 1) := by decide +kernel
theorem dX8_brokenEntries_1 : decode cX8_brokenEntries 1 = .ok (.iload_n 1, 1) := by decide +kernel
theorem dX8_brokenEntries_2 : decode cX8_brokenEntries 2 = .ok (.invokestatic 38, 3) := by decide +kernel
theorem dX8_brokenEntries_5 : decode cX8_brokenEntries 5 = .ok (.istore_n 2, 1) := by decide +kernel
theorem dX8_brokenEntries_6 : decode cX8_brokenEntries 6 = .ok (.iconst 0, 1) := by decide +kernel
theorem dX8_brokenEntries_7 : decode cX8_brokenEntries 7 = .ok (.istore_n 3, 1) := by decide +kernel
theorem dX8_brokenEntries_8 : decode cX8_brokenEntries 8 = .ok (.iconst 0, 1) := by decide +kernel
theorem dX8_brokenEntries_9 : decode cX8_brokenEntries 9 = .ok (.istore 4, 2) := by decide +kernel
theorem dX8_brokenEntries_11 : decode cX8_brokenEntries 11 = .ok (.iload 4, 2) := by decide +kernel
theorem dX8_brokenEntries_13 : decode cX8_brokenEntries 13 = .ok (.bipush 12, 2) := by decide +kernel
theorem dX8_brokenEntries_15 : decode cX8_brokenEntries 15 = .ok (.if_icmp .ge 80, 3) := by decide +kernel
theorem dX8_brokenEntries_18 : decode cX8_brokenEntries 18 = .ok (.aload_n 0, 1) := by decide +kernel
theorem dX8_brokenEntries_19 : decode cX8_brokenEntries 19 = .ok (.iload_n 1, 1) := by decide +kernel
theorem dX8_brokenEntries_20 : decode cX8_brokenEntries 20 = .ok (.iload 4, 2) := by decide +kernel
theorem dX8_brokenEntries_22 : decode cX8_brokenEntries 22 = .ok (.iconst 0, 1) := by decide +kernel
theorem dX8_brokenEntries_23 : decode cX8_brokenEntries 23 = .ok (.invokevirtual 15, 3) := by decide +kernel
theorem dX8_brokenEntries_26 : decode cX8_brokenEntries 26 = .ok (.ifCond .eq 18, 3) := by decide +kernel
theorem dX8_brokenEntries_29 : decode cX8_brokenEntries 29 = .ok (.aload_n 0, 1) := by decide +kernel
theorem dX8_brokenEntries_30 : decode cX8_brokenEntries 30 = .ok (.iload_n 1, 1) := by decide +kernel
theorem dX8_brokenEntries_31 : decode cX8_brokenEntries 31 = .ok (.iload 4, 2) := by decide +kernel
theorem dX8_brokenEntries_33 : decode cX8_brokenEntries 33 = .ok (.iconst 1, 1) := by decide +kernel
theorem dX8_brokenEntries_34 : decode cX8_brokenEntries 34 = .ok (.invokevirtual 15, 3) := by decide +kernel
theorem dX8_brokenEntries_37 : decode cX8_brokenEntries 37 = .ok (.ifCond .eq 7, 3) := by decide +kernel
theorem dX8_brokenEntries_40 : decode cX8_brokenEntries 40 = .ok (.iconst 1, 1) := by decide +kernel
theorem dX8_brokenEntries_41 : decode cX8_brokenEntries 41 = .ok (.goto 4, 3) := by decide +kernel
theorem dX8_brokenEntries_44 : decode cX8_brokenEntries 44 = .ok (.iconst 0, 1) := by decide +kernel
theorem dX8_brokenEntries_45 : decode cX8_brokenEntries 45 = .ok (.istore 5, 2) := by decide +kernel
theorem dX8_brokenEntries_47 : decode cX8_brokenEntries 47 = .ok (.iconst 0, 1) := by decide +kernel
theorem dX8_brokenEntries_48 : decode cX8_brokenEntries 48 = .ok (.istore 6, 2) := by decide +kernel
theorem dX8_brokenEntries_50 : decode cX8_brokenEntries 50 = .ok (.iload 5, 2) := by decide +kernel
theorem dX8_brokenEntries_52 : decode cX8_brokenEntries 52 = .ok (.ifCond .ne 37, 3) := by decide +kernel
theorem dX8_brokenEntries_55 : decode cX8_brokenEntries 55 = .ok (.iload 6, 2) := by decide +kernel
theorem dX8_brokenEntries_57 : decode cX8_brokenEntries 57 = .ok (.bipush 12, 2) := by decide +kernel
theorem dX8_brokenEntries_59 : decode cX8_brokenEntries 59 = .ok (.if_icmp .ge 30, 3) := by decide +kernel
theorem dX8_brokenEntries_62 : decode cX8_brokenEntries 62 = .ok (.iload_n 2, 1) := by decide +kernel
theorem dX8_brokenEntries_63 : decode cX8_brokenEntries 63 = .ok (.iload 6, 2) := by decide +kernel
theorem dX8_brokenEntries_65 : decode cX8_brokenEntries 65 = .ok (.ishr, 1) := by decide +kernel
theorem dX8_brokenEntries_66 : decode cX8_brokenEntries 66 = .ok (.iconst 1, 1) := by decide +kernel
theorem dX8_brokenEntries_67 : decode cX8_brokenEntries 67 = .ok (.iand, 1) := by decide +kernel
theorem dX8_brokenEntries_68 : decode cX8_brokenEntries 68 = .ok (.ifCond .eq 15, 3) := by decide +kernel
theorem dX8_brokenEntries_71 : decode cX8_brokenEntries 71 = .ok (.iload_n 3, 1) := by decide +kernel
theorem dX8_brokenEntries_72 : decode cX8_brokenEntries 72 = .ok (.aload_n 0, 1) := by decide +kernel
theorem dX8_brokenEntries_73 : decode cX8_brokenEntries 73 = .ok (.iload_n 1, 1) := by decide +kernel
theorem dX8_brokenEntries_74 : decode cX8_brokenEntries 74 = .ok (.iload 6, 2) := by decide +kernel
theorem dX8_brokenEntries_76 : decode cX8_brokenEntries 76 = .ok (.iload 4, 2) := by decide +kernel
theorem dX8_brokenEntries_78 : decode cX8_brokenEntries 78 = .ok (.invokestatic 48, 3) := by decide +kernel
theorem dX8_brokenEntries_81 : decode cX8_brokenEntries 81 = .ok (.iadd, 1) := by decide +kernel
theorem dX8_brokenEntries_82 : decode cX8_brokenEntries 82 = .ok (.istore_n 3, 1) := by decide +kernel
theorem dX8_brokenEntries_83 : decode cX8_brokenEntries 83 = .ok (.iinc 6 1, 3) := by decide +kernel
theorem dX8_brokenEntries_86 : decode cX8_brokenEntries 86 = .ok (.goto (-36), 3) := by decide +kernel
theorem dX8_brokenEntries_89 : decode cX8_brokenEntries 89 = .ok (.iinc 4 1, 3) := by decide +kernel
theorem dX8_brokenEntries_92 : decode cX8_brokenEntries 92 = .ok (.goto (-81), 3) := by decide +kernel
theorem dX8_brokenEntries_95 : decode cX8_brokenEntries 95 = .ok (.iload_n 3, 1) := by decide +kernel
theorem dX8_brokenEntries_96 : decode cX8_brokenEntries 96 = .ok (.ireturn, 1) := by decide +kernel
theorem dX8_brokenPointers_0 : decode cX8_brokenPointers 0 = .ok (.aload_n 0, 1) := by decide +kernel
theorem dX8_brokenPointers_1 : decode cX8_brokenPointers 1 = .ok (.iload_n 1, 1) := by decide +kernel
theorem dX8_brokenPointers_2 : decode cX8_brokenPointers 2 = .ok (.invokestatic 45, 3) := by decide +kernel
theorem dX8_brokenPointers_5 : decode cX8_brokenPointers 5 = .ok (.istore_n 2, 1) := by decide +kernel
theorem dX8_brokenPointers_6 : decode cX8_brokenPointers 6 = .ok (.aload_n 0, 1) := by decide +kernel
theorem dX8_brokenPointers_7 : decode cX8_brokenPointers 7 = .ok (.iload_n 1, 1) := by decide +kernel
theorem dX8_brokenPointers_8 : decode cX8_brokenPointers 8 = .ok (.invokestatic 52, 3) := by decide +kernel
theorem dX8_brokenPointers_11 : decode cX8_brokenPointers 11 = .ok (.istore_n 3, 1) := by decide +kernel
theorem dX8_brokenPointers_12 : decode cX8_brokenPointers 12 = .ok (.iconst 0, 1) := by decide +kernel
theorem dX8_brokenPointers_13 : decode cX8_brokenPointers 13 = .ok (.istore 4, 2) := by decide +kernel
theorem dX8_brokenPointers_15 : decode cX8_brokenPointers 15 = .ok (.iconst 0, 1) := by decide +kernel
theorem dX8_brokenPointers_16 : decode cX8_brokenPointers 16 = .ok (.istore 5, 2) := by decide +kernel
theorem dX8_brokenPointers_18 : decode cX8_brokenPointers 18 = .ok (.iconst 0, 1) := by decide +kernel
theorem dX8_brokenPointers_19 : decode cX8_brokenPointers 19 = .ok (.istore 6, 2) := by decide +kernel
theorem dX8_brokenPointers_21 : decode cX8_brokenPointers 21 = .ok (.iload 6, 2) := by decide +kernel
theorem dX8_brokenPointers_23 : decode cX8_brokenPointers 23 = .ok (.bipush 24, 2) := by decide +kernel
theorem dX8_brokenPointers_25 : decode cX8_brokenPointers 25 = .ok (.if_icmp .ge 77, 3) := by decide +kernel
theorem dX8_brokenPointers_28 : decode cX8_brokenPointers 28 = .ok (.iload_n 3, 1) := by decide +kernel
theorem dX8_brokenPointers_29 : decode cX8_brokenPointers 29 = .ok (.iload 6, 2) := by decide +kernel
theorem dX8_brokenPointers_31 : decode cX8_brokenPointers 31 = .ok (.iconst 2, 1) := by decide +kernel
theorem dX8_brokenPointers_32 : decode cX8_brokenPointers 32 = .ok (.idiv, 1) := by decide +kernel
theorem dX8_brokenPointers_33 : decode cX8_brokenPointers 33 = .ok (.ishr, 1) := by decide +kernel
theorem dX8_brokenPointers_34 : decode cX8_brokenPointers 34 = .ok (.iconst 1, 1) := by decide +kernel
theorem dX8_brokenPointers_35 : decode cX8_brokenPointers 35 = .ok (.iand, 1) := by decide +kernel
theorem dX8_brokenPointers_36 : decode cX8_brokenPointers 36 = .ok (.ifCond .ne 7, 3) := by decide +kernel
theorem dX8_brokenPointers_39 : decode cX8_brokenPointers 39 = .ok (.iconst 0, 1) := by decide +kernel
theorem dX8_brokenPointers_40 : decode cX8_brokenPointers 40 = .ok (.goto 18, 3) := by decide +kernel
theorem dX8_brokenPointers_43 : decode cX8_brokenPointers 43 = .ok (.aload_n 0, 1) := by decide +kernel
theorem dX8_brokenPointers_44 : decode cX8_brokenPointers 44 = .ok (.iload_n 1, 1) := by decide +kernel
theorem dX8_brokenPointers_45 : decode cX8_brokenPointers 45 = .ok (.iload 6, 2) := by decide +kernel
theorem dX8_brokenPointers_47 : decode cX8_brokenPointers 47 = .ok (.iconst 2, 1) := by decide +kernel
theorem dX8_brokenPointers_48 : decode cX8_brokenPointers 48 = .ok (.idiv, 1) := by decide +kernel
theorem dX8_brokenPointers_49 : decode cX8_brokenPointers 49 = .ok (.iconst 2, 1) := by decide +kernel
theorem dX8_brokenPointers_50 : decode cX8_brokenPointers 50 = .ok (.iload 6, 2) := by decide +kernel
theorem dX8_brokenPointers_52 : decode cX8_brokenPointers 52 = .ok (.iconst 2, 1) := by decide +kernel
theorem dX8_brokenPointers_53 : decode cX8_brokenPointers 53 = .ok (.irem, 1) := by decide +kernel
theorem dX8_brokenPointers_54 : decode cX8_brokenPointers 54 = .ok (.iadd, 1) := by decide +kernel
theorem dX8_brokenPointers_55 : decode cX8_brokenPointers 55 = .ok (.invokevirtual 15, 3) := by decide +kernel
theorem dX8_brokenPointers_58 : decode cX8_brokenPointers 58 = .ok (.istore 7, 2) := by decide +kernel
theorem dX8_brokenPointers_60 : decode cX8_brokenPointers 60 = .ok (.iload 7, 2) := by decide +kernel
theorem dX8_brokenPointers_62 : decode cX8_brokenPointers 62 = .ok (.ifCond .eq 34, 3) := by decide +kernel
theorem dX8_brokenPointers_65 : decode cX8_brokenPointers 65 = .ok (.iload_n 2, 1) := by decide +kernel
theorem dX8_brokenPointers_66 : decode cX8_brokenPointers 66 = .ok (.iload 7, 2) := by decide +kernel
theorem dX8_brokenPointers_68 : decode cX8_brokenPointers 68 = .ok (.ishr, 1) := by decide +kernel
theorem dX8_brokenPointers_69 : decode cX8_brokenPointers 69 = .ok (.iconst 1, 1) := by decide +kernel
theorem dX8_brokenPointers_70 : decode cX8_brokenPointers 70 = .ok (.iand, 1) := by decide +kernel
theorem dX8_brokenPointers_71 : decode cX8_brokenPointers 71 = .ok (.ifCond .eq 13, 3) := by decide +kernel
theorem dX8_brokenPointers_74 : decode cX8_brokenPointers 74 = .ok (.iload 4, 2) := by decide +kernel
theorem dX8_brokenPointers_76 : decode cX8_brokenPointers 76 = .ok (.iload 7, 2) := by decide +kernel
theorem dX8_brokenPointers_78 : decode cX8_brokenPointers 78 = .ok (.ishr, 1) := by decide +kernel
theorem dX8_brokenPointers_79 : decode cX8_brokenPointers 79 = .ok (.iconst 1, 1) := by decide +kernel
theorem dX8_brokenPointers_80 : decode cX8_brokenPointers 80 = .ok (.iand, 1) := by decide +kernel
theorem dX8_brokenPointers_81 : decode cX8_brokenPointers 81 = .ok (.ifCond .eq 6, 3) := by decide +kernel
theorem dX8_brokenPointers_84 : decode cX8_brokenPointers 84 = .ok (.iinc 5 1, 3) := by decide +kernel
theorem dX8_brokenPointers_87 : decode cX8_brokenPointers 87 = .ok (.iload 4, 2) := by decide +kernel
theorem dX8_brokenPointers_89 : decode cX8_brokenPointers 89 = .ok (.iconst 1, 1) := by decide +kernel
theorem dX8_brokenPointers_90 : decode cX8_brokenPointers 90 = .ok (.iload 7, 2) := by decide +kernel
theorem dX8_brokenPointers_92 : decode cX8_brokenPointers 92 = .ok (.ishl, 1) := by decide +kernel
theorem dX8_brokenPointers_93 : decode cX8_brokenPointers 93 = .ok (.ior, 1) := by decide +kernel
theorem dX8_brokenPointers_94 : decode cX8_brokenPointers 94 = .ok (.istore 4, 2) := by decide +kernel
theorem dX8_brokenPointers_96 : decode cX8_brokenPointers 96 = .ok (.iinc 6 1, 3) := by decide +kernel
theorem dX8_brokenPointers_99 : decode cX8_brokenPointers 99 = .ok (.goto (-78), 3) := by decide +kernel
theorem dX8_brokenPointers_102 : decode cX8_brokenPointers 102 = .ok (.iload 5, 2) := by decide +kernel
theorem dX8_brokenPointers_104 : decode cX8_brokenPointers 104 = .ok (.ireturn, 1) := by decide +kernel
theorem dX8_ownerOf_0 : decode cX8_ownerOf 0 = .ok (.iconst 0, 1) := by decide +kernel
theorem dX8_ownerOf_1 : decode cX8_ownerOf 1 = .ok (.istore_n 3, 1) := by decide +kernel
theorem dX8_ownerOf_2 : decode cX8_ownerOf 2 = .ok (.iload_n 2, 1) := by decide +kernel
theorem dX8_ownerOf_3 : decode cX8_ownerOf 3 = .ok (.ifCond .eq 49, 3) := by decide +kernel
theorem dX8_ownerOf_6 : decode cX8_ownerOf 6 = .ok (.iload_n 3, 1) := by decide +kernel
theorem dX8_ownerOf_7 : decode cX8_ownerOf 7 = .ok (.bipush 12, 2) := by decide +kernel
theorem dX8_ownerOf_9 : decode cX8_ownerOf 9 = .ok (.if_icmp .ge 43, 3) := by decide +kernel
theorem dX8_ownerOf_12 : decode cX8_ownerOf 12 = .ok (.aload_n 0, 1) := by decide +kernel
theorem dX8_ownerOf_13 : decode cX8_ownerOf 13 = .ok (.iload_n 1, 1) := by decide +kernel
theorem dX8_ownerOf_14 : decode cX8_ownerOf 14 = .ok (.iload_n 3, 1) := by decide +kernel
theorem dX8_ownerOf_15 : decode cX8_ownerOf 15 = .ok (.iconst 0, 1) := by decide +kernel
theorem dX8_ownerOf_16 : decode cX8_ownerOf 16 = .ok (.invokevirtual 15, 3) := by decide +kernel
theorem dX8_ownerOf_19 : decode cX8_ownerOf 19 = .ok (.ifCond .eq 27, 3) := by decide +kernel
theorem dX8_ownerOf_22 : decode cX8_ownerOf 22 = .ok (.aload_n 0, 1) := by decide +kernel
theorem dX8_ownerOf_23 : decode cX8_ownerOf 23 = .ok (.iload_n 1, 1) := by decide +kernel
theorem dX8_ownerOf_24 : decode cX8_ownerOf 24 = .ok (.iload_n 3, 1) := by decide +kernel
theorem dX8_ownerOf_25 : decode cX8_ownerOf 25 = .ok (.iconst 2, 1) := by decide +kernel
theorem dX8_ownerOf_26 : decode cX8_ownerOf 26 = .ok (.invokevirtual 15, 3) := by decide +kernel
theorem dX8_ownerOf_29 : decode cX8_ownerOf 29 = .ok (.iload_n 2, 1) := by decide +kernel
theorem dX8_ownerOf_30 : decode cX8_ownerOf 30 = .ok (.if_icmp .eq 14, 3) := by decide +kernel
theorem dX8_ownerOf_33 : decode cX8_ownerOf 33 = .ok (.aload_n 0, 1) := by decide +kernel
theorem dX8_ownerOf_34 : decode cX8_ownerOf 34 = .ok (.iload_n 1, 1) := by decide +kernel
theorem dX8_ownerOf_35 : decode cX8_ownerOf 35 = .ok (.iload_n 3, 1) := by decide +kernel
theorem dX8_ownerOf_36 : decode cX8_ownerOf 36 = .ok (.iconst 3, 1) := by decide +kernel
theorem dX8_ownerOf_37 : decode cX8_ownerOf 37 = .ok (.invokevirtual 15, 3) := by decide +kernel
theorem dX8_ownerOf_40 : decode cX8_ownerOf 40 = .ok (.iload_n 2, 1) := by decide +kernel
theorem dX8_ownerOf_41 : decode cX8_ownerOf 41 = .ok (.if_icmp .ne 5, 3) := by decide +kernel
theorem dX8_ownerOf_44 : decode cX8_ownerOf 44 = .ok (.iload_n 3, 1) := by decide +kernel
theorem dX8_ownerOf_45 : decode cX8_ownerOf 45 = .ok (.ireturn, 1) := by decide +kernel
theorem dX8_ownerOf_46 : decode cX8_ownerOf 46 = .ok (.iinc 3 1, 3) := by decide +kernel
theorem dX8_ownerOf_49 : decode cX8_ownerOf 49 = .ok (.goto (-47), 3) := by decide +kernel
theorem dX8_ownerOf_52 : decode cX8_ownerOf 52 = .ok (.iconst (-1), 1) := by decide +kernel
theorem dX8_ownerOf_53 : decode cX8_ownerOf 53 = .ok (.ireturn, 1) := by decide +kernel
theorem dX8_countUnder_0 : decode cX8_countUnder 0 = .ok (.iload_n 2, 1) := by decide +kernel
theorem dX8_countUnder_1 : decode cX8_countUnder 1 = .ok (.ifCond .lt 16, 3) := by decide +kernel
theorem dX8_countUnder_4 : decode cX8_countUnder 4 = .ok (.iload_n 2, 1) := by decide +kernel
theorem dX8_countUnder_5 : decode cX8_countUnder 5 = .ok (.aload_n 3, 1) := by decide +kernel
theorem dX8_countUnder_6 : decode cX8_countUnder 6 = .ok (.arraylength, 1) := by decide +kernel
theorem dX8_countUnder_7 : decode cX8_countUnder 7 = .ok (.if_icmp .ge 10, 3) := by decide +kernel
theorem dX8_countUnder_10 : decode cX8_countUnder 10 = .ok (.iload 4, 2) := by decide +kernel
theorem dX8_countUnder_12 : decode cX8_countUnder 12 = .ok (.bipush 12, 2) := by decide +kernel
theorem dX8_countUnder_14 : decode cX8_countUnder 14 = .ok (.if_icmp .lt 5, 3) := by decide +kernel
theorem dX8_countUnder_17 : decode cX8_countUnder 17 = .ok (.iconst 0, 1) := by decide +kernel
theorem dX8_countUnder_18 : decode cX8_countUnder 18 = .ok (.ireturn, 1) := by decide +kernel
theorem dX8_countUnder_19 : decode cX8_countUnder 19 = .ok (.aload_n 3, 1) := by decide +kernel
theorem dX8_countUnder_20 : decode cX8_countUnder 20 = .ok (.iload_n 2, 1) := by decide +kernel
theorem dX8_countUnder_21 : decode cX8_countUnder 21 = .ok (.iaload, 1) := by decide +kernel
theorem dX8_countUnder_22 : decode cX8_countUnder 22 = .ok (.iconst (-1), 1) := by decide +kernel
theorem dX8_countUnder_23 : decode cX8_countUnder 23 = .ok (.if_icmp .eq 7, 3) := by decide +kernel
theorem dX8_countUnder_26 : decode cX8_countUnder 26 = .ok (.aload_n 3, 1) := by decide +kernel
theorem dX8_countUnder_27 : decode cX8_countUnder 27 = .ok (.iload_n 2, 1) := by decide +kernel
theorem dX8_countUnder_28 : decode cX8_countUnder 28 = .ok (.iaload, 1) := by decide +kernel
theorem dX8_countUnder_29 : decode cX8_countUnder 29 = .ok (.ireturn, 1) := by decide +kernel
theorem dX8_countUnder_30 : decode cX8_countUnder 30 = .ok (.iconst 0, 1) := by decide +kernel
theorem dX8_countUnder_31 : decode cX8_countUnder 31 = .ok (.istore 5, 2) := by decide +kernel
theorem dX8_countUnder_33 : decode cX8_countUnder 33 = .ok (.iconst 0, 1) := by decide +kernel
theorem dX8_countUnder_34 : decode cX8_countUnder 34 = .ok (.istore 6, 2) := by decide +kernel
theorem dX8_countUnder_36 : decode cX8_countUnder 36 = .ok (.iload 6, 2) := by decide +kernel
theorem dX8_countUnder_38 : decode cX8_countUnder 38 = .ok (.bipush 16, 2) := by decide +kernel
theorem dX8_countUnder_40 : decode cX8_countUnder 40 = .ok (.if_icmp .ge 44, 3) := by decide +kernel
theorem dX8_countUnder_43 : decode cX8_countUnder 43 = .ok (.aload_n 0, 1) := by decide +kernel
theorem dX8_countUnder_44 : decode cX8_countUnder 44 = .ok (.iload_n 1, 1) := by decide +kernel
theorem dX8_countUnder_45 : decode cX8_countUnder 45 = .ok (.iload_n 2, 1) := by decide +kernel
theorem dX8_countUnder_46 : decode cX8_countUnder 46 = .ok (.iload 6, 2) := by decide +kernel
theorem dX8_countUnder_48 : decode cX8_countUnder 48 = .ok (.invokestatic 55, 3) := by decide +kernel
theorem dX8_countUnder_51 : decode cX8_countUnder 51 = .ok (.istore 7, 2) := by decide +kernel
theorem dX8_countUnder_53 : decode cX8_countUnder 53 = .ok (.iload 7, 2) := by decide +kernel
theorem dX8_countUnder_55 : decode cX8_countUnder 55 = .ok (.iconst (-1), 1) := by decide +kernel
theorem dX8_countUnder_56 : decode cX8_countUnder 56 = .ok (.if_icmp .eq 22, 3) := by decide +kernel
theorem dX8_countUnder_59 : decode cX8_countUnder 59 = .ok (.iload 5, 2) := by decide +kernel
theorem dX8_countUnder_61 : decode cX8_countUnder 61 = .ok (.iconst 1, 1) := by decide +kernel
theorem dX8_countUnder_62 : decode cX8_countUnder 62 = .ok (.aload_n 0, 1) := by decide +kernel
theorem dX8_countUnder_63 : decode cX8_countUnder 63 = .ok (.iload_n 1, 1) := by decide +kernel
theorem dX8_countUnder_64 : decode cX8_countUnder 64 = .ok (.iload 7, 2) := by decide +kernel
theorem dX8_countUnder_66 : decode cX8_countUnder 66 = .ok (.aload_n 3, 1) := by decide +kernel
theorem dX8_countUnder_67 : decode cX8_countUnder 67 = .ok (.iload 4, 2) := by decide +kernel
theorem dX8_countUnder_69 : decode cX8_countUnder 69 = .ok (.iconst 1, 1) := by decide +kernel
theorem dX8_countUnder_70 : decode cX8_countUnder 70 = .ok (.iadd, 1) := by decide +kernel
theorem dX8_countUnder_71 : decode cX8_countUnder 71 = .ok (.invokestatic 58, 3) := by decide +kernel
theorem dX8_countUnder_74 : decode cX8_countUnder 74 = .ok (.iadd, 1) := by decide +kernel
theorem dX8_countUnder_75 : decode cX8_countUnder 75 = .ok (.iadd, 1) := by decide +kernel
theorem dX8_countUnder_76 : decode cX8_countUnder 76 = .ok (.istore 5, 2) := by decide +kernel
theorem dX8_countUnder_78 : decode cX8_countUnder 78 = .ok (.iinc 6 1, 3) := by decide +kernel
theorem dX8_countUnder_81 : decode cX8_countUnder 81 = .ok (.goto (-45), 3) := by decide +kernel
theorem dX8_countUnder_84 : decode cX8_countUnder 84 = .ok (.aload_n 3, 1) := by decide +kernel
theorem dX8_countUnder_85 : decode cX8_countUnder 85 = .ok (.iload_n 2, 1) := by decide +kernel
theorem dX8_countUnder_86 : decode cX8_countUnder 86 = .ok (.iload 5, 2) := by decide +kernel
theorem dX8_countUnder_88 : decode cX8_countUnder 88 = .ok (.iastore, 1) := by decide +kernel
theorem dX8_countUnder_89 : decode cX8_countUnder 89 = .ok (.iload 5, 2) := by decide +kernel
theorem dX8_countUnder_91 : decode cX8_countUnder 91 = .ok (.ireturn, 1) := by decide +kernel
theorem dX8_depthOf_0 : decode cX8_depthOf 0 = .ok (.aload_n 0, 1) := by decide +kernel
theorem dX8_depthOf_1 : decode cX8_depthOf 1 = .ok (.iload_n 1, 1) := by decide +kernel
theorem dX8_depthOf_2 : decode cX8_depthOf 2 = .ok (.iload_n 2, 1) := by decide +kernel
theorem dX8_depthOf_3 : decode cX8_depthOf 3 = .ok (.invokevirtual 9, 3) := by decide +kernel
theorem dX8_depthOf_6 : decode cX8_depthOf 6 = .ok (.ifCond .eq 16, 3) := by decide +kernel
theorem dX8_depthOf_9 : decode cX8_depthOf 9 = .ok (.iload_n 2, 1) := by decide +kernel
theorem dX8_depthOf_10 : decode cX8_depthOf 10 = .ok (.aload_n 3, 1) := by decide +kernel
theorem dX8_depthOf_11 : decode cX8_depthOf 11 = .ok (.arraylength, 1) := by decide +kernel
theorem dX8_depthOf_12 : decode cX8_depthOf 12 = .ok (.if_icmp .ge 10, 3) := by decide +kernel
theorem dX8_depthOf_15 : decode cX8_depthOf 15 = .ok (.iload 4, 2) := by decide +kernel
theorem dX8_depthOf_17 : decode cX8_depthOf 17 = .ok (.bipush 12, 2) := by decide +kernel
theorem dX8_depthOf_19 : decode cX8_depthOf 19 = .ok (.if_icmp .lt 5, 3) := by decide +kernel
theorem dX8_depthOf_22 : decode cX8_depthOf 22 = .ok (.iconst 0, 1) := by decide +kernel
theorem dX8_depthOf_23 : decode cX8_depthOf 23 = .ok (.ireturn, 1) := by decide +kernel
theorem dX8_depthOf_24 : decode cX8_depthOf 24 = .ok (.aload_n 3, 1) := by decide +kernel
theorem dX8_depthOf_25 : decode cX8_depthOf 25 = .ok (.iload_n 2, 1) := by decide +kernel
theorem dX8_depthOf_26 : decode cX8_depthOf 26 = .ok (.iaload, 1) := by decide +kernel
theorem dX8_depthOf_27 : decode cX8_depthOf 27 = .ok (.iconst (-1), 1) := by decide +kernel
theorem dX8_depthOf_28 : decode cX8_depthOf 28 = .ok (.if_icmp .eq 7, 3) := by decide +kernel
theorem dX8_depthOf_31 : decode cX8_depthOf 31 = .ok (.aload_n 3, 1) := by decide +kernel
theorem dX8_depthOf_32 : decode cX8_depthOf 32 = .ok (.iload_n 2, 1) := by decide +kernel
theorem dX8_depthOf_33 : decode cX8_depthOf 33 = .ok (.iaload, 1) := by decide +kernel
theorem dX8_depthOf_34 : decode cX8_depthOf 34 = .ok (.ireturn, 1) := by decide +kernel
theorem dX8_depthOf_35 : decode cX8_depthOf 35 = .ok (.iconst 0, 1) := by decide +kernel
theorem dX8_depthOf_36 : decode cX8_depthOf 36 = .ok (.istore 5, 2) := by decide +kernel
theorem dX8_depthOf_38 : decode cX8_depthOf 38 = .ok (.iconst 0, 1) := by decide +kernel
theorem dX8_depthOf_39 : decode cX8_depthOf 39 = .ok (.istore 6, 2) := by decide +kernel
theorem dX8_depthOf_41 : decode cX8_depthOf 41 = .ok (.iload 6, 2) := by decide +kernel
theorem dX8_depthOf_43 : decode cX8_depthOf 43 = .ok (.bipush 16, 2) := by decide +kernel
theorem dX8_depthOf_45 : decode cX8_depthOf 45 = .ok (.if_icmp .ge 44, 3) := by decide +kernel
theorem dX8_depthOf_48 : decode cX8_depthOf 48 = .ok (.aload_n 0, 1) := by decide +kernel
theorem dX8_depthOf_49 : decode cX8_depthOf 49 = .ok (.iload_n 1, 1) := by decide +kernel
theorem dX8_depthOf_50 : decode cX8_depthOf 50 = .ok (.iload_n 2, 1) := by decide +kernel
theorem dX8_depthOf_51 : decode cX8_depthOf 51 = .ok (.iload 6, 2) := by decide +kernel
theorem dX8_depthOf_53 : decode cX8_depthOf 53 = .ok (.invokestatic 55, 3) := by decide +kernel
theorem dX8_depthOf_56 : decode cX8_depthOf 56 = .ok (.istore 7, 2) := by decide +kernel
theorem dX8_depthOf_58 : decode cX8_depthOf 58 = .ok (.iload 7, 2) := by decide +kernel
theorem dX8_depthOf_60 : decode cX8_depthOf 60 = .ok (.iconst (-1), 1) := by decide +kernel
theorem dX8_depthOf_61 : decode cX8_depthOf 61 = .ok (.if_icmp .eq 22, 3) := by decide +kernel
theorem dX8_depthOf_64 : decode cX8_depthOf 64 = .ok (.iload 5, 2) := by decide +kernel
theorem dX8_depthOf_66 : decode cX8_depthOf 66 = .ok (.aload_n 0, 1) := by decide +kernel
theorem dX8_depthOf_67 : decode cX8_depthOf 67 = .ok (.iload_n 1, 1) := by decide +kernel
theorem dX8_depthOf_68 : decode cX8_depthOf 68 = .ok (.iload 7, 2) := by decide +kernel
theorem dX8_depthOf_70 : decode cX8_depthOf 70 = .ok (.aload_n 3, 1) := by decide +kernel
theorem dX8_depthOf_71 : decode cX8_depthOf 71 = .ok (.iload 4, 2) := by decide +kernel
theorem dX8_depthOf_73 : decode cX8_depthOf 73 = .ok (.iconst 1, 1) := by decide +kernel
theorem dX8_depthOf_74 : decode cX8_depthOf 74 = .ok (.iadd, 1) := by decide +kernel
theorem dX8_depthOf_75 : decode cX8_depthOf 75 = .ok (.invokestatic 62, 3) := by decide +kernel
theorem dX8_depthOf_78 : decode cX8_depthOf 78 = .ok (.invokestatic 65, 3) := by decide +kernel
theorem dX8_depthOf_81 : decode cX8_depthOf 81 = .ok (.istore 5, 2) := by decide +kernel
theorem dX8_depthOf_83 : decode cX8_depthOf 83 = .ok (.iinc 6 1, 3) := by decide +kernel
theorem dX8_depthOf_86 : decode cX8_depthOf 86 = .ok (.goto (-45), 3) := by decide +kernel
theorem dX8_depthOf_89 : decode cX8_depthOf 89 = .ok (.aload_n 3, 1) := by decide +kernel
theorem dX8_depthOf_90 : decode cX8_depthOf 90 = .ok (.iload_n 2, 1) := by decide +kernel
theorem dX8_depthOf_91 : decode cX8_depthOf 91 = .ok (.iconst 1, 1) := by decide +kernel
theorem dX8_depthOf_92 : decode cX8_depthOf 92 = .ok (.iload 5, 2) := by decide +kernel
theorem dX8_depthOf_94 : decode cX8_depthOf 94 = .ok (.iadd, 1) := by decide +kernel
theorem dX8_depthOf_95 : decode cX8_depthOf 95 = .ok (.iastore, 1) := by decide +kernel
theorem dX8_depthOf_96 : decode cX8_depthOf 96 = .ok (.iconst 1, 1) := by decide +kernel
theorem dX8_depthOf_97 : decode cX8_depthOf 97 = .ok (.iload 5, 2) := by decide +kernel
theorem dX8_depthOf_99 : decode cX8_depthOf 99 = .ok (.iadd, 1) := by decide +kernel
theorem dX8_depthOf_100 : decode cX8_depthOf 100 = .ok (.ireturn, 1) := by decide +kernel
theorem dX8_namedAt_0 : decode cX8_namedAt 0 = .ok (.aload_n 0, 1) := by decide +kernel
theorem dX8_namedAt_1 : decode cX8_namedAt 1 = .ok (.iload_n 1, 1) := by decide +kernel
theorem dX8_namedAt_2 : decode cX8_namedAt 2 = .ok (.iload_n 2, 1) := by decide +kernel
theorem dX8_namedAt_3 : decode cX8_namedAt 3 = .ok (.invokevirtual 9, 3) := by decide +kernel
theorem dX8_namedAt_6 : decode cX8_namedAt 6 = .ok (.ifCond .ne 5, 3) := by decide +kernel
theorem dX8_namedAt_9 : decode cX8_namedAt 9 = .ok (.iconst (-1), 1) := by decide +kernel
theorem dX8_namedAt_10 : decode cX8_namedAt 10 = .ok (.ireturn, 1) := by decide +kernel
theorem dX8_namedAt_11 : decode cX8_namedAt 11 = .ok (.aload_n 0, 1) := by decide +kernel
theorem dX8_namedAt_12 : decode cX8_namedAt 12 = .ok (.iload_n 1, 1) := by decide +kernel
theorem dX8_namedAt_13 : decode cX8_namedAt 13 = .ok (.iload_n 2, 1) := by decide +kernel
theorem dX8_namedAt_14 : decode cX8_namedAt 14 = .ok (.iload_n 3, 1) := by decide +kernel
theorem dX8_namedAt_15 : decode cX8_namedAt 15 = .ok (.bipush 8, 2) := by decide +kernel
theorem dX8_namedAt_17 : decode cX8_namedAt 17 = .ok (.if_icmp .ge 7, 3) := by decide +kernel
theorem dX8_namedAt_20 : decode cX8_namedAt 20 = .ok (.iconst 2, 1) := by decide +kernel
theorem dX8_namedAt_21 : decode cX8_namedAt 21 = .ok (.goto 4, 3) := by decide +kernel
theorem dX8_namedAt_24 : decode cX8_namedAt 24 = .ok (.iconst 3, 1) := by decide +kernel
theorem dX8_namedAt_25 : decode cX8_namedAt 25 = .ok (.invokevirtual 15, 3) := by decide +kernel
theorem dX8_namedAt_28 : decode cX8_namedAt 28 = .ok (.istore 4, 2) := by decide +kernel
theorem dX8_namedAt_30 : decode cX8_namedAt 30 = .ok (.iload_n 3, 1) := by decide +kernel
theorem dX8_namedAt_31 : decode cX8_namedAt 31 = .ok (.bipush 8, 2) := by decide +kernel
theorem dX8_namedAt_33 : decode cX8_namedAt 33 = .ok (.irem, 1) := by decide +kernel
theorem dX8_namedAt_34 : decode cX8_namedAt 34 = .ok (.iconst 2, 1) := by decide +kernel
theorem dX8_namedAt_35 : decode cX8_namedAt 35 = .ok (.imul, 1) := by decide +kernel
theorem dX8_namedAt_36 : decode cX8_namedAt 36 = .ok (.istore 5, 2) := by decide +kernel
theorem dX8_namedAt_38 : decode cX8_namedAt 38 = .ok (.iload 4, 2) := by decide +kernel
theorem dX8_namedAt_40 : decode cX8_namedAt 40 = .ok (.ifCond .eq 15, 3) := by decide +kernel
theorem dX8_namedAt_43 : decode cX8_namedAt 43 = .ok (.aload_n 0, 1) := by decide +kernel
theorem dX8_namedAt_44 : decode cX8_namedAt 44 = .ok (.iload_n 1, 1) := by decide +kernel
theorem dX8_namedAt_45 : decode cX8_namedAt 45 = .ok (.iload 4, 2) := by decide +kernel
theorem dX8_namedAt_47 : decode cX8_namedAt 47 = .ok (.iload 5, 2) := by decide +kernel
theorem dX8_namedAt_49 : decode cX8_namedAt 49 = .ok (.invokevirtual 19, 3) := by decide +kernel
theorem dX8_namedAt_52 : decode cX8_namedAt 52 = .ok (.ifCond .ne 7, 3) := by decide +kernel
theorem dX8_namedAt_55 : decode cX8_namedAt 55 = .ok (.iconst (-1), 1) := by decide +kernel
theorem dX8_namedAt_56 : decode cX8_namedAt 56 = .ok (.goto 14, 3) := by decide +kernel
theorem dX8_namedAt_59 : decode cX8_namedAt 59 = .ok (.aload_n 0, 1) := by decide +kernel
theorem dX8_namedAt_60 : decode cX8_namedAt 60 = .ok (.iload_n 1, 1) := by decide +kernel
theorem dX8_namedAt_61 : decode cX8_namedAt 61 = .ok (.iload 4, 2) := by decide +kernel
theorem dX8_namedAt_63 : decode cX8_namedAt 63 = .ok (.iload 5, 2) := by decide +kernel
theorem dX8_namedAt_65 : decode cX8_namedAt 65 = .ok (.iconst 1, 1) := by decide +kernel
theorem dX8_namedAt_66 : decode cX8_namedAt 66 = .ok (.iadd, 1) := by decide +kernel
theorem dX8_namedAt_67 : decode cX8_namedAt 67 = .ok (.invokevirtual 19, 3) := by decide +kernel
theorem dX8_namedAt_70 : decode cX8_namedAt 70 = .ok (.ireturn, 1) := by decide +kernel
theorem eX8_entryNamed {G : GG} {d : Nat} {h : Hp} {o : OU} {h' : Hp} (r0 : Nat) (x1 : Int32) (x2 : Int32) (x3 : Int32) (hd : 1 ≤ d) (T : kH h r0 = 15 ∧ ∃ z2 h1, VM G mX5_isDirectory (d - 1) [.ref r0, .int x1, .int x2] h (.inl (some (.int z2))) h1 ∧ ((¬ z2 = 0 → V G mX8_entryNamed d 14 [.ref r0, .int x1, .int x2, .int x3, .int 2, uV, uV] [] h1 o h') ∧ (z2 = 0 → (o = .inl (some (.int (-1))) ∧ h' = h1)))) : VM G mX8_entryNamed d [.ref r0, .int x1, .int x2, .int x3] h o h' := by
  refine V.toM rfl rfl (le_l rfl) (cat_all rfl) ?_
  show V G mX8_entryNamed d 0 [.ref r0, .int x1, .int x2, .int x3, uV, uV, uV] [] h o h'
  have hdd : d - 1 + 1 ≤ d := by omega
  refine v_aload_n (pc' := 1) dX8_entryNamed_0 rfl rfl ?_
  refine v_iload_n (pc' := 2) dX8_entryNamed_1 rfl rfl ?_
  refine v_iload_n (pc' := 3) dX8_entryNamed_2 rfl rfl ?_
  obtain ⟨q4, T⟩ := T
  obtain ⟨z2, h1, k3, T⟩ := T
  refine v_callV (pc' := 6) (M1 := mX5_isDirectory) (as := [.int x1, .int x2]) (r := r0) (rest := []) 5 dX8_entryNamed_3 rfl ko_X8_9 kc_X5_isDirectory ki_X5_isDirectory ks_X5_isDirectory (by decide) (by decide) hdd rfl rfl (le_l rfl) q4 k3 ?_
  refine v_if_ne (tgt := 11) (pc' := 9) dX8_entryNamed_6 (by decide) rfl ⟨fun c5 => ?_, fun c5 => ?_⟩
  · have T := T.1 c5
    refine v_iconst (pc' := 12) (v := 2) dX8_entryNamed_11 rfl kI_2 ?_
    refine v_istore (pc' := 14) (loc' := [.ref r0, .int x1, .int x2, .int x3, .int 2, uV, uV]) dX8_entryNamed_12 rfl (lt_l rfl) rfl ?_
    exact T
  · have T := T.2 c5
    refine v_iconst (pc' := 10) (v := (-1)) dX8_entryNamed_9 rfl kI_m1 ?_
    exact v_iret dX8_entryNamed_10 rfl T
theorem bX8_entryNamed_14 {G : GG} {d : Nat} {h : Hp} {o : OU} {h' : Hp} (r0 : Nat) (x1 : Int32) (x2 : Int32) (x3 : Int32) (x4 : Int32) (hd : 1 ≤ d) (T : ((3 < x4 → (o = .inl (some (.int (-1))) ∧ h' = h)) ∧ (¬ 3 < x4 → kH h r0 = 15 ∧ ∃ z3 h2, VM G mX5_nodeField (d - 1) [.ref r0, .int x1, .int x2, .int x4] h (.inl (some (.int z3))) h2 ∧ V G mX8_entryNamed d 33 [.ref r0, .int x1, .int x2, .int x3, .int x4, .int z3, .int 0] [] h2 o h'))) : V G mX8_entryNamed d 14 [.ref r0, .int x1, .int x2, .int x3, .int x4, uV, uV] [] h o h' := by
  have hdd : d - 1 + 1 ≤ d := by omega
  refine v_iload (pc' := 16) dX8_entryNamed_14 rfl rfl ?_
  refine v_iconst (pc' := 17) (v := 3) dX8_entryNamed_16 rfl kI_3 ?_
  refine v_icmp_gt (tgt := 81) (pc' := 20) dX8_entryNamed_17 (by decide) rfl ⟨fun c1 => ?_, fun c1 => ?_⟩
  · have T := T.1 c1
    refine v_iconst (pc' := 82) (v := (-1)) dX8_entryNamed_81 rfl kI_m1 ?_
    exact v_iret dX8_entryNamed_82 rfl T
  · have T := T.2 c1
    refine v_aload_n (pc' := 21) dX8_entryNamed_20 rfl rfl ?_
    refine v_iload_n (pc' := 22) dX8_entryNamed_21 rfl rfl ?_
    refine v_iload_n (pc' := 23) dX8_entryNamed_22 rfl rfl ?_
    refine v_iload (pc' := 25) dX8_entryNamed_23 rfl rfl ?_
    obtain ⟨q5, T⟩ := T
    obtain ⟨z3, h2, k4, T⟩ := T
    refine v_callV (pc' := 28) (M1 := mX5_nodeField) (as := [.int x1, .int x2, .int x4]) (r := r0) (rest := []) 5 dX8_entryNamed_25 rfl ko_X8_15 kc_X5_nodeField ki_X5_nodeField ks_X5_nodeField (by decide) (by decide) hdd rfl rfl (le_l rfl) q5 k4 ?_
    refine v_istore (pc' := 30) (loc' := [.ref r0, .int x1, .int x2, .int x3, .int x4, .int z3, uV]) dX8_entryNamed_28 rfl (lt_l rfl) rfl ?_
    refine v_iconst (pc' := 31) (v := 0) dX8_entryNamed_30 rfl kI_0 ?_
    refine v_istore (pc' := 33) (loc' := [.ref r0, .int x1, .int x2, .int x3, .int x4, .int z3, .int 0]) dX8_entryNamed_31 rfl (lt_l rfl) rfl ?_
    exact T
theorem bX8_entryNamed_33 {G : GG} {d : Nat} {h : Hp} {o : OU} {h' : Hp} (r0 : Nat) (x1 : Int32) (x2 : Int32) (x3 : Int32) (x4 : Int32) (x5 : Int32) (x6 : Int32) (hd : 1 ≤ d) (T : ((x5 = 0 → V G mX8_entryNamed d 14 [.ref r0, .int x1, .int x2, .int x3, .int (x4 + 1), uV, uV] [] h o h') ∧ (¬ x5 = 0 → ((8 ≤ x6 → V G mX8_entryNamed d 14 [.ref r0, .int x1, .int x2, .int x3, .int (x4 + 1), uV, uV] [] h o h') ∧ (¬ 8 ≤ x6 → kH h r0 = 15 ∧ ∃ z4 h3, VM G mX5_at (d - 1) [.ref r0, .int x1, .int x5, .int (2 * x6)] h (.inl (some (.int z4))) h3 ∧ ((¬ z4 = x3 → V G mX8_entryNamed d 33 [.ref r0, .int x1, .int x2, .int x3, .int x4, .int x5, .int (x6 + 1)] [] h3 o h') ∧ (z4 = x3 → (o = .inl (some (.int ((x5 * 8) + x6))) ∧ h' = h3)))))))) : V G mX8_entryNamed d 33 [.ref r0, .int x1, .int x2, .int x3, .int x4, .int x5, .int x6] [] h o h' := by
  have hdd : d - 1 + 1 ≤ d := by omega
  refine v_iload (pc' := 35) dX8_entryNamed_33 rfl rfl ?_
  refine v_if_eq (tgt := 75) (pc' := 38) dX8_entryNamed_35 (by decide) rfl ⟨fun c1 => ?_, fun c1 => ?_⟩
  · have T := T.1 c1
    refine v_iinc (pc' := 78) (loc' := [.ref r0, .int x1, .int x2, .int x3, .int (x4 + 1), .int x5, .int x6]) dX8_entryNamed_75 rfl rfl (kX_1 _) rfl ?_
    refine v_goto (pc' := 14) dX8_entryNamed_78 (by decide) ?_
    exact V.drop (llp_r (llp_r (llp_r (llp_r (llp_r (llp_u (llp_u llp_nil))))))) T
  · have T := T.2 c1
    refine v_iload (pc' := 40) dX8_entryNamed_38 rfl rfl ?_
    refine v_bipush (pc' := 42) (v := 8) dX8_entryNamed_40 rfl kB_8 ?_
    refine v_icmp_ge (tgt := 75) (pc' := 45) dX8_entryNamed_42 (by decide) rfl ⟨fun c2 => ?_, fun c2 => ?_⟩
    · have T := T.1 c2
      refine v_iinc (pc' := 78) (loc' := [.ref r0, .int x1, .int x2, .int x3, .int (x4 + 1), .int x5, .int x6]) dX8_entryNamed_75 rfl rfl (kX_1 _) rfl ?_
      refine v_goto (pc' := 14) dX8_entryNamed_78 (by decide) ?_
      exact V.drop (llp_r (llp_r (llp_r (llp_r (llp_r (llp_u (llp_u llp_nil))))))) T
    · have T := T.2 c2
      refine v_aload_n (pc' := 46) dX8_entryNamed_45 rfl rfl ?_
      refine v_iload_n (pc' := 47) dX8_entryNamed_46 rfl rfl ?_
      refine v_iload (pc' := 49) dX8_entryNamed_47 rfl rfl ?_
      refine v_iconst (pc' := 50) (v := 2) dX8_entryNamed_49 rfl kI_2 ?_
      refine v_iload (pc' := 52) dX8_entryNamed_50 rfl rfl ?_
      refine v_imul (pc' := 53) dX8_entryNamed_52 rfl ?_
      obtain ⟨q6, T⟩ := T
      obtain ⟨z4, h3, k5, T⟩ := T
      refine v_callV (pc' := 56) (M1 := mX5_at) (as := [.int x1, .int x5, .int (2 * x6)]) (r := r0) (rest := []) 5 dX8_entryNamed_53 rfl ko_X8_19 kc_X5_at ki_X5_at ks_X5_at (by decide) (by decide) hdd rfl rfl (le_l rfl) q6 k5 ?_
      refine v_iload_n (pc' := 57) dX8_entryNamed_56 rfl rfl ?_
      refine v_icmp_ne (tgt := 69) (pc' := 60) dX8_entryNamed_57 (by decide) rfl ⟨fun c7 => ?_, fun c7 => ?_⟩
      · have T := T.1 c7
        refine v_iinc (pc' := 72) (loc' := [.ref r0, .int x1, .int x2, .int x3, .int x4, .int x5, .int (x6 + 1)]) dX8_entryNamed_69 rfl rfl (kX_1 _) rfl ?_
        refine v_goto (pc' := 33) dX8_entryNamed_72 (by decide) ?_
        exact T
      · have T := T.2 c7
        refine v_iload (pc' := 62) dX8_entryNamed_60 rfl rfl ?_
        refine v_bipush (pc' := 64) (v := 8) dX8_entryNamed_62 rfl kB_8 ?_
        refine v_imul (pc' := 65) dX8_entryNamed_64 rfl ?_
        refine v_iload (pc' := 67) dX8_entryNamed_65 rfl rfl ?_
        refine v_iadd (pc' := 68) dX8_entryNamed_67 rfl ?_
        exact v_iret dX8_entryNamed_68 rfl T
theorem eX8_nodeOfEntry {G : GG} {d : Nat} {h : Hp} {o : OU} {h' : Hp} (r0 : Nat) (x1 : Int32) (x2 : Int32) (hd : 1 ≤ d) (T : kH h r0 = 15 ∧ ∃ z2 h1, VM G mX5_at (d - 1) [.ref r0, .int x1, .int (x2 / 8), .int (((x2 - x2 / 8 * 8) * 2) + 1)] h (.inl (some (.int z2))) h1 ∧ (o = .inl (some (.int z2)) ∧ h' = h1)) : VM G mX8_nodeOfEntry d [.ref r0, .int x1, .int x2] h o h' := by
  refine V.toM rfl rfl (le_l rfl) (cat_all rfl) ?_
  show V G mX8_nodeOfEntry d 0 [.ref r0, .int x1, .int x2] [] h o h'
  have hdd : d - 1 + 1 ≤ d := by omega
  refine v_aload_n (pc' := 1) dX8_nodeOfEntry_0 rfl rfl ?_
  refine v_iload_n (pc' := 2) dX8_nodeOfEntry_1 rfl rfl ?_
  refine v_iload_n (pc' := 3) dX8_nodeOfEntry_2 rfl rfl ?_
  refine v_bipush (pc' := 5) (v := 8) dX8_nodeOfEntry_3 rfl kB_8 ?_
  refine v_idiv (pc' := 6) dX8_nodeOfEntry_5 rfl (by decide) ?_
  refine v_iload_n (pc' := 7) dX8_nodeOfEntry_6 rfl rfl ?_
  refine v_bipush (pc' := 9) (v := 8) dX8_nodeOfEntry_7 rfl kB_8 ?_
  refine v_irem (pc' := 10) dX8_nodeOfEntry_9 rfl (by decide) ?_
  refine v_iconst (pc' := 11) (v := 2) dX8_nodeOfEntry_10 rfl kI_2 ?_
  refine v_imul (pc' := 12) dX8_nodeOfEntry_11 rfl ?_
  refine v_iconst (pc' := 13) (v := 1) dX8_nodeOfEntry_12 rfl kI_1 ?_
  refine v_iadd (pc' := 14) dX8_nodeOfEntry_13 rfl ?_
  obtain ⟨q4, T⟩ := T
  obtain ⟨z2, h1, k3, T⟩ := T
  refine v_callV (pc' := 17) (M1 := mX5_at) (as := [.int x1, .int (x2 / 8), .int (((x2 - x2 / 8 * 8) * 2) + 1)]) (r := r0) (rest := []) 5 dX8_nodeOfEntry_14 rfl ko_X8_19 kc_X5_at ki_X5_at ks_X5_at (by decide) (by decide) hdd rfl rfl (le_l rfl) q4 k3 ?_
  exact v_iret dX8_nodeOfEntry_17 rfl T
theorem eX8_freeEntries {G : GG} {d : Nat} {h : Hp} {o : OU} {h' : Hp} (r0 : Nat) (x1 : Int32) (x2 : Int32) (T : V G mX8_freeEntries d 5 [.ref r0, .int x1, .int x2, .int 0, .int 2, uV, uV] [] h o h') : VM G mX8_freeEntries d [.ref r0, .int x1, .int x2] h o h' := by
  refine V.toM rfl rfl (le_l rfl) (cat_all rfl) ?_
  show V G mX8_freeEntries d 0 [.ref r0, .int x1, .int x2, uV, uV, uV, uV] [] h o h'
  refine v_iconst (pc' := 1) (v := 0) dX8_freeEntries_0 rfl kI_0 ?_
  refine v_istore_n (pc' := 2) (loc' := [.ref r0, .int x1, .int x2, .int 0, uV, uV, uV]) dX8_freeEntries_1 rfl (lt_l rfl) rfl ?_
  refine v_iconst (pc' := 3) (v := 2) dX8_freeEntries_2 rfl kI_2 ?_
  refine v_istore (pc' := 5) (loc' := [.ref r0, .int x1, .int x2, .int 0, .int 2, uV, uV]) dX8_freeEntries_3 rfl (lt_l rfl) rfl ?_
  exact T
theorem bX8_freeEntries_5 {G : GG} {d : Nat} {h : Hp} {o : OU} {h' : Hp} (r0 : Nat) (x1 : Int32) (x2 : Int32) (x3 : Int32) (x4 : Int32) (hd : 1 ≤ d) (T : kH h r0 = 15 ∧ ∃ z2 h1, VM G mX5_isDirectory (d - 1) [.ref r0, .int x1, .int x2] h (.inl (some (.int z2))) h1 ∧ ((z2 = 0 → (o = .inl (some (.int x3)) ∧ h' = h1)) ∧ (¬ z2 = 0 → ((3 < x4 → (o = .inl (some (.int x3)) ∧ h' = h1)) ∧ (¬ 3 < x4 → kH h1 r0 = 15 ∧ ∃ z8 h7, VM G mX5_nodeField (d - 1) [.ref r0, .int x1, .int x2, .int x4] h1 (.inl (some (.int z8))) h7 ∧ V G mX8_freeEntries d 33 [.ref r0, .int x1, .int x2, .int x3, .int x4, .int z8, .int 0] [] h7 o h'))))) : V G mX8_freeEntries d 5 [.ref r0, .int x1, .int x2, .int x3, .int x4, uV, uV] [] h o h' := by
  have hdd : d - 1 + 1 ≤ d := by omega
  refine v_aload_n (pc' := 6) dX8_freeEntries_5 rfl rfl ?_
  refine v_iload_n (pc' := 7) dX8_freeEntries_6 rfl rfl ?_
  refine v_iload_n (pc' := 8) dX8_freeEntries_7 rfl rfl ?_
  obtain ⟨q4, T⟩ := T
  obtain ⟨z2, h1, k3, T⟩ := T
  refine v_callV (pc' := 11) (M1 := mX5_isDirectory) (as := [.int x1, .int x2]) (r := r0) (rest := []) 5 dX8_freeEntries_8 rfl ko_X8_9 kc_X5_isDirectory ki_X5_isDirectory ks_X5_isDirectory (by decide) (by decide) hdd rfl rfl (le_l rfl) q4 k3 ?_
  refine v_if_eq (tgt := 74) (pc' := 14) dX8_freeEntries_11 (by decide) rfl ⟨fun c5 => ?_, fun c5 => ?_⟩
  · have T := T.1 c5
    refine v_iload_n (pc' := 75) dX8_freeEntries_74 rfl rfl ?_
    exact v_iret dX8_freeEntries_75 rfl T
  · have T := T.2 c5
    refine v_iload (pc' := 16) dX8_freeEntries_14 rfl rfl ?_
    refine v_iconst (pc' := 17) (v := 3) dX8_freeEntries_16 rfl kI_3 ?_
    refine v_icmp_gt (tgt := 74) (pc' := 20) dX8_freeEntries_17 (by decide) rfl ⟨fun c6 => ?_, fun c6 => ?_⟩
    · have T := T.1 c6
      refine v_iload_n (pc' := 75) dX8_freeEntries_74 rfl rfl ?_
      exact v_iret dX8_freeEntries_75 rfl T
    · have T := T.2 c6
      refine v_aload_n (pc' := 21) dX8_freeEntries_20 rfl rfl ?_
      refine v_iload_n (pc' := 22) dX8_freeEntries_21 rfl rfl ?_
      refine v_iload_n (pc' := 23) dX8_freeEntries_22 rfl rfl ?_
      refine v_iload (pc' := 25) dX8_freeEntries_23 rfl rfl ?_
      obtain ⟨q10, T⟩ := T
      obtain ⟨z8, h7, k9, T⟩ := T
      refine v_callV (pc' := 28) (M1 := mX5_nodeField) (as := [.int x1, .int x2, .int x4]) (r := r0) (rest := []) 5 dX8_freeEntries_25 rfl ko_X8_15 kc_X5_nodeField ki_X5_nodeField ks_X5_nodeField (by decide) (by decide) hdd rfl rfl (le_l rfl) q10 k9 ?_
      refine v_istore (pc' := 30) (loc' := [.ref r0, .int x1, .int x2, .int x3, .int x4, .int z8, uV]) dX8_freeEntries_28 rfl (lt_l rfl) rfl ?_
      refine v_iconst (pc' := 31) (v := 0) dX8_freeEntries_30 rfl kI_0 ?_
      refine v_istore (pc' := 33) (loc' := [.ref r0, .int x1, .int x2, .int x3, .int x4, .int z8, .int 0]) dX8_freeEntries_31 rfl (lt_l rfl) rfl ?_
      exact T
theorem bX8_freeEntries_33 {G : GG} {d : Nat} {h : Hp} {o : OU} {h' : Hp} (r0 : Nat) (x1 : Int32) (x2 : Int32) (x3 : Int32) (x4 : Int32) (x5 : Int32) (x6 : Int32) (hd : 1 ≤ d) (T : ((x5 = 0 → V G mX8_freeEntries d 5 [.ref r0, .int x1, .int x2, .int x3, .int (x4 + 1), uV, uV] [] h o h') ∧ (¬ x5 = 0 → ((8 ≤ x6 → V G mX8_freeEntries d 5 [.ref r0, .int x1, .int x2, .int x3, .int (x4 + 1), uV, uV] [] h o h') ∧ (¬ 8 ≤ x6 → kH h r0 = 15 ∧ ∃ z4 h3, VM G mX5_at (d - 1) [.ref r0, .int x1, .int x5, .int (2 * x6)] h (.inl (some (.int z4))) h3 ∧ ((¬ z4 = 0 → V G mX8_freeEntries d 33 [.ref r0, .int x1, .int x2, .int x3, .int x4, .int x5, .int (x6 + 1)] [] h3 o h') ∧ (z4 = 0 → V G mX8_freeEntries d 33 [.ref r0, .int x1, .int x2, .int (x3 + 1), .int x4, .int x5, .int (x6 + 1)] [] h3 o h'))))))) : V G mX8_freeEntries d 33 [.ref r0, .int x1, .int x2, .int x3, .int x4, .int x5, .int x6] [] h o h' := by
  have hdd : d - 1 + 1 ≤ d := by omega
  refine v_iload (pc' := 35) dX8_freeEntries_33 rfl rfl ?_
  refine v_if_eq (tgt := 68) (pc' := 38) dX8_freeEntries_35 (by decide) rfl ⟨fun c1 => ?_, fun c1 => ?_⟩
  · have T := T.1 c1
    refine v_iinc (pc' := 71) (loc' := [.ref r0, .int x1, .int x2, .int x3, .int (x4 + 1), .int x5, .int x6]) dX8_freeEntries_68 rfl rfl (kX_1 _) rfl ?_
    refine v_goto (pc' := 5) dX8_freeEntries_71 (by decide) ?_
    exact V.drop (llp_r (llp_r (llp_r (llp_r (llp_r (llp_u (llp_u llp_nil))))))) T
  · have T := T.2 c1
    refine v_iload (pc' := 40) dX8_freeEntries_38 rfl rfl ?_
    refine v_bipush (pc' := 42) (v := 8) dX8_freeEntries_40 rfl kB_8 ?_
    refine v_icmp_ge (tgt := 68) (pc' := 45) dX8_freeEntries_42 (by decide) rfl ⟨fun c2 => ?_, fun c2 => ?_⟩
    · have T := T.1 c2
      refine v_iinc (pc' := 71) (loc' := [.ref r0, .int x1, .int x2, .int x3, .int (x4 + 1), .int x5, .int x6]) dX8_freeEntries_68 rfl rfl (kX_1 _) rfl ?_
      refine v_goto (pc' := 5) dX8_freeEntries_71 (by decide) ?_
      exact V.drop (llp_r (llp_r (llp_r (llp_r (llp_r (llp_u (llp_u llp_nil))))))) T
    · have T := T.2 c2
      refine v_aload_n (pc' := 46) dX8_freeEntries_45 rfl rfl ?_
      refine v_iload_n (pc' := 47) dX8_freeEntries_46 rfl rfl ?_
      refine v_iload (pc' := 49) dX8_freeEntries_47 rfl rfl ?_
      refine v_iconst (pc' := 50) (v := 2) dX8_freeEntries_49 rfl kI_2 ?_
      refine v_iload (pc' := 52) dX8_freeEntries_50 rfl rfl ?_
      refine v_imul (pc' := 53) dX8_freeEntries_52 rfl ?_
      obtain ⟨q6, T⟩ := T
      obtain ⟨z4, h3, k5, T⟩ := T
      refine v_callV (pc' := 56) (M1 := mX5_at) (as := [.int x1, .int x5, .int (2 * x6)]) (r := r0) (rest := []) 5 dX8_freeEntries_53 rfl ko_X8_19 kc_X5_at ki_X5_at ks_X5_at (by decide) (by decide) hdd rfl rfl (le_l rfl) q6 k5 ?_
      refine v_if_ne (tgt := 62) (pc' := 59) dX8_freeEntries_56 (by decide) rfl ⟨fun c7 => ?_, fun c7 => ?_⟩
      · have T := T.1 c7
        refine v_iinc (pc' := 65) (loc' := [.ref r0, .int x1, .int x2, .int x3, .int x4, .int x5, .int (x6 + 1)]) dX8_freeEntries_62 rfl rfl (kX_1 _) rfl ?_
        refine v_goto (pc' := 33) dX8_freeEntries_65 (by decide) ?_
        exact T
      · have T := T.2 c7
        refine v_iinc (pc' := 62) (loc' := [.ref r0, .int x1, .int x2, .int (x3 + 1), .int x4, .int x5, .int x6]) dX8_freeEntries_59 rfl rfl (kX_1 _) rfl ?_
        refine v_iinc (pc' := 65) (loc' := [.ref r0, .int x1, .int x2, .int (x3 + 1), .int x4, .int x5, .int (x6 + 1)]) dX8_freeEntries_62 rfl rfl (kX_1 _) rfl ?_
        refine v_goto (pc' := 33) dX8_freeEntries_65 (by decide) ?_
        exact T
theorem eX8_timesNamed {G : GG} {d : Nat} {h : Hp} {o : OU} {h' : Hp} (r0 : Nat) (x1 : Int32) (x2 : Int32) (x3 : Int32) (T : V G mX8_timesNamed d 6 [.ref r0, .int x1, .int x2, .int x3, .int 0, .int 2, uV, uV] [] h o h') : VM G mX8_timesNamed d [.ref r0, .int x1, .int x2, .int x3] h o h' := by
  refine V.toM rfl rfl (le_l rfl) (cat_all rfl) ?_
  show V G mX8_timesNamed d 0 [.ref r0, .int x1, .int x2, .int x3, uV, uV, uV, uV] [] h o h'
  refine v_iconst (pc' := 1) (v := 0) dX8_timesNamed_0 rfl kI_0 ?_
  refine v_istore (pc' := 3) (loc' := [.ref r0, .int x1, .int x2, .int x3, .int 0, uV, uV, uV]) dX8_timesNamed_1 rfl (lt_l rfl) rfl ?_
  refine v_iconst (pc' := 4) (v := 2) dX8_timesNamed_3 rfl kI_2 ?_
  refine v_istore (pc' := 6) (loc' := [.ref r0, .int x1, .int x2, .int x3, .int 0, .int 2, uV, uV]) dX8_timesNamed_4 rfl (lt_l rfl) rfl ?_
  exact T
theorem bX8_timesNamed_6 {G : GG} {d : Nat} {h : Hp} {o : OU} {h' : Hp} (r0 : Nat) (x1 : Int32) (x2 : Int32) (x3 : Int32) (x4 : Int32) (x5 : Int32) (hd : 1 ≤ d) (T : kH h r0 = 15 ∧ ∃ z2 h1, VM G mX5_isDirectory (d - 1) [.ref r0, .int x1, .int x2] h (.inl (some (.int z2))) h1 ∧ ((z2 = 0 → (o = .inl (some (.int x4)) ∧ h' = h1)) ∧ (¬ z2 = 0 → ((3 < x5 → (o = .inl (some (.int x4)) ∧ h' = h1)) ∧ (¬ 3 < x5 → kH h1 r0 = 15 ∧ ∃ z8 h7, VM G mX5_nodeField (d - 1) [.ref r0, .int x1, .int x2, .int x5] h1 (.inl (some (.int z8))) h7 ∧ V G mX8_timesNamed d 34 [.ref r0, .int x1, .int x2, .int x3, .int x4, .int x5, .int z8, .int 0] [] h7 o h'))))) : V G mX8_timesNamed d 6 [.ref r0, .int x1, .int x2, .int x3, .int x4, .int x5, uV, uV] [] h o h' := by
  have hdd : d - 1 + 1 ≤ d := by omega
  refine v_aload_n (pc' := 7) dX8_timesNamed_6 rfl rfl ?_
  refine v_iload_n (pc' := 8) dX8_timesNamed_7 rfl rfl ?_
  refine v_iload_n (pc' := 9) dX8_timesNamed_8 rfl rfl ?_
  obtain ⟨q4, T⟩ := T
  obtain ⟨z2, h1, k3, T⟩ := T
  refine v_callV (pc' := 12) (M1 := mX5_isDirectory) (as := [.int x1, .int x2]) (r := r0) (rest := []) 5 dX8_timesNamed_9 rfl ko_X8_9 kc_X5_isDirectory ki_X5_isDirectory ks_X5_isDirectory (by decide) (by decide) hdd rfl rfl (le_l rfl) q4 k3 ?_
  refine v_if_eq (tgt := 92) (pc' := 15) dX8_timesNamed_12 (by decide) rfl ⟨fun c5 => ?_, fun c5 => ?_⟩
  · have T := T.1 c5
    refine v_iload (pc' := 94) dX8_timesNamed_92 rfl rfl ?_
    exact v_iret dX8_timesNamed_94 rfl T
  · have T := T.2 c5
    refine v_iload (pc' := 17) dX8_timesNamed_15 rfl rfl ?_
    refine v_iconst (pc' := 18) (v := 3) dX8_timesNamed_17 rfl kI_3 ?_
    refine v_icmp_gt (tgt := 92) (pc' := 21) dX8_timesNamed_18 (by decide) rfl ⟨fun c6 => ?_, fun c6 => ?_⟩
    · have T := T.1 c6
      refine v_iload (pc' := 94) dX8_timesNamed_92 rfl rfl ?_
      exact v_iret dX8_timesNamed_94 rfl T
    · have T := T.2 c6
      refine v_aload_n (pc' := 22) dX8_timesNamed_21 rfl rfl ?_
      refine v_iload_n (pc' := 23) dX8_timesNamed_22 rfl rfl ?_
      refine v_iload_n (pc' := 24) dX8_timesNamed_23 rfl rfl ?_
      refine v_iload (pc' := 26) dX8_timesNamed_24 rfl rfl ?_
      obtain ⟨q10, T⟩ := T
      obtain ⟨z8, h7, k9, T⟩ := T
      refine v_callV (pc' := 29) (M1 := mX5_nodeField) (as := [.int x1, .int x2, .int x5]) (r := r0) (rest := []) 5 dX8_timesNamed_26 rfl ko_X8_15 kc_X5_nodeField ki_X5_nodeField ks_X5_nodeField (by decide) (by decide) hdd rfl rfl (le_l rfl) q10 k9 ?_
      refine v_istore (pc' := 31) (loc' := [.ref r0, .int x1, .int x2, .int x3, .int x4, .int x5, .int z8, uV]) dX8_timesNamed_29 rfl (lt_l rfl) rfl ?_
      refine v_iconst (pc' := 32) (v := 0) dX8_timesNamed_31 rfl kI_0 ?_
      refine v_istore (pc' := 34) (loc' := [.ref r0, .int x1, .int x2, .int x3, .int x4, .int x5, .int z8, .int 0]) dX8_timesNamed_32 rfl (lt_l rfl) rfl ?_
      exact T
theorem bX8_timesNamed_34 {G : GG} {d : Nat} {h : Hp} {o : OU} {h' : Hp} (r0 : Nat) (x1 : Int32) (x2 : Int32) (x3 : Int32) (x4 : Int32) (x5 : Int32) (x6 : Int32) (x7 : Int32) (hd : 1 ≤ d) (T : ((x6 = 0 → V G mX8_timesNamed d 6 [.ref r0, .int x1, .int x2, .int x3, .int x4, .int (x5 + 1), uV, uV] [] h o h') ∧ (¬ x6 = 0 → ((8 ≤ x7 → V G mX8_timesNamed d 6 [.ref r0, .int x1, .int x2, .int x3, .int x4, .int (x5 + 1), uV, uV] [] h o h') ∧ (¬ 8 ≤ x7 → kH h r0 = 15 ∧ ∃ z4 h3, VM G mX5_at (d - 1) [.ref r0, .int x1, .int x6, .int (2 * x7)] h (.inl (some (.int z4))) h3 ∧ ((z4 = 0 → V G mX8_timesNamed d 34 [.ref r0, .int x1, .int x2, .int x3, .int x4, .int x5, .int x6, .int (x7 + 1)] [] h3 o h') ∧ (¬ z4 = 0 → kH h3 r0 = 15 ∧ ∃ z9 h8, VM G mX5_at (d - 1) [.ref r0, .int x1, .int x6, .int ((2 * x7) + 1)] h3 (.inl (some (.int z9))) h8 ∧ ((¬ z9 = x3 → V G mX8_timesNamed d 34 [.ref r0, .int x1, .int x2, .int x3, .int x4, .int x5, .int x6, .int (x7 + 1)] [] h8 o h') ∧ (z9 = x3 → V G mX8_timesNamed d 34 [.ref r0, .int x1, .int x2, .int x3, .int (x4 + 1), .int x5, .int x6, .int (x7 + 1)] [] h8 o h'))))))))) : V G mX8_timesNamed d 34 [.ref r0, .int x1, .int x2, .int x3, .int x4, .int x5, .int x6, .int x7] [] h o h' := by
  have hdd : d - 1 + 1 ≤ d := by omega
  refine v_iload (pc' := 36) dX8_timesNamed_34 rfl rfl ?_
  refine v_if_eq (tgt := 86) (pc' := 39) dX8_timesNamed_36 (by decide) rfl ⟨fun c1 => ?_, fun c1 => ?_⟩
  · have T := T.1 c1
    refine v_iinc (pc' := 89) (loc' := [.ref r0, .int x1, .int x2, .int x3, .int x4, .int (x5 + 1), .int x6, .int x7]) dX8_timesNamed_86 rfl rfl (kX_1 _) rfl ?_
    refine v_goto (pc' := 6) dX8_timesNamed_89 (by decide) ?_
    exact V.drop (llp_r (llp_r (llp_r (llp_r (llp_r (llp_r (llp_u (llp_u llp_nil)))))))) T
  · have T := T.2 c1
    refine v_iload (pc' := 41) dX8_timesNamed_39 rfl rfl ?_
    refine v_bipush (pc' := 43) (v := 8) dX8_timesNamed_41 rfl kB_8 ?_
    refine v_icmp_ge (tgt := 86) (pc' := 46) dX8_timesNamed_43 (by decide) rfl ⟨fun c2 => ?_, fun c2 => ?_⟩
    · have T := T.1 c2
      refine v_iinc (pc' := 89) (loc' := [.ref r0, .int x1, .int x2, .int x3, .int x4, .int (x5 + 1), .int x6, .int x7]) dX8_timesNamed_86 rfl rfl (kX_1 _) rfl ?_
      refine v_goto (pc' := 6) dX8_timesNamed_89 (by decide) ?_
      exact V.drop (llp_r (llp_r (llp_r (llp_r (llp_r (llp_r (llp_u (llp_u llp_nil)))))))) T
    · have T := T.2 c2
      refine v_aload_n (pc' := 47) dX8_timesNamed_46 rfl rfl ?_
      refine v_iload_n (pc' := 48) dX8_timesNamed_47 rfl rfl ?_
      refine v_iload (pc' := 50) dX8_timesNamed_48 rfl rfl ?_
      refine v_iconst (pc' := 51) (v := 2) dX8_timesNamed_50 rfl kI_2 ?_
      refine v_iload (pc' := 53) dX8_timesNamed_51 rfl rfl ?_
      refine v_imul (pc' := 54) dX8_timesNamed_53 rfl ?_
      obtain ⟨q6, T⟩ := T
      obtain ⟨z4, h3, k5, T⟩ := T
      refine v_callV (pc' := 57) (M1 := mX5_at) (as := [.int x1, .int x6, .int (2 * x7)]) (r := r0) (rest := []) 5 dX8_timesNamed_54 rfl ko_X8_19 kc_X5_at ki_X5_at ks_X5_at (by decide) (by decide) hdd rfl rfl (le_l rfl) q6 k5 ?_
      refine v_if_eq (tgt := 80) (pc' := 60) dX8_timesNamed_57 (by decide) rfl ⟨fun c7 => ?_, fun c7 => ?_⟩
      · have T := T.1 c7
        refine v_iinc (pc' := 83) (loc' := [.ref r0, .int x1, .int x2, .int x3, .int x4, .int x5, .int x6, .int (x7 + 1)]) dX8_timesNamed_80 rfl rfl (kX_1 _) rfl ?_
        refine v_goto (pc' := 34) dX8_timesNamed_83 (by decide) ?_
        exact T
      · have T := T.2 c7
        refine v_aload_n (pc' := 61) dX8_timesNamed_60 rfl rfl ?_
        refine v_iload_n (pc' := 62) dX8_timesNamed_61 rfl rfl ?_
        refine v_iload (pc' := 64) dX8_timesNamed_62 rfl rfl ?_
        refine v_iconst (pc' := 65) (v := 2) dX8_timesNamed_64 rfl kI_2 ?_
        refine v_iload (pc' := 67) dX8_timesNamed_65 rfl rfl ?_
        refine v_imul (pc' := 68) dX8_timesNamed_67 rfl ?_
        refine v_iconst (pc' := 69) (v := 1) dX8_timesNamed_68 rfl kI_1 ?_
        refine v_iadd (pc' := 70) dX8_timesNamed_69 rfl ?_
        obtain ⟨q11, T⟩ := T
        obtain ⟨z9, h8, k10, T⟩ := T
        refine v_callV (pc' := 73) (M1 := mX5_at) (as := [.int x1, .int x6, .int ((2 * x7) + 1)]) (r := r0) (rest := []) 5 dX8_timesNamed_70 rfl ko_X8_19 kc_X5_at ki_X5_at ks_X5_at (by decide) (by decide) hdd rfl rfl (le_l rfl) q11 k10 ?_
        refine v_iload_n (pc' := 74) dX8_timesNamed_73 rfl rfl ?_
        refine v_icmp_ne (tgt := 80) (pc' := 77) dX8_timesNamed_74 (by decide) rfl ⟨fun c12 => ?_, fun c12 => ?_⟩
        · have T := T.1 c12
          refine v_iinc (pc' := 83) (loc' := [.ref r0, .int x1, .int x2, .int x3, .int x4, .int x5, .int x6, .int (x7 + 1)]) dX8_timesNamed_80 rfl rfl (kX_1 _) rfl ?_
          refine v_goto (pc' := 34) dX8_timesNamed_83 (by decide) ?_
          exact T
        · have T := T.2 c12
          refine v_iinc (pc' := 80) (loc' := [.ref r0, .int x1, .int x2, .int x3, .int (x4 + 1), .int x5, .int x6, .int x7]) dX8_timesNamed_77 rfl rfl (kX_1 _) rfl ?_
          refine v_iinc (pc' := 83) (loc' := [.ref r0, .int x1, .int x2, .int x3, .int (x4 + 1), .int x5, .int x6, .int (x7 + 1)]) dX8_timesNamed_80 rfl rfl (kX_1 _) rfl ?_
          refine v_goto (pc' := 34) dX8_timesNamed_83 (by decide) ?_
          exact T
theorem eX8_namedNodes {G : GG} {d : Nat} {h : Hp} {o : OU} {h' : Hp} (r0 : Nat) (x1 : Int32) (x2 : Int32) (T : V G mX8_namedNodes d 5 [.ref r0, .int x1, .int x2, .int 0, .int 2, uV, uV] [] h o h') : VM G mX8_namedNodes d [.ref r0, .int x1, .int x2] h o h' := by
  refine V.toM rfl rfl (le_l rfl) (cat_all rfl) ?_
  show V G mX8_namedNodes d 0 [.ref r0, .int x1, .int x2, uV, uV, uV, uV] [] h o h'
  refine v_iconst (pc' := 1) (v := 0) dX8_namedNodes_0 rfl kI_0 ?_
  refine v_istore_n (pc' := 2) (loc' := [.ref r0, .int x1, .int x2, .int 0, uV, uV, uV]) dX8_namedNodes_1 rfl (lt_l rfl) rfl ?_
  refine v_iconst (pc' := 3) (v := 2) dX8_namedNodes_2 rfl kI_2 ?_
  refine v_istore (pc' := 5) (loc' := [.ref r0, .int x1, .int x2, .int 0, .int 2, uV, uV]) dX8_namedNodes_3 rfl (lt_l rfl) rfl ?_
  exact T
theorem bX8_namedNodes_5 {G : GG} {d : Nat} {h : Hp} {o : OU} {h' : Hp} (r0 : Nat) (x1 : Int32) (x2 : Int32) (x3 : Int32) (x4 : Int32) (hd : 1 ≤ d) (T : kH h r0 = 15 ∧ ∃ z2 h1, VM G mX5_isDirectory (d - 1) [.ref r0, .int x1, .int x2] h (.inl (some (.int z2))) h1 ∧ ((z2 = 0 → (o = .inl (some (.int x3)) ∧ h' = h1)) ∧ (¬ z2 = 0 → ((3 < x4 → (o = .inl (some (.int x3)) ∧ h' = h1)) ∧ (¬ 3 < x4 → kH h1 r0 = 15 ∧ ∃ z8 h7, VM G mX5_nodeField (d - 1) [.ref r0, .int x1, .int x2, .int x4] h1 (.inl (some (.int z8))) h7 ∧ V G mX8_namedNodes d 33 [.ref r0, .int x1, .int x2, .int x3, .int x4, .int z8, .int 0] [] h7 o h'))))) : V G mX8_namedNodes d 5 [.ref r0, .int x1, .int x2, .int x3, .int x4, uV, uV] [] h o h' := by
  have hdd : d - 1 + 1 ≤ d := by omega
  refine v_aload_n (pc' := 6) dX8_namedNodes_5 rfl rfl ?_
  refine v_iload_n (pc' := 7) dX8_namedNodes_6 rfl rfl ?_
  refine v_iload_n (pc' := 8) dX8_namedNodes_7 rfl rfl ?_
  obtain ⟨q4, T⟩ := T
  obtain ⟨z2, h1, k3, T⟩ := T
  refine v_callV (pc' := 11) (M1 := mX5_isDirectory) (as := [.int x1, .int x2]) (r := r0) (rest := []) 5 dX8_namedNodes_8 rfl ko_X8_9 kc_X5_isDirectory ki_X5_isDirectory ks_X5_isDirectory (by decide) (by decide) hdd rfl rfl (le_l rfl) q4 k3 ?_
  refine v_if_eq (tgt := 89) (pc' := 14) dX8_namedNodes_11 (by decide) rfl ⟨fun c5 => ?_, fun c5 => ?_⟩
  · have T := T.1 c5
    refine v_iload_n (pc' := 90) dX8_namedNodes_89 rfl rfl ?_
    exact v_iret dX8_namedNodes_90 rfl T
  · have T := T.2 c5
    refine v_iload (pc' := 16) dX8_namedNodes_14 rfl rfl ?_
    refine v_iconst (pc' := 17) (v := 3) dX8_namedNodes_16 rfl kI_3 ?_
    refine v_icmp_gt (tgt := 89) (pc' := 20) dX8_namedNodes_17 (by decide) rfl ⟨fun c6 => ?_, fun c6 => ?_⟩
    · have T := T.1 c6
      refine v_iload_n (pc' := 90) dX8_namedNodes_89 rfl rfl ?_
      exact v_iret dX8_namedNodes_90 rfl T
    · have T := T.2 c6
      refine v_aload_n (pc' := 21) dX8_namedNodes_20 rfl rfl ?_
      refine v_iload_n (pc' := 22) dX8_namedNodes_21 rfl rfl ?_
      refine v_iload_n (pc' := 23) dX8_namedNodes_22 rfl rfl ?_
      refine v_iload (pc' := 25) dX8_namedNodes_23 rfl rfl ?_
      obtain ⟨q10, T⟩ := T
      obtain ⟨z8, h7, k9, T⟩ := T
      refine v_callV (pc' := 28) (M1 := mX5_nodeField) (as := [.int x1, .int x2, .int x4]) (r := r0) (rest := []) 5 dX8_namedNodes_25 rfl ko_X8_15 kc_X5_nodeField ki_X5_nodeField ks_X5_nodeField (by decide) (by decide) hdd rfl rfl (le_l rfl) q10 k9 ?_
      refine v_istore (pc' := 30) (loc' := [.ref r0, .int x1, .int x2, .int x3, .int x4, .int z8, uV]) dX8_namedNodes_28 rfl (lt_l rfl) rfl ?_
      refine v_iconst (pc' := 31) (v := 0) dX8_namedNodes_30 rfl kI_0 ?_
      refine v_istore (pc' := 33) (loc' := [.ref r0, .int x1, .int x2, .int x3, .int x4, .int z8, .int 0]) dX8_namedNodes_31 rfl (lt_l rfl) rfl ?_
      exact T
theorem bX8_namedNodes_33 {G : GG} {d : Nat} {h : Hp} {o : OU} {h' : Hp} (r0 : Nat) (x1 : Int32) (x2 : Int32) (x3 : Int32) (x4 : Int32) (x5 : Int32) (x6 : Int32) (hd : 1 ≤ d) (T : ((x5 = 0 → V G mX8_namedNodes d 5 [.ref r0, .int x1, .int x2, .int x3, .int (x4 + 1), uV, uV] [] h o h') ∧ (¬ x5 = 0 → ((8 ≤ x6 → V G mX8_namedNodes d 5 [.ref r0, .int x1, .int x2, .int x3, .int (x4 + 1), uV, uV] [] h o h') ∧ (¬ 8 ≤ x6 → kH h r0 = 15 ∧ ∃ z4 h3, VM G mX5_at (d - 1) [.ref r0, .int x1, .int x5, .int (2 * x6)] h (.inl (some (.int z4))) h3 ∧ ((z4 = 0 → V G mX8_namedNodes d 33 [.ref r0, .int x1, .int x2, .int x3, .int x4, .int x5, .int (x6 + 1)] [] h3 o h') ∧ (¬ z4 = 0 → kH h3 r0 = 15 ∧ ∃ z9 h8, VM G mX5_at (d - 1) [.ref r0, .int x1, .int x5, .int ((2 * x6) + 1)] h3 (.inl (some (.int z9))) h8 ∧ V G mX8_namedNodes d 33 [.ref r0, .int x1, .int x2, .int (x3 ||| (1 <<< (z9 &&& 31))), .int x4, .int x5, .int (x6 + 1)] [] h8 o h'))))))) : V G mX8_namedNodes d 33 [.ref r0, .int x1, .int x2, .int x3, .int x4, .int x5, .int x6] [] h o h' := by
  have hdd : d - 1 + 1 ≤ d := by omega
  refine v_iload (pc' := 35) dX8_namedNodes_33 rfl rfl ?_
  refine v_if_eq (tgt := 83) (pc' := 38) dX8_namedNodes_35 (by decide) rfl ⟨fun c1 => ?_, fun c1 => ?_⟩
  · have T := T.1 c1
    refine v_iinc (pc' := 86) (loc' := [.ref r0, .int x1, .int x2, .int x3, .int (x4 + 1), .int x5, .int x6]) dX8_namedNodes_83 rfl rfl (kX_1 _) rfl ?_
    refine v_goto (pc' := 5) dX8_namedNodes_86 (by decide) ?_
    exact V.drop (llp_r (llp_r (llp_r (llp_r (llp_r (llp_u (llp_u llp_nil))))))) T
  · have T := T.2 c1
    refine v_iload (pc' := 40) dX8_namedNodes_38 rfl rfl ?_
    refine v_bipush (pc' := 42) (v := 8) dX8_namedNodes_40 rfl kB_8 ?_
    refine v_icmp_ge (tgt := 83) (pc' := 45) dX8_namedNodes_42 (by decide) rfl ⟨fun c2 => ?_, fun c2 => ?_⟩
    · have T := T.1 c2
      refine v_iinc (pc' := 86) (loc' := [.ref r0, .int x1, .int x2, .int x3, .int (x4 + 1), .int x5, .int x6]) dX8_namedNodes_83 rfl rfl (kX_1 _) rfl ?_
      refine v_goto (pc' := 5) dX8_namedNodes_86 (by decide) ?_
      exact V.drop (llp_r (llp_r (llp_r (llp_r (llp_r (llp_u (llp_u llp_nil))))))) T
    · have T := T.2 c2
      refine v_aload_n (pc' := 46) dX8_namedNodes_45 rfl rfl ?_
      refine v_iload_n (pc' := 47) dX8_namedNodes_46 rfl rfl ?_
      refine v_iload (pc' := 49) dX8_namedNodes_47 rfl rfl ?_
      refine v_iconst (pc' := 50) (v := 2) dX8_namedNodes_49 rfl kI_2 ?_
      refine v_iload (pc' := 52) dX8_namedNodes_50 rfl rfl ?_
      refine v_imul (pc' := 53) dX8_namedNodes_52 rfl ?_
      obtain ⟨q6, T⟩ := T
      obtain ⟨z4, h3, k5, T⟩ := T
      refine v_callV (pc' := 56) (M1 := mX5_at) (as := [.int x1, .int x5, .int (2 * x6)]) (r := r0) (rest := []) 5 dX8_namedNodes_53 rfl ko_X8_19 kc_X5_at ki_X5_at ks_X5_at (by decide) (by decide) hdd rfl rfl (le_l rfl) q6 k5 ?_
      refine v_if_eq (tgt := 77) (pc' := 59) dX8_namedNodes_56 (by decide) rfl ⟨fun c7 => ?_, fun c7 => ?_⟩
      · have T := T.1 c7
        refine v_iinc (pc' := 80) (loc' := [.ref r0, .int x1, .int x2, .int x3, .int x4, .int x5, .int (x6 + 1)]) dX8_namedNodes_77 rfl rfl (kX_1 _) rfl ?_
        refine v_goto (pc' := 33) dX8_namedNodes_80 (by decide) ?_
        exact T
      · have T := T.2 c7
        refine v_iload_n (pc' := 60) dX8_namedNodes_59 rfl rfl ?_
        refine v_iconst (pc' := 61) (v := 1) dX8_namedNodes_60 rfl kI_1 ?_
        refine v_aload_n (pc' := 62) dX8_namedNodes_61 rfl rfl ?_
        refine v_iload_n (pc' := 63) dX8_namedNodes_62 rfl rfl ?_
        refine v_iload (pc' := 65) dX8_namedNodes_63 rfl rfl ?_
        refine v_iconst (pc' := 66) (v := 2) dX8_namedNodes_65 rfl kI_2 ?_
        refine v_iload (pc' := 68) dX8_namedNodes_66 rfl rfl ?_
        refine v_imul (pc' := 69) dX8_namedNodes_68 rfl ?_
        refine v_iconst (pc' := 70) (v := 1) dX8_namedNodes_69 rfl kI_1 ?_
        refine v_iadd (pc' := 71) dX8_namedNodes_70 rfl ?_
        obtain ⟨q11, T⟩ := T
        obtain ⟨z9, h8, k10, T⟩ := T
        refine v_callV (pc' := 74) (M1 := mX5_at) (as := [.int x1, .int x5, .int ((2 * x6) + 1)]) (r := r0) (rest := [.int 1, .int x3]) 5 dX8_namedNodes_71 rfl ko_X8_19 kc_X5_at ki_X5_at ks_X5_at (by decide) (by decide) hdd rfl rfl (le_l rfl) q11 k10 ?_
        refine v_ishl (pc' := 75) dX8_namedNodes_74 rfl ?_
        refine v_ior (pc' := 76) dX8_namedNodes_75 rfl ?_
        refine v_istore_n (pc' := 77) (loc' := [.ref r0, .int x1, .int x2, .int (x3 ||| (1 <<< (z9 &&& 31))), .int x4, .int x5, .int x6]) dX8_namedNodes_76 rfl (lt_l rfl) rfl ?_
        refine v_iinc (pc' := 80) (loc' := [.ref r0, .int x1, .int x2, .int (x3 ||| (1 <<< (z9 &&& 31))), .int x4, .int x5, .int (x6 + 1)]) dX8_namedNodes_77 rfl rfl (kX_1 _) rfl ?_
        refine v_goto (pc' := 33) dX8_namedNodes_80 (by decide) ?_
        exact T
theorem eX8_reachedNodes {G : GG} {d : Nat} {h : Hp} {o : OU} {h' : Hp} (r0 : Nat) (x1 : Int32) (T : V G mX8_reachedNodes d 7 [.ref r0, .int x1, .int 1, .int 1, .int 0, uV, uV] [] h o h') : VM G mX8_reachedNodes d [.ref r0, .int x1] h o h' := by
  refine V.toM rfl rfl (le_l rfl) (cat_all rfl) ?_
  show V G mX8_reachedNodes d 0 [.ref r0, .int x1, uV, uV, uV, uV, uV] [] h o h'
  refine v_iconst (pc' := 1) (v := 1) dX8_reachedNodes_0 rfl kI_1 ?_
  refine v_istore_n (pc' := 2) (loc' := [.ref r0, .int x1, .int 1, uV, uV, uV, uV]) dX8_reachedNodes_1 rfl (lt_l rfl) rfl ?_
  refine v_iconst (pc' := 3) (v := 1) dX8_reachedNodes_2 rfl kI_1 ?_
  refine v_istore_n (pc' := 4) (loc' := [.ref r0, .int x1, .int 1, .int 1, uV, uV, uV]) dX8_reachedNodes_3 rfl (lt_l rfl) rfl ?_
  refine v_iconst (pc' := 5) (v := 0) dX8_reachedNodes_4 rfl kI_0 ?_
  refine v_istore (pc' := 7) (loc' := [.ref r0, .int x1, .int 1, .int 1, .int 0, uV, uV]) dX8_reachedNodes_5 rfl (lt_l rfl) rfl ?_
  exact T
theorem bX8_reachedNodes_7 {G : GG} {d : Nat} {h : Hp} {o : OU} {h' : Hp} (r0 : Nat) (x1 : Int32) (x2 : Int32) (x3 : Int32) (x4 : Int32) (hd : 1 ≤ d) (T : ((12 ≤ x4 → (o = .inl (some (.int x2)) ∧ h' = h)) ∧ (¬ 12 ≤ x4 → ((x3 = 0 → (o = .inl (some (.int x2)) ∧ h' = h)) ∧ (¬ x3 = 0 → ∃ z4 h3, VM G mJ6_numberOfTrailingZeros_0f7a4 (d - 1) [.int x3] h (.inl (some (.int z4))) h3 ∧ ∃ z7 h6, VM G mX8_namedNodes (d - 1) [.ref r0, .int x1, .int z4] h3 (.inl (some (.int z7))) h6 ∧ V G mX8_reachedNodes d 7 [.ref r0, .int x1, .int (x2 ||| (z7 &&& (x2 ^^^ (-1)))), .int ((x3 &&& (x3 - 1)) ||| (z7 &&& (x2 ^^^ (-1)))), .int (x4 + 1), uV, uV] [] h6 o h'))))) : V G mX8_reachedNodes d 7 [.ref r0, .int x1, .int x2, .int x3, .int x4, uV, uV] [] h o h' := by
  have hdd : d - 1 + 1 ≤ d := by omega
  refine v_iload (pc' := 9) dX8_reachedNodes_7 rfl rfl ?_
  refine v_bipush (pc' := 11) (v := 12) dX8_reachedNodes_9 rfl kB_12 ?_
  refine v_icmp_ge (tgt := 57) (pc' := 14) dX8_reachedNodes_11 (by decide) rfl ⟨fun c1 => ?_, fun c1 => ?_⟩
  · have T := T.1 c1
    refine v_iload_n (pc' := 58) dX8_reachedNodes_57 rfl rfl ?_
    exact v_iret dX8_reachedNodes_58 rfl T
  · have T := T.2 c1
    refine v_iload_n (pc' := 15) dX8_reachedNodes_14 rfl rfl ?_
    refine v_if_eq (tgt := 57) (pc' := 18) dX8_reachedNodes_15 (by decide) rfl ⟨fun c2 => ?_, fun c2 => ?_⟩
    · have T := T.1 c2
      refine v_iload_n (pc' := 58) dX8_reachedNodes_57 rfl rfl ?_
      exact v_iret dX8_reachedNodes_58 rfl T
    · have T := T.2 c2
      refine v_iload_n (pc' := 19) dX8_reachedNodes_18 rfl rfl ?_
      obtain ⟨z4, h3, k5, T⟩ := T
      refine v_callS (pc' := 22) (M1 := mJ6_numberOfTrailingZeros_0f7a4) (as := [.int x3]) (rest := []) dX8_reachedNodes_19 rfl ko_X8_22 kc_J6_numberOfTrailingZeros_0f7a4 kt_J6_numberOfTrailingZeros_0f7a4 (by decide) hdd rfl rfl (le_l rfl) k5 ?_
      refine v_istore (pc' := 24) (loc' := [.ref r0, .int x1, .int x2, .int x3, .int x4, .int z4, uV]) dX8_reachedNodes_22 rfl (lt_l rfl) rfl ?_
      refine v_aload_n (pc' := 25) dX8_reachedNodes_24 rfl rfl ?_
      refine v_iload_n (pc' := 26) dX8_reachedNodes_25 rfl rfl ?_
      refine v_iload (pc' := 28) dX8_reachedNodes_26 rfl rfl ?_
      obtain ⟨z7, h6, k8, T⟩ := T
      refine v_callS (pc' := 31) (M1 := mX8_namedNodes) (as := [.ref r0, .int x1, .int z4]) (rest := []) dX8_reachedNodes_28 rfl ko_X8_28 kc_X8_namedNodes kt_X8_namedNodes (by decide) hdd rfl rfl (le_l rfl) k8 ?_
      refine v_iload_n (pc' := 32) dX8_reachedNodes_31 rfl rfl ?_
      refine v_iconst (pc' := 33) (v := (-1)) dX8_reachedNodes_32 rfl kI_m1 ?_
      refine v_ixor (pc' := 34) dX8_reachedNodes_33 rfl ?_
      refine v_iand (pc' := 35) dX8_reachedNodes_34 rfl ?_
      refine v_istore (pc' := 37) (loc' := [.ref r0, .int x1, .int x2, .int x3, .int x4, .int z4, .int (z7 &&& (x2 ^^^ (-1)))]) dX8_reachedNodes_35 rfl (lt_l rfl) rfl ?_
      refine v_iload_n (pc' := 38) dX8_reachedNodes_37 rfl rfl ?_
      refine v_iload (pc' := 40) dX8_reachedNodes_38 rfl rfl ?_
      refine v_ior (pc' := 41) dX8_reachedNodes_40 rfl ?_
      refine v_istore_n (pc' := 42) (loc' := [.ref r0, .int x1, .int (x2 ||| (z7 &&& (x2 ^^^ (-1)))), .int x3, .int x4, .int z4, .int (z7 &&& (x2 ^^^ (-1)))]) dX8_reachedNodes_41 rfl (lt_l rfl) rfl ?_
      refine v_iload_n (pc' := 43) dX8_reachedNodes_42 rfl rfl ?_
      refine v_iload_n (pc' := 44) dX8_reachedNodes_43 rfl rfl ?_
      refine v_iconst (pc' := 45) (v := 1) dX8_reachedNodes_44 rfl kI_1 ?_
      refine v_isub (pc' := 46) dX8_reachedNodes_45 rfl ?_
      refine v_iand (pc' := 47) dX8_reachedNodes_46 rfl ?_
      refine v_iload (pc' := 49) dX8_reachedNodes_47 rfl rfl ?_
      refine v_ior (pc' := 50) dX8_reachedNodes_49 rfl ?_
      refine v_istore_n (pc' := 51) (loc' := [.ref r0, .int x1, .int (x2 ||| (z7 &&& (x2 ^^^ (-1)))), .int ((x3 &&& (x3 - 1)) ||| (z7 &&& (x2 ^^^ (-1)))), .int x4, .int z4, .int (z7 &&& (x2 ^^^ (-1)))]) dX8_reachedNodes_50 rfl (lt_l rfl) rfl ?_
      refine v_iinc (pc' := 54) (loc' := [.ref r0, .int x1, .int (x2 ||| (z7 &&& (x2 ^^^ (-1)))), .int ((x3 &&& (x3 - 1)) ||| (z7 &&& (x2 ^^^ (-1)))), .int (x4 + 1), .int z4, .int (z7 &&& (x2 ^^^ (-1)))]) dX8_reachedNodes_51 rfl rfl (kX_1 _) rfl ?_
      refine v_goto (pc' := 7) dX8_reachedNodes_54 (by decide) ?_
      exact V.drop (llp_r (llp_r (llp_r (llp_r (llp_r (llp_u (llp_u llp_nil))))))) T
theorem eX8_linkedNodes {G : GG} {d : Nat} {h : Hp} {o : OU} {h' : Hp} (r0 : Nat) (x1 : Int32) (T : V G mX8_linkedNodes d 4 [.ref r0, .int x1, .int 0, .int 0] [] h o h') : VM G mX8_linkedNodes d [.ref r0, .int x1] h o h' := by
  refine V.toM rfl rfl (le_l rfl) (cat_all rfl) ?_
  show V G mX8_linkedNodes d 0 [.ref r0, .int x1, uV, uV] [] h o h'
  refine v_iconst (pc' := 1) (v := 0) dX8_linkedNodes_0 rfl kI_0 ?_
  refine v_istore_n (pc' := 2) (loc' := [.ref r0, .int x1, .int 0, uV]) dX8_linkedNodes_1 rfl (lt_l rfl) rfl ?_
  refine v_iconst (pc' := 3) (v := 0) dX8_linkedNodes_2 rfl kI_0 ?_
  refine v_istore_n (pc' := 4) (loc' := [.ref r0, .int x1, .int 0, .int 0]) dX8_linkedNodes_3 rfl (lt_l rfl) rfl ?_
  exact T
theorem bX8_linkedNodes_4 {G : GG} {d : Nat} {h : Hp} {o : OU} {h' : Hp} (r0 : Nat) (x1 : Int32) (x2 : Int32) (x3 : Int32) (hd : 1 ≤ d) (T : ((12 ≤ x3 → (o = .inl (some (.int x2)) ∧ h' = h)) ∧ (¬ 12 ≤ x3 → kH h r0 = 15 ∧ ∃ z3 h2, VM G mX5_nodeField (d - 1) [.ref r0, .int x1, .int x3, .int 0] h (.inl (some (.int z3))) h2 ∧ ((z3 = 0 → V G mX8_linkedNodes d 4 [.ref r0, .int x1, .int x2, .int (x3 + 1)] [] h2 o h') ∧ (¬ z3 = 0 → V G mX8_linkedNodes d 4 [.ref r0, .int x1, .int (x2 ||| (1 <<< (x3 &&& 31))), .int (x3 + 1)] [] h2 o h'))))) : V G mX8_linkedNodes d 4 [.ref r0, .int x1, .int x2, .int x3] [] h o h' := by
  have hdd : d - 1 + 1 ≤ d := by omega
  refine v_iload_n (pc' := 5) dX8_linkedNodes_4 rfl rfl ?_
  refine v_bipush (pc' := 7) (v := 12) dX8_linkedNodes_5 rfl kB_12 ?_
  refine v_icmp_ge (tgt := 32) (pc' := 10) dX8_linkedNodes_7 (by decide) rfl ⟨fun c1 => ?_, fun c1 => ?_⟩
  · have T := T.1 c1
    refine v_iload_n (pc' := 33) dX8_linkedNodes_32 rfl rfl ?_
    exact v_iret dX8_linkedNodes_33 rfl T
  · have T := T.2 c1
    refine v_aload_n (pc' := 11) dX8_linkedNodes_10 rfl rfl ?_
    refine v_iload_n (pc' := 12) dX8_linkedNodes_11 rfl rfl ?_
    refine v_iload_n (pc' := 13) dX8_linkedNodes_12 rfl rfl ?_
    refine v_iconst (pc' := 14) (v := 0) dX8_linkedNodes_13 rfl kI_0 ?_
    obtain ⟨q5, T⟩ := T
    obtain ⟨z3, h2, k4, T⟩ := T
    refine v_callV (pc' := 17) (M1 := mX5_nodeField) (as := [.int x1, .int x3, .int 0]) (r := r0) (rest := []) 5 dX8_linkedNodes_14 rfl ko_X8_15 kc_X5_nodeField ki_X5_nodeField ks_X5_nodeField (by decide) (by decide) hdd rfl rfl (le_l rfl) q5 k4 ?_
    refine v_if_eq (tgt := 26) (pc' := 20) dX8_linkedNodes_17 (by decide) rfl ⟨fun c6 => ?_, fun c6 => ?_⟩
    · have T := T.1 c6
      refine v_iinc (pc' := 29) (loc' := [.ref r0, .int x1, .int x2, .int (x3 + 1)]) dX8_linkedNodes_26 rfl rfl (kX_1 _) rfl ?_
      refine v_goto (pc' := 4) dX8_linkedNodes_29 (by decide) ?_
      exact T
    · have T := T.2 c6
      refine v_iload_n (pc' := 21) dX8_linkedNodes_20 rfl rfl ?_
      refine v_iconst (pc' := 22) (v := 1) dX8_linkedNodes_21 rfl kI_1 ?_
      refine v_iload_n (pc' := 23) dX8_linkedNodes_22 rfl rfl ?_
      refine v_ishl (pc' := 24) dX8_linkedNodes_23 rfl ?_
      refine v_ior (pc' := 25) dX8_linkedNodes_24 rfl ?_
      refine v_istore_n (pc' := 26) (loc' := [.ref r0, .int x1, .int (x2 ||| (1 <<< (x3 &&& 31))), .int x3]) dX8_linkedNodes_25 rfl (lt_l rfl) rfl ?_
      refine v_iinc (pc' := 29) (loc' := [.ref r0, .int x1, .int (x2 ||| (1 <<< (x3 &&& 31))), .int (x3 + 1)]) dX8_linkedNodes_26 rfl rfl (kX_1 _) rfl ?_
      refine v_goto (pc' := 4) dX8_linkedNodes_29 (by decide) ?_
      exact T
theorem eX8_usedBlocks {G : GG} {d : Nat} {h : Hp} {o : OU} {h' : Hp} (r0 : Nat) (x1 : Int32) (T : V G mX8_usedBlocks d 4 [.ref r0, .int x1, .int 0, .int 0] [] h o h') : VM G mX8_usedBlocks d [.ref r0, .int x1] h o h' := by
  refine V.toM rfl rfl (le_l rfl) (cat_all rfl) ?_
  show V G mX8_usedBlocks d 0 [.ref r0, .int x1, uV, uV] [] h o h'
  refine v_iconst (pc' := 1) (v := 0) dX8_usedBlocks_0 rfl kI_0 ?_
  refine v_istore_n (pc' := 2) (loc' := [.ref r0, .int x1, .int 0, uV]) dX8_usedBlocks_1 rfl (lt_l rfl) rfl ?_
  refine v_iconst (pc' := 3) (v := 0) dX8_usedBlocks_2 rfl kI_0 ?_
  refine v_istore_n (pc' := 4) (loc' := [.ref r0, .int x1, .int 0, .int 0]) dX8_usedBlocks_3 rfl (lt_l rfl) rfl ?_
  exact T
theorem bX8_usedBlocks_4 {G : GG} {d : Nat} {h : Hp} {o : OU} {h' : Hp} (r0 : Nat) (x1 : Int32) (x2 : Int32) (x3 : Int32) (hd : 1 ≤ d) (T : kH h r0 = 15 ∧ (((h.2 r0 0) ≤ x3 → (o = .inl (some (.int x2)) ∧ h' = h)) ∧ (¬ (h.2 r0 0) ≤ x3 → ∃ z4 h3, VM G mX5_at (d - 1) [.ref r0, .int x1, .int 0, .int x3] h (.inl (some (.int z4))) h3 ∧ ((z4 = 0 → V G mX8_usedBlocks d 4 [.ref r0, .int x1, .int x2, .int (x3 + 1)] [] h3 o h') ∧ (¬ z4 = 0 → V G mX8_usedBlocks d 4 [.ref r0, .int x1, .int (x2 ||| (1 <<< (x3 &&& 31))), .int (x3 + 1)] [] h3 o h'))))) : V G mX8_usedBlocks d 4 [.ref r0, .int x1, .int x2, .int x3] [] h o h' := by
  have hdd : d - 1 + 1 ≤ d := by omega
  refine v_iload_n (pc' := 5) dX8_usedBlocks_4 rfl rfl ?_
  refine v_aload_n (pc' := 6) dX8_usedBlocks_5 rfl rfl ?_
  obtain ⟨q1, T⟩ := T
  refine v_getI (pc' := 9) 5 0 dX8_usedBlocks_6 rfl (by decide) (by decide) rfl kf_X8_34 q1 ?_
  refine v_icmp_ge (tgt := 34) (pc' := 12) dX8_usedBlocks_9 (by decide) rfl ⟨fun c2 => ?_, fun c2 => ?_⟩
  · have T := T.1 c2
    refine v_iload_n (pc' := 35) dX8_usedBlocks_34 rfl rfl ?_
    exact v_iret dX8_usedBlocks_35 rfl T
  · have T := T.2 c2
    refine v_aload_n (pc' := 13) dX8_usedBlocks_12 rfl rfl ?_
    refine v_iload_n (pc' := 14) dX8_usedBlocks_13 rfl rfl ?_
    refine v_iconst (pc' := 15) (v := 0) dX8_usedBlocks_14 rfl kI_0 ?_
    refine v_iload_n (pc' := 16) dX8_usedBlocks_15 rfl rfl ?_
    obtain ⟨z4, h3, k5, T⟩ := T
    refine v_callV (pc' := 19) (M1 := mX5_at) (as := [.int x1, .int 0, .int x3]) (r := r0) (rest := []) 5 dX8_usedBlocks_16 rfl ko_X8_19 kc_X5_at ki_X5_at ks_X5_at (by decide) (by decide) hdd rfl rfl (le_l rfl) q1 k5 ?_
    refine v_if_eq (tgt := 28) (pc' := 22) dX8_usedBlocks_19 (by decide) rfl ⟨fun c6 => ?_, fun c6 => ?_⟩
    · have T := T.1 c6
      refine v_iinc (pc' := 31) (loc' := [.ref r0, .int x1, .int x2, .int (x3 + 1)]) dX8_usedBlocks_28 rfl rfl (kX_1 _) rfl ?_
      refine v_goto (pc' := 4) dX8_usedBlocks_31 (by decide) ?_
      exact T
    · have T := T.2 c6
      refine v_iload_n (pc' := 23) dX8_usedBlocks_22 rfl rfl ?_
      refine v_iconst (pc' := 24) (v := 1) dX8_usedBlocks_23 rfl kI_1 ?_
      refine v_iload_n (pc' := 25) dX8_usedBlocks_24 rfl rfl ?_
      refine v_ishl (pc' := 26) dX8_usedBlocks_25 rfl ?_
      refine v_ior (pc' := 27) dX8_usedBlocks_26 rfl ?_
      refine v_istore_n (pc' := 28) (loc' := [.ref r0, .int x1, .int (x2 ||| (1 <<< (x3 &&& 31))), .int x3]) dX8_usedBlocks_27 rfl (lt_l rfl) rfl ?_
      refine v_iinc (pc' := 31) (loc' := [.ref r0, .int x1, .int (x2 ||| (1 <<< (x3 &&& 31))), .int (x3 + 1)]) dX8_usedBlocks_28 rfl rfl (kX_1 _) rfl ?_
      refine v_goto (pc' := 4) dX8_usedBlocks_31 (by decide) ?_
      exact T
theorem eX8_pointedBlocks {G : GG} {d : Nat} {h : Hp} {o : OU} {h' : Hp} (r0 : Nat) (x1 : Int32) (x2 : Int32) (T : V G mX8_pointedBlocks d 5 [.ref r0, .int x1, .int x2, .int 0, .int 0] [] h o h') : VM G mX8_pointedBlocks d [.ref r0, .int x1, .int x2] h o h' := by
  refine V.toM rfl rfl (le_l rfl) (cat_all rfl) ?_
  show V G mX8_pointedBlocks d 0 [.ref r0, .int x1, .int x2, uV, uV] [] h o h'
  refine v_iconst (pc' := 1) (v := 0) dX8_pointedBlocks_0 rfl kI_0 ?_
  refine v_istore_n (pc' := 2) (loc' := [.ref r0, .int x1, .int x2, .int 0, uV]) dX8_pointedBlocks_1 rfl (lt_l rfl) rfl ?_
  refine v_iconst (pc' := 3) (v := 0) dX8_pointedBlocks_2 rfl kI_0 ?_
  refine v_istore (pc' := 5) (loc' := [.ref r0, .int x1, .int x2, .int 0, .int 0]) dX8_pointedBlocks_3 rfl (lt_l rfl) rfl ?_
  exact T
theorem bX8_pointedBlocks_5 {G : GG} {d : Nat} {h : Hp} {o : OU} {h' : Hp} (r0 : Nat) (x1 : Int32) (x2 : Int32) (x3 : Int32) (x4 : Int32) (hd : 1 ≤ d) (T : ((12 ≤ x4 → (o = .inl (some (.int x3)) ∧ h' = h)) ∧ (¬ 12 ≤ x4 → ((((x2 >>> (x4 &&& 31)) &&& 1) = 0 → V G mX8_pointedBlocks d 5 [.ref r0, .int x1, .int x2, .int x3, .int (x4 + 1)] [] h o h') ∧ (¬ ((x2 >>> (x4 &&& 31)) &&& 1) = 0 → kH h r0 = 15 ∧ ∃ z4 h3, VM G mX5_nodeField (d - 1) [.ref r0, .int x1, .int x4, .int 2] h (.inl (some (.int z4))) h3 ∧ kH h3 r0 = 15 ∧ ∃ z8 h7, VM G mX5_nodeField (d - 1) [.ref r0, .int x1, .int x4, .int 3] h3 (.inl (some (.int z8))) h7 ∧ V G mX8_pointedBlocks d 5 [.ref r0, .int x1, .int x2, .int ((x3 ||| (1 <<< (z4 &&& 31))) ||| (1 <<< (z8 &&& 31))), .int (x4 + 1)] [] h7 o h'))))) : V G mX8_pointedBlocks d 5 [.ref r0, .int x1, .int x2, .int x3, .int x4] [] h o h' := by
  have hdd : d - 1 + 1 ≤ d := by omega
  refine v_iload (pc' := 7) dX8_pointedBlocks_5 rfl rfl ?_
  refine v_bipush (pc' := 9) (v := 12) dX8_pointedBlocks_7 rfl kB_12 ?_
  refine v_icmp_ge (tgt := 53) (pc' := 12) dX8_pointedBlocks_9 (by decide) rfl ⟨fun c1 => ?_, fun c1 => ?_⟩
  · have T := T.1 c1
    refine v_iload_n (pc' := 54) dX8_pointedBlocks_53 rfl rfl ?_
    exact v_iret dX8_pointedBlocks_54 rfl T
  · have T := T.2 c1
    refine v_iload_n (pc' := 13) dX8_pointedBlocks_12 rfl rfl ?_
    refine v_iload (pc' := 15) dX8_pointedBlocks_13 rfl rfl ?_
    refine v_ishr (pc' := 16) dX8_pointedBlocks_15 rfl ?_
    refine v_iconst (pc' := 17) (v := 1) dX8_pointedBlocks_16 rfl kI_1 ?_
    refine v_iand (pc' := 18) dX8_pointedBlocks_17 rfl ?_
    refine v_if_eq (tgt := 47) (pc' := 21) dX8_pointedBlocks_18 (by decide) rfl ⟨fun c2 => ?_, fun c2 => ?_⟩
    · have T := T.1 c2
      refine v_iinc (pc' := 50) (loc' := [.ref r0, .int x1, .int x2, .int x3, .int (x4 + 1)]) dX8_pointedBlocks_47 rfl rfl (kX_1 _) rfl ?_
      refine v_goto (pc' := 5) dX8_pointedBlocks_50 (by decide) ?_
      exact T
    · have T := T.2 c2
      refine v_iload_n (pc' := 22) dX8_pointedBlocks_21 rfl rfl ?_
      refine v_iconst (pc' := 23) (v := 1) dX8_pointedBlocks_22 rfl kI_1 ?_
      refine v_aload_n (pc' := 24) dX8_pointedBlocks_23 rfl rfl ?_
      refine v_iload_n (pc' := 25) dX8_pointedBlocks_24 rfl rfl ?_
      refine v_iload (pc' := 27) dX8_pointedBlocks_25 rfl rfl ?_
      refine v_iconst (pc' := 28) (v := 2) dX8_pointedBlocks_27 rfl kI_2 ?_
      obtain ⟨q6, T⟩ := T
      obtain ⟨z4, h3, k5, T⟩ := T
      refine v_callV (pc' := 31) (M1 := mX5_nodeField) (as := [.int x1, .int x4, .int 2]) (r := r0) (rest := [.int 1, .int x3]) 5 dX8_pointedBlocks_28 rfl ko_X8_15 kc_X5_nodeField ki_X5_nodeField ks_X5_nodeField (by decide) (by decide) hdd rfl rfl (le_l rfl) q6 k5 ?_
      refine v_ishl (pc' := 32) dX8_pointedBlocks_31 rfl ?_
      refine v_ior (pc' := 33) dX8_pointedBlocks_32 rfl ?_
      refine v_istore_n (pc' := 34) (loc' := [.ref r0, .int x1, .int x2, .int (x3 ||| (1 <<< (z4 &&& 31))), .int x4]) dX8_pointedBlocks_33 rfl (lt_l rfl) rfl ?_
      refine v_iload_n (pc' := 35) dX8_pointedBlocks_34 rfl rfl ?_
      refine v_iconst (pc' := 36) (v := 1) dX8_pointedBlocks_35 rfl kI_1 ?_
      refine v_aload_n (pc' := 37) dX8_pointedBlocks_36 rfl rfl ?_
      refine v_iload_n (pc' := 38) dX8_pointedBlocks_37 rfl rfl ?_
      refine v_iload (pc' := 40) dX8_pointedBlocks_38 rfl rfl ?_
      refine v_iconst (pc' := 41) (v := 3) dX8_pointedBlocks_40 rfl kI_3 ?_
      obtain ⟨q10, T⟩ := T
      obtain ⟨z8, h7, k9, T⟩ := T
      refine v_callV (pc' := 44) (M1 := mX5_nodeField) (as := [.int x1, .int x4, .int 3]) (r := r0) (rest := [.int 1, .int (x3 ||| (1 <<< (z4 &&& 31)))]) 5 dX8_pointedBlocks_41 rfl ko_X8_15 kc_X5_nodeField ki_X5_nodeField ks_X5_nodeField (by decide) (by decide) hdd rfl rfl (le_l rfl) q10 k9 ?_
      refine v_ishl (pc' := 45) dX8_pointedBlocks_44 rfl ?_
      refine v_ior (pc' := 46) dX8_pointedBlocks_45 rfl ?_
      refine v_istore_n (pc' := 47) (loc' := [.ref r0, .int x1, .int x2, .int ((x3 ||| (1 <<< (z4 &&& 31))) ||| (1 <<< (z8 &&& 31))), .int x4]) dX8_pointedBlocks_46 rfl (lt_l rfl) rfl ?_
      refine v_iinc (pc' := 50) (loc' := [.ref r0, .int x1, .int x2, .int ((x3 ||| (1 <<< (z4 &&& 31))) ||| (1 <<< (z8 &&& 31))), .int (x4 + 1)]) dX8_pointedBlocks_47 rfl rfl (kX_1 _) rfl ?_
      refine v_goto (pc' := 5) dX8_pointedBlocks_50 (by decide) ?_
      exact T
theorem eX8_leakedBlocks {G : GG} {d : Nat} {h : Hp} {o : OU} {h' : Hp} (r0 : Nat) (x1 : Int32) (hd : 1 ≤ d) (T : ∃ z2 h1, VM G mX8_reachedNodes (d - 1) [.ref r0, .int x1] h (.inl (some (.int z2))) h1 ∧ ∃ z5 h4, VM G mX8_pointedBlocks (d - 1) [.ref r0, .int x1, .int z2] h1 (.inl (some (.int z5))) h4 ∧ ∃ z8 h7, VM G mX8_usedBlocks (d - 1) [.ref r0, .int x1] h4 (.inl (some (.int z8))) h7 ∧ (o = .inl (some (.int ((z8 &&& (z5 ^^^ (-1))) &&& (-16)))) ∧ h' = h7)) : VM G mX8_leakedBlocks d [.ref r0, .int x1] h o h' := by
  refine V.toM rfl rfl (le_l rfl) (cat_all rfl) ?_
  show V G mX8_leakedBlocks d 0 [.ref r0, .int x1, uV] [] h o h'
  have hdd : d - 1 + 1 ≤ d := by omega
  refine v_aload_n (pc' := 1) dX8_leakedBlocks_0 rfl rfl ?_
  refine v_iload_n (pc' := 2) dX8_leakedBlocks_1 rfl rfl ?_
  refine v_aload_n (pc' := 3) dX8_leakedBlocks_2 rfl rfl ?_
  refine v_iload_n (pc' := 4) dX8_leakedBlocks_3 rfl rfl ?_
  obtain ⟨z2, h1, k3, T⟩ := T
  refine v_callS (pc' := 7) (M1 := mX8_reachedNodes) (as := [.ref r0, .int x1]) (rest := [.int x1, .ref r0]) dX8_leakedBlocks_4 rfl ko_X8_38 kc_X8_reachedNodes kt_X8_reachedNodes (by decide) hdd rfl rfl (le_l rfl) k3 ?_
  obtain ⟨z5, h4, k6, T⟩ := T
  refine v_callS (pc' := 10) (M1 := mX8_pointedBlocks) (as := [.ref r0, .int x1, .int z2]) (rest := []) dX8_leakedBlocks_7 rfl ko_X8_42 kc_X8_pointedBlocks kt_X8_pointedBlocks (by decide) hdd rfl rfl (le_l rfl) k6 ?_
  refine v_istore_n (pc' := 11) (loc' := [.ref r0, .int x1, .int z5]) dX8_leakedBlocks_10 rfl (lt_l rfl) rfl ?_
  refine v_aload_n (pc' := 12) dX8_leakedBlocks_11 rfl rfl ?_
  refine v_iload_n (pc' := 13) dX8_leakedBlocks_12 rfl rfl ?_
  obtain ⟨z8, h7, k9, T⟩ := T
  refine v_callS (pc' := 16) (M1 := mX8_usedBlocks) (as := [.ref r0, .int x1]) (rest := []) dX8_leakedBlocks_13 rfl ko_X8_45 kc_X8_usedBlocks kt_X8_usedBlocks (by decide) hdd rfl rfl (le_l rfl) k9 ?_
  refine v_iload_n (pc' := 17) dX8_leakedBlocks_16 rfl rfl ?_
  refine v_iconst (pc' := 18) (v := (-1)) dX8_leakedBlocks_17 rfl kI_m1 ?_
  refine v_ixor (pc' := 19) dX8_leakedBlocks_18 rfl ?_
  refine v_iand (pc' := 20) dX8_leakedBlocks_19 rfl ?_
  refine v_bipush (pc' := 22) (v := (-16)) dX8_leakedBlocks_20 rfl kB_m16 ?_
  refine v_iand (pc' := 23) dX8_leakedBlocks_22 rfl ?_
  exact v_iret dX8_leakedBlocks_23 rfl T
theorem eX8_brokenEntries {G : GG} {d : Nat} {h : Hp} {o : OU} {h' : Hp} (r0 : Nat) (x1 : Int32) (hd : 1 ≤ d) (T : ∃ z2 h1, VM G mX8_reachedNodes (d - 1) [.ref r0, .int x1] h (.inl (some (.int z2))) h1 ∧ V G mX8_brokenEntries d 11 [.ref r0, .int x1, .int z2, .int 0, .int 0, uV, uV] [] h1 o h') : VM G mX8_brokenEntries d [.ref r0, .int x1] h o h' := by
  refine V.toM rfl rfl (le_l rfl) (cat_all rfl) ?_
  show V G mX8_brokenEntries d 0 [.ref r0, .int x1, uV, uV, uV, uV, uV] [] h o h'
  have hdd : d - 1 + 1 ≤ d := by omega
  refine v_aload_n (pc' := 1) dX8_brokenEntries_0 rfl rfl ?_
  refine v_iload_n (pc' := 2) dX8_brokenEntries_1 rfl rfl ?_
  obtain ⟨z2, h1, k3, T⟩ := T
  refine v_callS (pc' := 5) (M1 := mX8_reachedNodes) (as := [.ref r0, .int x1]) (rest := []) dX8_brokenEntries_2 rfl ko_X8_38 kc_X8_reachedNodes kt_X8_reachedNodes (by decide) hdd rfl rfl (le_l rfl) k3 ?_
  refine v_istore_n (pc' := 6) (loc' := [.ref r0, .int x1, .int z2, uV, uV, uV, uV]) dX8_brokenEntries_5 rfl (lt_l rfl) rfl ?_
  refine v_iconst (pc' := 7) (v := 0) dX8_brokenEntries_6 rfl kI_0 ?_
  refine v_istore_n (pc' := 8) (loc' := [.ref r0, .int x1, .int z2, .int 0, uV, uV, uV]) dX8_brokenEntries_7 rfl (lt_l rfl) rfl ?_
  refine v_iconst (pc' := 9) (v := 0) dX8_brokenEntries_8 rfl kI_0 ?_
  refine v_istore (pc' := 11) (loc' := [.ref r0, .int x1, .int z2, .int 0, .int 0, uV, uV]) dX8_brokenEntries_9 rfl (lt_l rfl) rfl ?_
  exact T
theorem bX8_brokenEntries_11 {G : GG} {d : Nat} {h : Hp} {o : OU} {h' : Hp} (r0 : Nat) (x1 : Int32) (x2 : Int32) (x3 : Int32) (x4 : Int32) (hd : 1 ≤ d) (T : ((12 ≤ x4 → (o = .inl (some (.int x3)) ∧ h' = h)) ∧ (¬ 12 ≤ x4 → kH h r0 = 15 ∧ ∃ z3 h2, VM G mX5_nodeField (d - 1) [.ref r0, .int x1, .int x4, .int 0] h (.inl (some (.int z3))) h2 ∧ ((z3 = 0 → V G mX8_brokenEntries d 50 [.ref r0, .int x1, .int x2, .int x3, .int x4, .int 0, .int 0] [] h2 o h') ∧ (¬ z3 = 0 → kH h2 r0 = 15 ∧ ∃ z8 h7, VM G mX5_nodeField (d - 1) [.ref r0, .int x1, .int x4, .int 1] h2 (.inl (some (.int z8))) h7 ∧ ((z8 = 0 → V G mX8_brokenEntries d 50 [.ref r0, .int x1, .int x2, .int x3, .int x4, .int 0, .int 0] [] h7 o h') ∧ (¬ z8 = 0 → V G mX8_brokenEntries d 50 [.ref r0, .int x1, .int x2, .int x3, .int x4, .int 1, .int 0] [] h7 o h'))))))) : V G mX8_brokenEntries d 11 [.ref r0, .int x1, .int x2, .int x3, .int x4, uV, uV] [] h o h' := by
  have hdd : d - 1 + 1 ≤ d := by omega
  refine v_iload (pc' := 13) dX8_brokenEntries_11 rfl rfl ?_
  refine v_bipush (pc' := 15) (v := 12) dX8_brokenEntries_13 rfl kB_12 ?_
  refine v_icmp_ge (tgt := 95) (pc' := 18) dX8_brokenEntries_15 (by decide) rfl ⟨fun c1 => ?_, fun c1 => ?_⟩
  · have T := T.1 c1
    refine v_iload_n (pc' := 96) dX8_brokenEntries_95 rfl rfl ?_
    exact v_iret dX8_brokenEntries_96 rfl T
  · have T := T.2 c1
    refine v_aload_n (pc' := 19) dX8_brokenEntries_18 rfl rfl ?_
    refine v_iload_n (pc' := 20) dX8_brokenEntries_19 rfl rfl ?_
    refine v_iload (pc' := 22) dX8_brokenEntries_20 rfl rfl ?_
    refine v_iconst (pc' := 23) (v := 0) dX8_brokenEntries_22 rfl kI_0 ?_
    obtain ⟨q5, T⟩ := T
    obtain ⟨z3, h2, k4, T⟩ := T
    refine v_callV (pc' := 26) (M1 := mX5_nodeField) (as := [.int x1, .int x4, .int 0]) (r := r0) (rest := []) 5 dX8_brokenEntries_23 rfl ko_X8_15 kc_X5_nodeField ki_X5_nodeField ks_X5_nodeField (by decide) (by decide) hdd rfl rfl (le_l rfl) q5 k4 ?_
    refine v_if_eq (tgt := 44) (pc' := 29) dX8_brokenEntries_26 (by decide) rfl ⟨fun c6 => ?_, fun c6 => ?_⟩
    · have T := T.1 c6
      refine v_iconst (pc' := 45) (v := 0) dX8_brokenEntries_44 rfl kI_0 ?_
      refine v_istore (pc' := 47) (loc' := [.ref r0, .int x1, .int x2, .int x3, .int x4, .int 0, uV]) dX8_brokenEntries_45 rfl (lt_l rfl) rfl ?_
      refine v_iconst (pc' := 48) (v := 0) dX8_brokenEntries_47 rfl kI_0 ?_
      refine v_istore (pc' := 50) (loc' := [.ref r0, .int x1, .int x2, .int x3, .int x4, .int 0, .int 0]) dX8_brokenEntries_48 rfl (lt_l rfl) rfl ?_
      exact T
    · have T := T.2 c6
      refine v_aload_n (pc' := 30) dX8_brokenEntries_29 rfl rfl ?_
      refine v_iload_n (pc' := 31) dX8_brokenEntries_30 rfl rfl ?_
      refine v_iload (pc' := 33) dX8_brokenEntries_31 rfl rfl ?_
      refine v_iconst (pc' := 34) (v := 1) dX8_brokenEntries_33 rfl kI_1 ?_
      obtain ⟨q10, T⟩ := T
      obtain ⟨z8, h7, k9, T⟩ := T
      refine v_callV (pc' := 37) (M1 := mX5_nodeField) (as := [.int x1, .int x4, .int 1]) (r := r0) (rest := []) 5 dX8_brokenEntries_34 rfl ko_X8_15 kc_X5_nodeField ki_X5_nodeField ks_X5_nodeField (by decide) (by decide) hdd rfl rfl (le_l rfl) q10 k9 ?_
      refine v_if_eq (tgt := 44) (pc' := 40) dX8_brokenEntries_37 (by decide) rfl ⟨fun c11 => ?_, fun c11 => ?_⟩
      · have T := T.1 c11
        refine v_iconst (pc' := 45) (v := 0) dX8_brokenEntries_44 rfl kI_0 ?_
        refine v_istore (pc' := 47) (loc' := [.ref r0, .int x1, .int x2, .int x3, .int x4, .int 0, uV]) dX8_brokenEntries_45 rfl (lt_l rfl) rfl ?_
        refine v_iconst (pc' := 48) (v := 0) dX8_brokenEntries_47 rfl kI_0 ?_
        refine v_istore (pc' := 50) (loc' := [.ref r0, .int x1, .int x2, .int x3, .int x4, .int 0, .int 0]) dX8_brokenEntries_48 rfl (lt_l rfl) rfl ?_
        exact T
      · have T := T.2 c11
        refine v_iconst (pc' := 41) (v := 1) dX8_brokenEntries_40 rfl kI_1 ?_
        refine v_goto (pc' := 45) dX8_brokenEntries_41 (by decide) ?_
        refine v_istore (pc' := 47) (loc' := [.ref r0, .int x1, .int x2, .int x3, .int x4, .int 1, uV]) dX8_brokenEntries_45 rfl (lt_l rfl) rfl ?_
        refine v_iconst (pc' := 48) (v := 0) dX8_brokenEntries_47 rfl kI_0 ?_
        refine v_istore (pc' := 50) (loc' := [.ref r0, .int x1, .int x2, .int x3, .int x4, .int 1, .int 0]) dX8_brokenEntries_48 rfl (lt_l rfl) rfl ?_
        exact T
theorem bX8_brokenEntries_50 {G : GG} {d : Nat} {h : Hp} {o : OU} {h' : Hp} (r0 : Nat) (x1 : Int32) (x2 : Int32) (x3 : Int32) (x4 : Int32) (x5 : Int32) (x6 : Int32) (hd : 1 ≤ d) (T : ((¬ x5 = 0 → V G mX8_brokenEntries d 11 [.ref r0, .int x1, .int x2, .int x3, .int (x4 + 1), uV, uV] [] h o h') ∧ (x5 = 0 → ((12 ≤ x6 → V G mX8_brokenEntries d 11 [.ref r0, .int x1, .int x2, .int x3, .int (x4 + 1), uV, uV] [] h o h') ∧ (¬ 12 ≤ x6 → ((((x2 >>> (x6 &&& 31)) &&& 1) = 0 → V G mX8_brokenEntries d 50 [.ref r0, .int x1, .int x2, .int x3, .int x4, .int x5, .int (x6 + 1)] [] h o h') ∧ (¬ ((x2 >>> (x6 &&& 31)) &&& 1) = 0 → ∃ z5 h4, VM G mX8_timesNamed (d - 1) [.ref r0, .int x1, .int x6, .int x4] h (.inl (some (.int z5))) h4 ∧ V G mX8_brokenEntries d 50 [.ref r0, .int x1, .int x2, .int (x3 + z5), .int x4, .int x5, .int (x6 + 1)] [] h4 o h'))))))) : V G mX8_brokenEntries d 50 [.ref r0, .int x1, .int x2, .int x3, .int x4, .int x5, .int x6] [] h o h' := by
  have hdd : d - 1 + 1 ≤ d := by omega
  refine v_iload (pc' := 52) dX8_brokenEntries_50 rfl rfl ?_
  refine v_if_ne (tgt := 89) (pc' := 55) dX8_brokenEntries_52 (by decide) rfl ⟨fun c1 => ?_, fun c1 => ?_⟩
  · have T := T.1 c1
    refine v_iinc (pc' := 92) (loc' := [.ref r0, .int x1, .int x2, .int x3, .int (x4 + 1), .int x5, .int x6]) dX8_brokenEntries_89 rfl rfl (kX_1 _) rfl ?_
    refine v_goto (pc' := 11) dX8_brokenEntries_92 (by decide) ?_
    exact V.drop (llp_r (llp_r (llp_r (llp_r (llp_r (llp_u (llp_u llp_nil))))))) T
  · have T := T.2 c1
    refine v_iload (pc' := 57) dX8_brokenEntries_55 rfl rfl ?_
    refine v_bipush (pc' := 59) (v := 12) dX8_brokenEntries_57 rfl kB_12 ?_
    refine v_icmp_ge (tgt := 89) (pc' := 62) dX8_brokenEntries_59 (by decide) rfl ⟨fun c2 => ?_, fun c2 => ?_⟩
    · have T := T.1 c2
      refine v_iinc (pc' := 92) (loc' := [.ref r0, .int x1, .int x2, .int x3, .int (x4 + 1), .int x5, .int x6]) dX8_brokenEntries_89 rfl rfl (kX_1 _) rfl ?_
      refine v_goto (pc' := 11) dX8_brokenEntries_92 (by decide) ?_
      exact V.drop (llp_r (llp_r (llp_r (llp_r (llp_r (llp_u (llp_u llp_nil))))))) T
    · have T := T.2 c2
      refine v_iload_n (pc' := 63) dX8_brokenEntries_62 rfl rfl ?_
      refine v_iload (pc' := 65) dX8_brokenEntries_63 rfl rfl ?_
      refine v_ishr (pc' := 66) dX8_brokenEntries_65 rfl ?_
      refine v_iconst (pc' := 67) (v := 1) dX8_brokenEntries_66 rfl kI_1 ?_
      refine v_iand (pc' := 68) dX8_brokenEntries_67 rfl ?_
      refine v_if_eq (tgt := 83) (pc' := 71) dX8_brokenEntries_68 (by decide) rfl ⟨fun c3 => ?_, fun c3 => ?_⟩
      · have T := T.1 c3
        refine v_iinc (pc' := 86) (loc' := [.ref r0, .int x1, .int x2, .int x3, .int x4, .int x5, .int (x6 + 1)]) dX8_brokenEntries_83 rfl rfl (kX_1 _) rfl ?_
        refine v_goto (pc' := 50) dX8_brokenEntries_86 (by decide) ?_
        exact T
      · have T := T.2 c3
        refine v_iload_n (pc' := 72) dX8_brokenEntries_71 rfl rfl ?_
        refine v_aload_n (pc' := 73) dX8_brokenEntries_72 rfl rfl ?_
        refine v_iload_n (pc' := 74) dX8_brokenEntries_73 rfl rfl ?_
        refine v_iload (pc' := 76) dX8_brokenEntries_74 rfl rfl ?_
        refine v_iload (pc' := 78) dX8_brokenEntries_76 rfl rfl ?_
        obtain ⟨z5, h4, k6, T⟩ := T
        refine v_callS (pc' := 81) (M1 := mX8_timesNamed) (as := [.ref r0, .int x1, .int x6, .int x4]) (rest := [.int x3]) dX8_brokenEntries_78 rfl ko_X8_48 kc_X8_timesNamed kt_X8_timesNamed (by decide) hdd rfl rfl (le_l rfl) k6 ?_
        refine v_iadd (pc' := 82) dX8_brokenEntries_81 rfl ?_
        refine v_istore_n (pc' := 83) (loc' := [.ref r0, .int x1, .int x2, .int (x3 + z5), .int x4, .int x5, .int x6]) dX8_brokenEntries_82 rfl (lt_l rfl) rfl ?_
        refine v_iinc (pc' := 86) (loc' := [.ref r0, .int x1, .int x2, .int (x3 + z5), .int x4, .int x5, .int (x6 + 1)]) dX8_brokenEntries_83 rfl rfl (kX_1 _) rfl ?_
        refine v_goto (pc' := 50) dX8_brokenEntries_86 (by decide) ?_
        exact T
theorem eX8_brokenPointers {G : GG} {d : Nat} {h : Hp} {o : OU} {h' : Hp} (r0 : Nat) (x1 : Int32) (hd : 1 ≤ d) (T : ∃ z2 h1, VM G mX8_usedBlocks (d - 1) [.ref r0, .int x1] h (.inl (some (.int z2))) h1 ∧ ∃ z5 h4, VM G mX8_linkedNodes (d - 1) [.ref r0, .int x1] h1 (.inl (some (.int z5))) h4 ∧ V G mX8_brokenPointers d 21 [.ref r0, .int x1, .int z2, .int z5, .int 0, .int 0, .int 0, uV] [] h4 o h') : VM G mX8_brokenPointers d [.ref r0, .int x1] h o h' := by
  refine V.toM rfl rfl (le_l rfl) (cat_all rfl) ?_
  show V G mX8_brokenPointers d 0 [.ref r0, .int x1, uV, uV, uV, uV, uV, uV] [] h o h'
  have hdd : d - 1 + 1 ≤ d := by omega
  refine v_aload_n (pc' := 1) dX8_brokenPointers_0 rfl rfl ?_
  refine v_iload_n (pc' := 2) dX8_brokenPointers_1 rfl rfl ?_
  obtain ⟨z2, h1, k3, T⟩ := T
  refine v_callS (pc' := 5) (M1 := mX8_usedBlocks) (as := [.ref r0, .int x1]) (rest := []) dX8_brokenPointers_2 rfl ko_X8_45 kc_X8_usedBlocks kt_X8_usedBlocks (by decide) hdd rfl rfl (le_l rfl) k3 ?_
  refine v_istore_n (pc' := 6) (loc' := [.ref r0, .int x1, .int z2, uV, uV, uV, uV, uV]) dX8_brokenPointers_5 rfl (lt_l rfl) rfl ?_
  refine v_aload_n (pc' := 7) dX8_brokenPointers_6 rfl rfl ?_
  refine v_iload_n (pc' := 8) dX8_brokenPointers_7 rfl rfl ?_
  obtain ⟨z5, h4, k6, T⟩ := T
  refine v_callS (pc' := 11) (M1 := mX8_linkedNodes) (as := [.ref r0, .int x1]) (rest := []) dX8_brokenPointers_8 rfl ko_X8_52 kc_X8_linkedNodes kt_X8_linkedNodes (by decide) hdd rfl rfl (le_l rfl) k6 ?_
  refine v_istore_n (pc' := 12) (loc' := [.ref r0, .int x1, .int z2, .int z5, uV, uV, uV, uV]) dX8_brokenPointers_11 rfl (lt_l rfl) rfl ?_
  refine v_iconst (pc' := 13) (v := 0) dX8_brokenPointers_12 rfl kI_0 ?_
  refine v_istore (pc' := 15) (loc' := [.ref r0, .int x1, .int z2, .int z5, .int 0, uV, uV, uV]) dX8_brokenPointers_13 rfl (lt_l rfl) rfl ?_
  refine v_iconst (pc' := 16) (v := 0) dX8_brokenPointers_15 rfl kI_0 ?_
  refine v_istore (pc' := 18) (loc' := [.ref r0, .int x1, .int z2, .int z5, .int 0, .int 0, uV, uV]) dX8_brokenPointers_16 rfl (lt_l rfl) rfl ?_
  refine v_iconst (pc' := 19) (v := 0) dX8_brokenPointers_18 rfl kI_0 ?_
  refine v_istore (pc' := 21) (loc' := [.ref r0, .int x1, .int z2, .int z5, .int 0, .int 0, .int 0, uV]) dX8_brokenPointers_19 rfl (lt_l rfl) rfl ?_
  exact T
theorem bX8_brokenPointers_21 {G : GG} {d : Nat} {h : Hp} {o : OU} {h' : Hp} (r0 : Nat) (x1 : Int32) (x2 : Int32) (x3 : Int32) (x4 : Int32) (x5 : Int32) (x6 : Int32) (hd : 1 ≤ d) (T : ((24 ≤ x6 → (o = .inl (some (.int x5)) ∧ h' = h)) ∧ (¬ 24 ≤ x6 → ((¬ ((x3 >>> ((x6 / 2) &&& 31)) &&& 1) = 0 → kH h r0 = 15 ∧ ∃ z4 h3, VM G mX5_nodeField (d - 1) [.ref r0, .int x1, .int (x6 / 2), .int (2 + (x6 - x6 / 2 * 2))] h (.inl (some (.int z4))) h3 ∧ V G mX8_brokenPointers d 58 [.ref r0, .int x1, .int x2, .int x3, .int x4, .int x5, .int x6, uV] [.int z4] h3 o h') ∧ (((x3 >>> ((x6 / 2) &&& 31)) &&& 1) = 0 → V G mX8_brokenPointers d 58 [.ref r0, .int x1, .int x2, .int x3, .int x4, .int x5, .int x6, uV] [.int 0] h o h'))))) : V G mX8_brokenPointers d 21 [.ref r0, .int x1, .int x2, .int x3, .int x4, .int x5, .int x6, uV] [] h o h' := by
  have hdd : d - 1 + 1 ≤ d := by omega
  refine v_iload (pc' := 23) dX8_brokenPointers_21 rfl rfl ?_
  refine v_bipush (pc' := 25) (v := 24) dX8_brokenPointers_23 rfl kB_24 ?_
  refine v_icmp_ge (tgt := 102) (pc' := 28) dX8_brokenPointers_25 (by decide) rfl ⟨fun c1 => ?_, fun c1 => ?_⟩
  · have T := T.1 c1
    refine v_iload (pc' := 104) dX8_brokenPointers_102 rfl rfl ?_
    exact v_iret dX8_brokenPointers_104 rfl T
  · have T := T.2 c1
    refine v_iload_n (pc' := 29) dX8_brokenPointers_28 rfl rfl ?_
    refine v_iload (pc' := 31) dX8_brokenPointers_29 rfl rfl ?_
    refine v_iconst (pc' := 32) (v := 2) dX8_brokenPointers_31 rfl kI_2 ?_
    refine v_idiv (pc' := 33) dX8_brokenPointers_32 rfl (by decide) ?_
    refine v_ishr (pc' := 34) dX8_brokenPointers_33 rfl ?_
    refine v_iconst (pc' := 35) (v := 1) dX8_brokenPointers_34 rfl kI_1 ?_
    refine v_iand (pc' := 36) dX8_brokenPointers_35 rfl ?_
    refine v_if_ne (tgt := 43) (pc' := 39) dX8_brokenPointers_36 (by decide) rfl ⟨fun c2 => ?_, fun c2 => ?_⟩
    · have T := T.1 c2
      refine v_aload_n (pc' := 44) dX8_brokenPointers_43 rfl rfl ?_
      refine v_iload_n (pc' := 45) dX8_brokenPointers_44 rfl rfl ?_
      refine v_iload (pc' := 47) dX8_brokenPointers_45 rfl rfl ?_
      refine v_iconst (pc' := 48) (v := 2) dX8_brokenPointers_47 rfl kI_2 ?_
      refine v_idiv (pc' := 49) dX8_brokenPointers_48 rfl (by decide) ?_
      refine v_iconst (pc' := 50) (v := 2) dX8_brokenPointers_49 rfl kI_2 ?_
      refine v_iload (pc' := 52) dX8_brokenPointers_50 rfl rfl ?_
      refine v_iconst (pc' := 53) (v := 2) dX8_brokenPointers_52 rfl kI_2 ?_
      refine v_irem (pc' := 54) dX8_brokenPointers_53 rfl (by decide) ?_
      refine v_iadd (pc' := 55) dX8_brokenPointers_54 rfl ?_
      obtain ⟨q6, T⟩ := T
      obtain ⟨z4, h3, k5, T⟩ := T
      refine v_callV (pc' := 58) (M1 := mX5_nodeField) (as := [.int x1, .int (x6 / 2), .int (2 + (x6 - x6 / 2 * 2))]) (r := r0) (rest := []) 5 dX8_brokenPointers_55 rfl ko_X8_15 kc_X5_nodeField ki_X5_nodeField ks_X5_nodeField (by decide) (by decide) hdd rfl rfl (le_l rfl) q6 k5 ?_
      exact T
    · have T := T.2 c2
      refine v_iconst (pc' := 40) (v := 0) dX8_brokenPointers_39 rfl kI_0 ?_
      refine v_goto (pc' := 58) dX8_brokenPointers_40 (by decide) ?_
      exact T
theorem bX8_brokenPointers_58 {G : GG} {d : Nat} {h : Hp} {o : OU} {h' : Hp} (r0 : Nat) (x1 : Int32) (x2 : Int32) (x3 : Int32) (x4 : Int32) (x5 : Int32) (x6 : Int32) (s0 : Int32) (T : ((s0 = 0 → V G mX8_brokenPointers d 21 [.ref r0, .int x1, .int x2, .int x3, .int x4, .int x5, .int (x6 + 1), uV] [] h o h') ∧ (¬ s0 = 0 → ((((x2 >>> (s0 &&& 31)) &&& 1) = 0 → V G mX8_brokenPointers d 21 [.ref r0, .int x1, .int x2, .int x3, .int (x4 ||| (1 <<< (s0 &&& 31))), .int (x5 + 1), .int (x6 + 1), uV] [] h o h') ∧ (¬ ((x2 >>> (s0 &&& 31)) &&& 1) = 0 → ((((x4 >>> (s0 &&& 31)) &&& 1) = 0 → V G mX8_brokenPointers d 21 [.ref r0, .int x1, .int x2, .int x3, .int (x4 ||| (1 <<< (s0 &&& 31))), .int x5, .int (x6 + 1), uV] [] h o h') ∧ (¬ ((x4 >>> (s0 &&& 31)) &&& 1) = 0 → V G mX8_brokenPointers d 21 [.ref r0, .int x1, .int x2, .int x3, .int (x4 ||| (1 <<< (s0 &&& 31))), .int (x5 + 1), .int (x6 + 1), uV] [] h o h'))))))) : V G mX8_brokenPointers d 58 [.ref r0, .int x1, .int x2, .int x3, .int x4, .int x5, .int x6, uV] [.int s0] h o h' := by
  refine v_istore (pc' := 60) (loc' := [.ref r0, .int x1, .int x2, .int x3, .int x4, .int x5, .int x6, .int s0]) dX8_brokenPointers_58 rfl (lt_l rfl) rfl ?_
  refine v_iload (pc' := 62) dX8_brokenPointers_60 rfl rfl ?_
  refine v_if_eq (tgt := 96) (pc' := 65) dX8_brokenPointers_62 (by decide) rfl ⟨fun c1 => ?_, fun c1 => ?_⟩
  · have T := T.1 c1
    refine v_iinc (pc' := 99) (loc' := [.ref r0, .int x1, .int x2, .int x3, .int x4, .int x5, .int (x6 + 1), .int s0]) dX8_brokenPointers_96 rfl rfl (kX_1 _) rfl ?_
    refine v_goto (pc' := 21) dX8_brokenPointers_99 (by decide) ?_
    exact V.drop (llp_r (llp_r (llp_r (llp_r (llp_r (llp_r (llp_r (llp_u llp_nil)))))))) T
  · have T := T.2 c1
    refine v_iload_n (pc' := 66) dX8_brokenPointers_65 rfl rfl ?_
    refine v_iload (pc' := 68) dX8_brokenPointers_66 rfl rfl ?_
    refine v_ishr (pc' := 69) dX8_brokenPointers_68 rfl ?_
    refine v_iconst (pc' := 70) (v := 1) dX8_brokenPointers_69 rfl kI_1 ?_
    refine v_iand (pc' := 71) dX8_brokenPointers_70 rfl ?_
    refine v_if_eq (tgt := 84) (pc' := 74) dX8_brokenPointers_71 (by decide) rfl ⟨fun c2 => ?_, fun c2 => ?_⟩
    · have T := T.1 c2
      refine v_iinc (pc' := 87) (loc' := [.ref r0, .int x1, .int x2, .int x3, .int x4, .int (x5 + 1), .int x6, .int s0]) dX8_brokenPointers_84 rfl rfl (kX_1 _) rfl ?_
      refine v_iload (pc' := 89) dX8_brokenPointers_87 rfl rfl ?_
      refine v_iconst (pc' := 90) (v := 1) dX8_brokenPointers_89 rfl kI_1 ?_
      refine v_iload (pc' := 92) dX8_brokenPointers_90 rfl rfl ?_
      refine v_ishl (pc' := 93) dX8_brokenPointers_92 rfl ?_
      refine v_ior (pc' := 94) dX8_brokenPointers_93 rfl ?_
      refine v_istore (pc' := 96) (loc' := [.ref r0, .int x1, .int x2, .int x3, .int (x4 ||| (1 <<< (s0 &&& 31))), .int (x5 + 1), .int x6, .int s0]) dX8_brokenPointers_94 rfl (lt_l rfl) rfl ?_
      refine v_iinc (pc' := 99) (loc' := [.ref r0, .int x1, .int x2, .int x3, .int (x4 ||| (1 <<< (s0 &&& 31))), .int (x5 + 1), .int (x6 + 1), .int s0]) dX8_brokenPointers_96 rfl rfl (kX_1 _) rfl ?_
      refine v_goto (pc' := 21) dX8_brokenPointers_99 (by decide) ?_
      exact V.drop (llp_r (llp_r (llp_r (llp_r (llp_r (llp_r (llp_r (llp_u llp_nil)))))))) T
    · have T := T.2 c2
      refine v_iload (pc' := 76) dX8_brokenPointers_74 rfl rfl ?_
      refine v_iload (pc' := 78) dX8_brokenPointers_76 rfl rfl ?_
      refine v_ishr (pc' := 79) dX8_brokenPointers_78 rfl ?_
      refine v_iconst (pc' := 80) (v := 1) dX8_brokenPointers_79 rfl kI_1 ?_
      refine v_iand (pc' := 81) dX8_brokenPointers_80 rfl ?_
      refine v_if_eq (tgt := 87) (pc' := 84) dX8_brokenPointers_81 (by decide) rfl ⟨fun c3 => ?_, fun c3 => ?_⟩
      · have T := T.1 c3
        refine v_iload (pc' := 89) dX8_brokenPointers_87 rfl rfl ?_
        refine v_iconst (pc' := 90) (v := 1) dX8_brokenPointers_89 rfl kI_1 ?_
        refine v_iload (pc' := 92) dX8_brokenPointers_90 rfl rfl ?_
        refine v_ishl (pc' := 93) dX8_brokenPointers_92 rfl ?_
        refine v_ior (pc' := 94) dX8_brokenPointers_93 rfl ?_
        refine v_istore (pc' := 96) (loc' := [.ref r0, .int x1, .int x2, .int x3, .int (x4 ||| (1 <<< (s0 &&& 31))), .int x5, .int x6, .int s0]) dX8_brokenPointers_94 rfl (lt_l rfl) rfl ?_
        refine v_iinc (pc' := 99) (loc' := [.ref r0, .int x1, .int x2, .int x3, .int (x4 ||| (1 <<< (s0 &&& 31))), .int x5, .int (x6 + 1), .int s0]) dX8_brokenPointers_96 rfl rfl (kX_1 _) rfl ?_
        refine v_goto (pc' := 21) dX8_brokenPointers_99 (by decide) ?_
        exact V.drop (llp_r (llp_r (llp_r (llp_r (llp_r (llp_r (llp_r (llp_u llp_nil)))))))) T
      · have T := T.2 c3
        refine v_iinc (pc' := 87) (loc' := [.ref r0, .int x1, .int x2, .int x3, .int x4, .int (x5 + 1), .int x6, .int s0]) dX8_brokenPointers_84 rfl rfl (kX_1 _) rfl ?_
        refine v_iload (pc' := 89) dX8_brokenPointers_87 rfl rfl ?_
        refine v_iconst (pc' := 90) (v := 1) dX8_brokenPointers_89 rfl kI_1 ?_
        refine v_iload (pc' := 92) dX8_brokenPointers_90 rfl rfl ?_
        refine v_ishl (pc' := 93) dX8_brokenPointers_92 rfl ?_
        refine v_ior (pc' := 94) dX8_brokenPointers_93 rfl ?_
        refine v_istore (pc' := 96) (loc' := [.ref r0, .int x1, .int x2, .int x3, .int (x4 ||| (1 <<< (s0 &&& 31))), .int (x5 + 1), .int x6, .int s0]) dX8_brokenPointers_94 rfl (lt_l rfl) rfl ?_
        refine v_iinc (pc' := 99) (loc' := [.ref r0, .int x1, .int x2, .int x3, .int (x4 ||| (1 <<< (s0 &&& 31))), .int (x5 + 1), .int (x6 + 1), .int s0]) dX8_brokenPointers_96 rfl rfl (kX_1 _) rfl ?_
        refine v_goto (pc' := 21) dX8_brokenPointers_99 (by decide) ?_
        exact V.drop (llp_r (llp_r (llp_r (llp_r (llp_r (llp_r (llp_r (llp_u llp_nil)))))))) T
theorem eX8_ownerOf {G : GG} {d : Nat} {h : Hp} {o : OU} {h' : Hp} (r0 : Nat) (x1 : Int32) (x2 : Int32) (T : V G mX8_ownerOf d 2 [.ref r0, .int x1, .int x2, .int 0] [] h o h') : VM G mX8_ownerOf d [.ref r0, .int x1, .int x2] h o h' := by
  refine V.toM rfl rfl (le_l rfl) (cat_all rfl) ?_
  show V G mX8_ownerOf d 0 [.ref r0, .int x1, .int x2, uV] [] h o h'
  refine v_iconst (pc' := 1) (v := 0) dX8_ownerOf_0 rfl kI_0 ?_
  refine v_istore_n (pc' := 2) (loc' := [.ref r0, .int x1, .int x2, .int 0]) dX8_ownerOf_1 rfl (lt_l rfl) rfl ?_
  exact T
theorem bX8_ownerOf_2 {G : GG} {d : Nat} {h : Hp} {o : OU} {h' : Hp} (r0 : Nat) (x1 : Int32) (x2 : Int32) (x3 : Int32) (hd : 1 ≤ d) (T : ((x2 = 0 → (o = .inl (some (.int (-1))) ∧ h' = h)) ∧ (¬ x2 = 0 → ((12 ≤ x3 → (o = .inl (some (.int (-1))) ∧ h' = h)) ∧ (¬ 12 ≤ x3 → kH h r0 = 15 ∧ ∃ z4 h3, VM G mX5_nodeField (d - 1) [.ref r0, .int x1, .int x3, .int 0] h (.inl (some (.int z4))) h3 ∧ ((z4 = 0 → V G mX8_ownerOf d 2 [.ref r0, .int x1, .int x2, .int (x3 + 1)] [] h3 o h') ∧ (¬ z4 = 0 → kH h3 r0 = 15 ∧ ∃ z9 h8, VM G mX5_nodeField (d - 1) [.ref r0, .int x1, .int x3, .int 2] h3 (.inl (some (.int z9))) h8 ∧ ((z9 = x2 → (o = .inl (some (.int x3)) ∧ h' = h8)) ∧ (¬ z9 = x2 → kH h8 r0 = 15 ∧ ∃ z14 h13, VM G mX5_nodeField (d - 1) [.ref r0, .int x1, .int x3, .int 3] h8 (.inl (some (.int z14))) h13 ∧ ((¬ z14 = x2 → V G mX8_ownerOf d 2 [.ref r0, .int x1, .int x2, .int (x3 + 1)] [] h13 o h') ∧ (z14 = x2 → (o = .inl (some (.int x3)) ∧ h' = h13)))))))))))) : V G mX8_ownerOf d 2 [.ref r0, .int x1, .int x2, .int x3] [] h o h' := by
  have hdd : d - 1 + 1 ≤ d := by omega
  refine v_iload_n (pc' := 3) dX8_ownerOf_2 rfl rfl ?_
  refine v_if_eq (tgt := 52) (pc' := 6) dX8_ownerOf_3 (by decide) rfl ⟨fun c1 => ?_, fun c1 => ?_⟩
  · have T := T.1 c1
    refine v_iconst (pc' := 53) (v := (-1)) dX8_ownerOf_52 rfl kI_m1 ?_
    exact v_iret dX8_ownerOf_53 rfl T
  · have T := T.2 c1
    refine v_iload_n (pc' := 7) dX8_ownerOf_6 rfl rfl ?_
    refine v_bipush (pc' := 9) (v := 12) dX8_ownerOf_7 rfl kB_12 ?_
    refine v_icmp_ge (tgt := 52) (pc' := 12) dX8_ownerOf_9 (by decide) rfl ⟨fun c2 => ?_, fun c2 => ?_⟩
    · have T := T.1 c2
      refine v_iconst (pc' := 53) (v := (-1)) dX8_ownerOf_52 rfl kI_m1 ?_
      exact v_iret dX8_ownerOf_53 rfl T
    · have T := T.2 c2
      refine v_aload_n (pc' := 13) dX8_ownerOf_12 rfl rfl ?_
      refine v_iload_n (pc' := 14) dX8_ownerOf_13 rfl rfl ?_
      refine v_iload_n (pc' := 15) dX8_ownerOf_14 rfl rfl ?_
      refine v_iconst (pc' := 16) (v := 0) dX8_ownerOf_15 rfl kI_0 ?_
      obtain ⟨q6, T⟩ := T
      obtain ⟨z4, h3, k5, T⟩ := T
      refine v_callV (pc' := 19) (M1 := mX5_nodeField) (as := [.int x1, .int x3, .int 0]) (r := r0) (rest := []) 5 dX8_ownerOf_16 rfl ko_X8_15 kc_X5_nodeField ki_X5_nodeField ks_X5_nodeField (by decide) (by decide) hdd rfl rfl (le_l rfl) q6 k5 ?_
      refine v_if_eq (tgt := 46) (pc' := 22) dX8_ownerOf_19 (by decide) rfl ⟨fun c7 => ?_, fun c7 => ?_⟩
      · have T := T.1 c7
        refine v_iinc (pc' := 49) (loc' := [.ref r0, .int x1, .int x2, .int (x3 + 1)]) dX8_ownerOf_46 rfl rfl (kX_1 _) rfl ?_
        refine v_goto (pc' := 2) dX8_ownerOf_49 (by decide) ?_
        exact T
      · have T := T.2 c7
        refine v_aload_n (pc' := 23) dX8_ownerOf_22 rfl rfl ?_
        refine v_iload_n (pc' := 24) dX8_ownerOf_23 rfl rfl ?_
        refine v_iload_n (pc' := 25) dX8_ownerOf_24 rfl rfl ?_
        refine v_iconst (pc' := 26) (v := 2) dX8_ownerOf_25 rfl kI_2 ?_
        obtain ⟨q11, T⟩ := T
        obtain ⟨z9, h8, k10, T⟩ := T
        refine v_callV (pc' := 29) (M1 := mX5_nodeField) (as := [.int x1, .int x3, .int 2]) (r := r0) (rest := []) 5 dX8_ownerOf_26 rfl ko_X8_15 kc_X5_nodeField ki_X5_nodeField ks_X5_nodeField (by decide) (by decide) hdd rfl rfl (le_l rfl) q11 k10 ?_
        refine v_iload_n (pc' := 30) dX8_ownerOf_29 rfl rfl ?_
        refine v_icmp_eq (tgt := 44) (pc' := 33) dX8_ownerOf_30 (by decide) rfl ⟨fun c12 => ?_, fun c12 => ?_⟩
        · have T := T.1 c12
          refine v_iload_n (pc' := 45) dX8_ownerOf_44 rfl rfl ?_
          exact v_iret dX8_ownerOf_45 rfl T
        · have T := T.2 c12
          refine v_aload_n (pc' := 34) dX8_ownerOf_33 rfl rfl ?_
          refine v_iload_n (pc' := 35) dX8_ownerOf_34 rfl rfl ?_
          refine v_iload_n (pc' := 36) dX8_ownerOf_35 rfl rfl ?_
          refine v_iconst (pc' := 37) (v := 3) dX8_ownerOf_36 rfl kI_3 ?_
          obtain ⟨q16, T⟩ := T
          obtain ⟨z14, h13, k15, T⟩ := T
          refine v_callV (pc' := 40) (M1 := mX5_nodeField) (as := [.int x1, .int x3, .int 3]) (r := r0) (rest := []) 5 dX8_ownerOf_37 rfl ko_X8_15 kc_X5_nodeField ki_X5_nodeField ks_X5_nodeField (by decide) (by decide) hdd rfl rfl (le_l rfl) q16 k15 ?_
          refine v_iload_n (pc' := 41) dX8_ownerOf_40 rfl rfl ?_
          refine v_icmp_ne (tgt := 46) (pc' := 44) dX8_ownerOf_41 (by decide) rfl ⟨fun c17 => ?_, fun c17 => ?_⟩
          · have T := T.1 c17
            refine v_iinc (pc' := 49) (loc' := [.ref r0, .int x1, .int x2, .int (x3 + 1)]) dX8_ownerOf_46 rfl rfl (kX_1 _) rfl ?_
            refine v_goto (pc' := 2) dX8_ownerOf_49 (by decide) ?_
            exact T
          · have T := T.2 c17
            refine v_iload_n (pc' := 45) dX8_ownerOf_44 rfl rfl ?_
            exact v_iret dX8_ownerOf_45 rfl T
theorem eX8_countUnder {G : GG} {d : Nat} {h : Hp} {o : OU} {h' : Hp} (r0 : Nat) (x1 : Int32) (x2 : Int32) (r3 : Nat) (x4 : Int32) (T : ((x2 < 0 → (o = .inl (some (.int 0)) ∧ h' = h)) ∧ (¬ x2 < 0 → kH h r3 = 1 ∧ ((((lH h r3).toInt32) ≤ x2 → (o = .inl (some (.int 0)) ∧ h' = h)) ∧ (¬ ((lH h r3).toInt32) ≤ x2 → ((x4 < 12 → vp_in x2 (lH h r3) ∧ (((h.2 r3 x2.toNatClampNeg) = (-1) → V G mX8_countUnder d 36 [.ref r0, .int x1, .int x2, .ref r3, .int x4, .int 0, .int 0, uV] [] h o h') ∧ (¬ (h.2 r3 x2.toNatClampNeg) = (-1) → (o = .inl (some (.int (h.2 r3 x2.toNatClampNeg))) ∧ h' = h)))) ∧ (¬ x4 < 12 → (o = .inl (some (.int 0)) ∧ h' = h)))))))) : VM G mX8_countUnder d [.ref r0, .int x1, .int x2, .ref r3, .int x4] h o h' := by
  refine V.toM rfl rfl (le_l rfl) (cat_all rfl) ?_
  show V G mX8_countUnder d 0 [.ref r0, .int x1, .int x2, .ref r3, .int x4, uV, uV, uV] [] h o h'
  refine v_iload_n (pc' := 1) dX8_countUnder_0 rfl rfl ?_
  refine v_if_lt (tgt := 17) (pc' := 4) dX8_countUnder_1 (by decide) rfl ⟨fun c1 => ?_, fun c1 => ?_⟩
  · have T := T.1 c1
    refine v_iconst (pc' := 18) (v := 0) dX8_countUnder_17 rfl kI_0 ?_
    exact v_iret dX8_countUnder_18 rfl T
  · have T := T.2 c1
    refine v_iload_n (pc' := 5) dX8_countUnder_4 rfl rfl ?_
    refine v_aload_n (pc' := 6) dX8_countUnder_5 rfl rfl ?_
    obtain ⟨q2, T⟩ := T
    refine v_alen (pc' := 7) dX8_countUnder_6 rfl q2 (by decide) rfl ?_
    refine v_icmp_ge (tgt := 17) (pc' := 10) dX8_countUnder_7 (by decide) rfl ⟨fun c3 => ?_, fun c3 => ?_⟩
    · have T := T.1 c3
      refine v_iconst (pc' := 18) (v := 0) dX8_countUnder_17 rfl kI_0 ?_
      exact v_iret dX8_countUnder_18 rfl T
    · have T := T.2 c3
      refine v_iload (pc' := 12) dX8_countUnder_10 rfl rfl ?_
      refine v_bipush (pc' := 14) (v := 12) dX8_countUnder_12 rfl kB_12 ?_
      refine v_icmp_lt (tgt := 19) (pc' := 17) dX8_countUnder_14 (by decide) rfl ⟨fun c4 => ?_, fun c4 => ?_⟩
      · have T := T.1 c4
        refine v_aload_n (pc' := 20) dX8_countUnder_19 rfl rfl ?_
        refine v_iload_n (pc' := 21) dX8_countUnder_20 rfl rfl ?_
        obtain ⟨q5, T⟩ := T
        refine v_iald (pc' := 22) dX8_countUnder_21 rfl rfl q2 q5 ?_
        refine v_iconst (pc' := 23) (v := (-1)) dX8_countUnder_22 rfl kI_m1 ?_
        refine v_icmp_eq (tgt := 30) (pc' := 26) dX8_countUnder_23 (by decide) rfl ⟨fun c6 => ?_, fun c6 => ?_⟩
        · have T := T.1 c6
          refine v_iconst (pc' := 31) (v := 0) dX8_countUnder_30 rfl kI_0 ?_
          refine v_istore (pc' := 33) (loc' := [.ref r0, .int x1, .int x2, .ref r3, .int x4, .int 0, uV, uV]) dX8_countUnder_31 rfl (lt_l rfl) rfl ?_
          refine v_iconst (pc' := 34) (v := 0) dX8_countUnder_33 rfl kI_0 ?_
          refine v_istore (pc' := 36) (loc' := [.ref r0, .int x1, .int x2, .ref r3, .int x4, .int 0, .int 0, uV]) dX8_countUnder_34 rfl (lt_l rfl) rfl ?_
          exact T
        · have T := T.2 c6
          refine v_aload_n (pc' := 27) dX8_countUnder_26 rfl rfl ?_
          refine v_iload_n (pc' := 28) dX8_countUnder_27 rfl rfl ?_
          refine v_iald (pc' := 29) dX8_countUnder_28 rfl rfl q2 q5 ?_
          exact v_iret dX8_countUnder_29 rfl T
      · have T := T.2 c4
        refine v_iconst (pc' := 18) (v := 0) dX8_countUnder_17 rfl kI_0 ?_
        exact v_iret dX8_countUnder_18 rfl T
theorem bX8_countUnder_36 {G : GG} {d : Nat} {h : Hp} {o : OU} {h' : Hp} (r0 : Nat) (x1 : Int32) (x2 : Int32) (r3 : Nat) (x4 : Int32) (x5 : Int32) (x6 : Int32) (hd : 1 ≤ d) (T : ((16 ≤ x6 → kH h r3 = 1 ∧ vp_in x2 (lH h r3) ∧ (o = .inl (some (.int x5)) ∧ h' = (h.1, (upI h.2 r3 x2.toNatClampNeg x5)))) ∧ (¬ 16 ≤ x6 → ∃ z5 h4, VM G mX8_namedAt (d - 1) [.ref r0, .int x1, .int x2, .int x6] h (.inl (some (.int z5))) h4 ∧ ((z5 = (-1) → V G mX8_countUnder d 36 [.ref r0, .int x1, .int x2, .ref r3, .int x4, .int x5, .int (x6 + 1), uV] [] h4 o h') ∧ (¬ z5 = (-1) → ∃ z9 h8, VM G mX8_countUnder (d - 1) [.ref r0, .int x1, .int z5, .ref r3, .int (x4 + 1)] h4 (.inl (some (.int z9))) h8 ∧ V G mX8_countUnder d 36 [.ref r0, .int x1, .int x2, .ref r3, .int x4, .int (x5 + (1 + z9)), .int (x6 + 1), uV] [] h8 o h'))))) : V G mX8_countUnder d 36 [.ref r0, .int x1, .int x2, .ref r3, .int x4, .int x5, .int x6, uV] [] h o h' := by
  have hdd : d - 1 + 1 ≤ d := by omega
  refine v_iload (pc' := 38) dX8_countUnder_36 rfl rfl ?_
  refine v_bipush (pc' := 40) (v := 16) dX8_countUnder_38 rfl kB_16 ?_
  refine v_icmp_ge (tgt := 84) (pc' := 43) dX8_countUnder_40 (by decide) rfl ⟨fun c1 => ?_, fun c1 => ?_⟩
  · have T := T.1 c1
    refine v_aload_n (pc' := 85) dX8_countUnder_84 rfl rfl ?_
    refine v_iload_n (pc' := 86) dX8_countUnder_85 rfl rfl ?_
    refine v_iload (pc' := 88) dX8_countUnder_86 rfl rfl ?_
    obtain ⟨q2, T⟩ := T
    obtain ⟨q3, T⟩ := T
    refine v_iast (pc' := 89) dX8_countUnder_88 rfl rfl q2 q3 ?_
    refine v_iload (pc' := 91) dX8_countUnder_89 rfl rfl ?_
    exact v_iret dX8_countUnder_91 rfl T
  · have T := T.2 c1
    refine v_aload_n (pc' := 44) dX8_countUnder_43 rfl rfl ?_
    refine v_iload_n (pc' := 45) dX8_countUnder_44 rfl rfl ?_
    refine v_iload_n (pc' := 46) dX8_countUnder_45 rfl rfl ?_
    refine v_iload (pc' := 48) dX8_countUnder_46 rfl rfl ?_
    obtain ⟨z5, h4, k6, T⟩ := T
    refine v_callS (pc' := 51) (M1 := mX8_namedAt) (as := [.ref r0, .int x1, .int x2, .int x6]) (rest := []) dX8_countUnder_48 rfl ko_X8_55 kc_X8_namedAt kt_X8_namedAt (by decide) hdd rfl rfl (le_l rfl) k6 ?_
    refine v_istore (pc' := 53) (loc' := [.ref r0, .int x1, .int x2, .ref r3, .int x4, .int x5, .int x6, .int z5]) dX8_countUnder_51 rfl (lt_l rfl) rfl ?_
    refine v_iload (pc' := 55) dX8_countUnder_53 rfl rfl ?_
    refine v_iconst (pc' := 56) (v := (-1)) dX8_countUnder_55 rfl kI_m1 ?_
    refine v_icmp_eq (tgt := 78) (pc' := 59) dX8_countUnder_56 (by decide) rfl ⟨fun c7 => ?_, fun c7 => ?_⟩
    · have T := T.1 c7
      refine v_iinc (pc' := 81) (loc' := [.ref r0, .int x1, .int x2, .ref r3, .int x4, .int x5, .int (x6 + 1), .int z5]) dX8_countUnder_78 rfl rfl (kX_1 _) rfl ?_
      refine v_goto (pc' := 36) dX8_countUnder_81 (by decide) ?_
      exact V.drop (llp_r (llp_r (llp_r (llp_r (llp_r (llp_r (llp_r (llp_u llp_nil)))))))) T
    · have T := T.2 c7
      refine v_iload (pc' := 61) dX8_countUnder_59 rfl rfl ?_
      refine v_iconst (pc' := 62) (v := 1) dX8_countUnder_61 rfl kI_1 ?_
      refine v_aload_n (pc' := 63) dX8_countUnder_62 rfl rfl ?_
      refine v_iload_n (pc' := 64) dX8_countUnder_63 rfl rfl ?_
      refine v_iload (pc' := 66) dX8_countUnder_64 rfl rfl ?_
      refine v_aload_n (pc' := 67) dX8_countUnder_66 rfl rfl ?_
      refine v_iload (pc' := 69) dX8_countUnder_67 rfl rfl ?_
      refine v_iconst (pc' := 70) (v := 1) dX8_countUnder_69 rfl kI_1 ?_
      refine v_iadd (pc' := 71) dX8_countUnder_70 rfl ?_
      obtain ⟨z9, h8, k10, T⟩ := T
      refine v_callS (pc' := 74) (M1 := mX8_countUnder) (as := [.ref r0, .int x1, .int z5, .ref r3, .int (x4 + 1)]) (rest := [.int 1, .int x5]) dX8_countUnder_71 rfl ko_X8_58 kc_X8_countUnder kt_X8_countUnder (by decide) hdd rfl rfl (le_l rfl) k10 ?_
      refine v_iadd (pc' := 75) dX8_countUnder_74 rfl ?_
      refine v_iadd (pc' := 76) dX8_countUnder_75 rfl ?_
      refine v_istore (pc' := 78) (loc' := [.ref r0, .int x1, .int x2, .ref r3, .int x4, .int (x5 + (1 + z9)), .int x6, .int z5]) dX8_countUnder_76 rfl (lt_l rfl) rfl ?_
      refine v_iinc (pc' := 81) (loc' := [.ref r0, .int x1, .int x2, .ref r3, .int x4, .int (x5 + (1 + z9)), .int (x6 + 1), .int z5]) dX8_countUnder_78 rfl rfl (kX_1 _) rfl ?_
      refine v_goto (pc' := 36) dX8_countUnder_81 (by decide) ?_
      exact V.drop (llp_r (llp_r (llp_r (llp_r (llp_r (llp_r (llp_r (llp_u llp_nil)))))))) T
theorem eX8_depthOf {G : GG} {d : Nat} {h : Hp} {o : OU} {h' : Hp} (r0 : Nat) (x1 : Int32) (x2 : Int32) (r3 : Nat) (x4 : Int32) (hd : 1 ≤ d) (T : kH h r0 = 15 ∧ ∃ z2 h1, VM G mX5_isDirectory (d - 1) [.ref r0, .int x1, .int x2] h (.inl (some (.int z2))) h1 ∧ ((z2 = 0 → (o = .inl (some (.int 0)) ∧ h' = h1)) ∧ (¬ z2 = 0 → kH h1 r3 = 1 ∧ ((((lH h1 r3).toInt32) ≤ x2 → (o = .inl (some (.int 0)) ∧ h' = h1)) ∧ (¬ ((lH h1 r3).toInt32) ≤ x2 → ((x4 < 12 → vp_in x2 (lH h1 r3) ∧ (((h1.2 r3 x2.toNatClampNeg) = (-1) → V G mX8_depthOf d 41 [.ref r0, .int x1, .int x2, .ref r3, .int x4, .int 0, .int 0, uV] [] h1 o h') ∧ (¬ (h1.2 r3 x2.toNatClampNeg) = (-1) → (o = .inl (some (.int (h1.2 r3 x2.toNatClampNeg))) ∧ h' = h1)))) ∧ (¬ x4 < 12 → (o = .inl (some (.int 0)) ∧ h' = h1)))))))) : VM G mX8_depthOf d [.ref r0, .int x1, .int x2, .ref r3, .int x4] h o h' := by
  refine V.toM rfl rfl (le_l rfl) (cat_all rfl) ?_
  show V G mX8_depthOf d 0 [.ref r0, .int x1, .int x2, .ref r3, .int x4, uV, uV, uV] [] h o h'
  have hdd : d - 1 + 1 ≤ d := by omega
  refine v_aload_n (pc' := 1) dX8_depthOf_0 rfl rfl ?_
  refine v_iload_n (pc' := 2) dX8_depthOf_1 rfl rfl ?_
  refine v_iload_n (pc' := 3) dX8_depthOf_2 rfl rfl ?_
  obtain ⟨q4, T⟩ := T
  obtain ⟨z2, h1, k3, T⟩ := T
  refine v_callV (pc' := 6) (M1 := mX5_isDirectory) (as := [.int x1, .int x2]) (r := r0) (rest := []) 5 dX8_depthOf_3 rfl ko_X8_9 kc_X5_isDirectory ki_X5_isDirectory ks_X5_isDirectory (by decide) (by decide) hdd rfl rfl (le_l rfl) q4 k3 ?_
  refine v_if_eq (tgt := 22) (pc' := 9) dX8_depthOf_6 (by decide) rfl ⟨fun c5 => ?_, fun c5 => ?_⟩
  · have T := T.1 c5
    refine v_iconst (pc' := 23) (v := 0) dX8_depthOf_22 rfl kI_0 ?_
    exact v_iret dX8_depthOf_23 rfl T
  · have T := T.2 c5
    refine v_iload_n (pc' := 10) dX8_depthOf_9 rfl rfl ?_
    refine v_aload_n (pc' := 11) dX8_depthOf_10 rfl rfl ?_
    obtain ⟨q6, T⟩ := T
    refine v_alen (pc' := 12) dX8_depthOf_11 rfl q6 (by decide) rfl ?_
    refine v_icmp_ge (tgt := 22) (pc' := 15) dX8_depthOf_12 (by decide) rfl ⟨fun c7 => ?_, fun c7 => ?_⟩
    · have T := T.1 c7
      refine v_iconst (pc' := 23) (v := 0) dX8_depthOf_22 rfl kI_0 ?_
      exact v_iret dX8_depthOf_23 rfl T
    · have T := T.2 c7
      refine v_iload (pc' := 17) dX8_depthOf_15 rfl rfl ?_
      refine v_bipush (pc' := 19) (v := 12) dX8_depthOf_17 rfl kB_12 ?_
      refine v_icmp_lt (tgt := 24) (pc' := 22) dX8_depthOf_19 (by decide) rfl ⟨fun c8 => ?_, fun c8 => ?_⟩
      · have T := T.1 c8
        refine v_aload_n (pc' := 25) dX8_depthOf_24 rfl rfl ?_
        refine v_iload_n (pc' := 26) dX8_depthOf_25 rfl rfl ?_
        obtain ⟨q9, T⟩ := T
        refine v_iald (pc' := 27) dX8_depthOf_26 rfl rfl q6 q9 ?_
        refine v_iconst (pc' := 28) (v := (-1)) dX8_depthOf_27 rfl kI_m1 ?_
        refine v_icmp_eq (tgt := 35) (pc' := 31) dX8_depthOf_28 (by decide) rfl ⟨fun c10 => ?_, fun c10 => ?_⟩
        · have T := T.1 c10
          refine v_iconst (pc' := 36) (v := 0) dX8_depthOf_35 rfl kI_0 ?_
          refine v_istore (pc' := 38) (loc' := [.ref r0, .int x1, .int x2, .ref r3, .int x4, .int 0, uV, uV]) dX8_depthOf_36 rfl (lt_l rfl) rfl ?_
          refine v_iconst (pc' := 39) (v := 0) dX8_depthOf_38 rfl kI_0 ?_
          refine v_istore (pc' := 41) (loc' := [.ref r0, .int x1, .int x2, .ref r3, .int x4, .int 0, .int 0, uV]) dX8_depthOf_39 rfl (lt_l rfl) rfl ?_
          exact T
        · have T := T.2 c10
          refine v_aload_n (pc' := 32) dX8_depthOf_31 rfl rfl ?_
          refine v_iload_n (pc' := 33) dX8_depthOf_32 rfl rfl ?_
          refine v_iald (pc' := 34) dX8_depthOf_33 rfl rfl q6 q9 ?_
          exact v_iret dX8_depthOf_34 rfl T
      · have T := T.2 c8
        refine v_iconst (pc' := 23) (v := 0) dX8_depthOf_22 rfl kI_0 ?_
        exact v_iret dX8_depthOf_23 rfl T
theorem bX8_depthOf_41 {G : GG} {d : Nat} {h : Hp} {o : OU} {h' : Hp} (r0 : Nat) (x1 : Int32) (x2 : Int32) (r3 : Nat) (x4 : Int32) (x5 : Int32) (x6 : Int32) (hd : 1 ≤ d) (T : ((16 ≤ x6 → kH h r3 = 1 ∧ vp_in x2 (lH h r3) ∧ (o = .inl (some (.int (1 + x5))) ∧ h' = (h.1, (upI h.2 r3 x2.toNatClampNeg (1 + x5))))) ∧ (¬ 16 ≤ x6 → ∃ z5 h4, VM G mX8_namedAt (d - 1) [.ref r0, .int x1, .int x2, .int x6] h (.inl (some (.int z5))) h4 ∧ ((z5 = (-1) → V G mX8_depthOf d 41 [.ref r0, .int x1, .int x2, .ref r3, .int x4, .int x5, .int (x6 + 1), uV] [] h4 o h') ∧ (¬ z5 = (-1) → ∃ z9 h8, VM G mX8_depthOf (d - 1) [.ref r0, .int x1, .int z5, .ref r3, .int (x4 + 1)] h4 (.inl (some (.int z9))) h8 ∧ V G mX8_depthOf d 41 [.ref r0, .int x1, .int x2, .ref r3, .int x4, .int (if x5 < z9 then z9 else x5), .int (x6 + 1), uV] [] h8 o h'))))) : V G mX8_depthOf d 41 [.ref r0, .int x1, .int x2, .ref r3, .int x4, .int x5, .int x6, uV] [] h o h' := by
  have hdd : d - 1 + 1 ≤ d := by omega
  refine v_iload (pc' := 43) dX8_depthOf_41 rfl rfl ?_
  refine v_bipush (pc' := 45) (v := 16) dX8_depthOf_43 rfl kB_16 ?_
  refine v_icmp_ge (tgt := 89) (pc' := 48) dX8_depthOf_45 (by decide) rfl ⟨fun c1 => ?_, fun c1 => ?_⟩
  · have T := T.1 c1
    refine v_aload_n (pc' := 90) dX8_depthOf_89 rfl rfl ?_
    refine v_iload_n (pc' := 91) dX8_depthOf_90 rfl rfl ?_
    refine v_iconst (pc' := 92) (v := 1) dX8_depthOf_91 rfl kI_1 ?_
    refine v_iload (pc' := 94) dX8_depthOf_92 rfl rfl ?_
    refine v_iadd (pc' := 95) dX8_depthOf_94 rfl ?_
    obtain ⟨q2, T⟩ := T
    obtain ⟨q3, T⟩ := T
    refine v_iast (pc' := 96) dX8_depthOf_95 rfl rfl q2 q3 ?_
    refine v_iconst (pc' := 97) (v := 1) dX8_depthOf_96 rfl kI_1 ?_
    refine v_iload (pc' := 99) dX8_depthOf_97 rfl rfl ?_
    refine v_iadd (pc' := 100) dX8_depthOf_99 rfl ?_
    exact v_iret dX8_depthOf_100 rfl T
  · have T := T.2 c1
    refine v_aload_n (pc' := 49) dX8_depthOf_48 rfl rfl ?_
    refine v_iload_n (pc' := 50) dX8_depthOf_49 rfl rfl ?_
    refine v_iload_n (pc' := 51) dX8_depthOf_50 rfl rfl ?_
    refine v_iload (pc' := 53) dX8_depthOf_51 rfl rfl ?_
    obtain ⟨z5, h4, k6, T⟩ := T
    refine v_callS (pc' := 56) (M1 := mX8_namedAt) (as := [.ref r0, .int x1, .int x2, .int x6]) (rest := []) dX8_depthOf_53 rfl ko_X8_55 kc_X8_namedAt kt_X8_namedAt (by decide) hdd rfl rfl (le_l rfl) k6 ?_
    refine v_istore (pc' := 58) (loc' := [.ref r0, .int x1, .int x2, .ref r3, .int x4, .int x5, .int x6, .int z5]) dX8_depthOf_56 rfl (lt_l rfl) rfl ?_
    refine v_iload (pc' := 60) dX8_depthOf_58 rfl rfl ?_
    refine v_iconst (pc' := 61) (v := (-1)) dX8_depthOf_60 rfl kI_m1 ?_
    refine v_icmp_eq (tgt := 83) (pc' := 64) dX8_depthOf_61 (by decide) rfl ⟨fun c7 => ?_, fun c7 => ?_⟩
    · have T := T.1 c7
      refine v_iinc (pc' := 86) (loc' := [.ref r0, .int x1, .int x2, .ref r3, .int x4, .int x5, .int (x6 + 1), .int z5]) dX8_depthOf_83 rfl rfl (kX_1 _) rfl ?_
      refine v_goto (pc' := 41) dX8_depthOf_86 (by decide) ?_
      exact V.drop (llp_r (llp_r (llp_r (llp_r (llp_r (llp_r (llp_r (llp_u llp_nil)))))))) T
    · have T := T.2 c7
      refine v_iload (pc' := 66) dX8_depthOf_64 rfl rfl ?_
      refine v_aload_n (pc' := 67) dX8_depthOf_66 rfl rfl ?_
      refine v_iload_n (pc' := 68) dX8_depthOf_67 rfl rfl ?_
      refine v_iload (pc' := 70) dX8_depthOf_68 rfl rfl ?_
      refine v_aload_n (pc' := 71) dX8_depthOf_70 rfl rfl ?_
      refine v_iload (pc' := 73) dX8_depthOf_71 rfl rfl ?_
      refine v_iconst (pc' := 74) (v := 1) dX8_depthOf_73 rfl kI_1 ?_
      refine v_iadd (pc' := 75) dX8_depthOf_74 rfl ?_
      obtain ⟨z9, h8, k10, T⟩ := T
      refine v_callS (pc' := 78) (M1 := mX8_depthOf) (as := [.ref r0, .int x1, .int z5, .ref r3, .int (x4 + 1)]) (rest := [.int x5]) dX8_depthOf_75 rfl ko_X8_62 kc_X8_depthOf kt_X8_depthOf (by decide) hdd rfl rfl (le_l rfl) k10 ?_
      refine v_mmax (pc' := 81) dX8_depthOf_78 rfl km_X8_65 kx_maxs kx_mi kx_maxc hd (le_l rfl) ?_
      refine v_istore (pc' := 83) (loc' := [.ref r0, .int x1, .int x2, .ref r3, .int x4, .int (if x5 < z9 then z9 else x5), .int x6, .int z5]) dX8_depthOf_81 rfl (lt_l rfl) rfl ?_
      refine v_iinc (pc' := 86) (loc' := [.ref r0, .int x1, .int x2, .ref r3, .int x4, .int (if x5 < z9 then z9 else x5), .int (x6 + 1), .int z5]) dX8_depthOf_83 rfl rfl (kX_1 _) rfl ?_
      refine v_goto (pc' := 41) dX8_depthOf_86 (by decide) ?_
      exact V.drop (llp_r (llp_r (llp_r (llp_r (llp_r (llp_r (llp_r (llp_u llp_nil)))))))) T
theorem eX8_namedAt {G : GG} {d : Nat} {h : Hp} {o : OU} {h' : Hp} (r0 : Nat) (x1 : Int32) (x2 : Int32) (x3 : Int32) (hd : 1 ≤ d) (T : kH h r0 = 15 ∧ ∃ z2 h1, VM G mX5_isDirectory (d - 1) [.ref r0, .int x1, .int x2] h (.inl (some (.int z2))) h1 ∧ ((¬ z2 = 0 → ((8 ≤ x3 → kH h1 r0 = 15 ∧ ∃ z8 h7, VM G mX5_nodeField (d - 1) [.ref r0, .int x1, .int x2, .int 3] h1 (.inl (some (.int z8))) h7 ∧ ((z8 = 0 → (o = .inl (some (.int (-1))) ∧ h' = h7)) ∧ (¬ z8 = 0 → kH h7 r0 = 15 ∧ ∃ z13 h12, VM G mX5_at (d - 1) [.ref r0, .int x1, .int z8, .int ((x3 - x3 / 8 * 8) * 2)] h7 (.inl (some (.int z13))) h12 ∧ ((¬ z13 = 0 → kH h12 r0 = 15 ∧ ∃ z18 h17, VM G mX5_at (d - 1) [.ref r0, .int x1, .int z8, .int (((x3 - x3 / 8 * 8) * 2) + 1)] h12 (.inl (some (.int z18))) h17 ∧ (o = .inl (some (.int z18)) ∧ h' = h17)) ∧ (z13 = 0 → (o = .inl (some (.int (-1))) ∧ h' = h12)))))) ∧ (¬ 8 ≤ x3 → kH h1 r0 = 15 ∧ ∃ z22 h21, VM G mX5_nodeField (d - 1) [.ref r0, .int x1, .int x2, .int 2] h1 (.inl (some (.int z22))) h21 ∧ ((z22 = 0 → (o = .inl (some (.int (-1))) ∧ h' = h21)) ∧ (¬ z22 = 0 → kH h21 r0 = 15 ∧ ∃ z27 h26, VM G mX5_at (d - 1) [.ref r0, .int x1, .int z22, .int ((x3 - x3 / 8 * 8) * 2)] h21 (.inl (some (.int z27))) h26 ∧ ((¬ z27 = 0 → kH h26 r0 = 15 ∧ ∃ z32 h31, VM G mX5_at (d - 1) [.ref r0, .int x1, .int z22, .int (((x3 - x3 / 8 * 8) * 2) + 1)] h26 (.inl (some (.int z32))) h31 ∧ (o = .inl (some (.int z32)) ∧ h' = h31)) ∧ (z27 = 0 → (o = .inl (some (.int (-1))) ∧ h' = h26)))))))) ∧ (z2 = 0 → (o = .inl (some (.int (-1))) ∧ h' = h1)))) : VM G mX8_namedAt d [.ref r0, .int x1, .int x2, .int x3] h o h' := by
  refine V.toM rfl rfl (le_l rfl) (cat_all rfl) ?_
  show V G mX8_namedAt d 0 [.ref r0, .int x1, .int x2, .int x3, uV, uV] [] h o h'
  have hdd : d - 1 + 1 ≤ d := by omega
  refine v_aload_n (pc' := 1) dX8_namedAt_0 rfl rfl ?_
  refine v_iload_n (pc' := 2) dX8_namedAt_1 rfl rfl ?_
  refine v_iload_n (pc' := 3) dX8_namedAt_2 rfl rfl ?_
  obtain ⟨q4, T⟩ := T
  obtain ⟨z2, h1, k3, T⟩ := T
  refine v_callV (pc' := 6) (M1 := mX5_isDirectory) (as := [.int x1, .int x2]) (r := r0) (rest := []) 5 dX8_namedAt_3 rfl ko_X8_9 kc_X5_isDirectory ki_X5_isDirectory ks_X5_isDirectory (by decide) (by decide) hdd rfl rfl (le_l rfl) q4 k3 ?_
  refine v_if_ne (tgt := 11) (pc' := 9) dX8_namedAt_6 (by decide) rfl ⟨fun c5 => ?_, fun c5 => ?_⟩
  · have T := T.1 c5
    refine v_aload_n (pc' := 12) dX8_namedAt_11 rfl rfl ?_
    refine v_iload_n (pc' := 13) dX8_namedAt_12 rfl rfl ?_
    refine v_iload_n (pc' := 14) dX8_namedAt_13 rfl rfl ?_
    refine v_iload_n (pc' := 15) dX8_namedAt_14 rfl rfl ?_
    refine v_bipush (pc' := 17) (v := 8) dX8_namedAt_15 rfl kB_8 ?_
    refine v_icmp_ge (tgt := 24) (pc' := 20) dX8_namedAt_17 (by decide) rfl ⟨fun c6 => ?_, fun c6 => ?_⟩
    · have T := T.1 c6
      refine v_iconst (pc' := 25) (v := 3) dX8_namedAt_24 rfl kI_3 ?_
      obtain ⟨q10, T⟩ := T
      obtain ⟨z8, h7, k9, T⟩ := T
      refine v_callV (pc' := 28) (M1 := mX5_nodeField) (as := [.int x1, .int x2, .int 3]) (r := r0) (rest := []) 5 dX8_namedAt_25 rfl ko_X8_15 kc_X5_nodeField ki_X5_nodeField ks_X5_nodeField (by decide) (by decide) hdd rfl rfl (le_l rfl) q10 k9 ?_
      refine v_istore (pc' := 30) (loc' := [.ref r0, .int x1, .int x2, .int x3, .int z8, uV]) dX8_namedAt_28 rfl (lt_l rfl) rfl ?_
      refine v_iload_n (pc' := 31) dX8_namedAt_30 rfl rfl ?_
      refine v_bipush (pc' := 33) (v := 8) dX8_namedAt_31 rfl kB_8 ?_
      refine v_irem (pc' := 34) dX8_namedAt_33 rfl (by decide) ?_
      refine v_iconst (pc' := 35) (v := 2) dX8_namedAt_34 rfl kI_2 ?_
      refine v_imul (pc' := 36) dX8_namedAt_35 rfl ?_
      refine v_istore (pc' := 38) (loc' := [.ref r0, .int x1, .int x2, .int x3, .int z8, .int ((x3 - x3 / 8 * 8) * 2)]) dX8_namedAt_36 rfl (lt_l rfl) rfl ?_
      refine v_iload (pc' := 40) dX8_namedAt_38 rfl rfl ?_
      refine v_if_eq (tgt := 55) (pc' := 43) dX8_namedAt_40 (by decide) rfl ⟨fun c11 => ?_, fun c11 => ?_⟩
      · have T := T.1 c11
        refine v_iconst (pc' := 56) (v := (-1)) dX8_namedAt_55 rfl kI_m1 ?_
        refine v_goto (pc' := 70) dX8_namedAt_56 (by decide) ?_
        exact v_iret dX8_namedAt_70 rfl T
      · have T := T.2 c11
        refine v_aload_n (pc' := 44) dX8_namedAt_43 rfl rfl ?_
        refine v_iload_n (pc' := 45) dX8_namedAt_44 rfl rfl ?_
        refine v_iload (pc' := 47) dX8_namedAt_45 rfl rfl ?_
        refine v_iload (pc' := 49) dX8_namedAt_47 rfl rfl ?_
        obtain ⟨q15, T⟩ := T
        obtain ⟨z13, h12, k14, T⟩ := T
        refine v_callV (pc' := 52) (M1 := mX5_at) (as := [.int x1, .int z8, .int ((x3 - x3 / 8 * 8) * 2)]) (r := r0) (rest := []) 5 dX8_namedAt_49 rfl ko_X8_19 kc_X5_at ki_X5_at ks_X5_at (by decide) (by decide) hdd rfl rfl (le_l rfl) q15 k14 ?_
        refine v_if_ne (tgt := 59) (pc' := 55) dX8_namedAt_52 (by decide) rfl ⟨fun c16 => ?_, fun c16 => ?_⟩
        · have T := T.1 c16
          refine v_aload_n (pc' := 60) dX8_namedAt_59 rfl rfl ?_
          refine v_iload_n (pc' := 61) dX8_namedAt_60 rfl rfl ?_
          refine v_iload (pc' := 63) dX8_namedAt_61 rfl rfl ?_
          refine v_iload (pc' := 65) dX8_namedAt_63 rfl rfl ?_
          refine v_iconst (pc' := 66) (v := 1) dX8_namedAt_65 rfl kI_1 ?_
          refine v_iadd (pc' := 67) dX8_namedAt_66 rfl ?_
          obtain ⟨q20, T⟩ := T
          obtain ⟨z18, h17, k19, T⟩ := T
          refine v_callV (pc' := 70) (M1 := mX5_at) (as := [.int x1, .int z8, .int (((x3 - x3 / 8 * 8) * 2) + 1)]) (r := r0) (rest := []) 5 dX8_namedAt_67 rfl ko_X8_19 kc_X5_at ki_X5_at ks_X5_at (by decide) (by decide) hdd rfl rfl (le_l rfl) q20 k19 ?_
          exact v_iret dX8_namedAt_70 rfl T
        · have T := T.2 c16
          refine v_iconst (pc' := 56) (v := (-1)) dX8_namedAt_55 rfl kI_m1 ?_
          refine v_goto (pc' := 70) dX8_namedAt_56 (by decide) ?_
          exact v_iret dX8_namedAt_70 rfl T
    · have T := T.2 c6
      refine v_iconst (pc' := 21) (v := 2) dX8_namedAt_20 rfl kI_2 ?_
      refine v_goto (pc' := 25) dX8_namedAt_21 (by decide) ?_
      obtain ⟨q24, T⟩ := T
      obtain ⟨z22, h21, k23, T⟩ := T
      refine v_callV (pc' := 28) (M1 := mX5_nodeField) (as := [.int x1, .int x2, .int 2]) (r := r0) (rest := []) 5 dX8_namedAt_25 rfl ko_X8_15 kc_X5_nodeField ki_X5_nodeField ks_X5_nodeField (by decide) (by decide) hdd rfl rfl (le_l rfl) q24 k23 ?_
      refine v_istore (pc' := 30) (loc' := [.ref r0, .int x1, .int x2, .int x3, .int z22, uV]) dX8_namedAt_28 rfl (lt_l rfl) rfl ?_
      refine v_iload_n (pc' := 31) dX8_namedAt_30 rfl rfl ?_
      refine v_bipush (pc' := 33) (v := 8) dX8_namedAt_31 rfl kB_8 ?_
      refine v_irem (pc' := 34) dX8_namedAt_33 rfl (by decide) ?_
      refine v_iconst (pc' := 35) (v := 2) dX8_namedAt_34 rfl kI_2 ?_
      refine v_imul (pc' := 36) dX8_namedAt_35 rfl ?_
      refine v_istore (pc' := 38) (loc' := [.ref r0, .int x1, .int x2, .int x3, .int z22, .int ((x3 - x3 / 8 * 8) * 2)]) dX8_namedAt_36 rfl (lt_l rfl) rfl ?_
      refine v_iload (pc' := 40) dX8_namedAt_38 rfl rfl ?_
      refine v_if_eq (tgt := 55) (pc' := 43) dX8_namedAt_40 (by decide) rfl ⟨fun c25 => ?_, fun c25 => ?_⟩
      · have T := T.1 c25
        refine v_iconst (pc' := 56) (v := (-1)) dX8_namedAt_55 rfl kI_m1 ?_
        refine v_goto (pc' := 70) dX8_namedAt_56 (by decide) ?_
        exact v_iret dX8_namedAt_70 rfl T
      · have T := T.2 c25
        refine v_aload_n (pc' := 44) dX8_namedAt_43 rfl rfl ?_
        refine v_iload_n (pc' := 45) dX8_namedAt_44 rfl rfl ?_
        refine v_iload (pc' := 47) dX8_namedAt_45 rfl rfl ?_
        refine v_iload (pc' := 49) dX8_namedAt_47 rfl rfl ?_
        obtain ⟨q29, T⟩ := T
        obtain ⟨z27, h26, k28, T⟩ := T
        refine v_callV (pc' := 52) (M1 := mX5_at) (as := [.int x1, .int z22, .int ((x3 - x3 / 8 * 8) * 2)]) (r := r0) (rest := []) 5 dX8_namedAt_49 rfl ko_X8_19 kc_X5_at ki_X5_at ks_X5_at (by decide) (by decide) hdd rfl rfl (le_l rfl) q29 k28 ?_
        refine v_if_ne (tgt := 59) (pc' := 55) dX8_namedAt_52 (by decide) rfl ⟨fun c30 => ?_, fun c30 => ?_⟩
        · have T := T.1 c30
          refine v_aload_n (pc' := 60) dX8_namedAt_59 rfl rfl ?_
          refine v_iload_n (pc' := 61) dX8_namedAt_60 rfl rfl ?_
          refine v_iload (pc' := 63) dX8_namedAt_61 rfl rfl ?_
          refine v_iload (pc' := 65) dX8_namedAt_63 rfl rfl ?_
          refine v_iconst (pc' := 66) (v := 1) dX8_namedAt_65 rfl kI_1 ?_
          refine v_iadd (pc' := 67) dX8_namedAt_66 rfl ?_
          obtain ⟨q34, T⟩ := T
          obtain ⟨z32, h31, k33, T⟩ := T
          refine v_callV (pc' := 70) (M1 := mX5_at) (as := [.int x1, .int z22, .int (((x3 - x3 / 8 * 8) * 2) + 1)]) (r := r0) (rest := []) 5 dX8_namedAt_67 rfl ko_X8_19 kc_X5_at ki_X5_at ks_X5_at (by decide) (by decide) hdd rfl rfl (le_l rfl) q34 k33 ?_
          exact v_iret dX8_namedAt_70 rfl T
        · have T := T.2 c30
          refine v_iconst (pc' := 56) (v := (-1)) dX8_namedAt_55 rfl kI_m1 ?_
          refine v_goto (pc' := 70) dX8_namedAt_56 (by decide) ?_
          exact v_iret dX8_namedAt_70 rfl T
  · have T := T.2 c5
    refine v_iconst (pc' := 10) (v := (-1)) dX8_namedAt_9 rfl kI_m1 ?_
    exact v_iret dX8_namedAt_10 rfl T
