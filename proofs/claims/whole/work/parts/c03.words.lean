theorem kk_X9_420 : Cond.classLink RX9 420 xNP ∈ TB := tb_in 1228 (by decide +kernel) rfl
theorem kn_xNP : Cond.initialized xNP ∈ TB := tb_in 126 (by decide +kernel) rfl
theorem kk_X9_406 : Cond.classLink RX9 406 xNS ∈ TB := tb_in 1087 (by decide +kernel) rfl
theorem kn_xNS : Cond.initialized xNS ∈ TB := tb_in 125 (by decide +kernel) rfl
theorem km_X9_247 : Cond.methodLink RX9 247 yX8_entryNamed ∈ TB := tb_in 1113 (by decide +kernel) rfl
theorem ko_X9_247 : okC RX9 247 yX8_entryNamed 4 := ⟨km_X9_247, kn_X8, by decide +kernel⟩
theorem km_X9_251 : Cond.methodLink RX9 251 yX8_nodeOfEntry ∈ TB := tb_in 1114 (by decide +kernel) rfl
theorem ko_X9_251 : okC RX9 251 yX8_nodeOfEntry 3 := ⟨km_X9_251, kn_X8, by decide +kernel⟩
theorem kc_X9_node : Cond.code yX9_node cX9_node 4 (some .int) ∈ TB := tb_in 1082 (by decide +kernel) rfl
theorem km_L_30 : Cond.methodLink RL 30 yX9_node ∈ TB := tb_in 1079 (by decide +kernel) rfl
theorem ko_L_30 : okC RL 30 yX9_node 3 := ⟨km_L_30, kn_X9, by decide +kernel⟩
theorem ki_X9_node : Cond.instanceMethod yX9_node ∈ TB := tb_in 1080 (by decide +kernel) rfl
theorem ks_X9_node : Cond.selects RX9 yX9_node yX9_node ∈ TB := tb_in 1081 (by decide +kernel) rfl
theorem kk_L_33 : Cond.classLink RL 33 xNS ∈ TB := tb_in 1078 (by decide +kernel) rfl
theorem kc_X9_find : Cond.code yX9_find cX9_find 5 (some .int) ∈ TB := tb_in 1111 (by decide +kernel) rfl
theorem km_L_35 : Cond.methodLink RL 35 yX9_find ∈ TB := tb_in 1108 (by decide +kernel) rfl
theorem ko_L_35 : okC RL 35 yX9_find 3 := ⟨km_L_35, kn_X9, by decide +kernel⟩
theorem ki_X9_find : Cond.instanceMethod yX9_find ∈ TB := tb_in 1109 (by decide +kernel) rfl
theorem ks_X9_find : Cond.selects RX9 yX9_find yX9_find ∈ TB := tb_in 1110 (by decide +kernel) rfl
theorem kc_X9_under : Cond.code yX9_under cX9_under 3 (some .int) ∈ TB := tb_in 1167 (by decide +kernel) rfl
theorem km_L_50 : Cond.methodLink RL 50 yX9_under ∈ TB := tb_in 1164 (by decide +kernel) rfl
theorem ko_L_50 : okC RL 50 yX9_under 2 := ⟨km_L_50, kn_X9, by decide +kernel⟩
theorem ki_X9_under : Cond.instanceMethod yX9_under ∈ TB := tb_in 1165 (by decide +kernel) rfl
theorem ks_X9_under : Cond.selects RX9 yX9_under yX9_under ∈ TB := tb_in 1166 (by decide +kernel) rfl
theorem kc_X9_deep : Cond.code yX9_deep cX9_deep 3 (some .int) ∈ TB := tb_in 1185 (by decide +kernel) rfl
theorem km_L_54 : Cond.methodLink RL 54 yX9_deep ∈ TB := tb_in 1182 (by decide +kernel) rfl
theorem ko_L_54 : okC RL 54 yX9_deep 2 := ⟨km_L_54, kn_X9, by decide +kernel⟩
theorem ki_X9_deep : Cond.instanceMethod yX9_deep ∈ TB := tb_in 1183 (by decide +kernel) rfl
theorem ks_X9_deep : Cond.selects RX9 yX9_deep yX9_deep ∈ TB := tb_in 1184 (by decide +kernel) rfl
theorem kc_X9_room : Cond.code yX9_room cX9_room 2 (some .int) ∈ TB := tb_in 1286 (by decide +kernel) rfl
theorem km_L_77 : Cond.methodLink RL 77 yX9_room ∈ TB := tb_in 1283 (by decide +kernel) rfl
theorem ko_L_77 : okC RL 77 yX9_room 1 := ⟨km_L_77, kn_X9, by decide +kernel⟩
theorem ki_X9_room : Cond.instanceMethod yX9_room ∈ TB := tb_in 1284 (by decide +kernel) rfl
theorem ks_X9_room : Cond.selects RX9 yX9_room yX9_room ∈ TB := tb_in 1285 (by decide +kernel) rfl
theorem kc_X9_span : Cond.code yX9_span cX9_span 13 (some .int) ∈ TB := tb_in 1356 (by decide +kernel) rfl
theorem km_L_90 : Cond.methodLink RL 90 yX9_span ∈ TB := tb_in 1353 (by decide +kernel) rfl
theorem ko_L_90 : okC RL 90 yX9_span 6 := ⟨km_L_90, kn_X9, by decide +kernel⟩
theorem ki_X9_span : Cond.instanceMethod yX9_span ∈ TB := tb_in 1354 (by decide +kernel) rfl
theorem ks_X9_span : Cond.selects RX9 yX9_span yX9_span ∈ TB := tb_in 1355 (by decide +kernel) rfl
theorem kc_X9_change : Cond.code yX9_change cX9_change 3 (some .int) ∈ TB := tb_in 1222 (by decide +kernel) rfl
theorem km_L_57 : Cond.methodLink RL 57 yX9_change ∈ TB := tb_in 1219 (by decide +kernel) rfl
theorem ko_L_57 : okC RL 57 yX9_change 2 := ⟨km_L_57, kn_X9, by decide +kernel⟩
theorem ki_X9_change : Cond.instanceMethod yX9_change ∈ TB := tb_in 1220 (by decide +kernel) rfl
theorem ks_X9_change : Cond.selects RX9 yX9_change yX9_change ∈ TB := tb_in 1221 (by decide +kernel) rfl
theorem kk_L_60 : Cond.classLink RL 60 xNP ∈ TB := tb_in 1194 (by decide +kernel) rfl
def mL_node : MR := (yL_node, cL_node, 6, (some .int), [(0, 12, 15, 33), (0, 12, 19, 13)])
def mL_find : MR := (yL_find, cL_find, 6, (some .int), [(0, 12, 15, 33), (0, 12, 19, 13)])
def mL_under : MR := (yL_under, cL_under, 5, (some .int), [(0, 10, 13, 33), (0, 10, 17, 13)])
def mL_deep : MR := (yL_deep, cL_deep, 5, (some .int), [(0, 10, 13, 33), (0, 10, 17, 13)])
def mL_room : MR := (yL_room, cL_room, 4, (some .int), [(0, 9, 12, 33)])
def mL_span : MR := (yL_span, cL_span, 9, (some .int), [(0, 18, 21, 33), (0, 18, 25, 13)])
def mL_change : MR := (yL_change, cL_change, 5, (some .int), [(0, 10, 13, 13), (0, 10, 17, 60), (0, 10, 21, 28)])
theorem dX9_testChange_0 : decode cX9_testChange 0 = .ok (.iload_n 1, 1) := by decide +kernel
theorem dX9_testChange_1 : decode cX9_testChange 1 = .ok (.ifCond .lt 10, 3) := by decide +kernel
theorem dX9_testChange_4 : decode cX9_testChange 4 = .ok (.iload_n 1, 1) := by decide +kernel
theorem dX9_testChange_5 : decode cX9_testChange 5 = .ok (.sipush 256, 3) := by decide +kernel
theorem dX9_testChange_8 : decode cX9_testChange 8 = .ok (.if_icmp .lt 24, 3) := by decide +kernel
theorem dX9_testChange_11 : decode cX9_testChange 11 = .ok (.aload_n 0, 1) := by decide +kernel
theorem dX9_testChange_12 : decode cX9_testChange 12 = .ok (.getfield 68, 3) := by decide +kernel
theorem dX9_testChange_15 : decode cX9_testChange 15 = .ok (.iconst 3, 1) := by decide +kernel
theorem dX9_testChange_16 : decode cX9_testChange 16 = .ok (.dup2, 1) := by decide +kernel
theorem dX9_testChange_17 : decode cX9_testChange 17 = .ok (.iaload, 1) := by decide +kernel
theorem dX9_testChange_18 : decode cX9_testChange 18 = .ok (.iconst 1, 1) := by decide +kernel
theorem dX9_testChange_19 : decode cX9_testChange 19 = .ok (.iadd, 1) := by decide +kernel
theorem dX9_testChange_20 : decode cX9_testChange 20 = .ok (.iastore, 1) := by decide +kernel
theorem dX9_testChange_21 : decode cX9_testChange 21 = .ok (.new 411, 3) := by decide +kernel
theorem dX9_testChange_24 : decode cX9_testChange 24 = .ok (.dup, 1) := by decide +kernel
theorem dX9_testChange_25 : decode cX9_testChange 25 = .ok (.ldc_w 418, 3) := by decide +kernel
theorem dX9_testChange_28 : decode cX9_testChange 28 = .ok (.invokespecial 415, 3) := by decide +kernel
theorem dX9_testChange_31 : decode cX9_testChange 31 = .ok (.athrow, 1) := by decide +kernel
theorem dX9_testChange_32 : decode cX9_testChange 32 = .ok (.iload_n 1, 1) := by decide +kernel
theorem dX9_testChange_33 : decode cX9_testChange 33 = .ok (.aload_n 0, 1) := by decide +kernel
theorem dX9_testChange_34 : decode cX9_testChange 34 = .ok (.getfield 12, 3) := by decide +kernel
theorem dX9_testChange_37 : decode cX9_testChange 37 = .ok (.getfield 198, 3) := by decide +kernel
theorem dX9_testChange_40 : decode cX9_testChange 40 = .ok (.if_icmp .lt 24, 3) := by decide +kernel
theorem dX9_testChange_43 : decode cX9_testChange 43 = .ok (.aload_n 0, 1) := by decide +kernel
theorem dX9_testChange_44 : decode cX9_testChange 44 = .ok (.getfield 68, 3) := by decide +kernel
theorem dX9_testChange_47 : decode cX9_testChange 47 = .ok (.iconst 2, 1) := by decide +kernel
theorem dX9_testChange_48 : decode cX9_testChange 48 = .ok (.dup2, 1) := by decide +kernel
theorem dX9_testChange_49 : decode cX9_testChange 49 = .ok (.iaload, 1) := by decide +kernel
theorem dX9_testChange_50 : decode cX9_testChange 50 = .ok (.iconst 1, 1) := by decide +kernel
theorem dX9_testChange_51 : decode cX9_testChange 51 = .ok (.iadd, 1) := by decide +kernel
theorem dX9_testChange_52 : decode cX9_testChange 52 = .ok (.iastore, 1) := by decide +kernel
theorem dX9_testChange_53 : decode cX9_testChange 53 = .ok (.new 420, 3) := by decide +kernel
theorem dX9_testChange_56 : decode cX9_testChange 56 = .ok (.dup, 1) := by decide +kernel
theorem dX9_testChange_57 : decode cX9_testChange 57 = .ok (.ldc_w 422, 3) := by decide +kernel
theorem dX9_testChange_60 : decode cX9_testChange 60 = .ok (.invokespecial 424, 3) := by decide +kernel
theorem dX9_testChange_63 : decode cX9_testChange 63 = .ok (.athrow, 1) := by decide +kernel
theorem dX9_testChange_64 : decode cX9_testChange 64 = .ok (.return_, 1) := by decide +kernel
theorem dX9_testNode_0 : decode cX9_testNode 0 = .ok (.iload_n 1, 1) := by decide +kernel
theorem dX9_testNode_1 : decode cX9_testNode 1 = .ok (.ifCond .lt 9, 3) := by decide +kernel
theorem dX9_testNode_4 : decode cX9_testNode 4 = .ok (.iload_n 1, 1) := by decide +kernel
theorem dX9_testNode_5 : decode cX9_testNode 5 = .ok (.bipush 12, 2) := by decide +kernel
theorem dX9_testNode_7 : decode cX9_testNode 7 = .ok (.if_icmp .lt 24, 3) := by decide +kernel
theorem dX9_testNode_10 : decode cX9_testNode 10 = .ok (.aload_n 0, 1) := by decide +kernel
theorem dX9_testNode_11 : decode cX9_testNode 11 = .ok (.getfield 68, 3) := by decide +kernel
theorem dX9_testNode_14 : decode cX9_testNode 14 = .ok (.iconst 0, 1) := by decide +kernel
theorem dX9_testNode_15 : decode cX9_testNode 15 = .ok (.dup2, 1) := by decide +kernel
theorem dX9_testNode_16 : decode cX9_testNode 16 = .ok (.iaload, 1) := by decide +kernel
theorem dX9_testNode_17 : decode cX9_testNode 17 = .ok (.iconst 1, 1) := by decide +kernel
theorem dX9_testNode_18 : decode cX9_testNode 18 = .ok (.iadd, 1) := by decide +kernel
theorem dX9_testNode_19 : decode cX9_testNode 19 = .ok (.iastore, 1) := by decide +kernel
theorem dX9_testNode_20 : decode cX9_testNode 20 = .ok (.new 406, 3) := by decide +kernel
theorem dX9_testNode_23 : decode cX9_testNode 23 = .ok (.dup, 1) := by decide +kernel
theorem dX9_testNode_24 : decode cX9_testNode 24 = .ok (.ldc_w 408, 3) := by decide +kernel
theorem dX9_testNode_27 : decode cX9_testNode 27 = .ok (.invokespecial 410, 3) := by decide +kernel
theorem dX9_testNode_30 : decode cX9_testNode 30 = .ok (.athrow, 1) := by decide +kernel
theorem dX9_testNode_31 : decode cX9_testNode 31 = .ok (.return_, 1) := by decide +kernel
theorem dX9_find_0 : decode cX9_find 0 = .ok (.aload_n 0, 1) := by decide +kernel
theorem dX9_find_1 : decode cX9_find 1 = .ok (.iload_n 1, 1) := by decide +kernel
theorem dX9_find_2 : decode cX9_find 2 = .ok (.invokevirtual 233, 3) := by decide +kernel
theorem dX9_find_5 : decode cX9_find 5 = .ok (.iload_n 2, 1) := by decide +kernel
theorem dX9_find_6 : decode cX9_find 6 = .ok (.iconst 1, 1) := by decide +kernel
theorem dX9_find_7 : decode cX9_find 7 = .ok (.if_icmp .lt 9, 3) := by decide +kernel
theorem dX9_find_10 : decode cX9_find 10 = .ok (.iload_n 2, 1) := by decide +kernel
theorem dX9_find_11 : decode cX9_find 11 = .ok (.bipush 99, 2) := by decide +kernel
theorem dX9_find_13 : decode cX9_find 13 = .ok (.if_icmp .le 23, 3) := by decide +kernel
theorem dX9_find_16 : decode cX9_find 16 = .ok (.aload_n 0, 1) := by decide +kernel
theorem dX9_find_17 : decode cX9_find 17 = .ok (.getfield 68, 3) := by decide +kernel
theorem dX9_find_20 : decode cX9_find 20 = .ok (.iconst 1, 1) := by decide +kernel
theorem dX9_find_21 : decode cX9_find 21 = .ok (.dup2, 1) := by decide +kernel
theorem dX9_find_22 : decode cX9_find 22 = .ok (.iaload, 1) := by decide +kernel
theorem dX9_find_23 : decode cX9_find 23 = .ok (.iconst 1, 1) := by decide +kernel
theorem dX9_find_24 : decode cX9_find 24 = .ok (.iadd, 1) := by decide +kernel
theorem dX9_find_25 : decode cX9_find 25 = .ok (.iastore, 1) := by decide +kernel
theorem dX9_find_26 : decode cX9_find 26 = .ok (.new 182, 3) := by decide +kernel
theorem dX9_find_29 : decode cX9_find 29 = .ok (.dup, 1) := by decide +kernel
theorem dX9_find_30 : decode cX9_find 30 = .ok (.ldc 245, 2) := by decide +kernel
theorem dX9_find_32 : decode cX9_find 32 = .ok (.invokespecial 186, 3) := by decide +kernel
theorem dX9_find_35 : decode cX9_find 35 = .ok (.athrow, 1) := by decide +kernel
theorem dX9_find_36 : decode cX9_find 36 = .ok (.aload_n 0, 1) := by decide +kernel
theorem dX9_find_37 : decode cX9_find 37 = .ok (.iload_n 3, 1) := by decide +kernel
theorem dX9_find_38 : decode cX9_find 38 = .ok (.invokevirtual 220, 3) := by decide +kernel
theorem dX9_find_41 : decode cX9_find 41 = .ok (.aload_n 0, 1) := by decide +kernel
theorem dX9_find_42 : decode cX9_find 42 = .ok (.getfield 12, 3) := by decide +kernel
theorem dX9_find_45 : decode cX9_find 45 = .ok (.iload_n 3, 1) := by decide +kernel
theorem dX9_find_46 : decode cX9_find 46 = .ok (.iload_n 1, 1) := by decide +kernel
theorem dX9_find_47 : decode cX9_find 47 = .ok (.iload_n 2, 1) := by decide +kernel
theorem dX9_find_48 : decode cX9_find 48 = .ok (.invokestatic 247, 3) := by decide +kernel
theorem dX9_find_51 : decode cX9_find 51 = .ok (.istore 4, 2) := by decide +kernel
theorem dX9_find_53 : decode cX9_find 53 = .ok (.iload 4, 2) := by decide +kernel
theorem dX9_find_55 : decode cX9_find 55 = .ok (.iconst (-1), 1) := by decide +kernel
theorem dX9_find_56 : decode cX9_find 56 = .ok (.if_icmp .ne 7, 3) := by decide +kernel
theorem dX9_find_59 : decode cX9_find 59 = .ok (.iconst (-1), 1) := by decide +kernel
theorem dX9_find_60 : decode cX9_find 60 = .ok (.goto 13, 3) := by decide +kernel
theorem dX9_find_63 : decode cX9_find 63 = .ok (.aload_n 0, 1) := by decide +kernel
theorem dX9_find_64 : decode cX9_find 64 = .ok (.getfield 12, 3) := by decide +kernel
theorem dX9_find_67 : decode cX9_find 67 = .ok (.iload_n 3, 1) := by decide +kernel
theorem dX9_find_68 : decode cX9_find 68 = .ok (.iload 4, 2) := by decide +kernel
theorem dX9_find_70 : decode cX9_find 70 = .ok (.invokestatic 251, 3) := by decide +kernel
theorem dX9_find_73 : decode cX9_find 73 = .ok (.ireturn, 1) := by decide +kernel
theorem dL_node_0 : decode cL_node 0 = .ok (.aload 4, 2) := by decide +kernel
theorem dL_node_2 : decode cL_node 2 = .ok (.iconst 0, 1) := by decide +kernel
theorem dL_node_3 : decode cL_node 3 = .ok (.aload_n 0, 1) := by decide +kernel
theorem dL_node_4 : decode cL_node 4 = .ok (.iload_n 1, 1) := by decide +kernel
theorem dL_node_5 : decode cL_node 5 = .ok (.iload_n 2, 1) := by decide +kernel
theorem dL_node_6 : decode cL_node 6 = .ok (.iload_n 3, 1) := by decide +kernel
theorem dL_node_7 : decode cL_node 7 = .ok (.invokevirtual 30, 3) := by decide +kernel
theorem dL_node_10 : decode cL_node 10 = .ok (.i2l, 1) := by decide +kernel
theorem dL_node_11 : decode cL_node 11 = .ok (.lastore, 1) := by decide +kernel
theorem dL_node_12 : decode cL_node 12 = .ok (.goto 11, 3) := by decide +kernel
theorem dL_node_15 : decode cL_node 15 = .ok (.astore 5, 2) := by decide +kernel
theorem dL_node_17 : decode cL_node 17 = .ok (.iconst 1, 1) := by decide +kernel
theorem dL_node_18 : decode cL_node 18 = .ok (.ireturn, 1) := by decide +kernel
theorem dL_node_19 : decode cL_node 19 = .ok (.astore 5, 2) := by decide +kernel
theorem dL_node_21 : decode cL_node 21 = .ok (.iconst 2, 1) := by decide +kernel
theorem dL_node_22 : decode cL_node 22 = .ok (.ireturn, 1) := by decide +kernel
theorem dL_node_23 : decode cL_node 23 = .ok (.iconst 0, 1) := by decide +kernel
theorem dL_node_24 : decode cL_node 24 = .ok (.ireturn, 1) := by decide +kernel
theorem dL_find_0 : decode cL_find 0 = .ok (.aload 4, 2) := by decide +kernel
theorem dL_find_2 : decode cL_find 2 = .ok (.iconst 0, 1) := by decide +kernel
theorem dL_find_3 : decode cL_find 3 = .ok (.aload_n 0, 1) := by decide +kernel
theorem dL_find_4 : decode cL_find 4 = .ok (.iload_n 1, 1) := by decide +kernel
theorem dL_find_5 : decode cL_find 5 = .ok (.iload_n 2, 1) := by decide +kernel
theorem dL_find_6 : decode cL_find 6 = .ok (.iload_n 3, 1) := by decide +kernel
theorem dL_find_7 : decode cL_find 7 = .ok (.invokevirtual 35, 3) := by decide +kernel
theorem dL_find_10 : decode cL_find 10 = .ok (.i2l, 1) := by decide +kernel
theorem dL_find_11 : decode cL_find 11 = .ok (.lastore, 1) := by decide +kernel
theorem dL_find_12 : decode cL_find 12 = .ok (.goto 11, 3) := by decide +kernel
theorem dL_find_15 : decode cL_find 15 = .ok (.astore 5, 2) := by decide +kernel
theorem dL_find_17 : decode cL_find 17 = .ok (.iconst 1, 1) := by decide +kernel
theorem dL_find_18 : decode cL_find 18 = .ok (.ireturn, 1) := by decide +kernel
theorem dL_find_19 : decode cL_find 19 = .ok (.astore 5, 2) := by decide +kernel
theorem dL_find_21 : decode cL_find 21 = .ok (.iconst 2, 1) := by decide +kernel
theorem dL_find_22 : decode cL_find 22 = .ok (.ireturn, 1) := by decide +kernel
theorem dL_find_23 : decode cL_find 23 = .ok (.iconst 0, 1) := by decide +kernel
theorem dL_find_24 : decode cL_find 24 = .ok (.ireturn, 1) := by decide +kernel
theorem dL_under_0 : decode cL_under 0 = .ok (.aload_n 3, 1) := by decide +kernel
theorem dL_under_1 : decode cL_under 1 = .ok (.iconst 0, 1) := by decide +kernel
theorem dL_under_2 : decode cL_under 2 = .ok (.aload_n 0, 1) := by decide +kernel
theorem dL_under_3 : decode cL_under 3 = .ok (.iload_n 1, 1) := by decide +kernel
theorem dL_under_4 : decode cL_under 4 = .ok (.iload_n 2, 1) := by decide +kernel
theorem dL_under_5 : decode cL_under 5 = .ok (.invokevirtual 50, 3) := by decide +kernel
theorem dL_under_8 : decode cL_under 8 = .ok (.i2l, 1) := by decide +kernel
theorem dL_under_9 : decode cL_under 9 = .ok (.lastore, 1) := by decide +kernel
theorem dL_under_10 : decode cL_under 10 = .ok (.goto 11, 3) := by decide +kernel
theorem dL_under_13 : decode cL_under 13 = .ok (.astore 4, 2) := by decide +kernel
theorem dL_under_15 : decode cL_under 15 = .ok (.iconst 1, 1) := by decide +kernel
theorem dL_under_16 : decode cL_under 16 = .ok (.ireturn, 1) := by decide +kernel
theorem dL_under_17 : decode cL_under 17 = .ok (.astore 4, 2) := by decide +kernel
theorem dL_under_19 : decode cL_under 19 = .ok (.iconst 2, 1) := by decide +kernel
theorem dL_under_20 : decode cL_under 20 = .ok (.ireturn, 1) := by decide +kernel
theorem dL_under_21 : decode cL_under 21 = .ok (.iconst 0, 1) := by decide +kernel
theorem dL_under_22 : decode cL_under 22 = .ok (.ireturn, 1) := by decide +kernel
theorem dL_deep_0 : decode cL_deep 0 = .ok (.aload_n 3, 1) := by decide +kernel
theorem dL_deep_1 : decode cL_deep 1 = .ok (.iconst 0, 1) := by decide +kernel
theorem dL_deep_2 : decode cL_deep 2 = .ok (.aload_n 0, 1) := by decide +kernel
theorem dL_deep_3 : decode cL_deep 3 = .ok (.iload_n 1, 1) := by decide +kernel
theorem dL_deep_4 : decode cL_deep 4 = .ok (.iload_n 2, 1) := by decide +kernel
theorem dL_deep_5 : decode cL_deep 5 = .ok (.invokevirtual 54, 3) := by decide +kernel
theorem dL_deep_8 : decode cL_deep 8 = .ok (.i2l, 1) := by decide +kernel
theorem dL_deep_9 : decode cL_deep 9 = .ok (.lastore, 1) := by decide +kernel
theorem dL_deep_10 : decode cL_deep 10 = .ok (.goto 11, 3) := by decide +kernel
theorem dL_deep_13 : decode cL_deep 13 = .ok (.astore 4, 2) := by decide +kernel
theorem dL_deep_15 : decode cL_deep 15 = .ok (.iconst 1, 1) := by decide +kernel
theorem dL_deep_16 : decode cL_deep 16 = .ok (.ireturn, 1) := by decide +kernel
theorem dL_deep_17 : decode cL_deep 17 = .ok (.astore 4, 2) := by decide +kernel
theorem dL_deep_19 : decode cL_deep 19 = .ok (.iconst 2, 1) := by decide +kernel
theorem dL_deep_20 : decode cL_deep 20 = .ok (.ireturn, 1) := by decide +kernel
theorem dL_deep_21 : decode cL_deep 21 = .ok (.iconst 0, 1) := by decide +kernel
theorem dL_deep_22 : decode cL_deep 22 = .ok (.ireturn, 1) := by decide +kernel
theorem dL_room_0 : decode cL_room 0 = .ok (.aload_n 2, 1) := by decide +kernel
theorem dL_room_1 : decode cL_room 1 = .ok (.iconst 0, 1) := by decide +kernel
theorem dL_room_2 : decode cL_room 2 = .ok (.aload_n 0, 1) := by decide +kernel
theorem dL_room_3 : decode cL_room 3 = .ok (.iload_n 1, 1) := by decide +kernel
theorem dL_room_4 : decode cL_room 4 = .ok (.invokevirtual 77, 3) := by decide +kernel
theorem dL_room_7 : decode cL_room 7 = .ok (.i2l, 1) := by decide +kernel
theorem dL_room_8 : decode cL_room 8 = .ok (.lastore, 1) := by decide +kernel
theorem dL_room_9 : decode cL_room 9 = .ok (.goto 6, 3) := by decide +kernel
theorem dL_room_12 : decode cL_room 12 = .ok (.astore_n 3, 1) := by decide +kernel
theorem dL_room_13 : decode cL_room 13 = .ok (.iconst 1, 1) := by decide +kernel
theorem dL_room_14 : decode cL_room 14 = .ok (.ireturn, 1) := by decide +kernel
theorem dL_room_15 : decode cL_room 15 = .ok (.iconst 0, 1) := by decide +kernel
theorem dL_room_16 : decode cL_room 16 = .ok (.ireturn, 1) := by decide +kernel
theorem dL_span_0 : decode cL_span 0 = .ok (.aload 7, 2) := by decide +kernel
theorem dL_span_2 : decode cL_span 2 = .ok (.iconst 0, 1) := by decide +kernel
theorem dL_span_3 : decode cL_span 3 = .ok (.aload_n 0, 1) := by decide +kernel
theorem dL_span_4 : decode cL_span 4 = .ok (.iload_n 1, 1) := by decide +kernel
theorem dL_span_5 : decode cL_span 5 = .ok (.iload_n 2, 1) := by decide +kernel
theorem dL_span_6 : decode cL_span 6 = .ok (.iload_n 3, 1) := by decide +kernel
theorem dL_span_7 : decode cL_span 7 = .ok (.iload 4, 2) := by decide +kernel
theorem dL_span_9 : decode cL_span 9 = .ok (.iload 5, 2) := by decide +kernel
theorem dL_span_11 : decode cL_span 11 = .ok (.iload 6, 2) := by decide +kernel
theorem dL_span_13 : decode cL_span 13 = .ok (.invokevirtual 90, 3) := by decide +kernel
theorem dL_span_16 : decode cL_span 16 = .ok (.i2l, 1) := by decide +kernel
theorem dL_span_17 : decode cL_span 17 = .ok (.lastore, 1) := by decide +kernel
theorem dL_span_18 : decode cL_span 18 = .ok (.goto 11, 3) := by decide +kernel
theorem dL_span_21 : decode cL_span 21 = .ok (.astore 8, 2) := by decide +kernel
theorem dL_span_23 : decode cL_span 23 = .ok (.iconst 1, 1) := by decide +kernel
theorem dL_span_24 : decode cL_span 24 = .ok (.ireturn, 1) := by decide +kernel
theorem dL_span_25 : decode cL_span 25 = .ok (.astore 8, 2) := by decide +kernel
theorem dL_span_27 : decode cL_span 27 = .ok (.iconst 2, 1) := by decide +kernel
theorem dL_span_28 : decode cL_span 28 = .ok (.ireturn, 1) := by decide +kernel
theorem dL_span_29 : decode cL_span 29 = .ok (.iconst 0, 1) := by decide +kernel
theorem dL_span_30 : decode cL_span 30 = .ok (.ireturn, 1) := by decide +kernel
theorem dL_change_0 : decode cL_change 0 = .ok (.aload_n 3, 1) := by decide +kernel
theorem dL_change_1 : decode cL_change 1 = .ok (.iconst 0, 1) := by decide +kernel
theorem dL_change_2 : decode cL_change 2 = .ok (.aload_n 0, 1) := by decide +kernel
theorem dL_change_3 : decode cL_change 3 = .ok (.iload_n 1, 1) := by decide +kernel
theorem dL_change_4 : decode cL_change 4 = .ok (.iload_n 2, 1) := by decide +kernel
theorem dL_change_5 : decode cL_change 5 = .ok (.invokevirtual 57, 3) := by decide +kernel
theorem dL_change_8 : decode cL_change 8 = .ok (.i2l, 1) := by decide +kernel
theorem dL_change_9 : decode cL_change 9 = .ok (.lastore, 1) := by decide +kernel
theorem dL_change_10 : decode cL_change 10 = .ok (.goto 15, 3) := by decide +kernel
theorem dL_change_13 : decode cL_change 13 = .ok (.astore 4, 2) := by decide +kernel
theorem dL_change_15 : decode cL_change 15 = .ok (.iconst 1, 1) := by decide +kernel
theorem dL_change_16 : decode cL_change 16 = .ok (.ireturn, 1) := by decide +kernel
theorem dL_change_17 : decode cL_change 17 = .ok (.astore 4, 2) := by decide +kernel
theorem dL_change_19 : decode cL_change 19 = .ok (.iconst 2, 1) := by decide +kernel
theorem dL_change_20 : decode cL_change 20 = .ok (.ireturn, 1) := by decide +kernel
theorem dL_change_21 : decode cL_change 21 = .ok (.astore 4, 2) := by decide +kernel
theorem dL_change_23 : decode cL_change 23 = .ok (.iconst 3, 1) := by decide +kernel
theorem dL_change_24 : decode cL_change 24 = .ok (.ireturn, 1) := by decide +kernel
theorem dL_change_25 : decode cL_change 25 = .ok (.iconst 0, 1) := by decide +kernel
theorem dL_change_26 : decode cL_change 26 = .ok (.ireturn, 1) := by decide +kernel
