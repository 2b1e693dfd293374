theorem hp1 {own : String} {E : String} {pc : Nat} (a : Nat × Nat × Nat × Nat) (h : a.2.2.2 ≠ 0) {nm : String} (hl : Cond.classLink own a.2.2.2 nm ∈ TB) (hn : (E, nm) ∈ ncW) : ∀ z ∈ tableOf [a], covers z pc = false ∨ (z.catchType ≠ 0 ∧ ∃ nm : String, Cond.classLink own z.catchType nm ∈ TB ∧ (E, nm) ∈ ncW) := fun z hz => by
  cases List.mem_singleton.mp hz
  exact Or.inr ⟨h, nm, hl, hn⟩
theorem hp2 {own : String} {E : String} {pc : Nat} (a : Nat × Nat × Nat × Nat) (h : a.2.2.2 ≠ 0) {nm : String} (hl : Cond.classLink own a.2.2.2 nm ∈ TB) (hn : (E, nm) ∈ ncW) (b : Nat × Nat × Nat × Nat) (h2 : b.2.2.2 ≠ 0) {nm2 : String} (hl2 : Cond.classLink own b.2.2.2 nm2 ∈ TB) (hn2 : (E, nm2) ∈ ncW) : ∀ z ∈ tableOf [a, b], covers z pc = false ∨ (z.catchType ≠ 0 ∧ ∃ nm : String, Cond.classLink own z.catchType nm ∈ TB ∧ (E, nm) ∈ ncW) := fun z hz => by
  rcases List.mem_cons.mp hz with rfl | hz
  · exact Or.inr ⟨h, nm, hl, hn⟩
  · cases List.mem_singleton.mp hz
    exact Or.inr ⟨h2, nm2, hl2, hn2⟩
theorem kk_X9_182 : Cond.classLink RX9 182 xIA ∈ TB := tb_in 764 (by decide +kernel) rfl
theorem kn_xIA : Cond.initialized xIA ∈ TB := tb_in 115 (by decide +kernel) rfl
theorem kk_X9_411 : Cond.classLink RX9 411 xIO ∈ TB := tb_in 1056 (by decide +kernel) rfl
theorem kn_xIO : Cond.initialized xIO ∈ TB := tb_in 123 (by decide +kernel) rfl
theorem kc_X9_store : Cond.code yX9_store cX9_store 3 (some .int) ∈ TB := tb_in 759 (by decide +kernel) rfl
theorem km_L_7 : Cond.methodLink RL 7 yX9_store ∈ TB := tb_in 756 (by decide +kernel) rfl
theorem ko_L_7 : okC RL 7 yX9_store 1 := ⟨km_L_7, kn_X9, by decide +kernel⟩
theorem ki_X9_store : Cond.instanceMethod yX9_store ∈ TB := tb_in 757 (by decide +kernel) rfl
theorem ks_X9_store : Cond.selects RX9 yX9_store yX9_store ∈ TB := tb_in 758 (by decide +kernel) rfl
theorem kk_L_13 : Cond.classLink RL 13 xIA ∈ TB := tb_in 755 (by decide +kernel) rfl
theorem kc_X9_work : Cond.code yX9_work cX9_work 3 (some .int) ∈ TB := tb_in 959 (by decide +kernel) rfl
theorem km_L_15 : Cond.methodLink RL 15 yX9_work ∈ TB := tb_in 956 (by decide +kernel) rfl
theorem ko_L_15 : okC RL 15 yX9_work 1 := ⟨km_L_15, kn_X9, by decide +kernel⟩
theorem ki_X9_work : Cond.instanceMethod yX9_work ∈ TB := tb_in 957 (by decide +kernel) rfl
theorem ks_X9_work : Cond.selects RX9 yX9_work yX9_work ∈ TB := tb_in 958 (by decide +kernel) rfl
theorem kc_X9_book : Cond.code yX9_book cX9_book 3 (some .int) ∈ TB := tb_in 996 (by decide +kernel) rfl
theorem km_L_18 : Cond.methodLink RL 18 yX9_book ∈ TB := tb_in 993 (by decide +kernel) rfl
theorem ko_L_18 : okC RL 18 yX9_book 1 := ⟨km_L_18, kn_X9, by decide +kernel⟩
theorem ki_X9_book : Cond.instanceMethod yX9_book ∈ TB := tb_in 994 (by decide +kernel) rfl
theorem ks_X9_book : Cond.selects RX9 yX9_book yX9_book ∈ TB := tb_in 995 (by decide +kernel) rfl
theorem kc_X9_told : Cond.code yX9_told cX9_told 2 (some .int) ∈ TB := tb_in 1007 (by decide +kernel) rfl
theorem km_L_21 : Cond.methodLink RL 21 yX9_told ∈ TB := tb_in 1004 (by decide +kernel) rfl
theorem ko_L_21 : okC RL 21 yX9_told 1 := ⟨km_L_21, kn_X9, by decide +kernel⟩
theorem ki_X9_told : Cond.instanceMethod yX9_told ∈ TB := tb_in 1005 (by decide +kernel) rfl
theorem ks_X9_told : Cond.selects RX9 yX9_told yX9_told ∈ TB := tb_in 1006 (by decide +kernel) rfl
theorem kc_X9_peek : Cond.code yX9_peek cX9_peek 4 (some .int) ∈ TB := tb_in 1047 (by decide +kernel) rfl
theorem km_L_24 : Cond.methodLink RL 24 yX9_peek ∈ TB := tb_in 1044 (by decide +kernel) rfl
theorem ko_L_24 : okC RL 24 yX9_peek 3 := ⟨km_L_24, kn_X9, by decide +kernel⟩
theorem ki_X9_peek : Cond.instanceMethod yX9_peek ∈ TB := tb_in 1045 (by decide +kernel) rfl
theorem ks_X9_peek : Cond.selects RX9 yX9_peek yX9_peek ∈ TB := tb_in 1046 (by decide +kernel) rfl
theorem kk_L_28 : Cond.classLink RL 28 xIO ∈ TB := tb_in 1020 (by decide +kernel) rfl
theorem kc_X9_used : Cond.code yX9_used cX9_used 2 (some .int) ∈ TB := tb_in 1121 (by decide +kernel) rfl
theorem km_L_38 : Cond.methodLink RL 38 yX9_used ∈ TB := tb_in 1118 (by decide +kernel) rfl
theorem ko_L_38 : okC RL 38 yX9_used 1 := ⟨km_L_38, kn_X9, by decide +kernel⟩
theorem ki_X9_used : Cond.instanceMethod yX9_used ∈ TB := tb_in 1119 (by decide +kernel) rfl
theorem ks_X9_used : Cond.selects RX9 yX9_used yX9_used ∈ TB := tb_in 1120 (by decide +kernel) rfl
theorem kc_X9_leaks : Cond.code yX9_leaks cX9_leaks 2 (some .int) ∈ TB := tb_in 1131 (by decide +kernel) rfl
theorem km_L_41 : Cond.methodLink RL 41 yX9_leaks ∈ TB := tb_in 1128 (by decide +kernel) rfl
theorem ko_L_41 : okC RL 41 yX9_leaks 1 := ⟨km_L_41, kn_X9, by decide +kernel⟩
theorem ki_X9_leaks : Cond.instanceMethod yX9_leaks ∈ TB := tb_in 1129 (by decide +kernel) rfl
theorem ks_X9_leaks : Cond.selects RX9 yX9_leaks yX9_leaks ∈ TB := tb_in 1130 (by decide +kernel) rfl
theorem kc_X9_lost : Cond.code yX9_lost cX9_lost 2 (some .int) ∈ TB := tb_in 1144 (by decide +kernel) rfl
theorem km_L_44 : Cond.methodLink RL 44 yX9_lost ∈ TB := tb_in 1141 (by decide +kernel) rfl
theorem ko_L_44 : okC RL 44 yX9_lost 1 := ⟨km_L_44, kn_X9, by decide +kernel⟩
theorem ki_X9_lost : Cond.instanceMethod yX9_lost ∈ TB := tb_in 1142 (by decide +kernel) rfl
theorem ks_X9_lost : Cond.selects RX9 yX9_lost yX9_lost ∈ TB := tb_in 1143 (by decide +kernel) rfl
theorem kc_X9_broken : Cond.code yX9_broken cX9_broken 2 (some .int) ∈ TB := tb_in 1152 (by decide +kernel) rfl
theorem km_L_47 : Cond.methodLink RL 47 yX9_broken ∈ TB := tb_in 1149 (by decide +kernel) rfl
theorem ko_L_47 : okC RL 47 yX9_broken 1 := ⟨km_L_47, kn_X9, by decide +kernel⟩
theorem ki_X9_broken : Cond.instanceMethod yX9_broken ∈ TB := tb_in 1150 (by decide +kernel) rfl
theorem ks_X9_broken : Cond.selects RX9 yX9_broken yX9_broken ∈ TB := tb_in 1151 (by decide +kernel) rfl
theorem kc_X9_held : Cond.code yX9_held cX9_held 2 (some .int) ∈ TB := tb_in 1246 (by decide +kernel) rfl
theorem km_L_62 : Cond.methodLink RL 62 yX9_held ∈ TB := tb_in 1243 (by decide +kernel) rfl
theorem ko_L_62 : okC RL 62 yX9_held 1 := ⟨km_L_62, kn_X9, by decide +kernel⟩
theorem ki_X9_held : Cond.instanceMethod yX9_held ∈ TB := tb_in 1244 (by decide +kernel) rfl
theorem ks_X9_held : Cond.selects RX9 yX9_held yX9_held ∈ TB := tb_in 1245 (by decide +kernel) rfl
theorem kc_X9_copy : Cond.code yX9_copy cX9_copy 3 (some .int) ∈ TB := tb_in 1253 (by decide +kernel) rfl
theorem km_L_65 : Cond.methodLink RL 65 yX9_copy ∈ TB := tb_in 1250 (by decide +kernel) rfl
theorem ko_L_65 : okC RL 65 yX9_copy 2 := ⟨km_L_65, kn_X9, by decide +kernel⟩
theorem ki_X9_copy : Cond.instanceMethod yX9_copy ∈ TB := tb_in 1251 (by decide +kernel) rfl
theorem ks_X9_copy : Cond.selects RX9 yX9_copy yX9_copy ∈ TB := tb_in 1252 (by decide +kernel) rfl
theorem kc_X9_waits : Cond.code yX9_waits cX9_waits 2 (some .int) ∈ TB := tb_in 1260 (by decide +kernel) rfl
theorem km_L_68 : Cond.methodLink RL 68 yX9_waits ∈ TB := tb_in 1257 (by decide +kernel) rfl
theorem ko_L_68 : okC RL 68 yX9_waits 1 := ⟨km_L_68, kn_X9, by decide +kernel⟩
theorem ki_X9_waits : Cond.instanceMethod yX9_waits ∈ TB := tb_in 1258 (by decide +kernel) rfl
theorem ks_X9_waits : Cond.selects RX9 yX9_waits yX9_waits ∈ TB := tb_in 1259 (by decide +kernel) rfl
theorem kc_X9_spill : Cond.code yX9_spill cX9_spill 9 (some .int) ∈ TB := tb_in 1267 (by decide +kernel) rfl
theorem km_L_71 : Cond.methodLink RL 71 yX9_spill ∈ TB := tb_in 1264 (by decide +kernel) rfl
theorem ko_L_71 : okC RL 71 yX9_spill 1 := ⟨km_L_71, kn_X9, by decide +kernel⟩
theorem ki_X9_spill : Cond.instanceMethod yX9_spill ∈ TB := tb_in 1265 (by decide +kernel) rfl
theorem ks_X9_spill : Cond.selects RX9 yX9_spill yX9_spill ∈ TB := tb_in 1266 (by decide +kernel) rfl
theorem kc_X9_look : Cond.code yX9_look cX9_look 7 (some .int) ∈ TB := tb_in 1274 (by decide +kernel) rfl
theorem km_L_74 : Cond.methodLink RL 74 yX9_look ∈ TB := tb_in 1271 (by decide +kernel) rfl
theorem ko_L_74 : okC RL 74 yX9_look 1 := ⟨km_L_74, kn_X9, by decide +kernel⟩
theorem ki_X9_look : Cond.instanceMethod yX9_look ∈ TB := tb_in 1272 (by decide +kernel) rfl
theorem ks_X9_look : Cond.selects RX9 yX9_look yX9_look ∈ TB := tb_in 1273 (by decide +kernel) rfl
theorem kc_X9_owner : Cond.code yX9_owner cX9_owner 3 (some .int) ∈ TB := tb_in 1296 (by decide +kernel) rfl
theorem km_L_80 : Cond.methodLink RL 80 yX9_owner ∈ TB := tb_in 1293 (by decide +kernel) rfl
theorem ko_L_80 : okC RL 80 yX9_owner 2 := ⟨km_L_80, kn_X9, by decide +kernel⟩
theorem ki_X9_owner : Cond.instanceMethod yX9_owner ∈ TB := tb_in 1294 (by decide +kernel) rfl
theorem ks_X9_owner : Cond.selects RX9 yX9_owner yX9_owner ∈ TB := tb_in 1295 (by decide +kernel) rfl
theorem kc_X9_unlike : Cond.code yX9_unlike cX9_unlike 4 (some .int) ∈ TB := tb_in 1306 (by decide +kernel) rfl
theorem km_L_83 : Cond.methodLink RL 83 yX9_unlike ∈ TB := tb_in 1303 (by decide +kernel) rfl
theorem ko_L_83 : okC RL 83 yX9_unlike 1 := ⟨km_L_83, kn_X9, by decide +kernel⟩
theorem ki_X9_unlike : Cond.instanceMethod yX9_unlike ∈ TB := tb_in 1304 (by decide +kernel) rfl
theorem ks_X9_unlike : Cond.selects RX9 yX9_unlike yX9_unlike ∈ TB := tb_in 1305 (by decide +kernel) rfl
theorem kc_X9_storm : Cond.code yX9_storm cX9_storm 6 (some .int) ∈ TB := tb_in 1313 (by decide +kernel) rfl
theorem km_L_86 : Cond.methodLink RL 86 yX9_storm ∈ TB := tb_in 1310 (by decide +kernel) rfl
theorem ko_L_86 : okC RL 86 yX9_storm 4 := ⟨km_L_86, kn_X9, by decide +kernel⟩
theorem ki_X9_storm : Cond.instanceMethod yX9_storm ∈ TB := tb_in 1311 (by decide +kernel) rfl
theorem ks_X9_storm : Cond.selects RX9 yX9_storm yX9_storm ∈ TB := tb_in 1312 (by decide +kernel) rfl
def mL_store : MR := (yL_store, cL_store, 4, (some .int), [(0, 9, 12, 13)])
def mL_work : MR := (yL_work, cL_work, 4, (some .int), [(0, 9, 12, 13)])
def mL_book : MR := (yL_book, cL_book, 4, (some .int), [(0, 9, 12, 13)])
def mL_told : MR := (yL_told, cL_told, 4, (some .int), [(0, 9, 12, 13)])
def mL_peek : MR := (yL_peek, cL_peek, 6, (some .int), [(0, 12, 15, 13), (0, 12, 19, 28)])
def mL_used : MR := (yL_used, cL_used, 4, (some .int), [(0, 9, 12, 13)])
def mL_leaks : MR := (yL_leaks, cL_leaks, 4, (some .int), [(0, 9, 12, 13)])
def mL_lost : MR := (yL_lost, cL_lost, 4, (some .int), [(0, 9, 12, 13)])
def mL_broken : MR := (yL_broken, cL_broken, 4, (some .int), [(0, 9, 12, 13)])
def mL_held : MR := (yL_held, cL_held, 4, (some .int), [(0, 9, 12, 28)])
def mL_copy : MR := (yL_copy, cL_copy, 5, (some .int), [(0, 10, 13, 28)])
def mL_waits : MR := (yL_waits, cL_waits, 4, (some .int), [(0, 9, 12, 28)])
def mL_spill : MR := (yL_spill, cL_spill, 4, (some .int), [(0, 9, 12, 13)])
def mL_look : MR := (yL_look, cL_look, 4, (some .int), [(0, 9, 12, 13)])
def mL_owner : MR := (yL_owner, cL_owner, 5, (some .int), [(0, 10, 13, 13), (0, 10, 17, 28)])
def mL_unlike : MR := (yL_unlike, cL_unlike, 4, (some .int), [(0, 9, 12, 28)])
def mL_storm : MR := (yL_storm, cL_storm, 7, (some .int), [(0, 14, 17, 13)])
theorem dX3_isSpelled_0 : decode cX3_isSpelled 0 = .ok (.aload_n 0, 1) := by decide +kernel
theorem dX3_isSpelled_1 : decode cX3_isSpelled 1 = .ok (.getfield 48, 3) := by decide +kernel
theorem dX3_isSpelled_4 : decode cX3_isSpelled 4 = .ok (.iload_n 2, 1) := by decide +kernel
theorem dX3_isSpelled_5 : decode cX3_isSpelled 5 = .ok (.isub, 1) := by decide +kernel
theorem dX3_isSpelled_6 : decode cX3_isSpelled 6 = .ok (.iconst 5, 1) := by decide +kernel
theorem dX3_isSpelled_7 : decode cX3_isSpelled 7 = .ok (.if_icmp .le 5, 3) := by decide +kernel
theorem dX3_isSpelled_10 : decode cX3_isSpelled 10 = .ok (.iconst 0, 1) := by decide +kernel
theorem dX3_isSpelled_11 : decode cX3_isSpelled 11 = .ok (.ireturn, 1) := by decide +kernel
theorem dX3_isSpelled_12 : decode cX3_isSpelled 12 = .ok (.iconst 0, 1) := by decide +kernel
theorem dX3_isSpelled_13 : decode cX3_isSpelled 13 = .ok (.istore_n 3, 1) := by decide +kernel
theorem dX3_isSpelled_14 : decode cX3_isSpelled 14 = .ok (.iload_n 3, 1) := by decide +kernel
theorem dX3_isSpelled_15 : decode cX3_isSpelled 15 = .ok (.iconst 5, 1) := by decide +kernel
theorem dX3_isSpelled_16 : decode cX3_isSpelled 16 = .ok (.if_icmp .ge 51, 3) := by decide +kernel
theorem dX3_isSpelled_19 : decode cX3_isSpelled 19 = .ok (.iload_n 2, 1) := by decide +kernel
theorem dX3_isSpelled_20 : decode cX3_isSpelled 20 = .ok (.iload_n 3, 1) := by decide +kernel
theorem dX3_isSpelled_21 : decode cX3_isSpelled 21 = .ok (.iadd, 1) := by decide +kernel
theorem dX3_isSpelled_22 : decode cX3_isSpelled 22 = .ok (.aload_n 0, 1) := by decide +kernel
theorem dX3_isSpelled_23 : decode cX3_isSpelled 23 = .ok (.getfield 48, 3) := by decide +kernel
theorem dX3_isSpelled_26 : decode cX3_isSpelled 26 = .ok (.if_icmp .ge 14, 3) := by decide +kernel
theorem dX3_isSpelled_29 : decode cX3_isSpelled 29 = .ok (.aload_n 0, 1) := by decide +kernel
theorem dX3_isSpelled_30 : decode cX3_isSpelled 30 = .ok (.getfield 22, 3) := by decide +kernel
theorem dX3_isSpelled_33 : decode cX3_isSpelled 33 = .ok (.iload_n 2, 1) := by decide +kernel
theorem dX3_isSpelled_34 : decode cX3_isSpelled 34 = .ok (.iload_n 3, 1) := by decide +kernel
theorem dX3_isSpelled_35 : decode cX3_isSpelled 35 = .ok (.iadd, 1) := by decide +kernel
theorem dX3_isSpelled_36 : decode cX3_isSpelled 36 = .ok (.baload, 1) := by decide +kernel
theorem dX3_isSpelled_37 : decode cX3_isSpelled 37 = .ok (.goto 5, 3) := by decide +kernel
theorem dX3_isSpelled_40 : decode cX3_isSpelled 40 = .ok (.bipush 32, 2) := by decide +kernel
theorem dX3_isSpelled_42 : decode cX3_isSpelled 42 = .ok (.istore 4, 2) := by decide +kernel
theorem dX3_isSpelled_44 : decode cX3_isSpelled 44 = .ok (.ldc 108, 2) := by decide +kernel
theorem dX3_isSpelled_46 : decode cX3_isSpelled 46 = .ok (.iload_n 1, 1) := by decide +kernel
theorem dX3_isSpelled_47 : decode cX3_isSpelled 47 = .ok (.iconst 5, 1) := by decide +kernel
theorem dX3_isSpelled_48 : decode cX3_isSpelled 48 = .ok (.imul, 1) := by decide +kernel
theorem dX3_isSpelled_49 : decode cX3_isSpelled 49 = .ok (.iload_n 3, 1) := by decide +kernel
theorem dX3_isSpelled_50 : decode cX3_isSpelled 50 = .ok (.iadd, 1) := by decide +kernel
theorem dX3_isSpelled_51 : decode cX3_isSpelled 51 = .ok (.invokevirtual 110, 3) := by decide +kernel
theorem dX3_isSpelled_54 : decode cX3_isSpelled 54 = .ok (.iload 4, 2) := by decide +kernel
theorem dX3_isSpelled_56 : decode cX3_isSpelled 56 = .ok (.if_icmp .eq 5, 3) := by decide +kernel
theorem dX3_isSpelled_59 : decode cX3_isSpelled 59 = .ok (.iconst 0, 1) := by decide +kernel
theorem dX3_isSpelled_60 : decode cX3_isSpelled 60 = .ok (.ireturn, 1) := by decide +kernel
theorem dX3_isSpelled_61 : decode cX3_isSpelled 61 = .ok (.iinc 3 1, 3) := by decide +kernel
theorem dX3_isSpelled_64 : decode cX3_isSpelled 64 = .ok (.goto (-50), 3) := by decide +kernel
theorem dX3_isSpelled_67 : decode cX3_isSpelled 67 = .ok (.iconst 1, 1) := by decide +kernel
theorem dX3_isSpelled_68 : decode cX3_isSpelled 68 = .ok (.ireturn, 1) := by decide +kernel
theorem dX9_testLength_0 : decode cX9_testLength 0 = .ok (.iload_n 1, 1) := by decide +kernel
theorem dX9_testLength_1 : decode cX9_testLength 1 = .ok (.ifCond .lt 16, 3) := by decide +kernel
theorem dX9_testLength_4 : decode cX9_testLength 4 = .ok (.iload_n 1, 1) := by decide +kernel
theorem dX9_testLength_5 : decode cX9_testLength 5 = .ok (.aload_n 0, 1) := by decide +kernel
theorem dX9_testLength_6 : decode cX9_testLength 6 = .ok (.getfield 78, 3) := by decide +kernel
theorem dX9_testLength_9 : decode cX9_testLength 9 = .ok (.if_icmp .gt 8, 3) := by decide +kernel
theorem dX9_testLength_12 : decode cX9_testLength 12 = .ok (.iload_n 1, 1) := by decide +kernel
theorem dX9_testLength_13 : decode cX9_testLength 13 = .ok (.iload_n 2, 1) := by decide +kernel
theorem dX9_testLength_14 : decode cX9_testLength 14 = .ok (.if_icmp .le 23, 3) := by decide +kernel
theorem dX9_testLength_17 : decode cX9_testLength 17 = .ok (.aload_n 0, 1) := by decide +kernel
theorem dX9_testLength_18 : decode cX9_testLength 18 = .ok (.getfield 68, 3) := by decide +kernel
theorem dX9_testLength_21 : decode cX9_testLength 21 = .ok (.iconst 1, 1) := by decide +kernel
theorem dX9_testLength_22 : decode cX9_testLength 22 = .ok (.dup2, 1) := by decide +kernel
theorem dX9_testLength_23 : decode cX9_testLength 23 = .ok (.iaload, 1) := by decide +kernel
theorem dX9_testLength_24 : decode cX9_testLength 24 = .ok (.iconst 1, 1) := by decide +kernel
theorem dX9_testLength_25 : decode cX9_testLength 25 = .ok (.iadd, 1) := by decide +kernel
theorem dX9_testLength_26 : decode cX9_testLength 26 = .ok (.iastore, 1) := by decide +kernel
theorem dX9_testLength_27 : decode cX9_testLength 27 = .ok (.new 182, 3) := by decide +kernel
theorem dX9_testLength_30 : decode cX9_testLength 30 = .ok (.dup, 1) := by decide +kernel
theorem dX9_testLength_31 : decode cX9_testLength 31 = .ok (.ldc 184, 2) := by decide +kernel
theorem dX9_testLength_33 : decode cX9_testLength 33 = .ok (.invokespecial 186, 3) := by decide +kernel
theorem dX9_testLength_36 : decode cX9_testLength 36 = .ok (.athrow, 1) := by decide +kernel
theorem dX9_testLength_37 : decode cX9_testLength 37 = .ok (.return_, 1) := by decide +kernel
theorem dX9_testRange_0 : decode cX9_testRange 0 = .ok (.iload_n 1, 1) := by decide +kernel
theorem dX9_testRange_1 : decode cX9_testRange 1 = .ok (.iload_n 2, 1) := by decide +kernel
theorem dX9_testRange_2 : decode cX9_testRange 2 = .ok (.if_icmp .lt 8, 3) := by decide +kernel
theorem dX9_testRange_5 : decode cX9_testRange 5 = .ok (.iload_n 1, 1) := by decide +kernel
theorem dX9_testRange_6 : decode cX9_testRange 6 = .ok (.iload_n 3, 1) := by decide +kernel
theorem dX9_testRange_7 : decode cX9_testRange 7 = .ok (.if_icmp .le 24, 3) := by decide +kernel
theorem dX9_testRange_10 : decode cX9_testRange 10 = .ok (.aload_n 0, 1) := by decide +kernel
theorem dX9_testRange_11 : decode cX9_testRange 11 = .ok (.getfield 68, 3) := by decide +kernel
theorem dX9_testRange_14 : decode cX9_testRange 14 = .ok (.iconst 1, 1) := by decide +kernel
theorem dX9_testRange_15 : decode cX9_testRange 15 = .ok (.dup2, 1) := by decide +kernel
theorem dX9_testRange_16 : decode cX9_testRange 16 = .ok (.iaload, 1) := by decide +kernel
theorem dX9_testRange_17 : decode cX9_testRange 17 = .ok (.iconst 1, 1) := by decide +kernel
theorem dX9_testRange_18 : decode cX9_testRange 18 = .ok (.iadd, 1) := by decide +kernel
theorem dX9_testRange_19 : decode cX9_testRange 19 = .ok (.iastore, 1) := by decide +kernel
theorem dX9_testRange_20 : decode cX9_testRange 20 = .ok (.new 182, 3) := by decide +kernel
theorem dX9_testRange_23 : decode cX9_testRange 23 = .ok (.dup, 1) := by decide +kernel
theorem dX9_testRange_24 : decode cX9_testRange 24 = .ok (.ldc_w 404, 3) := by decide +kernel
theorem dX9_testRange_27 : decode cX9_testRange 27 = .ok (.invokespecial 186, 3) := by decide +kernel
theorem dX9_testRange_30 : decode cX9_testRange 30 = .ok (.athrow, 1) := by decide +kernel
theorem dX9_testRange_31 : decode cX9_testRange 31 = .ok (.return_, 1) := by decide +kernel
theorem dX9_testBlock_0 : decode cX9_testBlock 0 = .ok (.iload_n 1, 1) := by decide +kernel
theorem dX9_testBlock_1 : decode cX9_testBlock 1 = .ok (.ifCond .lt 14, 3) := by decide +kernel
theorem dX9_testBlock_4 : decode cX9_testBlock 4 = .ok (.iload_n 1, 1) := by decide +kernel
theorem dX9_testBlock_5 : decode cX9_testBlock 5 = .ok (.aload_n 0, 1) := by decide +kernel
theorem dX9_testBlock_6 : decode cX9_testBlock 6 = .ok (.getfield 12, 3) := by decide +kernel
theorem dX9_testBlock_9 : decode cX9_testBlock 9 = .ok (.getfield 113, 3) := by decide +kernel
theorem dX9_testBlock_12 : decode cX9_testBlock 12 = .ok (.if_icmp .lt 24, 3) := by decide +kernel
theorem dX9_testBlock_15 : decode cX9_testBlock 15 = .ok (.aload_n 0, 1) := by decide +kernel
theorem dX9_testBlock_16 : decode cX9_testBlock 16 = .ok (.getfield 68, 3) := by decide +kernel
theorem dX9_testBlock_19 : decode cX9_testBlock 19 = .ok (.iconst 3, 1) := by decide +kernel
theorem dX9_testBlock_20 : decode cX9_testBlock 20 = .ok (.dup2, 1) := by decide +kernel
theorem dX9_testBlock_21 : decode cX9_testBlock 21 = .ok (.iaload, 1) := by decide +kernel
theorem dX9_testBlock_22 : decode cX9_testBlock 22 = .ok (.iconst 1, 1) := by decide +kernel
theorem dX9_testBlock_23 : decode cX9_testBlock 23 = .ok (.iadd, 1) := by decide +kernel
theorem dX9_testBlock_24 : decode cX9_testBlock 24 = .ok (.iastore, 1) := by decide +kernel
theorem dX9_testBlock_25 : decode cX9_testBlock 25 = .ok (.new 411, 3) := by decide +kernel
theorem dX9_testBlock_28 : decode cX9_testBlock 28 = .ok (.dup, 1) := by decide +kernel
theorem dX9_testBlock_29 : decode cX9_testBlock 29 = .ok (.ldc_w 413, 3) := by decide +kernel
theorem dX9_testBlock_32 : decode cX9_testBlock 32 = .ok (.invokespecial 415, 3) := by decide +kernel
theorem dX9_testBlock_35 : decode cX9_testBlock 35 = .ok (.athrow, 1) := by decide +kernel
theorem dX9_testBlock_36 : decode cX9_testBlock 36 = .ok (.return_, 1) := by decide +kernel
theorem dX9_testPlace_0 : decode cX9_testPlace 0 = .ok (.iload_n 1, 1) := by decide +kernel
theorem dX9_testPlace_1 : decode cX9_testPlace 1 = .ok (.ifCond .lt 9, 3) := by decide +kernel
theorem dX9_testPlace_4 : decode cX9_testPlace 4 = .ok (.iload_n 1, 1) := by decide +kernel
theorem dX9_testPlace_5 : decode cX9_testPlace 5 = .ok (.bipush 16, 2) := by decide +kernel
theorem dX9_testPlace_7 : decode cX9_testPlace 7 = .ok (.if_icmp .lt 24, 3) := by decide +kernel
theorem dX9_testPlace_10 : decode cX9_testPlace 10 = .ok (.aload_n 0, 1) := by decide +kernel
theorem dX9_testPlace_11 : decode cX9_testPlace 11 = .ok (.getfield 68, 3) := by decide +kernel
theorem dX9_testPlace_14 : decode cX9_testPlace 14 = .ok (.iconst 3, 1) := by decide +kernel
theorem dX9_testPlace_15 : decode cX9_testPlace 15 = .ok (.dup2, 1) := by decide +kernel
theorem dX9_testPlace_16 : decode cX9_testPlace 16 = .ok (.iaload, 1) := by decide +kernel
theorem dX9_testPlace_17 : decode cX9_testPlace 17 = .ok (.iconst 1, 1) := by decide +kernel
theorem dX9_testPlace_18 : decode cX9_testPlace 18 = .ok (.iadd, 1) := by decide +kernel
theorem dX9_testPlace_19 : decode cX9_testPlace 19 = .ok (.iastore, 1) := by decide +kernel
theorem dX9_testPlace_20 : decode cX9_testPlace 20 = .ok (.new 411, 3) := by decide +kernel
theorem dX9_testPlace_23 : decode cX9_testPlace 23 = .ok (.dup, 1) := by decide +kernel
theorem dX9_testPlace_24 : decode cX9_testPlace 24 = .ok (.ldc_w 416, 3) := by decide +kernel
theorem dX9_testPlace_27 : decode cX9_testPlace 27 = .ok (.invokespecial 415, 3) := by decide +kernel
theorem dX9_testPlace_30 : decode cX9_testPlace 30 = .ok (.athrow, 1) := by decide +kernel
theorem dX9_testPlace_31 : decode cX9_testPlace 31 = .ok (.return_, 1) := by decide +kernel
theorem dL_store_0 : decode cL_store 0 = .ok (.aload_n 2, 1) := by decide +kernel
theorem dL_store_1 : decode cL_store 1 = .ok (.iconst 0, 1) := by decide +kernel
theorem dL_store_2 : decode cL_store 2 = .ok (.aload_n 0, 1) := by decide +kernel
theorem dL_store_3 : decode cL_store 3 = .ok (.iload_n 1, 1) := by decide +kernel
theorem dL_store_4 : decode cL_store 4 = .ok (.invokevirtual 7, 3) := by decide +kernel
theorem dL_store_7 : decode cL_store 7 = .ok (.i2l, 1) := by decide +kernel
theorem dL_store_8 : decode cL_store 8 = .ok (.lastore, 1) := by decide +kernel
theorem dL_store_9 : decode cL_store 9 = .ok (.goto 6, 3) := by decide +kernel
theorem dL_store_12 : decode cL_store 12 = .ok (.astore_n 3, 1) := by decide +kernel
theorem dL_store_13 : decode cL_store 13 = .ok (.iconst 1, 1) := by decide +kernel
theorem dL_store_14 : decode cL_store 14 = .ok (.ireturn, 1) := by decide +kernel
theorem dL_store_15 : decode cL_store 15 = .ok (.iconst 0, 1) := by decide +kernel
theorem dL_store_16 : decode cL_store 16 = .ok (.ireturn, 1) := by decide +kernel
theorem dL_work_0 : decode cL_work 0 = .ok (.aload_n 2, 1) := by decide +kernel
theorem dL_work_1 : decode cL_work 1 = .ok (.iconst 0, 1) := by decide +kernel
theorem dL_work_2 : decode cL_work 2 = .ok (.aload_n 0, 1) := by decide +kernel
theorem dL_work_3 : decode cL_work 3 = .ok (.iload_n 1, 1) := by decide +kernel
theorem dL_work_4 : decode cL_work 4 = .ok (.invokevirtual 15, 3) := by decide +kernel
theorem dL_work_7 : decode cL_work 7 = .ok (.i2l, 1) := by decide +kernel
theorem dL_work_8 : decode cL_work 8 = .ok (.lastore, 1) := by decide +kernel
theorem dL_work_9 : decode cL_work 9 = .ok (.goto 6, 3) := by decide +kernel
theorem dL_work_12 : decode cL_work 12 = .ok (.astore_n 3, 1) := by decide +kernel
theorem dL_work_13 : decode cL_work 13 = .ok (.iconst 1, 1) := by decide +kernel
theorem dL_work_14 : decode cL_work 14 = .ok (.ireturn, 1) := by decide +kernel
theorem dL_work_15 : decode cL_work 15 = .ok (.iconst 0, 1) := by decide +kernel
theorem dL_work_16 : decode cL_work 16 = .ok (.ireturn, 1) := by decide +kernel
theorem dL_book_0 : decode cL_book 0 = .ok (.aload_n 2, 1) := by decide +kernel
theorem dL_book_1 : decode cL_book 1 = .ok (.iconst 0, 1) := by decide +kernel
theorem dL_book_2 : decode cL_book 2 = .ok (.aload_n 0, 1) := by decide +kernel
theorem dL_book_3 : decode cL_book 3 = .ok (.iload_n 1, 1) := by decide +kernel
theorem dL_book_4 : decode cL_book 4 = .ok (.invokevirtual 18, 3) := by decide +kernel
theorem dL_book_7 : decode cL_book 7 = .ok (.i2l, 1) := by decide +kernel
theorem dL_book_8 : decode cL_book 8 = .ok (.lastore, 1) := by decide +kernel
theorem dL_book_9 : decode cL_book 9 = .ok (.goto 6, 3) := by decide +kernel
theorem dL_book_12 : decode cL_book 12 = .ok (.astore_n 3, 1) := by decide +kernel
theorem dL_book_13 : decode cL_book 13 = .ok (.iconst 1, 1) := by decide +kernel
theorem dL_book_14 : decode cL_book 14 = .ok (.ireturn, 1) := by decide +kernel
theorem dL_book_15 : decode cL_book 15 = .ok (.iconst 0, 1) := by decide +kernel
theorem dL_book_16 : decode cL_book 16 = .ok (.ireturn, 1) := by decide +kernel
theorem dL_told_0 : decode cL_told 0 = .ok (.aload_n 2, 1) := by decide +kernel
theorem dL_told_1 : decode cL_told 1 = .ok (.iconst 0, 1) := by decide +kernel
theorem dL_told_2 : decode cL_told 2 = .ok (.aload_n 0, 1) := by decide +kernel
theorem dL_told_3 : decode cL_told 3 = .ok (.iload_n 1, 1) := by decide +kernel
theorem dL_told_4 : decode cL_told 4 = .ok (.invokevirtual 21, 3) := by decide +kernel
theorem dL_told_7 : decode cL_told 7 = .ok (.i2l, 1) := by decide +kernel
theorem dL_told_8 : decode cL_told 8 = .ok (.lastore, 1) := by decide +kernel
theorem dL_told_9 : decode cL_told 9 = .ok (.goto 6, 3) := by decide +kernel
theorem dL_told_12 : decode cL_told 12 = .ok (.astore_n 3, 1) := by decide +kernel
theorem dL_told_13 : decode cL_told 13 = .ok (.iconst 1, 1) := by decide +kernel
theorem dL_told_14 : decode cL_told 14 = .ok (.ireturn, 1) := by decide +kernel
theorem dL_told_15 : decode cL_told 15 = .ok (.iconst 0, 1) := by decide +kernel
theorem dL_told_16 : decode cL_told 16 = .ok (.ireturn, 1) := by decide +kernel
theorem dL_peek_0 : decode cL_peek 0 = .ok (.aload 4, 2) := by decide +kernel
theorem dL_peek_2 : decode cL_peek 2 = .ok (.iconst 0, 1) := by decide +kernel
theorem dL_peek_3 : decode cL_peek 3 = .ok (.aload_n 0, 1) := by decide +kernel
theorem dL_peek_4 : decode cL_peek 4 = .ok (.iload_n 1, 1) := by decide +kernel
theorem dL_peek_5 : decode cL_peek 5 = .ok (.iload_n 2, 1) := by decide +kernel
theorem dL_peek_6 : decode cL_peek 6 = .ok (.iload_n 3, 1) := by decide +kernel
theorem dL_peek_7 : decode cL_peek 7 = .ok (.invokevirtual 24, 3) := by decide +kernel
theorem dL_peek_10 : decode cL_peek 10 = .ok (.i2l, 1) := by decide +kernel
theorem dL_peek_11 : decode cL_peek 11 = .ok (.lastore, 1) := by decide +kernel
theorem dL_peek_12 : decode cL_peek 12 = .ok (.goto 11, 3) := by decide +kernel
theorem dL_peek_15 : decode cL_peek 15 = .ok (.astore 5, 2) := by decide +kernel
theorem dL_peek_17 : decode cL_peek 17 = .ok (.iconst 1, 1) := by decide +kernel
theorem dL_peek_18 : decode cL_peek 18 = .ok (.ireturn, 1) := by decide +kernel
theorem dL_peek_19 : decode cL_peek 19 = .ok (.astore 5, 2) := by decide +kernel
theorem dL_peek_21 : decode cL_peek 21 = .ok (.iconst 2, 1) := by decide +kernel
theorem dL_peek_22 : decode cL_peek 22 = .ok (.ireturn, 1) := by decide +kernel
theorem dL_peek_23 : decode cL_peek 23 = .ok (.iconst 0, 1) := by decide +kernel
theorem dL_peek_24 : decode cL_peek 24 = .ok (.ireturn, 1) := by decide +kernel
theorem dL_used_0 : decode cL_used 0 = .ok (.aload_n 2, 1) := by decide +kernel
theorem dL_used_1 : decode cL_used 1 = .ok (.iconst 0, 1) := by decide +kernel
theorem dL_used_2 : decode cL_used 2 = .ok (.aload_n 0, 1) := by decide +kernel
theorem dL_used_3 : decode cL_used 3 = .ok (.iload_n 1, 1) := by decide +kernel
theorem dL_used_4 : decode cL_used 4 = .ok (.invokevirtual 38, 3) := by decide +kernel
theorem dL_used_7 : decode cL_used 7 = .ok (.i2l, 1) := by decide +kernel
theorem dL_used_8 : decode cL_used 8 = .ok (.lastore, 1) := by decide +kernel
theorem dL_used_9 : decode cL_used 9 = .ok (.goto 6, 3) := by decide +kernel
theorem dL_used_12 : decode cL_used 12 = .ok (.astore_n 3, 1) := by decide +kernel
theorem dL_used_13 : decode cL_used 13 = .ok (.iconst 1, 1) := by decide +kernel
theorem dL_used_14 : decode cL_used 14 = .ok (.ireturn, 1) := by decide +kernel
theorem dL_used_15 : decode cL_used 15 = .ok (.iconst 0, 1) := by decide +kernel
theorem dL_used_16 : decode cL_used 16 = .ok (.ireturn, 1) := by decide +kernel
theorem dL_leaks_0 : decode cL_leaks 0 = .ok (.aload_n 2, 1) := by decide +kernel
theorem dL_leaks_1 : decode cL_leaks 1 = .ok (.iconst 0, 1) := by decide +kernel
theorem dL_leaks_2 : decode cL_leaks 2 = .ok (.aload_n 0, 1) := by decide +kernel
theorem dL_leaks_3 : decode cL_leaks 3 = .ok (.iload_n 1, 1) := by decide +kernel
theorem dL_leaks_4 : decode cL_leaks 4 = .ok (.invokevirtual 41, 3) := by decide +kernel
theorem dL_leaks_7 : decode cL_leaks 7 = .ok (.i2l, 1) := by decide +kernel
theorem dL_leaks_8 : decode cL_leaks 8 = .ok (.lastore, 1) := by decide +kernel
theorem dL_leaks_9 : decode cL_leaks 9 = .ok (.goto 6, 3) := by decide +kernel
theorem dL_leaks_12 : decode cL_leaks 12 = .ok (.astore_n 3, 1) := by decide +kernel
theorem dL_leaks_13 : decode cL_leaks 13 = .ok (.iconst 1, 1) := by decide +kernel
theorem dL_leaks_14 : decode cL_leaks 14 = .ok (.ireturn, 1) := by decide +kernel
theorem dL_leaks_15 : decode cL_leaks 15 = .ok (.iconst 0, 1) := by decide +kernel
theorem dL_leaks_16 : decode cL_leaks 16 = .ok (.ireturn, 1) := by decide +kernel
theorem dL_lost_0 : decode cL_lost 0 = .ok (.aload_n 2, 1) := by decide +kernel
theorem dL_lost_1 : decode cL_lost 1 = .ok (.iconst 0, 1) := by decide +kernel
theorem dL_lost_2 : decode cL_lost 2 = .ok (.aload_n 0, 1) := by decide +kernel
theorem dL_lost_3 : decode cL_lost 3 = .ok (.iload_n 1, 1) := by decide +kernel
theorem dL_lost_4 : decode cL_lost 4 = .ok (.invokevirtual 44, 3) := by decide +kernel
theorem dL_lost_7 : decode cL_lost 7 = .ok (.i2l, 1) := by decide +kernel
theorem dL_lost_8 : decode cL_lost 8 = .ok (.lastore, 1) := by decide +kernel
theorem dL_lost_9 : decode cL_lost 9 = .ok (.goto 6, 3) := by decide +kernel
theorem dL_lost_12 : decode cL_lost 12 = .ok (.astore_n 3, 1) := by decide +kernel
theorem dL_lost_13 : decode cL_lost 13 = .ok (.iconst 1, 1) := by decide +kernel
theorem dL_lost_14 : decode cL_lost 14 = .ok (.ireturn, 1) := by decide +kernel
theorem dL_lost_15 : decode cL_lost 15 = .ok (.iconst 0, 1) := by decide +kernel
theorem dL_lost_16 : decode cL_lost 16 = .ok (.ireturn, 1) := by decide +kernel
theorem dL_broken_0 : decode cL_broken 0 = .ok (.aload_n 2, 1) := by decide +kernel
theorem dL_broken_1 : decode cL_broken 1 = .ok (.iconst 0, 1) := by decide +kernel
theorem dL_broken_2 : decode cL_broken 2 = .ok (.aload_n 0, 1) := by decide +kernel
theorem dL_broken_3 : decode cL_broken 3 = .ok (.iload_n 1, 1) := by decide +kernel
theorem dL_broken_4 : decode cL_broken 4 = .ok (.invokevirtual 47, 3) := by decide +kernel
theorem dL_broken_7 : decode cL_broken 7 = .ok (.i2l, 1) := by decide +kernel
theorem dL_broken_8 : decode cL_broken 8 = .ok (.lastore, 1) := by decide +kernel
theorem dL_broken_9 : decode cL_broken 9 = .ok (.goto 6, 3) := by decide +kernel
theorem dL_broken_12 : decode cL_broken 12 = .ok (.astore_n 3, 1) := by decide +kernel
theorem dL_broken_13 : decode cL_broken 13 = .ok (.iconst 1, 1) := by decide +kernel
theorem dL_broken_14 : decode cL_broken 14 = .ok (.ireturn, 1) := by decide +kernel
theorem dL_broken_15 : decode cL_broken 15 = .ok (.iconst 0, 1) := by decide +kernel
theorem dL_broken_16 : decode cL_broken 16 = .ok (.ireturn, 1) := by decide +kernel
theorem dL_held_0 : decode cL_held 0 = .ok (.aload_n 2, 1) := by decide +kernel
theorem dL_held_1 : decode cL_held 1 = .ok (.iconst 0, 1) := by decide +kernel
theorem dL_held_2 : decode cL_held 2 = .ok (.aload_n 0, 1) := by decide +kernel
theorem dL_held_3 : decode cL_held 3 = .ok (.iload_n 1, 1) := by decide +kernel
theorem dL_held_4 : decode cL_held 4 = .ok (.invokevirtual 62, 3) := by decide +kernel
theorem dL_held_7 : decode cL_held 7 = .ok (.i2l, 1) := by decide +kernel
theorem dL_held_8 : decode cL_held 8 = .ok (.lastore, 1) := by decide +kernel
theorem dL_held_9 : decode cL_held 9 = .ok (.goto 6, 3) := by decide +kernel
theorem dL_held_12 : decode cL_held 12 = .ok (.astore_n 3, 1) := by decide +kernel
theorem dL_held_13 : decode cL_held 13 = .ok (.iconst 1, 1) := by decide +kernel
theorem dL_held_14 : decode cL_held 14 = .ok (.ireturn, 1) := by decide +kernel
theorem dL_held_15 : decode cL_held 15 = .ok (.iconst 0, 1) := by decide +kernel
theorem dL_held_16 : decode cL_held 16 = .ok (.ireturn, 1) := by decide +kernel
theorem dL_copy_0 : decode cL_copy 0 = .ok (.aload_n 3, 1) := by decide +kernel
theorem dL_copy_1 : decode cL_copy 1 = .ok (.iconst 0, 1) := by decide +kernel
theorem dL_copy_2 : decode cL_copy 2 = .ok (.aload_n 0, 1) := by decide +kernel
theorem dL_copy_3 : decode cL_copy 3 = .ok (.iload_n 1, 1) := by decide +kernel
theorem dL_copy_4 : decode cL_copy 4 = .ok (.iload_n 2, 1) := by decide +kernel
theorem dL_copy_5 : decode cL_copy 5 = .ok (.invokevirtual 65, 3) := by decide +kernel
theorem dL_copy_8 : decode cL_copy 8 = .ok (.i2l, 1) := by decide +kernel
theorem dL_copy_9 : decode cL_copy 9 = .ok (.lastore, 1) := by decide +kernel
theorem dL_copy_10 : decode cL_copy 10 = .ok (.goto 7, 3) := by decide +kernel
theorem dL_copy_13 : decode cL_copy 13 = .ok (.astore 4, 2) := by decide +kernel
theorem dL_copy_15 : decode cL_copy 15 = .ok (.iconst 1, 1) := by decide +kernel
theorem dL_copy_16 : decode cL_copy 16 = .ok (.ireturn, 1) := by decide +kernel
theorem dL_copy_17 : decode cL_copy 17 = .ok (.iconst 0, 1) := by decide +kernel
theorem dL_copy_18 : decode cL_copy 18 = .ok (.ireturn, 1) := by decide +kernel
theorem dL_waits_0 : decode cL_waits 0 = .ok (.aload_n 2, 1) := by decide +kernel
theorem dL_waits_1 : decode cL_waits 1 = .ok (.iconst 0, 1) := by decide +kernel
theorem dL_waits_2 : decode cL_waits 2 = .ok (.aload_n 0, 1) := by decide +kernel
theorem dL_waits_3 : decode cL_waits 3 = .ok (.iload_n 1, 1) := by decide +kernel
theorem dL_waits_4 : decode cL_waits 4 = .ok (.invokevirtual 68, 3) := by decide +kernel
theorem dL_waits_7 : decode cL_waits 7 = .ok (.i2l, 1) := by decide +kernel
theorem dL_waits_8 : decode cL_waits 8 = .ok (.lastore, 1) := by decide +kernel
theorem dL_waits_9 : decode cL_waits 9 = .ok (.goto 6, 3) := by decide +kernel
theorem dL_waits_12 : decode cL_waits 12 = .ok (.astore_n 3, 1) := by decide +kernel
theorem dL_waits_13 : decode cL_waits 13 = .ok (.iconst 1, 1) := by decide +kernel
theorem dL_waits_14 : decode cL_waits 14 = .ok (.ireturn, 1) := by decide +kernel
theorem dL_waits_15 : decode cL_waits 15 = .ok (.iconst 0, 1) := by decide +kernel
theorem dL_waits_16 : decode cL_waits 16 = .ok (.ireturn, 1) := by decide +kernel
theorem dL_spill_0 : decode cL_spill 0 = .ok (.aload_n 2, 1) := by decide +kernel
theorem dL_spill_1 : decode cL_spill 1 = .ok (.iconst 0, 1) := by decide +kernel
theorem dL_spill_2 : decode cL_spill 2 = .ok (.aload_n 0, 1) := by decide +kernel
theorem dL_spill_3 : decode cL_spill 3 = .ok (.iload_n 1, 1) := by decide +kernel
theorem dL_spill_4 : decode cL_spill 4 = .ok (.invokevirtual 71, 3) := by decide +kernel
theorem dL_spill_7 : decode cL_spill 7 = .ok (.i2l, 1) := by decide +kernel
theorem dL_spill_8 : decode cL_spill 8 = .ok (.lastore, 1) := by decide +kernel
theorem dL_spill_9 : decode cL_spill 9 = .ok (.goto 6, 3) := by decide +kernel
theorem dL_spill_12 : decode cL_spill 12 = .ok (.astore_n 3, 1) := by decide +kernel
theorem dL_spill_13 : decode cL_spill 13 = .ok (.iconst 1, 1) := by decide +kernel
theorem dL_spill_14 : decode cL_spill 14 = .ok (.ireturn, 1) := by decide +kernel
theorem dL_spill_15 : decode cL_spill 15 = .ok (.iconst 0, 1) := by decide +kernel
theorem dL_spill_16 : decode cL_spill 16 = .ok (.ireturn, 1) := by decide +kernel
theorem dL_look_0 : decode cL_look 0 = .ok (.aload_n 2, 1) := by decide +kernel
theorem dL_look_1 : decode cL_look 1 = .ok (.iconst 0, 1) := by decide +kernel
theorem dL_look_2 : decode cL_look 2 = .ok (.aload_n 0, 1) := by decide +kernel
theorem dL_look_3 : decode cL_look 3 = .ok (.iload_n 1, 1) := by decide +kernel
theorem dL_look_4 : decode cL_look 4 = .ok (.invokevirtual 74, 3) := by decide +kernel
theorem dL_look_7 : decode cL_look 7 = .ok (.i2l, 1) := by decide +kernel
theorem dL_look_8 : decode cL_look 8 = .ok (.lastore, 1) := by decide +kernel
theorem dL_look_9 : decode cL_look 9 = .ok (.goto 6, 3) := by decide +kernel
theorem dL_look_12 : decode cL_look 12 = .ok (.astore_n 3, 1) := by decide +kernel
theorem dL_look_13 : decode cL_look 13 = .ok (.iconst 1, 1) := by decide +kernel
theorem dL_look_14 : decode cL_look 14 = .ok (.ireturn, 1) := by decide +kernel
theorem dL_look_15 : decode cL_look 15 = .ok (.iconst 0, 1) := by decide +kernel
theorem dL_look_16 : decode cL_look 16 = .ok (.ireturn, 1) := by decide +kernel
theorem dL_owner_0 : decode cL_owner 0 = .ok (.aload_n 3, 1) := by decide +kernel
theorem dL_owner_1 : decode cL_owner 1 = .ok (.iconst 0, 1) := by decide +kernel
theorem dL_owner_2 : decode cL_owner 2 = .ok (.aload_n 0, 1) := by decide +kernel
theorem dL_owner_3 : decode cL_owner 3 = .ok (.iload_n 1, 1) := by decide +kernel
theorem dL_owner_4 : decode cL_owner 4 = .ok (.iload_n 2, 1) := by decide +kernel
theorem dL_owner_5 : decode cL_owner 5 = .ok (.invokevirtual 80, 3) := by decide +kernel
theorem dL_owner_8 : decode cL_owner 8 = .ok (.i2l, 1) := by decide +kernel
theorem dL_owner_9 : decode cL_owner 9 = .ok (.lastore, 1) := by decide +kernel
theorem dL_owner_10 : decode cL_owner 10 = .ok (.goto 11, 3) := by decide +kernel
theorem dL_owner_13 : decode cL_owner 13 = .ok (.astore 4, 2) := by decide +kernel
theorem dL_owner_15 : decode cL_owner 15 = .ok (.iconst 1, 1) := by decide +kernel
theorem dL_owner_16 : decode cL_owner 16 = .ok (.ireturn, 1) := by decide +kernel
theorem dL_owner_17 : decode cL_owner 17 = .ok (.astore 4, 2) := by decide +kernel
theorem dL_owner_19 : decode cL_owner 19 = .ok (.iconst 2, 1) := by decide +kernel
theorem dL_owner_20 : decode cL_owner 20 = .ok (.ireturn, 1) := by decide +kernel
theorem dL_owner_21 : decode cL_owner 21 = .ok (.iconst 0, 1) := by decide +kernel
theorem dL_owner_22 : decode cL_owner 22 = .ok (.ireturn, 1) := by decide +kernel
theorem dL_unlike_0 : decode cL_unlike 0 = .ok (.aload_n 2, 1) := by decide +kernel
theorem dL_unlike_1 : decode cL_unlike 1 = .ok (.iconst 0, 1) := by decide +kernel
theorem dL_unlike_2 : decode cL_unlike 2 = .ok (.aload_n 0, 1) := by decide +kernel
theorem dL_unlike_3 : decode cL_unlike 3 = .ok (.iload_n 1, 1) := by decide +kernel
theorem dL_unlike_4 : decode cL_unlike 4 = .ok (.invokevirtual 83, 3) := by decide +kernel
theorem dL_unlike_7 : decode cL_unlike 7 = .ok (.i2l, 1) := by decide +kernel
theorem dL_unlike_8 : decode cL_unlike 8 = .ok (.lastore, 1) := by decide +kernel
theorem dL_unlike_9 : decode cL_unlike 9 = .ok (.goto 6, 3) := by decide +kernel
theorem dL_unlike_12 : decode cL_unlike 12 = .ok (.astore_n 3, 1) := by decide +kernel
theorem dL_unlike_13 : decode cL_unlike 13 = .ok (.iconst 1, 1) := by decide +kernel
theorem dL_unlike_14 : decode cL_unlike 14 = .ok (.ireturn, 1) := by decide +kernel
theorem dL_unlike_15 : decode cL_unlike 15 = .ok (.iconst 0, 1) := by decide +kernel
theorem dL_unlike_16 : decode cL_unlike 16 = .ok (.ireturn, 1) := by decide +kernel
theorem dL_storm_0 : decode cL_storm 0 = .ok (.aload 5, 2) := by decide +kernel
theorem dL_storm_2 : decode cL_storm 2 = .ok (.iconst 0, 1) := by decide +kernel
theorem dL_storm_3 : decode cL_storm 3 = .ok (.aload_n 0, 1) := by decide +kernel
theorem dL_storm_4 : decode cL_storm 4 = .ok (.iload_n 1, 1) := by decide +kernel
theorem dL_storm_5 : decode cL_storm 5 = .ok (.iload_n 2, 1) := by decide +kernel
theorem dL_storm_6 : decode cL_storm 6 = .ok (.iload_n 3, 1) := by decide +kernel
theorem dL_storm_7 : decode cL_storm 7 = .ok (.iload 4, 2) := by decide +kernel
theorem dL_storm_9 : decode cL_storm 9 = .ok (.invokevirtual 86, 3) := by decide +kernel
theorem dL_storm_12 : decode cL_storm 12 = .ok (.i2l, 1) := by decide +kernel
theorem dL_storm_13 : decode cL_storm 13 = .ok (.lastore, 1) := by decide +kernel
theorem dL_storm_14 : decode cL_storm 14 = .ok (.goto 7, 3) := by decide +kernel
theorem dL_storm_17 : decode cL_storm 17 = .ok (.astore 6, 2) := by decide +kernel
theorem dL_storm_19 : decode cL_storm 19 = .ok (.iconst 1, 1) := by decide +kernel
theorem dL_storm_20 : decode cL_storm 20 = .ok (.ireturn, 1) := by decide +kernel
theorem dL_storm_21 : decode cL_storm 21 = .ok (.iconst 0, 1) := by decide +kernel
theorem dL_storm_22 : decode cL_storm 22 = .ok (.ireturn, 1) := by decide +kernel
