/-! ===== WORDS.charAt ===== -/
theorem kf_J0_9 : Cond.fieldLink RJ0 9 "java/lang/String" "value" "[B" ∈ TB := tb_in 2002 (by decide +kernel) rfl
theorem kf_J0_15 : Cond.fieldLink RJ0 15 "java/lang/String" "coder" "B" ∈ TB := tb_in 2001 (by decide +kernel) rfl
theorem kf_J0_38 : Cond.fieldLink RJ0 38 "java/lang/String" "COMPACT_STRINGS" "Z" ∈ TB := tb_in 886 (by decide +kernel) rfl
theorem kf_J0_1053 : Cond.fieldLink RJ0 1053 "jdk/internal/util/Preconditions" "SIOOBE_FORMATTER" "Ljava/util/function/BiFunction;" ∈ TB := tb_in 894 (by decide +kernel) rfl
theorem kc_J0_charAt_5068e : Cond.code yJ0_charAt_5068e cJ0_charAt_5068e 2 (some .char) ∈ TB := tb_in 881 (by decide +kernel) rfl
theorem kc_J0_isLatin1_aae02 : Cond.code yJ0_isLatin1_aae02 cJ0_isLatin1_aae02 1 (some .boolean) ∈ TB := tb_in 885 (by decide +kernel) rfl
theorem kc_J0_checkIndex_df160 : Cond.code yJ0_checkIndex_df160 cJ0_checkIndex_df160 2 none ∈ TB := tb_in 893 (by decide +kernel) rfl
theorem kc_J1_charAt_3b067 : Cond.code yJ1_charAt_3b067 cJ1_charAt_3b067 2 (some .char) ∈ TB := tb_in 890 (by decide +kernel) rfl
theorem kc_J3_checkIndex_8e157 : Cond.code yJ3_checkIndex_8e157 cJ3_checkIndex_8e157 3 (some .int) ∈ TB := tb_in 898 (by decide +kernel) rfl
theorem km_J0_492 : Cond.methodLink RJ0 492 yJ0_isLatin1_aae02 ∈ TB := tb_in 882 (by decide +kernel) rfl
theorem kn_J0 : Cond.initialized RJ0 ∈ TB := tb_in 117 (by decide +kernel) rfl
theorem ko_J0_492 : okC RJ0 492 yJ0_isLatin1_aae02 0 := ⟨km_J0_492, kn_J0, by decide +kernel⟩
theorem km_J0_495 : Cond.methodLink RJ0 495 yJ1_charAt_3b067 ∈ TB := tb_in 888 (by decide +kernel) rfl
theorem kn_J1 : Cond.initialized RJ1 ∈ TB := tb_in 118 (by decide +kernel) rfl
theorem ko_J0_495 : okC RJ0 495 yJ1_charAt_3b067 2 := ⟨km_J0_495, kn_J1, by decide +kernel⟩
theorem km_J1_9 : Cond.methodLink RJ1 9 yJ0_checkIndex_df160 ∈ TB := tb_in 891 (by decide +kernel) rfl
theorem ko_J1_9 : okC RJ1 9 yJ0_checkIndex_df160 2 := ⟨km_J1_9, kn_J0, by decide +kernel⟩
theorem km_J0_1059 : Cond.methodLink RJ0 1059 yJ3_checkIndex_8e157 ∈ TB := tb_in 896 (by decide +kernel) rfl
theorem kn_J3 : Cond.initialized RJ3 ∈ TB := tb_in 119 (by decide +kernel) rfl
theorem ko_J0_1059 : okC RJ0 1059 yJ3_checkIndex_8e157 3 := ⟨km_J0_1059, kn_J3, by decide +kernel⟩
theorem km_X3_110 : Cond.methodLink RX3 110 yJ0_charAt_5068e ∈ TB := tb_in 878 (by decide +kernel) rfl
theorem ko_X3_110 : okC RX3 110 yJ0_charAt_5068e 1 := ⟨km_X3_110, kn_J0, by decide +kernel⟩
theorem ki_J0_charAt_5068e : Cond.instanceMethod yJ0_charAt_5068e ∈ TB := tb_in 879 (by decide +kernel) rfl
theorem ki_J0_isLatin1_aae02 : Cond.instanceMethod yJ0_isLatin1_aae02 ∈ TB := tb_in 883 (by decide +kernel) rfl
theorem ks_J0_charAt_5068e : Cond.selects RJ0 yJ0_charAt_5068e yJ0_charAt_5068e ∈ TB := tb_in 880 (by decide +kernel) rfl
theorem ks_J0_isLatin1_aae02 : Cond.selects RJ0 yJ0_isLatin1_aae02 yJ0_isLatin1_aae02 ∈ TB := tb_in 884 (by decide +kernel) rfl
theorem kt_J1_charAt_3b067 : Cond.static yJ1_charAt_3b067 ∈ TB := tb_in 889 (by decide +kernel) rfl
theorem kt_J0_checkIndex_df160 : Cond.static yJ0_checkIndex_df160 ∈ TB := tb_in 892 (by decide +kernel) rfl
theorem kt_J3_checkIndex_8e157 : Cond.static yJ3_checkIndex_8e157 ∈ TB := tb_in 897 (by decide +kernel) rfl
def mJ0_charAt_5068e : MR := (yJ0_charAt_5068e, cJ0_charAt_5068e, 2, (some .char), [])
def mJ0_isLatin1_aae02 : MR := (yJ0_isLatin1_aae02, cJ0_isLatin1_aae02, 1, (some .boolean), [])
def mJ0_checkIndex_df160 : MR := (yJ0_checkIndex_df160, cJ0_checkIndex_df160, 2, none, [])
def mJ1_charAt_3b067 : MR := (yJ1_charAt_3b067, cJ1_charAt_3b067, 2, (some .char), [])
def mJ3_checkIndex_8e157 : MR := (yJ3_checkIndex_8e157, cJ3_checkIndex_8e157, 3, (some .int), [])
theorem dJ0_charAt_5068e_0 : decode cJ0_charAt_5068e 0 = .ok (.aload_n 0, 1) := by decide +kernel
theorem dJ0_charAt_5068e_1 : decode cJ0_charAt_5068e 1 = .ok (.invokevirtual 492, 3) := by decide +kernel
theorem dJ0_charAt_5068e_4 : decode cJ0_charAt_5068e 4 = .ok (.ifCond .eq 12, 3) := by decide +kernel
theorem dJ0_charAt_5068e_7 : decode cJ0_charAt_5068e 7 = .ok (.aload_n 0, 1) := by decide +kernel
theorem dJ0_charAt_5068e_8 : decode cJ0_charAt_5068e 8 = .ok (.getfield 9, 3) := by decide +kernel
theorem dJ0_charAt_5068e_11 : decode cJ0_charAt_5068e 11 = .ok (.iload_n 1, 1) := by decide +kernel
theorem dJ0_charAt_5068e_12 : decode cJ0_charAt_5068e 12 = .ok (.invokestatic 495, 3) := by decide +kernel
theorem dJ0_charAt_5068e_15 : decode cJ0_charAt_5068e 15 = .ok (.ireturn, 1) := by decide +kernel
theorem dJ0_charAt_5068e_16 : decode cJ0_charAt_5068e 16 = .ok (.aload_n 0, 1) := by decide +kernel
theorem dJ0_charAt_5068e_17 : decode cJ0_charAt_5068e 17 = .ok (.getfield 9, 3) := by decide +kernel
theorem dJ0_charAt_5068e_20 : decode cJ0_charAt_5068e 20 = .ok (.iload_n 1, 1) := by decide +kernel
theorem dJ0_charAt_5068e_21 : decode cJ0_charAt_5068e 21 = .ok (.invokestatic 498, 3) := by decide +kernel
theorem dJ0_charAt_5068e_24 : decode cJ0_charAt_5068e 24 = .ok (.ireturn, 1) := by decide +kernel
theorem dJ0_isLatin1_aae02_0 : decode cJ0_isLatin1_aae02 0 = .ok (.getstatic 38, 3) := by decide +kernel
theorem dJ0_isLatin1_aae02_3 : decode cJ0_isLatin1_aae02 3 = .ok (.ifCond .eq 14, 3) := by decide +kernel
theorem dJ0_isLatin1_aae02_6 : decode cJ0_isLatin1_aae02 6 = .ok (.aload_n 0, 1) := by decide +kernel
theorem dJ0_isLatin1_aae02_7 : decode cJ0_isLatin1_aae02 7 = .ok (.getfield 15, 3) := by decide +kernel
theorem dJ0_isLatin1_aae02_10 : decode cJ0_isLatin1_aae02 10 = .ok (.ifCond .ne 7, 3) := by decide +kernel
theorem dJ0_isLatin1_aae02_13 : decode cJ0_isLatin1_aae02 13 = .ok (.iconst 1, 1) := by decide +kernel
theorem dJ0_isLatin1_aae02_14 : decode cJ0_isLatin1_aae02 14 = .ok (.goto 4, 3) := by decide +kernel
theorem dJ0_isLatin1_aae02_17 : decode cJ0_isLatin1_aae02 17 = .ok (.iconst 0, 1) := by decide +kernel
theorem dJ0_isLatin1_aae02_18 : decode cJ0_isLatin1_aae02 18 = .ok (.ireturn, 1) := by decide +kernel
theorem dJ0_checkIndex_df160_0 : decode cJ0_checkIndex_df160 0 = .ok (.iload_n 0, 1) := by decide +kernel
theorem dJ0_checkIndex_df160_1 : decode cJ0_checkIndex_df160 1 = .ok (.iload_n 1, 1) := by decide +kernel
theorem dJ0_checkIndex_df160_2 : decode cJ0_checkIndex_df160 2 = .ok (.getstatic 1053, 3) := by decide +kernel
theorem dJ0_checkIndex_df160_5 : decode cJ0_checkIndex_df160 5 = .ok (.invokestatic 1059, 3) := by decide +kernel
theorem dJ0_checkIndex_df160_8 : decode cJ0_checkIndex_df160 8 = .ok (.pop, 1) := by decide +kernel
theorem dJ0_checkIndex_df160_9 : decode cJ0_checkIndex_df160 9 = .ok (.return_, 1) := by decide +kernel
theorem dJ1_charAt_3b067_0 : decode cJ1_charAt_3b067 0 = .ok (.iload_n 1, 1) := by decide +kernel
theorem dJ1_charAt_3b067_1 : decode cJ1_charAt_3b067 1 = .ok (.aload_n 0, 1) := by decide +kernel
theorem dJ1_charAt_3b067_2 : decode cJ1_charAt_3b067 2 = .ok (.arraylength, 1) := by decide +kernel
theorem dJ1_charAt_3b067_3 : decode cJ1_charAt_3b067 3 = .ok (.invokestatic 9, 3) := by decide +kernel
theorem dJ1_charAt_3b067_6 : decode cJ1_charAt_3b067 6 = .ok (.aload_n 0, 1) := by decide +kernel
theorem dJ1_charAt_3b067_7 : decode cJ1_charAt_3b067 7 = .ok (.iload_n 1, 1) := by decide +kernel
theorem dJ1_charAt_3b067_8 : decode cJ1_charAt_3b067 8 = .ok (.baload, 1) := by decide +kernel
theorem dJ1_charAt_3b067_9 : decode cJ1_charAt_3b067 9 = .ok (.sipush 255, 3) := by decide +kernel
theorem dJ1_charAt_3b067_12 : decode cJ1_charAt_3b067 12 = .ok (.iand, 1) := by decide +kernel
theorem dJ1_charAt_3b067_13 : decode cJ1_charAt_3b067 13 = .ok (.i2c, 1) := by decide +kernel
theorem dJ1_charAt_3b067_14 : decode cJ1_charAt_3b067 14 = .ok (.ireturn, 1) := by decide +kernel
theorem dJ3_checkIndex_8e157_0 : decode cJ3_checkIndex_8e157 0 = .ok (.iload_n 0, 1) := by decide +kernel
theorem dJ3_checkIndex_8e157_1 : decode cJ3_checkIndex_8e157 1 = .ok (.ifCond .lt 8, 3) := by decide +kernel
theorem dJ3_checkIndex_8e157_4 : decode cJ3_checkIndex_8e157 4 = .ok (.iload_n 0, 1) := by decide +kernel
theorem dJ3_checkIndex_8e157_5 : decode cJ3_checkIndex_8e157 5 = .ok (.iload_n 1, 1) := by decide +kernel
theorem dJ3_checkIndex_8e157_6 : decode cJ3_checkIndex_8e157 6 = .ok (.if_icmp .lt 10, 3) := by decide +kernel
theorem dJ3_checkIndex_8e157_9 : decode cJ3_checkIndex_8e157 9 = .ok (.aload_n 2, 1) := by decide +kernel
theorem dJ3_checkIndex_8e157_10 : decode cJ3_checkIndex_8e157 10 = .ok (.iload_n 0, 1) := by decide +kernel
theorem dJ3_checkIndex_8e157_11 : decode cJ3_checkIndex_8e157 11 = .ok (.iload_n 1, 1) := by decide +kernel
theorem dJ3_checkIndex_8e157_12 : decode cJ3_checkIndex_8e157 12 = .ok (.invokestatic 95, 3) := by decide +kernel
theorem dJ3_checkIndex_8e157_15 : decode cJ3_checkIndex_8e157 15 = .ok (.athrow, 1) := by decide +kernel
theorem dJ3_checkIndex_8e157_16 : decode cJ3_checkIndex_8e157 16 = .ok (.iload_n 0, 1) := by decide +kernel
theorem dJ3_checkIndex_8e157_17 : decode cJ3_checkIndex_8e157 17 = .ok (.ireturn, 1) := by decide +kernel
def chW (x : Int32) : Int32 := ((byW.getD x.toNatClampNeg 0 &&& 255).toUInt32 % 65536).toInt32
section VY
variable {G : GG} {M M1 : MR} {d d1 pc pc' : Nat} {loc loc' st st' : List Value} {h h1 : Hp} {o : OU} {h' : Hp}
theorem v_nret {x : Int32} {ty : FieldType} (hd : decode M.2.1 pc = .ok (.ireturn, 1)) (hr : M.2.2.2.1 = some ty) (hn : narrow ty (.int x) = .int x) (k : o = .inl (some (.int x)) ∧ h' = h) : V G M d pc loc [.int x] h o h' := by
  obtain ⟨rfl, rfl⟩ := k
  refine ⟨⟨Nat.le_refl _, Nat.le_refl _⟩, fun p l e R s m args below meth c H locs ls cells slots mc ms cx wr lr ll hl h1 h2 h3 h4 => ?_⟩
  have hlk := cx.lk
  refine vx_ret (W.widen (k := mc) (n := ms) (by omega) (by omega) ?_)
  exact W.zret cx.ex cx.by (cx.rt.trans hr) hn (fun t ht hW => ⟨⟨_, rfl, rfl⟩, by rw [ht]; exact WH.of wr hW.alike⟩) hl hd
theorem v_ldcS (hd : decode M.2.1 pc = .ok (.ldc 108, 2)) (hp : pc + 2 = pc') (hown : M.1.cls = RX3) (k : V G M d pc' loc (.ref 2 :: st) h o h') : V G M d pc loc st h o h' := by
  subst hp
  refine ⟨k.1, fun p l e R s m args below meth c H locs ls cells slots mc ms cx wr lr ll hl h1 h2 h3 h4 => ?_⟩
  have kk := k.2 p l e R s m args below meth c H locs ls cells slots mc ms cx wr lr ll hl h1 h2 h3 h4
  have hv := wr.2.2.2.2.2.2.1.2.2.2.2.2.2.2.2
  have how : s.vm.findClass RX3 = some m.cls := by rw [← hown]; exact cx.ow
  intro T hT X
  obtain ⟨t, a, b⟩ := kk T hT X
  exact ⟨t, X.ldcString cx.ex (own := RX3) (text := txW) (index := 108) (a := adG G 2) how hv.1 hv.2 (g := F0 m pc ls (st.map (trV G))) rfl (by rw [cx.by]; exact hd) t a, b⟩
theorem v_getSV {r : Nat} (hd : decode M.2.1 pc = .ok (.getfield 9, 3)) (hp : pc + 3 = pc') (hown : M.1.cls = RJ0) (hr : r = 2) (k : V G M d pc' loc (.ref 3 :: st) h o h') : V G M d pc loc (.ref r :: st) h o h' := by
  subst hp; subst hr
  refine ⟨k.1, fun p l e R s m args below meth c H locs ls cells slots mc ms cx wr lr ll hl h1 h2 h3 h4 => ?_⟩
  have kk := k.2 p l e R s m args below meth c H locs ls cells slots mc ms cx wr lr ll hl h1 h2 h3 h4
  obtain ⟨-, -, hv, -⟩ := wr.2.2.2.2.2.2.2.2.2.1.1 0 (by decide)
  obtain ⟨cf, kf, i, f, cell, g1, g2, g3, g4, g5, -⟩ := hv
  have how : s.vm.findClass RJ0 = some m.cls := by rw [← hown]; exact cx.ow
  exact W.getf (a := adG G 2) cx.ex cx.by how (cx.ts _ kf_J0_9) g1 g2 g3 g4 g5 rfl rfl hd kk
theorem v_getSC {r : Nat} (hd : decode M.2.1 pc = .ok (.getfield 15, 3)) (hp : pc + 3 = pc') (hown : M.1.cls = RJ0) (hr : r = 2) (k : V G M d pc' loc (.int 0 :: st) h o h') : V G M d pc loc (.ref r :: st) h o h' := by
  subst hp; subst hr
  refine ⟨k.1, fun p l e R s m args below meth c H locs ls cells slots mc ms cx wr lr ll hl h1 h2 h3 h4 => ?_⟩
  have kk := k.2 p l e R s m args below meth c H locs ls cells slots mc ms cx wr lr ll hl h1 h2 h3 h4
  obtain ⟨-, hv, -, -⟩ := wr.2.2.2.2.2.2.2.2.2.1.1 0 (by decide)
  obtain ⟨cf, kf, i, f, cell, g1, g2, g3, g4, g5, -⟩ := hv
  have how : s.vm.findClass RJ0 = some m.cls := by rw [← hown]; exact cx.ow
  exact W.getf (a := adG G 2) cx.ex cx.by how (cx.ts _ kf_J0_15) g1 g2 g3 g4 g5 rfl rfl hd kk
theorem v_baldS {r : Nat} {i : Int32} (hd : decode M.2.1 pc = .ok (.baload, 1)) (hp : pc + 1 = pc') (hr : r = 3) (hb : vp_in i 65) (k : V G M d pc' loc (.int (byW.getD i.toNatClampNeg 0) :: st) h o h') : V G M d pc loc (.int i :: .ref r :: st) h o h' := by
  subst hp; subst hr
  refine ⟨k.1, fun p l e R s m args below meth c H locs ls cells slots mc ms cx wr lr ll hl h1 h2 h3 h4 => ?_⟩
  have kk := k.2 p l e R s m args below meth c H locs ls cells slots mc ms cx wr lr ll hl h1 h2 h3 h4
  obtain ⟨-, -, -, hv⟩ := wr.2.2.2.2.2.2.2.2.2.1.1 0 (by decide)
  obtain ⟨cell, g1, g2, g3, g4, g5, g6, -⟩ := hv
  have g4 : 65 ≤ cell.slots.size := g4
  refine W.bald (a := adG G 3) cx.ex cx.by g1 g2 g3 (fun q => hb (q.imp id (fun z => Nat.le_trans g4 z))) (g6 _ (vp_lt hb)) rfl rfl hd kk
theorem v_alenS {r : Nat} (hd : decode M.2.1 pc = .ok (.arraylength, 1)) (hp : pc + 1 = pc') (hr : r = 3) (k : V G M d pc' loc (.int 65 :: st) h o h') : V G M d pc loc (.ref r :: st) h o h' := by
  subst hp; subst hr
  refine ⟨k.1, fun p l e R s m args below meth c H locs ls cells slots mc ms cx wr lr ll hl h1 h2 h3 h4 => ?_⟩
  have kk := k.2 p l e R s m args below meth c H locs ls cells slots mc ms cx wr lr ll hl h1 h2 h3 h4
  obtain ⟨-, -, -, hv⟩ := wr.2.2.2.2.2.2.2.2.2.1.1 0 (by decide)
  obtain ⟨cell, g1, g2, g3, g4, g5, g6, -⟩ := hv
  exact W.alen (a := adG G 3) (n := 65) cx.ex cx.by g1 g2 (g5.trans (by decide)) rfl rfl hd kk
theorem v_gets {C n desc : String} {idx : Nat} {v : Value} (hd : decode M.2.1 pc = .ok (.getstatic idx, 3)) (hp : pc + 3 = pc') (hw : Cond.fieldLink M.1.cls idx C n desc ∈ TB) (hZ : ∀ (s : State) (H : Heap), WR G h s H → va_Z C n desc (trV G v) (fun q => G.1 ≤ q) s H) (k : V G M d pc' loc (v :: st) h o h') : V G M d pc loc st h o h' := by
  subst hp
  refine ⟨k.1, fun p l e R s m args below meth c H locs ls cells slots mc ms cx wr lr ll hl h1 h2 h3 h4 => ?_⟩
  have kk := k.2 p l e R s m args below meth c H locs ls cells slots mc ms cx wr lr ll hl h1 h2 h3 h4
  obtain ⟨cf, kf, fi, f, a, cell, g1, g2, g3, g4, g5, g6, g7, g8⟩ := hZ s H wr
  exact W.gets cx.ex cx.by cx.ow (cx.ts _ hw) g1 g2 g3 g4 g5 (fun e => by rw [e] at g6; cases g6) g7 rfl hd kk
theorem v_callVs {index n r : Nat} {as rest : List Value} {v : Option Value} (hd : decode M.2.1 pc = .ok (.invokevirtual index, 3)) (hp : pc + 3 = pc') (ok : okC M.1.cls index M1.1 n) (hcode : Cond.code M1.1 M1.2.1 M1.2.2.1 M1.2.2.2.1 ∈ TB) (hins : Cond.instanceMethod M1.1 ∈ TB) (hsel : Cond.selects RJ0 M1.1 M1.1 ∈ TB) (hm : M1.2.2.1 ≤ 45) (hd1 : d1 + 1 ≤ d) (hn : as.length = n) (hst : as.reverse ++ .ref r :: rest = st) (hcat : (rest.map fun v => v.category).sum ≤ 8)
    (hk : r = 2) (hc : VM G M1 d1 (.ref r :: as) h (.inl v) h1) (k : V G M d pc' loc (v.toList ++ rest) h1 o h') : V G M d pc loc st h o h' := by
  subst hp; subst hst; subst hk
  refine ⟨⟨Nat.le_trans hc.1.1 k.1.1, Nat.le_trans hc.1.2 k.1.2⟩, fun p l e R s m args below meth c H locs ls cells slots mc ms cx wr lr ll hl c1 c2 c3 c4 => ?_⟩
  have hfr := cx.fr
  have hlo := cx.lo
  have k1 := k.1
  have ht : trV G (.ref 2) = .ref (adG G 2) := rfl
  obtain ⟨⟨cell, o1, o2, o3, -⟩, -⟩ := wr.2.2.2.2.2.2.2.2.2.1.1 0 (by decide)
  have hr := vx_runV (p := p) (l := l) (e := e) (R := R) (s := s) (m := m) (args := args) (below := below) (meth := meth) (c := c) (H := H) (locs := locs) (cells := cells) (slots := slots) (Ts := TB) (own := M.1.cls) (nL := M.2.2.1) (cc := M.2.1) (g := F0 m pc ls ((as.reverse ++ .ref 2 :: rest).map (trV G))) (b := adG G 2) (As := as.map (trV G)) (rest := rest.map (trV G))
    ⟨cx.ex, cx.by, cx.ml, cx.ow, cx.ts⟩ (hc.2 l cx.st) ⟨callB_mk (n := n) (d1 := d1) (h := h) (h1 := h1) cx.ts hcode ok ⟨by omega, by omega⟩ hm, cx.ts _ hins, cx.ts _ hsel⟩ ⟨VPc.blind G _ h, ⟨cell, o1, o2, o3⟩, fun U hU hW => ⟨by rw [List.map_cons, ht], by rw [hU]; exact wr.moved hW⟩⟩
    rfl (by rw [List.length_map]; exact hn) (by rw [← ll]; exact lr.1) (by simp [ht]) (by show 2 * 0 + _ ≤ 8; rw [cat_sum]; omega) hd ⟨by have := hc.1.1; omega, by have := hc.1.2; omega⟩
  exact run_ret hr cx wr lr ll hl rfl rfl hc.1.1 hc.1.2 k c1 c2 c3 c4
end VY

theorem j3 {G : GG} {d : Nat} {h : Hp} {x : Int32} {q : Nat} (hx : vp_in x 65) : VM G mJ3_checkIndex_8e157 d [.int x, .int 65, .ref q] h (.inl (some (.int x))) h := by
  have h0 : ¬ x < 0 := fun z => hx (Or.inl z)
  have h1 : x < 65 := by
    obtain ⟨j, hj, rfl⟩ := vp_in_of hx (by decide)
    exact (show (65 : Int32) = nI 65 from rfl) ▸ nI_lt hj (by decide)
  refine V.toM rfl rfl (le_l rfl) (cat_all rfl) ?_
  show V G mJ3_checkIndex_8e157 d 0 [.int x, .int 65, .ref q] [] h _ h
  refine v_iload_n (pc' := 1) dJ3_checkIndex_8e157_0 rfl rfl ?_
  refine v_if_lt (tgt := 9) (pc' := 4) dJ3_checkIndex_8e157_1 (by decide) rfl ⟨fun c => absurd c h0, fun _ => ?_⟩
  refine v_iload_n (pc' := 5) dJ3_checkIndex_8e157_4 rfl rfl ?_
  refine v_iload_n (pc' := 6) dJ3_checkIndex_8e157_5 rfl rfl ?_
  refine v_icmp_lt (tgt := 16) (pc' := 9) dJ3_checkIndex_8e157_6 (by decide) rfl ⟨fun _ => ?_, fun c => absurd h1 c⟩
  refine v_iload_n (pc' := 17) dJ3_checkIndex_8e157_16 rfl rfl ?_
  exact v_iret dJ3_checkIndex_8e157_17 rfl ⟨rfl, rfl⟩
theorem j0x {G : GG} {d : Nat} {h : Hp} {x : Int32} (hd : 1 ≤ d) (hx : vp_in x 65) : VM G mJ0_checkIndex_df160 d [.int x, .int 65] h (.inl none) h := by
  refine V.toM rfl rfl (le_l rfl) (cat_all rfl) ?_
  show V G mJ0_checkIndex_df160 d 0 [.int x, .int 65] [] h _ h
  refine v_iload_n (pc' := 1) dJ0_checkIndex_df160_0 rfl rfl ?_
  refine v_iload_n (pc' := 2) dJ0_checkIndex_df160_1 rfl rfl ?_
  refine v_gets (pc' := 5) (v := .ref (fmtG G)) dJ0_checkIndex_df160_2 rfl kf_J0_1053 (fun s H w => w.2.2.2.2.2.2.2.2.2.2.2) ?_
  refine v_callS (M1 := mJ3_checkIndex_8e157) (d1 := d - 1) (as := [.int x, .int 65, .ref (fmtG G)]) (rest := []) (pc' := 8) dJ0_checkIndex_df160_5 rfl ko_J0_1059 kc_J3_checkIndex_8e157 kt_J3_checkIndex_8e157 (by decide) (by omega) rfl rfl (le_l rfl) (j3 hx) ?_
  refine v_pop (pc' := 9) dJ0_checkIndex_df160_8 rfl rfl ?_
  exact v_vret dJ0_checkIndex_df160_9 rfl ⟨rfl, rfl⟩
theorem j1c {G : GG} {d : Nat} {h : Hp} {x : Int32} (hd : 2 ≤ d) (hx : vp_in x 65) : VM G mJ1_charAt_3b067 d [.ref 3, .int x] h (.inl (some (.int (chW x)))) h := by
  refine V.toM rfl rfl (le_l rfl) (cat_all rfl) ?_
  show V G mJ1_charAt_3b067 d 0 [.ref 3, .int x] [] h _ h
  refine v_iload_n (pc' := 1) dJ1_charAt_3b067_0 rfl rfl ?_
  refine v_aload_n (pc' := 2) dJ1_charAt_3b067_1 rfl rfl ?_
  refine v_alenS (pc' := 3) dJ1_charAt_3b067_2 rfl rfl ?_
  refine v_callS (M1 := mJ0_checkIndex_df160) (d1 := d - 1) (as := [.int x, .int 65]) (rest := []) (pc' := 6) dJ1_charAt_3b067_3 rfl ko_J1_9 kc_J0_checkIndex_df160 kt_J0_checkIndex_df160 (by decide) (by omega) rfl rfl (le_l rfl) (j0x (by omega) hx) ?_
  refine v_aload_n (pc' := 7) dJ1_charAt_3b067_6 rfl rfl ?_
  refine v_iload_n (pc' := 8) dJ1_charAt_3b067_7 rfl rfl ?_
  refine v_baldS (pc' := 9) dJ1_charAt_3b067_8 rfl rfl hx ?_
  refine v_sipush (v := 255) (pc' := 12) dJ1_charAt_3b067_9 rfl (by decide) ?_
  refine v_iand (pc' := 13) dJ1_charAt_3b067_12 rfl ?_
  refine v_i2c (pc' := 14) dJ1_charAt_3b067_13 rfl ?_
  exact v_nret dJ1_charAt_3b067_14 rfl (pk_nc _) ⟨rfl, rfl⟩
theorem j0l {G : GG} {d : Nat} {h : Hp} : VM G mJ0_isLatin1_aae02 d [.ref 2] h (.inl (some (.int 1))) h := by
  refine V.toM rfl rfl (le_l rfl) (cat_all rfl) ?_
  show V G mJ0_isLatin1_aae02 d 0 [.ref 2] [] h _ h
  refine v_gets (pc' := 3) (v := .int 1) dJ0_isLatin1_aae02_0 rfl kf_J0_38 (fun s H w => w.2.2.2.2.2.2.2.2.2.2.1) ?_
  refine v_if_eq (tgt := 17) (pc' := 6) dJ0_isLatin1_aae02_3 (by decide) rfl ⟨fun c => absurd c (by decide), fun _ => ?_⟩
  refine v_aload_n (pc' := 7) dJ0_isLatin1_aae02_6 rfl rfl ?_
  refine v_getSC (pc' := 10) dJ0_isLatin1_aae02_7 rfl rfl rfl ?_
  refine v_if_ne (tgt := 17) (pc' := 13) dJ0_isLatin1_aae02_10 (by decide) rfl ⟨fun c => absurd rfl c, fun _ => ?_⟩
  refine v_iconst (v := 1) (pc' := 14) dJ0_isLatin1_aae02_13 rfl (by decide) ?_
  refine v_goto (pc' := 18) dJ0_isLatin1_aae02_14 (by decide) ?_
  exact v_zret dJ0_isLatin1_aae02_18 rfl (Or.inr rfl) ⟨rfl, rfl⟩
theorem j0c {G : GG} {d : Nat} {h : Hp} {x : Int32} (hd : 3 ≤ d) (hx : vp_in x 65) : VM G mJ0_charAt_5068e d [.ref 2, .int x] h (.inl (some (.int (chW x)))) h := by
  refine V.toM rfl rfl (le_l rfl) (cat_all rfl) ?_
  show V G mJ0_charAt_5068e d 0 [.ref 2, .int x] [] h _ h
  refine v_aload_n (pc' := 1) dJ0_charAt_5068e_0 rfl rfl ?_
  refine v_callVs (M1 := mJ0_isLatin1_aae02) (d1 := d - 1) (as := []) (r := 2) (rest := []) (pc' := 4) dJ0_charAt_5068e_1 rfl ko_J0_492 kc_J0_isLatin1_aae02 ki_J0_isLatin1_aae02 ks_J0_isLatin1_aae02 (by decide) (by omega) rfl rfl (le_l rfl) rfl j0l ?_
  refine v_if_eq (tgt := 16) (pc' := 7) dJ0_charAt_5068e_4 (by decide) rfl ⟨fun c => absurd c (by decide), fun _ => ?_⟩
  refine v_aload_n (pc' := 8) dJ0_charAt_5068e_7 rfl rfl ?_
  refine v_getSV (pc' := 11) dJ0_charAt_5068e_8 rfl rfl rfl ?_
  refine v_iload_n (pc' := 12) dJ0_charAt_5068e_11 rfl rfl ?_
  refine v_callS (M1 := mJ1_charAt_3b067) (d1 := d - 1) (as := [.ref 3, .int x]) (rest := []) (pc' := 15) dJ0_charAt_5068e_12 rfl ko_J0_495 kc_J1_charAt_3b067 kt_J1_charAt_3b067 (by decide) (by omega) rfl rfl (le_l rfl) (j1c (by omega) hx) ?_
  exact v_nret dJ0_charAt_5068e_15 rfl (pk_nc _) ⟨rfl, rfl⟩
def fJ0_charAt_5068e (r0 : Nat) (x1 : Int32) (h : Hp) : RS := if r0 = 2 then (if inB x1 65 = true then some (.inl (some (.int (chW x1))), h) else none) else none
theorem tJ0_charAt_5068e {G : GG} {d : Nat} {r0 x1} {h : Hp} {o : OU} {h' : Hp} (e : fJ0_charAt_5068e r0 x1 h = some (o, h')) (hd : 3 ≤ d) : VM G mJ0_charAt_5068e d [.ref r0, .int x1] h o h' := by
  unfold fJ0_charAt_5068e at e
  obtain ⟨rfl, e⟩ := ob_e e
  obtain ⟨q, e⟩ := ob_in e
  cases e
  exact j0c hd q
