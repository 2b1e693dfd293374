/-! ===== ROWS OF V: stack, locals, branches ===== -/
def llp : List Value → List Value → Prop
  | [], [] => True
  | a :: l, b :: r => (a = uV ∨ a = b) ∧ llp l r
  | _, _ => False
theorem llp_at : ∀ {l r : List Value}, llp l r → l.length = r.length ∧ ∀ (i : Nat) (v : Value), l[i]? = some v → v = uV ∨ r[i]? = some v
  | [], [], _ => ⟨rfl, fun i v h => by simp at h⟩
  | a :: l, b :: r, h => by
    obtain ⟨e, k⟩ := llp_at h.2
    refine ⟨by simp [e], fun i v hv => ?_⟩
    cases i with
    | zero =>
      simp at hv
      subst hv
      rcases h.1 with q | q
      · exact Or.inl q
      · exact Or.inr (by simp [q])
    | succ i =>
      simp at hv
      rcases k i v hv with q | q
      · exact Or.inl q
      · exact Or.inr (by simpa using q)
  | [], _ :: _, h => h.elim
  | _ :: _, [], h => h.elim
section W0
variable {p : Program} {l : Launch} {e : Env} {R : Room} {s : State} {m : MethodId} {args : Array Value} {below : List Frame} {meth : Method} {c : Code} {H : Heap} {locs : List Loc} {cells slots : Nat} {Q : State → Prop}
variable {cc : ByteArray} {pc : Nat} {ls : Array Slot} {rest : List Value}
theorem lw_aloadN (hexec : p.tables.exec = Jvm.exec) (hb : c.code = cc) {i : Nat} (hdg : decode cc pc = .ok (.aload i, 2)) (hl : ls[i]? = some (.val .null))
    (k : W p l e R s m args below meth c H locs cells slots Q (F0 m (pc + 2) ls (.null :: rest))) : W p l e R s m args below meth c H locs cells slots Q (F0 m pc ls (rest)) := by
  intro T hT X
  obtain ⟨t, a, b⟩ := k T hT X
  refine ⟨t, ?_, b⟩
  jvm_step X.here [X.here.top, hexec, hb, hdg, hl, Value.isRef]
  exact a
theorem lw_aload_nN (hexec : p.tables.exec = Jvm.exec) (hb : c.code = cc) {k : Fin 4} {i : Nat} (hdg : decode cc pc = .ok (.aload_n k, 1)) (hi : (k : Nat) = i) (hl : ls[i]? = some (.val .null))
    (kk : W p l e R s m args below meth c H locs cells slots Q (F0 m (pc + 1) ls (.null :: rest))) : W p l e R s m args below meth c H locs cells slots Q (F0 m pc ls (rest)) := by
  subst hi
  intro T hT X
  obtain ⟨t, a, b⟩ := kk T hT X
  refine ⟨t, ?_, b⟩
  jvm_step X.here [X.here.top, hexec, hb, hdg, hl, Value.isRef]
  exact a
theorem lw_astoreN (hexec : p.tables.exec = Jvm.exec) (hb : c.code = cc) {i nL : Nat} {lv lv' : List (Nat × Value)} (hdg : decode cc pc = .ok (.astore i, 2)) (h : lv_has ls nL lv) (hn : i < nL) (hl : (i, Value.null) :: lv.filter (fun q => !(q.1 == i) && !(q.1 + 1 == i && q.2.category == 2)) = lv')
    (kk : ∀ ls' : Array Slot, lv_has ls' nL lv' → W p l e R s m args below meth c H locs cells slots Q (F0 m (pc + 2) ls' rest)) : W p l e R s m args below meth c H locs cells slots Q (F0 m pc ls (.null :: rest)) := by
  obtain ⟨ls', e', h'⟩ := lv_store1 (v := .null) h hn rfl
  intro T hT X
  obtain ⟨t, a, b⟩ := kk ls' (hl ▸ h') T hT X
  refine ⟨t, ?_, b⟩
  jvm_step X.here [X.here.top, ↓top_set X.here.top, hexec, hb, hdg, e', Value.isRef]
  exact a
theorem lw_astore_nN (hexec : p.tables.exec = Jvm.exec) (hb : c.code = cc) {k : Fin 4} {i nL : Nat} {lv lv' : List (Nat × Value)} (hdg : decode cc pc = .ok (.astore_n k, 1)) (hi : (k : Nat) = i) (h : lv_has ls nL lv) (hn : i < nL) (hl : (i, Value.null) :: lv.filter (fun q => !(q.1 == i) && !(q.1 + 1 == i && q.2.category == 2)) = lv')
    (kk : ∀ ls' : Array Slot, lv_has ls' nL lv' → W p l e R s m args below meth c H locs cells slots Q (F0 m (pc + 1) ls' rest)) : W p l e R s m args below meth c H locs cells slots Q (F0 m pc ls (.null :: rest)) := by
  subst hi
  obtain ⟨ls', e', h'⟩ := lv_store1 (v := .null) h hn rfl
  intro T hT X
  obtain ⟨t, a, b⟩ := kk ls' (hl ▸ h') T hT X
  refine ⟨t, ?_, b⟩
  jvm_step X.here [X.here.top, ↓top_set X.here.top, hexec, hb, hdg, e', Value.isRef]
  exact a
end W0
section VS
variable {G : GG} {M : MR} {d pc pc' : Nat} {loc loc' st st' : List Value} {h : Hp} {o : OU} {h' : Hp}
theorem V.drop {l : List Value} (hl : llp l loc) (k : V G M d pc l st h o h') : V G M d pc loc st h o h' := V.less (llp_at hl).1 (llp_at hl).2 k
theorem v_iconst {n : Int} {v : Int32} (hd : decode M.2.1 pc = .ok (.iconst n, 1)) (hp : pc + 1 = pc') (hv : Int32.ofInt n = v) (k : V G M d pc' loc (.int v :: st) h o h') : V G M d pc loc st h o h' := by
  subst hp
  exact V.row (fun p l e R s m args below meth c H locs ls cells slots Q cx lr k => lv_iconst cx.ex cx.by hd hv k) k
theorem v_bipush {n : Int} {v : Int32} (hd : decode M.2.1 pc = .ok (.bipush n, 2)) (hp : pc + 2 = pc') (hv : (Int8.ofInt n).toInt32 = v) (k : V G M d pc' loc (.int v :: st) h o h') : V G M d pc loc st h o h' := by
  subst hp
  exact V.row (fun p l e R s m args below meth c H locs ls cells slots Q cx lr k => lv_bipush cx.ex cx.by hd hv k) k
theorem v_sipush {n : Int} {v : Int32} (hd : decode M.2.1 pc = .ok (.sipush n, 3)) (hp : pc + 3 = pc') (hv : (Int16.ofInt n).toInt32 = v) (k : V G M d pc' loc (.int v :: st) h o h') : V G M d pc loc st h o h' := by
  subst hp
  exact V.row (fun p l e R s m args below meth c H locs ls cells slots Q cx lr k => lv_sipush cx.ex cx.by hd hv k) k
theorem v_iload_n {q : Fin 4} {x : Int32} (hd : decode M.2.1 pc = .ok (.iload_n q, 1)) (hp : pc + 1 = pc') (hl : loc[(q : Nat)]? = some (.int x)) (k : V G M d pc' loc (.int x :: st) h o h') : V G M d pc loc st h o h' := by
  subst hp
  exact V.row (fun p l e R s m args below meth c H locs ls cells slots Q cx lr k => lv_iload_n cx.ex cx.by hd rfl (lr.2.2 _ _ hl rfl) k) k
theorem v_iload {i : Nat} {x : Int32} (hd : decode M.2.1 pc = .ok (.iload i, 2)) (hp : pc + 2 = pc') (hl : loc[i]? = some (.int x)) (k : V G M d pc' loc (.int x :: st) h o h') : V G M d pc loc st h o h' := by
  subst hp
  exact V.row (fun p l e R s m args below meth c H locs ls cells slots Q cx lr k => lv_iload cx.ex cx.by hd (lr.2.2 _ _ hl rfl) k) k
theorem v_aload_n {q : Fin 4} {x : Nat} (hd : decode M.2.1 pc = .ok (.aload_n q, 1)) (hp : pc + 1 = pc') (hl : loc[(q : Nat)]? = some (.ref x)) (k : V G M d pc' loc (.ref x :: st) h o h') : V G M d pc loc st h o h' := by
  subst hp
  refine V.row (fun p l e R s m args below meth c H locs ls cells slots Q cx lr k => ?_) k
  have h1 := lr.2.2 _ _ hl rfl
  by_cases e0 : x = 0
  · subst e0; exact lw_aload_nN cx.ex cx.by hd rfl h1 k
  · rw [trV_ref G e0] at h1
    rw [List.map_cons, trV_ref G e0] at k
    exact lv_aload_n cx.ex cx.by hd rfl h1 k
theorem v_aload {i x : Nat} (hd : decode M.2.1 pc = .ok (.aload i, 2)) (hp : pc + 2 = pc') (hl : loc[i]? = some (.ref x)) (k : V G M d pc' loc (.ref x :: st) h o h') : V G M d pc loc st h o h' := by
  subst hp
  refine V.row (fun p l e R s m args below meth c H locs ls cells slots Q cx lr k => ?_) k
  have h1 := lr.2.2 _ _ hl rfl
  by_cases e0 : x = 0
  · subst e0; exact lw_aloadN cx.ex cx.by hd h1 k
  · rw [trV_ref G e0] at h1
    rw [List.map_cons, trV_ref G e0] at k
    exact lv_aload cx.ex cx.by hd h1 k
theorem v_istore_n {q : Fin 4} {x : Int32} (hd : decode M.2.1 pc = .ok (.istore_n q, 1)) (hp : pc + 1 = pc') (hn : (q : Nat) < loc.length) (hl : loc.set (q : Nat) (.int x) = loc') (k : V G M d pc' loc' st h o h') : V G M d pc loc (.int x :: st) h o h' := by
  subst hp; subst hl
  exact V.rowL (List.length_set ..) (fun p l e R s m args below meth c H locs ls cells slots Q cx lr k => lv_istore_n cx.ex cx.by hd rfl lr.has hn rfl (fun ls' hl' => k ls' (LR.back rfl hl'))) k
theorem v_istore {i : Nat} {x : Int32} (hd : decode M.2.1 pc = .ok (.istore i, 2)) (hp : pc + 2 = pc') (hn : i < loc.length) (hl : loc.set i (.int x) = loc') (k : V G M d pc' loc' st h o h') : V G M d pc loc (.int x :: st) h o h' := by
  subst hp; subst hl
  exact V.rowL (List.length_set ..) (fun p l e R s m args below meth c H locs ls cells slots Q cx lr k => lv_istore cx.ex cx.by hd lr.has hn rfl (fun ls' hl' => k ls' (LR.back rfl hl'))) k
theorem v_astore_n {q : Fin 4} {x : Nat} (hd : decode M.2.1 pc = .ok (.astore_n q, 1)) (hp : pc + 1 = pc') (hn : (q : Nat) < loc.length) (hl : loc.set (q : Nat) (.ref x) = loc') (k : V G M d pc' loc' st h o h') : V G M d pc loc (.ref x :: st) h o h' := by
  subst hp; subst hl
  refine V.rowL (List.length_set ..) (fun p l e R s m args below meth c H locs ls cells slots Q cx lr k => ?_) k
  by_cases e0 : x = 0
  · subst e0; exact lw_astore_nN cx.ex cx.by hd rfl lr.has hn rfl (fun ls' hl' => k ls' (LR.back rfl hl'))
  · rw [List.map_cons, trV_ref G e0]
    exact lv_astore_n cx.ex cx.by hd rfl lr.has hn rfl (fun ls' hl' => k ls' (LR.back (trV_ref G e0) hl'))
theorem v_astore {i x : Nat} (hd : decode M.2.1 pc = .ok (.astore i, 2)) (hp : pc + 2 = pc') (hn : i < loc.length) (hl : loc.set i (.ref x) = loc') (k : V G M d pc' loc' st h o h') : V G M d pc loc (.ref x :: st) h o h' := by
  subst hp; subst hl
  refine V.rowL (List.length_set ..) (fun p l e R s m args below meth c H locs ls cells slots Q cx lr k => ?_) k
  by_cases e0 : x = 0
  · subst e0; exact lw_astoreN cx.ex cx.by hd lr.has hn rfl (fun ls' hl' => k ls' (LR.back rfl hl'))
  · rw [List.map_cons, trV_ref G e0]
    exact lv_astore cx.ex cx.by hd lr.has hn rfl (fun ls' hl' => k ls' (LR.back (trV_ref G e0) hl'))
theorem v_iinc {i : Nat} {n : Int} {x v : Int32} (hd : decode M.2.1 pc = .ok (.iinc i n, 3)) (hp : pc + 3 = pc') (hx : loc[i]? = some (.int x)) (hv : x + Int32.ofInt n = v) (hl : loc.set i (.int v) = loc') (k : V G M d pc' loc' st h o h') : V G M d pc loc st h o h' := by
  subst hp; subst hl
  refine V.rowL (List.length_set ..) (fun p l e R s m args below meth c H locs ls cells slots Q cx lr k => ?_) k
  obtain ⟨kk, hkk⟩ := List.getElem?_of_mem (lvl_mem (G := G) hx rfl)
  exact lv_iinc cx.ex cx.by hd lr.has hkk hv (List.getElem?_eq_some_iff.mp hx).1 rfl (fun ls' hl' => k ls' (LR.back rfl hl'))
theorem v_iadd {x y : Int32} (hd : decode M.2.1 pc = .ok (.iadd, 1)) (hp : pc + 1 = pc') (k : V G M d pc' loc (.int (x + y) :: st) h o h') : V G M d pc loc (.int y :: .int x :: st) h o h' := by
  subst hp
  exact V.row (fun p l e R s m args below meth c H locs ls cells slots Q cx lr k => lv_iadd cx.ex cx.by hd k) k
theorem v_isub {x y : Int32} (hd : decode M.2.1 pc = .ok (.isub, 1)) (hp : pc + 1 = pc') (k : V G M d pc' loc (.int (x - y) :: st) h o h') : V G M d pc loc (.int y :: .int x :: st) h o h' := by
  subst hp
  exact V.row (fun p l e R s m args below meth c H locs ls cells slots Q cx lr k => lv_isub cx.ex cx.by hd k) k
theorem v_imul {x y : Int32} (hd : decode M.2.1 pc = .ok (.imul, 1)) (hp : pc + 1 = pc') (k : V G M d pc' loc (.int (x * y) :: st) h o h') : V G M d pc loc (.int y :: .int x :: st) h o h' := by
  subst hp
  exact V.row (fun p l e R s m args below meth c H locs ls cells slots Q cx lr k => lv_imul cx.ex cx.by hd k) k
theorem v_iand {x y : Int32} (hd : decode M.2.1 pc = .ok (.iand, 1)) (hp : pc + 1 = pc') (k : V G M d pc' loc (.int (x &&& y) :: st) h o h') : V G M d pc loc (.int y :: .int x :: st) h o h' := by
  subst hp
  exact V.row (fun p l e R s m args below meth c H locs ls cells slots Q cx lr k => lv_iand cx.ex cx.by hd k) k
theorem v_ior {x y : Int32} (hd : decode M.2.1 pc = .ok (.ior, 1)) (hp : pc + 1 = pc') (k : V G M d pc' loc (.int (x ||| y) :: st) h o h') : V G M d pc loc (.int y :: .int x :: st) h o h' := by
  subst hp
  exact V.row (fun p l e R s m args below meth c H locs ls cells slots Q cx lr k => lv_ior cx.ex cx.by hd k) k
theorem v_ixor {x y : Int32} (hd : decode M.2.1 pc = .ok (.ixor, 1)) (hp : pc + 1 = pc') (k : V G M d pc' loc (.int (x ^^^ y) :: st) h o h') : V G M d pc loc (.int y :: .int x :: st) h o h' := by
  subst hp
  exact V.row (fun p l e R s m args below meth c H locs ls cells slots Q cx lr k => lv_ixor cx.ex cx.by hd k) k
theorem v_ishl {x y : Int32} (hd : decode M.2.1 pc = .ok (.ishl, 1)) (hp : pc + 1 = pc') (k : V G M d pc' loc (.int (x <<< (y &&& 31)) :: st) h o h') : V G M d pc loc (.int y :: .int x :: st) h o h' := by
  subst hp
  exact V.row (fun p l e R s m args below meth c H locs ls cells slots Q cx lr k => lv_ishl cx.ex cx.by hd k) k
theorem v_ishr {x y : Int32} (hd : decode M.2.1 pc = .ok (.ishr, 1)) (hp : pc + 1 = pc') (k : V G M d pc' loc (.int (x >>> (y &&& 31)) :: st) h o h') : V G M d pc loc (.int y :: .int x :: st) h o h' := by
  subst hp
  exact V.row (fun p l e R s m args below meth c H locs ls cells slots Q cx lr k => lv_ishr cx.ex cx.by hd k) k
theorem v_idiv {x y : Int32} (hd : decode M.2.1 pc = .ok (.idiv, 1)) (hp : pc + 1 = pc') (hy : ¬ y = 0) (k : V G M d pc' loc (.int (x / y) :: st) h o h') : V G M d pc loc (.int y :: .int x :: st) h o h' := by
  subst hp
  exact V.row (fun p l e R s m args below meth c H locs ls cells slots Q cx lr k => lv_idiv cx.ex cx.by hd hy k) k
theorem v_irem {x y : Int32} (hd : decode M.2.1 pc = .ok (.irem, 1)) (hp : pc + 1 = pc') (hy : ¬ y = 0) (k : V G M d pc' loc (.int (x - x / y * y) :: st) h o h') : V G M d pc loc (.int y :: .int x :: st) h o h' := by
  subst hp
  exact V.row (fun p l e R s m args below meth c H locs ls cells slots Q cx lr k => lv_irem cx.ex cx.by hd hy k) k
/-- the unsigned shift -/
def ushr (x y : Int32) : Int32 := (x.toUInt32 >>> (y.toUInt32 &&& Int32.toUInt32 31)).toInt32
theorem v_iushr {x y : Int32} (hd : decode M.2.1 pc = .ok (.iushr, 1)) (hp : pc + 1 = pc') (k : V G M d pc' loc (.int (ushr x y) :: st) h o h') : V G M d pc loc (.int y :: .int x :: st) h o h' := by
  subst hp
  exact V.row (fun p l e R s m args below meth c H locs ls cells slots Q cx lr k => lv_iushr cx.ex cx.by hd rfl k) k
theorem v_ineg {x : Int32} (hd : decode M.2.1 pc = .ok (.ineg, 1)) (hp : pc + 1 = pc') (k : V G M d pc' loc (.int (-x) :: st) h o h') : V G M d pc loc (.int x :: st) h o h' := by
  subst hp
  exact V.row (fun p l e R s m args below meth c H locs ls cells slots Q cx lr k => lv_ineg cx.ex cx.by hd k) k
theorem v_i2l {x : Int32} (hd : decode M.2.1 pc = .ok (.i2l, 1)) (hp : pc + 1 = pc') (k : V G M d pc' loc (.long x.toInt64 :: st) h o h') : V G M d pc loc (.int x :: st) h o h' := by
  subst hp
  exact V.row (fun p l e R s m args below meth c H locs ls cells slots Q cx lr k => lv_i2l cx.ex cx.by hd rfl k) k
theorem v_i2b {x : Int32} (hd : decode M.2.1 pc = .ok (.i2b, 1)) (hp : pc + 1 = pc') (k : V G M d pc' loc (.int x.toInt8.toInt32 :: st) h o h') : V G M d pc loc (.int x :: st) h o h' := by
  subst hp
  exact V.row (fun p l e R s m args below meth c H locs ls cells slots Q cx lr k => lv_i2b cx.ex cx.by hd rfl k) k
theorem v_lcmp {x y : Int64} (hd : decode M.2.1 pc = .ok (.lcmp, 1)) (hp : pc + 1 = pc') (k : V G M d pc' loc (.int (lg_cmp x y) :: st) h o h') : V G M d pc loc (.long y :: .long x :: st) h o h' := by
  subst hp
  exact V.row (fun p l e R s m args below meth c H locs ls cells slots Q cx lr k => W.lcmp cx.ex cx.by hd k) k
theorem v_dup {v : Value} (hd : decode M.2.1 pc = .ok (.dup, 1)) (hp : pc + 1 = pc') (hv : v.category = 1) (k : V G M d pc' loc (v :: v :: st) h o h') : V G M d pc loc (v :: st) h o h' := by
  subst hp
  exact V.row (fun p l e R s m args below meth c H locs ls cells slots Q cx lr k => lv_dup cx.ex cx.by hd ((trV_cat G v).trans hv) k) k
theorem v_dup_x1 {v w : Value} (hd : decode M.2.1 pc = .ok (.dup_x1, 1)) (hp : pc + 1 = pc') (hv : v.category = 1) (hw : w.category = 1) (k : V G M d pc' loc (v :: w :: v :: st) h o h') : V G M d pc loc (v :: w :: st) h o h' := by
  subst hp
  exact V.row (fun p l e R s m args below meth c H locs ls cells slots Q cx lr k => lv_dup_x1 cx.ex cx.by hd ((trV_cat G v).trans hv) ((trV_cat G w).trans hw) k) k
theorem v_dup2 {v w : Value} (hd : decode M.2.1 pc = .ok (.dup2, 1)) (hp : pc + 1 = pc') (hv : v.category = 1) (hw : w.category = 1) (k : V G M d pc' loc (v :: w :: v :: w :: st) h o h') : V G M d pc loc (v :: w :: st) h o h' := by
  subst hp
  exact V.row (fun p l e R s m args below meth c H locs ls cells slots Q cx lr k => lv_dup2_11 cx.ex cx.by hd ((trV_cat G v).trans hv) ((trV_cat G w).trans hw) k) k
theorem v_pop {v : Value} (hd : decode M.2.1 pc = .ok (.pop, 1)) (hp : pc + 1 = pc') (hv : v.category = 1) (k : V G M d pc' loc st h o h') : V G M d pc loc (v :: st) h o h' := by
  subst hp
  exact V.row (fun p l e R s m args below meth c H locs ls cells slots Q cx lr k => lv_pop cx.ex cx.by hd ((trV_cat G v).trans hv) k) k
theorem v_goto {off : Int} (hd : decode M.2.1 pc = .ok (.goto off, 3)) (ht : (pc : Int) + off = (pc' : Int)) (k : V G M d pc' loc st h o h') : V G M d pc loc st h o h' :=
  V.row (fun p l e R s m args below meth c H locs ls cells slots Q cx lr k => lv_goto cx.ex cx.by hd ht k) k
theorem v_ldc {index : Nat} {v : Int32} (hd : decode M.2.1 pc = .ok (.ldc index, 2)) (hp : pc + 2 = pc') (hw : Cond.constant M.1.cls index v ∈ TB) (k : V G M d pc' loc (.int v :: st) h o h') : V G M d pc loc st h o h' := by
  subst hp
  exact V.row (fun p l e R s m args below meth c H locs ls cells slots Q cx lr k => lv_ldc cx.ex cx.by cx.ow (cx.ts _ hw) hd k) k
theorem v_if_eq {x : Int32} {off : Int} {tgt : Nat} (hd : decode M.2.1 pc = .ok (.ifCond .eq off, 3)) (ht : (pc : Int) + off = (tgt : Int)) (hp : pc + 3 = pc') (k : (x = 0 → V G M d tgt loc st h o h') ∧ (¬ x = 0 → V G M d pc' loc st h o h')) : V G M d pc loc (.int x :: st) h o h' := by
  subst hp
  exact V.rowB (fun p l e R s m args below meth c H locs ls cells slots Q cx k1 k2 => lv_if_eq cx.ex cx.by hd ht k1 k2) (Classical.em _) k
theorem v_if_ne {x : Int32} {off : Int} {tgt : Nat} (hd : decode M.2.1 pc = .ok (.ifCond .ne off, 3)) (ht : (pc : Int) + off = (tgt : Int)) (hp : pc + 3 = pc') (k : (¬ x = 0 → V G M d tgt loc st h o h') ∧ (x = 0 → V G M d pc' loc st h o h')) : V G M d pc loc (.int x :: st) h o h' := by
  subst hp
  exact V.rowB (fun p l e R s m args below meth c H locs ls cells slots Q cx k1 k2 => lv_if_ne cx.ex cx.by hd ht k1 k2) ((Classical.em _).symm) k
theorem v_if_lt {x : Int32} {off : Int} {tgt : Nat} (hd : decode M.2.1 pc = .ok (.ifCond .lt off, 3)) (ht : (pc : Int) + off = (tgt : Int)) (hp : pc + 3 = pc') (k : (x < 0 → V G M d tgt loc st h o h') ∧ (¬ x < 0 → V G M d pc' loc st h o h')) : V G M d pc loc (.int x :: st) h o h' := by
  subst hp
  exact V.rowB (fun p l e R s m args below meth c H locs ls cells slots Q cx k1 k2 => lv_if_lt cx.ex cx.by hd ht k1 k2) (Classical.em _) k
theorem v_if_ge {x : Int32} {off : Int} {tgt : Nat} (hd : decode M.2.1 pc = .ok (.ifCond .ge off, 3)) (ht : (pc : Int) + off = (tgt : Int)) (hp : pc + 3 = pc') (k : (0 ≤ x → V G M d tgt loc st h o h') ∧ (¬ 0 ≤ x → V G M d pc' loc st h o h')) : V G M d pc loc (.int x :: st) h o h' := by
  subst hp
  exact V.rowB (fun p l e R s m args below meth c H locs ls cells slots Q cx k1 k2 => lv_if_ge cx.ex cx.by hd ht k1 k2) (Classical.em _) k
theorem v_if_gt {x : Int32} {off : Int} {tgt : Nat} (hd : decode M.2.1 pc = .ok (.ifCond .gt off, 3)) (ht : (pc : Int) + off = (tgt : Int)) (hp : pc + 3 = pc') (k : (0 < x → V G M d tgt loc st h o h') ∧ (¬ 0 < x → V G M d pc' loc st h o h')) : V G M d pc loc (.int x :: st) h o h' := by
  subst hp
  exact V.rowB (fun p l e R s m args below meth c H locs ls cells slots Q cx k1 k2 => lv_if_gt cx.ex cx.by hd ht k1 k2) (Classical.em _) k
theorem v_if_le {x : Int32} {off : Int} {tgt : Nat} (hd : decode M.2.1 pc = .ok (.ifCond .le off, 3)) (ht : (pc : Int) + off = (tgt : Int)) (hp : pc + 3 = pc') (k : (x ≤ 0 → V G M d tgt loc st h o h') ∧ (¬ x ≤ 0 → V G M d pc' loc st h o h')) : V G M d pc loc (.int x :: st) h o h' := by
  subst hp
  exact V.rowB (fun p l e R s m args below meth c H locs ls cells slots Q cx k1 k2 => lv_if_le cx.ex cx.by hd ht k1 k2) (Classical.em _) k
theorem v_icmp_eq {x y : Int32} {off : Int} {tgt : Nat} (hd : decode M.2.1 pc = .ok (.if_icmp .eq off, 3)) (ht : (pc : Int) + off = (tgt : Int)) (hp : pc + 3 = pc') (k : (x = y → V G M d tgt loc st h o h') ∧ (¬ x = y → V G M d pc' loc st h o h')) : V G M d pc loc (.int y :: .int x :: st) h o h' := by
  subst hp
  exact V.rowB (fun p l e R s m args below meth c H locs ls cells slots Q cx k1 k2 => lv_icmp_eq cx.ex cx.by hd ht k1 k2) (Classical.em _) k
theorem v_icmp_ne {x y : Int32} {off : Int} {tgt : Nat} (hd : decode M.2.1 pc = .ok (.if_icmp .ne off, 3)) (ht : (pc : Int) + off = (tgt : Int)) (hp : pc + 3 = pc') (k : (¬ x = y → V G M d tgt loc st h o h') ∧ (x = y → V G M d pc' loc st h o h')) : V G M d pc loc (.int y :: .int x :: st) h o h' := by
  subst hp
  exact V.rowB (fun p l e R s m args below meth c H locs ls cells slots Q cx k1 k2 => lv_icmp_ne cx.ex cx.by hd ht k1 k2) ((Classical.em _).symm) k
theorem v_icmp_lt {x y : Int32} {off : Int} {tgt : Nat} (hd : decode M.2.1 pc = .ok (.if_icmp .lt off, 3)) (ht : (pc : Int) + off = (tgt : Int)) (hp : pc + 3 = pc') (k : (x < y → V G M d tgt loc st h o h') ∧ (¬ x < y → V G M d pc' loc st h o h')) : V G M d pc loc (.int y :: .int x :: st) h o h' := by
  subst hp
  exact V.rowB (fun p l e R s m args below meth c H locs ls cells slots Q cx k1 k2 => lv_icmp_lt cx.ex cx.by hd ht k1 k2) (Classical.em _) k
theorem v_icmp_ge {x y : Int32} {off : Int} {tgt : Nat} (hd : decode M.2.1 pc = .ok (.if_icmp .ge off, 3)) (ht : (pc : Int) + off = (tgt : Int)) (hp : pc + 3 = pc') (k : (y ≤ x → V G M d tgt loc st h o h') ∧ (¬ y ≤ x → V G M d pc' loc st h o h')) : V G M d pc loc (.int y :: .int x :: st) h o h' := by
  subst hp
  exact V.rowB (fun p l e R s m args below meth c H locs ls cells slots Q cx k1 k2 => lv_icmp_ge cx.ex cx.by hd ht k1 k2) (Classical.em _) k
theorem v_icmp_gt {x y : Int32} {off : Int} {tgt : Nat} (hd : decode M.2.1 pc = .ok (.if_icmp .gt off, 3)) (ht : (pc : Int) + off = (tgt : Int)) (hp : pc + 3 = pc') (k : (y < x → V G M d tgt loc st h o h') ∧ (¬ y < x → V G M d pc' loc st h o h')) : V G M d pc loc (.int y :: .int x :: st) h o h' := by
  subst hp
  exact V.rowB (fun p l e R s m args below meth c H locs ls cells slots Q cx k1 k2 => lv_icmp_gt cx.ex cx.by hd ht k1 k2) (Classical.em _) k
theorem v_icmp_le {x y : Int32} {off : Int} {tgt : Nat} (hd : decode M.2.1 pc = .ok (.if_icmp .le off, 3)) (ht : (pc : Int) + off = (tgt : Int)) (hp : pc + 3 = pc') (k : (x ≤ y → V G M d tgt loc st h o h') ∧ (¬ x ≤ y → V G M d pc' loc st h o h')) : V G M d pc loc (.int y :: .int x :: st) h o h' := by
  subst hp
  exact V.rowB (fun p l e R s m args below meth c H locs ls cells slots Q cx k1 k2 => lv_icmp_le cx.ex cx.by hd ht k1 k2) (Classical.em _) k
theorem v_ifnull {x : Nat} {off : Int} {tgt : Nat} (hd : decode M.2.1 pc = .ok (.ifnull off, 3)) (ht : (pc : Int) + off = (tgt : Int)) (hp : pc + 3 = pc') (k : (x = 0 → V G M d tgt loc st h o h') ∧ (¬ x = 0 → V G M d pc' loc st h o h')) : V G M d pc loc (.ref x :: st) h o h' := by
  subst hp
  refine V.rowB (fun p l e R s m args below meth c H locs ls cells slots Q cx k1 k2 => ?_) (Classical.em _) k
  by_cases e0 : x = 0
  · subst e0; exact lv_ifnullN cx.ex cx.by hd ht (k1 rfl)
  · rw [List.map_cons, trV_ref G e0]; exact lv_ifnull cx.ex cx.by hd (k2 e0)
theorem v_ifnonnull {x : Nat} {off : Int} {tgt : Nat} (hd : decode M.2.1 pc = .ok (.ifnonnull off, 3)) (ht : (pc : Int) + off = (tgt : Int)) (hp : pc + 3 = pc') (k : (¬ x = 0 → V G M d tgt loc st h o h') ∧ (x = 0 → V G M d pc' loc st h o h')) : V G M d pc loc (.ref x :: st) h o h' := by
  subst hp
  refine V.rowB (fun p l e R s m args below meth c H locs ls cells slots Q cx k1 k2 => ?_) (Classical.em _).symm k
  by_cases e0 : x = 0
  · subst e0; exact lv_ifnonnullN cx.ex cx.by hd (k2 rfl)
  · rw [List.map_cons, trV_ref G e0]; exact lv_ifnonnull cx.ex cx.by hd ht (k1 e0)
/-- a table of jumps: one place -/
theorem v_switchIn {dflt lo hi : Int} {offs : Array Int} {len : Nat} {x : Int32} {off : Int} (hd : decode M.2.1 pc = .ok (.tableswitch dflt lo hi offs, len)) (h1 : ¬ x.toInt < lo) (h2 : ¬ hi < x.toInt) (ho : offs[(x.toInt - lo).toNat]? = some off) (ht : (pc : Int) + off = (pc' : Int)) (k : V G M d pc' loc st h o h') : V G M d pc loc (.int x :: st) h o h' :=
  V.row (fun p l e R s m args below meth c H locs ls cells slots Q cx lr k => lv_tableIn cx.ex cx.by hd h1 h2 ho ht k) k
theorem v_switchOut {dflt lo hi : Int} {offs : Array Int} {len : Nat} {x : Int32} (hd : decode M.2.1 pc = .ok (.tableswitch dflt lo hi offs, len)) (hx : x.toInt < lo ∨ hi < x.toInt) (ht : (pc : Int) + dflt = (pc' : Int)) (k : V G M d pc' loc st h o h') : V G M d pc loc (.int x :: st) h o h' :=
  V.row (fun p l e R s m args below meth c H locs ls cells slots Q cx lr k => lv_tableOut cx.ex cx.by hd hx ht k) k
end VS
