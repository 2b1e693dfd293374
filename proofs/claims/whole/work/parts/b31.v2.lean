/-! ===== what a block waits for: the class's loops ===== -/
theorem cBa_lt {S : St} (B : Bd S) {pre l : List Ch} (e : sC S = pre ++ l) (j : Nat) : cBa pre j < 16 := by
  unfold cBa
  cases hg : pre[j]? with
  | none => show 0 < 16; decide
  | some d =>
    have hd := List.mem_of_getElem? hg
    exact (B.2.2.2.2.1 d (by rw [e]; exact List.mem_append_left _ hd)).2.2.1
theorem o2_lt {S : St} (B : Bd S) {pre l : List Ch} (e : sC S = pre ++ l) (o : Option Nat) : o2 pre o < 2 ^ 16 := by
  cases o with
  | none => show 0 < 2 ^ 16; decide
  | some j => exact Nat.pow_lt_pow_right (by decide) (cBa_lt B e j)
section V2
variable {h : Hp} {s z : Nat} {S : St}
theorem c_w33 (R : Sta h s S z) {pre : List Ch} {c : Ch} {l : List Ch} (e : sC S = pre ++ c :: l) {f : Nat → Option Nat} (f1 : ∀ i, i < 4 → h.2 (s + 6) (4 * pre.length + i) = oI (f i)) (f2 : ∀ i, i < 4 → ∀ j, f i = some j → j < pre.length) {x1 x3 : Int32} : ∀ (m i q a : Nat), i + m = 4 → a < 2 ^ 16 →
    gX5_blocksNeededBy (q + m) 33 [.ref s, .int x1, .int (nI a), .int x3, .int (nI pre.length), .int (nI (4 * pre.length + i))] [] h = gX5_blocksNeededBy q 33 [.ref s, .int x1, .int (nI (a ||| orF pre f i m)), .int x3, .int (nI pre.length), .int (nI (4 * pre.length + 4))] [] h := by
  have o1 := R.so.1
  have r3 := so_r2 R.so
  have k3 := so_k2 R.so
  have l3 := so_l2 R.so
  have r7 := so_r6 R.so
  have k7 := so_k6 R.so
  have l7 := so_l6 R.so
  obtain ⟨-, hlen, -⟩ := R.ch e
  intro m
  induction m with
  | zero =>
    intro i q a hi ha
    have : i = 4 := by omega
    subst this
    show gX5_blocksNeededBy q 33 _ [] h = gX5_blocksNeededBy q 33 [_, _, .int (nI (a ||| 0)), _, _, _] [] h
    rw [Nat.or_zero]
  | succ m ih =>
    intro i q a hi ha
    have f1 := f1 i (by omega)
    have hb : inB (nI (4 * pre.length + i)) 1024 = true := by simp (maxSteps := 3000000) (disch := omega) only [↓reduceIte, if_true, if_false, ite_not, not_true_eq_false, not_false_eq_true, ↓qqI_p, ↓qqR_p, ↓qqV_p, ↓qqIx_p, ↓qqRx_p, ↓qqVx_p, qqI_s, qqR_s, qqV_s, qqIx_s, qqRx_s, qqVx_s, qqIx_t, qqVx_t, ↓letH_s, inB_nI, nI_leI, nI_ltI, nI_eq, nI_eq0, nI_eqm, nI_eqn, nI_le0, nI_lt0, nI_0lt, nI_0le, nI_clamp, pk_mul, nI_add, pk_div, pk_sub, rem_n, z_add, add_z, m_cell, kmk, lmk, rmk, b2i_0, b2i_n1, bft, le_t, le_f, lt_t, lt_f, eq_t, eq_f, k1, k2, k3, k4, k5, k6, k7, k8, k9, k10, k11, k12, k13, k15, k16, k20, k24, k30, k60, k64, k99, k100, k200, k255, k256, k512, k2912, k3392, k3393, k3394, k3395, k3396, k3397, k3398] <;> omega
    have hx : (nI (4 * pre.length + i)).toNatClampNeg = 4 * pre.length + i := by simp (maxSteps := 3000000) (disch := omega) only [↓reduceIte, if_true, if_false, ite_not, not_true_eq_false, not_false_eq_true, ↓qqI_p, ↓qqR_p, ↓qqV_p, ↓qqIx_p, ↓qqRx_p, ↓qqVx_p, qqI_s, qqR_s, qqV_s, qqIx_s, qqRx_s, qqVx_s, qqIx_t, qqVx_t, ↓letH_s, inB_nI, nI_leI, nI_ltI, nI_eq, nI_eq0, nI_eqm, nI_eqn, nI_le0, nI_lt0, nI_0lt, nI_0le, nI_clamp, pk_mul, nI_add, pk_div, pk_sub, rem_n, z_add, add_z, m_cell, kmk, lmk, rmk, b2i_0, b2i_n1, bft, le_t, le_f, lt_t, lt_f, eq_t, eq_f, k1, k2, k3, k4, k5, k6, k7, k8, k9, k10, k11, k12, k13, k15, k16, k20, k24, k30, k60, k64, k99, k100, k200, k255, k256, k512, k2912, k3392, k3393, k3394, k3395, k3396, k3397, k3398] <;> omega
    have hi1 : nI (4 * pre.length + i) + 1 = nI (4 * pre.length + (i + 1)) := by simp (maxSteps := 3000000) (disch := omega) only [↓reduceIte, if_true, if_false, ite_not, not_true_eq_false, not_false_eq_true, ↓qqI_p, ↓qqR_p, ↓qqV_p, ↓qqIx_p, ↓qqRx_p, ↓qqVx_p, qqI_s, qqR_s, qqV_s, qqIx_s, qqRx_s, qqVx_s, qqIx_t, qqVx_t, ↓letH_s, inB_nI, nI_leI, nI_ltI, nI_eq, nI_eq0, nI_eqm, nI_eqn, nI_le0, nI_lt0, nI_0lt, nI_0le, nI_clamp, pk_mul, nI_add, pk_div, pk_sub, rem_n, z_add, add_z, m_cell, kmk, lmk, rmk, b2i_0, b2i_n1, bft, le_t, le_f, lt_t, lt_f, eq_t, eq_f, k1, k2, k3, k4, k5, k6, k7, k8, k9, k10, k11, k12, k13, k15, k16, k20, k24, k30, k60, k64, k99, k100, k200, k255, k256, k512, k2912, k3392, k3393, k3394, k3395, k3396, k3397, k3398]; rfl
    have hlt := o2_lt R.bd e (f i)
    have hor : a ||| o2 pre (f i) < 2 ^ 16 := Nat.or_lt_two_pow ha hlt
    have ih := ih (i + 1) q (a ||| o2 pre (f i)) (by omega) hor
    rw [Nat.or_assoc] at ih
    have ih : gX5_blocksNeededBy (q + m) 33 [.ref s, .int x1, .int (nI (a ||| o2 pre (f i))), .int x3, .int (nI pre.length), .int (nI (4 * pre.length + (i + 1)))] [] h = gX5_blocksNeededBy q 33 [.ref s, .int x1, .int (nI (a ||| orF pre f i (m + 1))), .int x3, .int (nI pre.length), .int (nI (4 * pre.length + 4))] [] h := ih
    rw [show q + (m + 1) = (q + m) + 1 by omega, zX5_blocksNeededBy_33]
    unfold kX5_blocksNeededBy_33
    rw [if_neg (by simp (maxSteps := 3000000) (disch := omega) only [↓reduceIte, if_true, if_false, ite_not, not_true_eq_false, not_false_eq_true, ↓qqI_p, ↓qqR_p, ↓qqV_p, ↓qqIx_p, ↓qqRx_p, ↓qqVx_p, qqI_s, qqR_s, qqV_s, qqIx_s, qqRx_s, qqVx_s, qqIx_t, qqVx_t, ↓letH_s, inB_nI, nI_leI, nI_ltI, nI_eq, nI_eq0, nI_eqm, nI_eqn, nI_le0, nI_lt0, nI_0lt, nI_0le, nI_clamp, pk_mul, nI_add, pk_div, pk_sub, rem_n, z_add, add_z, m_cell, kmk, lmk, rmk, b2i_0, b2i_n1, bft, le_t, le_f, lt_t, lt_f, eq_t, eq_f, k1, k2, k3, k4, k5, k6, k7, k8, k9, k10, k11, k12, k13, k15, k16, k20, k24, k30, k60, k64, k99, k100, k200, k255, k256, k512, k2912, k3392, k3393, k3394, k3395, k3396, k3397, k3398] <;> omega), if_pos o1, r7, if_pos k7, l7, if_pos hb, hx, f1, hi1]
    cases hf : f i with
    | none =>
      rw [hf] at ih
      rw [if_neg (by rw [oI_n]; simp), show nI a ||| 0 = nI a from Int32.or_zero]
      have ih : gX5_blocksNeededBy (q + m) 33 [.ref s, .int x1, .int (nI (a ||| 0)), .int x3, .int (nI pre.length), .int (nI (4 * pre.length + (i + 1)))] [] h = _ := ih
      rw [Nat.or_zero] at ih
      exact ih
    | some j =>
      rw [hf] at ih
      have hj := f2 i (by omega) j hf
      have hbj : inB (nI j) 256 = true := by simp (maxSteps := 3000000) (disch := omega) only [↓reduceIte, if_true, if_false, ite_not, not_true_eq_false, not_false_eq_true, ↓qqI_p, ↓qqR_p, ↓qqV_p, ↓qqIx_p, ↓qqRx_p, ↓qqVx_p, qqI_s, qqR_s, qqV_s, qqIx_s, qqRx_s, qqVx_s, qqIx_t, qqVx_t, ↓letH_s, inB_nI, nI_leI, nI_ltI, nI_eq, nI_eq0, nI_eqm, nI_eqn, nI_le0, nI_lt0, nI_0lt, nI_0le, nI_clamp, pk_mul, nI_add, pk_div, pk_sub, rem_n, z_add, add_z, m_cell, kmk, lmk, rmk, b2i_0, b2i_n1, bft, le_t, le_f, lt_t, lt_f, eq_t, eq_f, k1, k2, k3, k4, k5, k6, k7, k8, k9, k10, k11, k12, k13, k15, k16, k20, k24, k30, k60, k64, k99, k100, k200, k255, k256, k512, k2912, k3392, k3393, k3394, k3395, k3396, k3397, k3398] <;> omega
      have hxj : (nI j).toNatClampNeg = j := by simp (maxSteps := 3000000) (disch := omega) only [↓reduceIte, if_true, if_false, ite_not, not_true_eq_false, not_false_eq_true, ↓qqI_p, ↓qqR_p, ↓qqV_p, ↓qqIx_p, ↓qqRx_p, ↓qqVx_p, qqI_s, qqR_s, qqV_s, qqIx_s, qqRx_s, qqVx_s, qqIx_t, qqVx_t, ↓letH_s, inB_nI, nI_leI, nI_ltI, nI_eq, nI_eq0, nI_eqm, nI_eqn, nI_le0, nI_lt0, nI_0lt, nI_0le, nI_clamp, pk_mul, nI_add, pk_div, pk_sub, rem_n, z_add, add_z, m_cell, kmk, lmk, rmk, b2i_0, b2i_n1, bft, le_t, le_f, lt_t, lt_f, eq_t, eq_f, k1, k2, k3, k4, k5, k6, k7, k8, k9, k10, k11, k12, k13, k15, k16, k20, k24, k30, k60, k64, k99, k100, k200, k255, k256, k512, k2912, k3392, k3393, k3394, k3395, k3396, k3397, k3398] <;> omega
      have hcb := cBa_lt R.bd e j
      have hsp : sC S = pre.take j ++ pre[j] :: (pre.drop (j + 1) ++ c :: l) := by
        rw [e]
        have : pre = pre.take j ++ pre[j] :: pre.drop (j + 1) := by rw [List.getElem_cons_drop, List.take_append_drop]
        exact (congrArg (fun y => y ++ c :: l) this).trans (by rw [List.append_assoc, List.cons_append])
      have hblk := (R.cst hsp).1
      have htl : (pre.take j).length = j := by rw [List.length_take]; omega
      rw [htl] at hblk
      have hcj : cB pre[j] = cBa pre j := by unfold cBa; rw [List.getElem?_eq_getElem hj]; rfl
      rw [hcj] at hblk
      have hs : (1 : Int32) <<< (nI (cBa pre j) &&& 31) = nI (2 ^ cBa pre j) := one_shl (by omega)
      have hp2 : 2 ^ cBa pre j < 2 ^ 16 := Nat.pow_lt_pow_right (by decide) hcb
      have ho := or_nI31 (a := a) (b := 2 ^ cBa pre j) (by omega) (by omega)
      rw [if_pos (by rw [oI_s]; exact fun e => (nI_eqm (by omega)).mp e), r3, if_pos k3, l3, oI_s, if_pos hbj, hxj, hblk, hs, ho]
      exact ih
theorem c_w7 (R : Sta h s S z) {b : Nat} (hb : b < 16) : ∀ (l pre : List Ch) (q a : Nat), sC S = pre ++ l → a < 2 ^ 16 →
    gX5_blocksNeededBy (q + 6 * l.length + 1) 7 [.ref s, .int (nI b), .int (nI a), .int (nI (seenN pre)), .int (nI pre.length), uV] [] h = some (.inl (some (.int (nI (dif (wv b pre l a) (2 ^ b))))), h) := by
  have o1 := R.so.1
  have r3 := so_r2 R.so
  have k3 := so_k2 R.so
  have l3 := so_l2 R.so
  have r8 := so_r7 R.so
  have k8' := so_k7 R.so
  have l8 := so_l7 R.so
  have hb16 : 2 ^ b < 2 ^ 16 := Nat.pow_lt_pow_right (by decide) hb
  intro l
  induction l with
  | nil =>
    intro pre q a e ha
    rw [List.append_nil] at e
    have hlen := R.bd.1
    rw [e] at hlen
    rw [List.length_nil, Nat.mul_zero, Nat.add_zero, zX5_blocksNeededBy_7]
    unfold kX5_blocksNeededBy_7
    have hs : (1 : Int32) <<< (nI b &&& 31) = nI (2 ^ b) := one_shl (by omega)
    rw [if_pos o1, R.un, e, if_pos (by rw [nI_leI (by omega) (by omega)]; exact Nat.le_refl _), hs, andnot_nI (by omega) (by omega)]
    rfl
  | cons c l ih =>
    intro pre q a e ha
    obtain ⟨hch, hlen, hlen2⟩ := R.ch e
    have hcst := R.cst e
    have hblk := hcst.1
    have hc16 := hch.2.2.1
    have hseen : seenN pre < 2 ^ 16 := bitsOf_lt _ 16
    have hs : (1 : Int32) <<< (nI (cB c) &&& 31) = nI (2 ^ cB c) := one_shl (by omega)
    have hp2 : 2 ^ cB c < 2 ^ 16 := Nat.pow_lt_pow_right (by decide) hc16
    have ho := or_nI31 (a := seenN pre) (b := 2 ^ cB c) (by omega) (by omega)
    rw [seen_s pre c hc16] at ho
    have hk1 : nI pre.length + 1 = nI (pre.length + 1) := by simp (maxSteps := 3000000) (disch := omega) only [↓reduceIte, if_true, if_false, ite_not, not_true_eq_false, not_false_eq_true, ↓qqI_p, ↓qqR_p, ↓qqV_p, ↓qqIx_p, ↓qqRx_p, ↓qqVx_p, qqI_s, qqR_s, qqV_s, qqIx_s, qqRx_s, qqVx_s, qqIx_t, qqVx_t, ↓letH_s, inB_nI, nI_leI, nI_ltI, nI_eq, nI_eq0, nI_eqm, nI_eqn, nI_le0, nI_lt0, nI_0lt, nI_0le, nI_clamp, pk_mul, nI_add, pk_div, pk_sub, rem_n, z_add, add_z, m_cell, kmk, lmk, rmk, b2i_0, b2i_n1, bft, le_t, le_f, lt_t, lt_f, eq_t, eq_f, k1, k2, k3, k4, k5, k6, k7, k8, k9, k10, k11, k12, k13, k15, k16, k20, k24, k30, k60, k64, k99, k100, k200, k255, k256, k512, k2912, k3392, k3393, k3394, k3395, k3396, k3397, k3398]
    have hbk : inB (nI pre.length) 256 = true := by simp (maxSteps := 3000000) (disch := omega) only [↓reduceIte, if_true, if_false, ite_not, not_true_eq_false, not_false_eq_true, ↓qqI_p, ↓qqR_p, ↓qqV_p, ↓qqIx_p, ↓qqRx_p, ↓qqVx_p, qqI_s, qqR_s, qqV_s, qqIx_s, qqRx_s, qqVx_s, qqIx_t, qqVx_t, ↓letH_s, inB_nI, nI_leI, nI_ltI, nI_eq, nI_eq0, nI_eqm, nI_eqn, nI_le0, nI_lt0, nI_0lt, nI_0le, nI_clamp, pk_mul, nI_add, pk_div, pk_sub, rem_n, z_add, add_z, m_cell, kmk, lmk, rmk, b2i_0, b2i_n1, bft, le_t, le_f, lt_t, lt_f, eq_t, eq_f, k1, k2, k3, k4, k5, k6, k7, k8, k9, k10, k11, k12, k13, k15, k16, k20, k24, k30, k60, k64, k99, k100, k200, k255, k256, k512, k2912, k3392, k3393, k3394, k3395, k3396, k3397, k3398] <;> omega
    have hxk : (nI pre.length).toNatClampNeg = pre.length := by simp (maxSteps := 3000000) (disch := omega) only [↓reduceIte, if_true, if_false, ite_not, not_true_eq_false, not_false_eq_true, ↓qqI_p, ↓qqR_p, ↓qqV_p, ↓qqIx_p, ↓qqRx_p, ↓qqVx_p, qqI_s, qqR_s, qqV_s, qqIx_s, qqRx_s, qqVx_s, qqIx_t, qqVx_t, ↓letH_s, inB_nI, nI_leI, nI_ltI, nI_eq, nI_eq0, nI_eqm, nI_eqn, nI_le0, nI_lt0, nI_0lt, nI_0le, nI_clamp, pk_mul, nI_add, pk_div, pk_sub, rem_n, z_add, add_z, m_cell, kmk, lmk, rmk, b2i_0, b2i_n1, bft, le_t, le_f, lt_t, lt_f, eq_t, eq_f, k1, k2, k3, k4, k5, k6, k7, k8, k9, k10, k11, k12, k13, k15, k16, k20, k24, k30, k60, k64, k99, k100, k200, k255, k256, k512, k2912, k3392, k3393, k3394, k3395, k3396, k3397, k3398] <;> omega
    have hk4 : nI pre.length * 4 = nI (4 * pre.length + 0) := by
      have : nI pre.length * 4 = nI (pre.length * 4) := by simp (maxSteps := 3000000) (disch := omega) only [↓reduceIte, if_true, if_false, ite_not, not_true_eq_false, not_false_eq_true, ↓qqI_p, ↓qqR_p, ↓qqV_p, ↓qqIx_p, ↓qqRx_p, ↓qqVx_p, qqI_s, qqR_s, qqV_s, qqIx_s, qqRx_s, qqVx_s, qqIx_t, qqVx_t, ↓letH_s, inB_nI, nI_leI, nI_ltI, nI_eq, nI_eq0, nI_eqm, nI_eqn, nI_le0, nI_lt0, nI_0lt, nI_0le, nI_clamp, pk_mul, nI_add, pk_div, pk_sub, rem_n, z_add, add_z, m_cell, kmk, lmk, rmk, b2i_0, b2i_n1, bft, le_t, le_f, lt_t, lt_f, eq_t, eq_f, k1, k2, k3, k4, k5, k6, k7, k8, k9, k10, k11, k12, k13, k15, k16, k20, k24, k30, k60, k64, k99, k100, k200, k255, k256, k512, k2912, k3392, k3393, k3394, k3395, k3396, k3397, k3398]
      rw [this, Nat.mul_comm]
      rfl
    have ih := fun q a ha => ih (pre ++ [c]) q a (app1 e) ha
    rw [len1] at ih
    rw [List.length_cons, wv_s, show q + 6 * (l.length + 1) + 1 = (q + 6 * l.length + 1 + 1 + 4) + 1 by omega, zX5_blocksNeededBy_7]
    unfold kX5_blocksNeededBy_7
    rw [if_pos o1, R.un, if_neg (by rw [nI_leI (by omega) (by omega)]; omega), r3, if_pos k3, l3, if_pos hbk, hxk, hblk]
    by_cases hcb : cB c = b
    · rw [if_neg (by rw [hcb]; simp), if_pos hcb]
      obtain ⟨f, f1, f2, f3⟩ := hcst.2.2.2.2.1
      have hnb := nb_split R.bd e f2 f3
      have h33 := c_w33 R e f1 f2 (x1 := nI b) (x3 := nI (seenN pre)) 4 0 (q + 6 * l.length + 1 + 1) a rfl ha
      rw [hk4, h33, zX5_blocksNeededBy_33]
      unfold kX5_blocksNeededBy_33
      have hnlt : nbN pre c < 2 ^ 16 := bitsOf_lt _ 16
      have ha2 : a ||| nbN pre c < 2 ^ 16 := Nat.or_lt_two_pow ha hnlt
      have hol : orF pre f 0 4 < 2 ^ 16 := by
        have : ∀ m i, orF pre f i m < 2 ^ 16 := by
          intro m
          induction m with
          | zero => intro i; show 0 < 2 ^ 16; decide
          | succ m ihm => intro i; exact Nat.or_lt_two_pow (o2_lt R.bd e (f i)) (ihm (i + 1))
        exact this 4 0
      have hal : a ||| orF pre f 0 4 < 2 ^ 16 := Nat.or_lt_two_pow ha hol
      have hall := hcst.2.2.2.2.2.1
      rw [if_pos (by simp (maxSteps := 3000000) (disch := omega) only [↓reduceIte, if_true, if_false, ite_not, not_true_eq_false, not_false_eq_true, ↓qqI_p, ↓qqR_p, ↓qqV_p, ↓qqIx_p, ↓qqRx_p, ↓qqVx_p, qqI_s, qqR_s, qqV_s, qqIx_s, qqRx_s, qqVx_s, qqIx_t, qqVx_t, ↓letH_s, inB_nI, nI_leI, nI_ltI, nI_eq, nI_eq0, nI_eqm, nI_eqn, nI_le0, nI_lt0, nI_0lt, nI_0le, nI_clamp, pk_mul, nI_add, pk_div, pk_sub, rem_n, z_add, add_z, m_cell, kmk, lmk, rmk, b2i_0, b2i_n1, bft, le_t, le_f, lt_t, lt_f, eq_t, eq_f, k1, k2, k3, k4, k5, k6, k7, k8, k9, k10, k11, k12, k13, k15, k16, k20, k24, k30, k60, k64, k99, k100, k200, k255, k256, k512, k2912, k3392, k3393, k3394, k3395, k3396, k3397, k3398] <;> omega), if_pos o1, r8, if_pos k8', l8, if_pos hbk, hxk, hall]
      cases hA : allB c with
      | none =>
        rw [hA] at hnb
        have hnb : nbN pre c = orF pre f 0 4 ||| 0 := hnb
        rw [Nat.or_zero] at hnb
        rw [if_neg (by rw [oI_n]; simp), r3, if_pos k3, l3, if_pos hbk, hblk, hs, ho, hk1, show nI (a ||| orF pre f 0 4) ||| 0 = nI (a ||| orF pre f 0 4) from Int32.or_zero, ← hnb]
        exact ih q (a ||| nbN pre c) ha2
      | some w =>
        rw [hA] at hnb
        have hnb : nbN pre c = orF pre f 0 4 ||| (seenN pre &&& 2 ^ w) := hnb
        have hw : w < 16 := by
          unfold allB at hA
          split at hA
          · have h1 := hch.2.2.2.2.2 (c2 c) (by simp)
            have h2 : (c2 c).natAbs = w := Option.some.inj hA
            omega
          · cases hA
        have hsw : (1 : Int32) <<< (nI w &&& 31) = nI (2 ^ w) := one_shl (by omega)
        have hpw : 2 ^ w < 2 ^ 16 := Nat.pow_lt_pow_right (by decide) hw
        have han := and_nI (a := seenN pre) (b := 2 ^ w) (by omega) (by omega)
        have hanl : seenN pre &&& 2 ^ w < 2 ^ 16 := Nat.lt_of_le_of_lt Nat.and_le_left hseen
        have ho2 := or_nI31 (a := a ||| orF pre f 0 4) (b := seenN pre &&& 2 ^ w) (by omega) (by omega)
        rw [Nat.or_assoc, ← hnb] at ho2
        rw [if_pos (by rw [oI_s]; exact fun e => (nI_eqm (by omega)).mp e), r3, if_pos k3, l3, if_pos hbk, oI_s, hsw, han, ho2, hblk, hs, ho, hk1]
        exact ih q (a ||| nbN pre c) ha2
    · rw [if_pos (by rw [nI_eq (by omega) (by omega)]; exact hcb), if_neg hcb, hs, ho, hk1, show q + 6 * l.length + 1 + 1 + 4 = (q + 5) + 6 * l.length + 1 by omega]
      exact ih (q + 5) a ha
theorem c_waits (R : Sta h s S z) {b : Nat} (hb : b < 16) : fX5_blocksNeededBy s (nI b) h = some (.inl (some (.int (nI (dif (wv b [] (sC S) 0) (2 ^ b))))), h) := by
  unfold fX5_blocksNeededBy kX5_blocksNeededBy_0
  have hl := R.bd.1
  have := c_w7 R hb (sC S) [] (999999 - 6 * (sC S).length) 0 rfl (by decide)
  rw [show 999999 - 6 * (sC S).length + 6 * (sC S).length + 1 = FF by show _ = 1000000; omega] at this
  exact this
end V2
