/-! ===== broken: the reference ===== -/
section P3
variable {h : Hp} {r w : Nat} {B : Nat → Nat}
theorem q_br_ent (R : RB h r w B) (W : Wf B) {d rb : Nat} (hd : d < 12) (hrb : rb < 2 ^ 12) (hr : rb.testBit d = true) (ht : fd B d 1 = 2) {x4 : Int32} : ∀ (l pre : List Nat) (n a : Nat), ents B d = pre ++ l → a + l.length < 2 ^ 30 →
    gX10_brokenOf (n + l.length + 1) 32 [uV, .ref r, .int (nI (256 * w)), .int (nI a), .int x4, .int (nI rb), .int (nI (lnkN B)), .int (nI d), .int (nI pre.length), uV] [] h = gX10_brokenOf n 133 [uV, .ref r, .int (nI (256 * w)), .int (nI (a + (l.filter (fun e => !(B e == 0) && notW B (B (e + 1)))).length)), .int x4, .int (nI rb), .int (nI (lnkN B)), .int (nI d), .int 2, uV] [] h := by
  obtain ⟨rk, rl, rw', -, rB⟩ := id R
  have hl : lnkN B < 2 ^ 12 := bitsOf_lt _ 12
  have hh := m_has (a := rb) (k := d) (by omega) (by omega) h
  rw [hr] at hh
  have htg : fX10_fieldOf r (nI (256 * w)) (nI d) 1 h = some (.inl (some (.int (nI (fd B d 1)))), h) := q_fieldOf R (n := d) (f := 1) hd (by decide)
  rw [ht] at htg
  intro l
  induction l with
  | nil =>
    intro pre n a e ha
    rw [List.append_nil] at e
    have he := q_entE R W.1 hd e
    rw [List.length_nil, Nat.add_zero, zX10_brokenOf_32]
    unfold kX10_brokenOf_32
    rw [hh, bI_s, if_neg (by decide), htg, bI_s, if_neg (by decide), he, bI_s, if_pos rfl]
    rfl
  | cons z l ih =>
    intro pre n a e ha
    obtain ⟨he, hz, hp⟩ := q_ent R W.1 hd e
    have ih := ih (pre ++ [z]) n
    rw [len1] at ih
    rw [List.length_cons] at ha ⊢
    have hs1 : nI pre.length + 1 = nI (pre.length + 1) := by simp (maxSteps := 3000000) (disch := omega) only [↓reduceIte, if_true, if_false, ite_not, not_true_eq_false, not_false_eq_true, ↓qqI_p, ↓qqR_p, ↓qqV_p, ↓qqIx_p, ↓qqRx_p, ↓qqVx_p, qqI_s, qqR_s, qqV_s, qqIx_s, qqRx_s, qqVx_s, qqIx_t, qqVx_t, ↓letH_s, inB_nI, nI_leI, nI_ltI, nI_eq, nI_eq0, nI_eqm, nI_eqn, nI_le0, nI_lt0, nI_0lt, nI_0le, nI_clamp, pk_mul, nI_add, pk_div, pk_sub, rem_n, z_add, add_z, m_cell, kmk, lmk, rmk, b2i_0, b2i_n1, bft, le_t, le_f, lt_t, lt_f, eq_t, eq_f, k1, k2, k3, k4, k5, k6, k7, k8, k9, k10, k11, k12, k13, k15, k16, k20, k24, k30, k60, k64, k99, k100, k200, k255, k256, k512, k2912, k3392, k3393, k3394, k3395, k3396, k3397, k3398]
    have ha1 : nI a + 1 = nI (a + 1) := by simp (maxSteps := 3000000) (disch := omega) only [↓reduceIte, if_true, if_false, ite_not, not_true_eq_false, not_false_eq_true, ↓qqI_p, ↓qqR_p, ↓qqV_p, ↓qqIx_p, ↓qqRx_p, ↓qqVx_p, qqI_s, qqR_s, qqV_s, qqIx_s, qqRx_s, qqVx_s, qqIx_t, qqVx_t, ↓letH_s, inB_nI, nI_leI, nI_ltI, nI_eq, nI_eq0, nI_eqm, nI_eqn, nI_le0, nI_lt0, nI_0lt, nI_0le, nI_clamp, pk_mul, nI_add, pk_div, pk_sub, rem_n, z_add, add_z, m_cell, kmk, lmk, rmk, b2i_0, b2i_n1, bft, le_t, le_f, lt_t, lt_f, eq_t, eq_f, k1, k2, k3, k4, k5, k6, k7, k8, k9, k10, k11, k12, k13, k15, k16, k20, k24, k30, k60, k64, k99, k100, k200, k255, k256, k512, k2912, k3392, k3393, k3394, k3395, k3396, k3397, k3398]
    have ha0 : nI a + 0 = nI a := Int32.add_zero _
    have hb1 : inB (nI (256 * w) + nI z) 3398 = true := by simp (maxSteps := 3000000) (disch := omega) only [↓reduceIte, if_true, if_false, ite_not, not_true_eq_false, not_false_eq_true, ↓qqI_p, ↓qqR_p, ↓qqV_p, ↓qqIx_p, ↓qqRx_p, ↓qqVx_p, qqI_s, qqR_s, qqV_s, qqIx_s, qqRx_s, qqVx_s, qqIx_t, qqVx_t, ↓letH_s, inB_nI, nI_leI, nI_ltI, nI_eq, nI_eq0, nI_eqm, nI_eqn, nI_le0, nI_lt0, nI_0lt, nI_0le, nI_clamp, pk_mul, nI_add, pk_div, pk_sub, rem_n, z_add, add_z, m_cell, kmk, lmk, rmk, b2i_0, b2i_n1, bft, le_t, le_f, lt_t, lt_f, eq_t, eq_f, k1, k2, k3, k4, k5, k6, k7, k8, k9, k10, k11, k12, k13, k15, k16, k20, k24, k30, k60, k64, k99, k100, k200, k255, k256, k512, k2912, k3392, k3393, k3394, k3395, k3396, k3397, k3398] <;> omega
    have hb2 : inB (nI (256 * w) + nI z + 1) 3398 = true := by simp (maxSteps := 3000000) (disch := omega) only [↓reduceIte, if_true, if_false, ite_not, not_true_eq_false, not_false_eq_true, ↓qqI_p, ↓qqR_p, ↓qqV_p, ↓qqIx_p, ↓qqRx_p, ↓qqVx_p, qqI_s, qqR_s, qqV_s, qqIx_s, qqRx_s, qqVx_s, qqIx_t, qqVx_t, ↓letH_s, inB_nI, nI_leI, nI_ltI, nI_eq, nI_eq0, nI_eqm, nI_eqn, nI_le0, nI_lt0, nI_0lt, nI_0le, nI_clamp, pk_mul, nI_add, pk_div, pk_sub, rem_n, z_add, add_z, m_cell, kmk, lmk, rmk, b2i_0, b2i_n1, bft, le_t, le_f, lt_t, lt_f, eq_t, eq_f, k1, k2, k3, k4, k5, k6, k7, k8, k9, k10, k11, k12, k13, k15, k16, k20, k24, k30, k60, k64, k99, k100, k200, k255, k256, k512, k2912, k3392, k3393, k3394, k3395, k3396, k3397, k3398] <;> omega
    have hx1 : (nI (256 * w) + nI z).toNatClampNeg = 256 * w + z := by simp (maxSteps := 3000000) (disch := omega) only [↓reduceIte, if_true, if_false, ite_not, not_true_eq_false, not_false_eq_true, ↓qqI_p, ↓qqR_p, ↓qqV_p, ↓qqIx_p, ↓qqRx_p, ↓qqVx_p, qqI_s, qqR_s, qqV_s, qqIx_s, qqRx_s, qqVx_s, qqIx_t, qqVx_t, ↓letH_s, inB_nI, nI_leI, nI_ltI, nI_eq, nI_eq0, nI_eqm, nI_eqn, nI_le0, nI_lt0, nI_0lt, nI_0le, nI_clamp, pk_mul, nI_add, pk_div, pk_sub, rem_n, z_add, add_z, m_cell, kmk, lmk, rmk, b2i_0, b2i_n1, bft, le_t, le_f, lt_t, lt_f, eq_t, eq_f, k1, k2, k3, k4, k5, k6, k7, k8, k9, k10, k11, k12, k13, k15, k16, k20, k24, k30, k60, k64, k99, k100, k200, k255, k256, k512, k2912, k3392, k3393, k3394, k3395, k3396, k3397, k3398] <;> omega
    have hx2 : (nI (256 * w) + nI z + 1).toNatClampNeg = 256 * w + (z + 1) := by simp (maxSteps := 3000000) (disch := omega) only [↓reduceIte, if_true, if_false, ite_not, not_true_eq_false, not_false_eq_true, ↓qqI_p, ↓qqR_p, ↓qqV_p, ↓qqIx_p, ↓qqRx_p, ↓qqVx_p, qqI_s, qqR_s, qqV_s, qqIx_s, qqRx_s, qqVx_s, qqIx_t, qqVx_t, ↓letH_s, inB_nI, nI_leI, nI_ltI, nI_eq, nI_eq0, nI_eqm, nI_eqn, nI_le0, nI_lt0, nI_0lt, nI_0le, nI_clamp, pk_mul, nI_add, pk_div, pk_sub, rem_n, z_add, add_z, m_cell, kmk, lmk, rmk, b2i_0, b2i_n1, bft, le_t, le_f, lt_t, lt_f, eq_t, eq_f, k1, k2, k3, k4, k5, k6, k7, k8, k9, k10, k11, k12, k13, k15, k16, k20, k24, k30, k60, k64, k99, k100, k200, k255, k256, k512, k2912, k3392, k3393, k3394, k3395, k3396, k3397, k3398] <;> omega
    have hr1 := q_rd R (x := z) (by omega)
    have hr2 := q_rd R (x := z + 1) (by omega)
    have hzm : ¬ nI z = -1 := fun e => (nI_eqm (by omega)).mp e
    have hb := rB z
    rw [show n + (l.length + 1) + 1 = (n + l.length + 1) + 1 by omega, zX10_brokenOf_32, List.filter_cons]
    unfold kX10_brokenOf_32
    rw [hh, bI_s, if_neg (by decide), htg, bI_s, if_neg (by decide), he, bI_s, if_neg hzm, he, bI_s, if_pos rk, rl, if_pos hb1, hx1, hr1, hs1]
    by_cases h0 : B z = 0
    · have h0' : (B z == 0) = true := by simpa using h0
      rw [if_pos (by rw [h0]; rfl), ha0, h0', ih a (app1 e) (by omega)]
      rfl
    · have h0' : (B z == 0) = false := by simpa using h0
      have hy := W.2.2 d hd ht z (by rw [e]; simp) h0
      have hhy := m_has (a := lnkN B) (k := B (z + 1)) (by omega) (by omega) h
      have hbit : (lnkN B).testBit (B (z + 1)) = decide (0 < fd B (B (z + 1)) 0) := by
        unfold lnkN
        rw [bitsOf_bit]
        simp [hy]
      rw [hbit] at hhy
      have hty : fX10_fieldOf r (nI (256 * w)) (nI (B (z + 1))) 1 h = some (.inl (some (.int (nI (fd B (B (z + 1)) 1)))), h) := q_fieldOf R (n := B (z + 1)) (f := 1) hy (by decide)
      have g1 : fd B (B (z + 1)) 1 < 128 := rB _
      rw [if_neg (by rw [nI_eq0 (by omega)]; exact h0), if_pos hb2, hx2, hr2, hhy, bI_s, h0', ha1, ha0]
      by_cases e0 : fd B (B (z + 1)) 0 = 0
      · have hw : notW B (B (z + 1)) = true := by unfold notW; rw [e0]; rfl
        rw [if_pos (by rw [e0]; rfl), ih (a + 1) (app1 e) (by omega), hw]
        simp only [Bool.not_false, Bool.and_self, if_true, List.length_cons]
        rw [show a + 1 + (l.filter (fun e => !(B e == 0) && notW B (B (e + 1)))).length = a + ((l.filter (fun e => !(B e == 0) && notW B (B (e + 1)))).length + 1) by omega]
      · have e0' : decide (0 < fd B (B (z + 1)) 0) = true := by simp; omega
        rw [e0', if_neg (by decide), if_pos rk, rl, if_pos hb2, hr2, hty, bI_s]
        by_cases e1 : fd B (B (z + 1)) 1 = 0
        · have hw : notW B (B (z + 1)) = true := by unfold notW; rw [e1]; simp
          rw [if_neg (by rw [e1]; simp [nI_0]), ih (a + 1) (app1 e) (by omega), hw]
          simp only [Bool.not_false, Bool.and_self, if_true, List.length_cons]
          rw [show a + 1 + (l.filter (fun e => !(B e == 0) && notW B (B (e + 1)))).length = a + ((l.filter (fun e => !(B e == 0) && notW B (B (e + 1)))).length + 1) by omega]
        · have hw : notW B (B (z + 1)) = false := by unfold notW; simp [e0, e1]
          rw [if_pos (by rw [nI_eq0 (by omega)]; exact e1), ih a (app1 e) (by omega), hw]
          rfl
/-- the entries' part of a node -/
theorem q_br_32 (R : RB h r w B) (W : Wf B) {d : Nat} (hd : d < 12) {x4 : Int32} (n a : Nat) (ha : a + 16 < 2 ^ 30) : ∃ n', n ≤ n' ∧
    gX10_brokenOf (n + 17) 32 [uV, .ref r, .int (nI (256 * w)), .int (nI a), .int x4, .int (nI (rbits B)), .int (nI (lnkN B)), .int (nI d), .int 0, uV] [] h = gX10_brokenOf n' 133 [uV, .ref r, .int (nI (256 * w)), .int (nI (a + brD B d)), .int x4, .int (nI (rbits B)), .int (nI (lnkN B)), .int (nI d), .int (nI 2), uV] [] h := by
  have hrb : rbits B < 2 ^ 12 := bitsOf_lt _ 12
  have hh := m_has (a := rbits B) (k := d) (by omega) (by omega) h
  have htg : fX10_fieldOf r (nI (256 * w)) (nI d) 1 h = some (.inl (some (.int (nI (fd B d 1)))), h) := q_fieldOf R (n := d) (f := 1) hd (by decide)
  have g1 : fd B d 1 < 128 := R.2.2.2.2 _
  cases hr : (rbits B).testBit d with
  | false =>
    rw [hr] at hh
    refine ⟨n + 16, by omega, ?_⟩
    rw [show n + 17 = (n + 16) + 1 from rfl, zX10_brokenOf_32]
    unfold kX10_brokenOf_32
    have hb : brD B d = 0 := by unfold brD; rw [if_neg (by rw [hr]; simp)]
    rw [hh, bI_s, if_pos b2i_f, hb, Nat.add_zero]
    rfl
  | true =>
    by_cases ht : fd B d 1 = 2
    · have hlen := ents_len B d
      have := q_br_ent R W hd hrb hr ht (x4 := x4) (ents B d) [] (n + 16 - (ents B d).length) a rfl (by omega)
      refine ⟨n + 16 - (ents B d).length, by omega, ?_⟩
      rw [show n + 16 - (ents B d).length + (ents B d).length + 1 = n + 17 by omega] at this
      have hk : isK B d 2 = true := by
        have := W.2.1 d hd
        unfold isK
        rw [ht]
        simp
        omega
      have hb : brD B d = brE B d := by unfold brD; rw [if_pos ⟨hr, hk⟩]
      rw [hb]
      exact this
    · rw [hr] at hh
      refine ⟨n + 16, by omega, ?_⟩
      rw [show n + 17 = (n + 16) + 1 from rfl, zX10_brokenOf_32]
      unfold kX10_brokenOf_32
      have hb : brD B d = 0 := by
        unfold brD
        rw [if_neg]
        rintro ⟨-, hk⟩
        unfold isK at hk
        simp at hk
        exact ht hk.2
      rw [hh, bI_s, if_neg (by decide), htg, bI_s, if_pos (by rw [show (2 : Int32) = nI 2 from rfl, nI_eq (by omega) (by decide)]; exact ht), hb, Nat.add_zero]
      rfl
theorem q_br_133 (R : RB h r w B) (W : Wf B) {d f : Nat} (hd : d < 12) (hf : f = 2 ∨ f = 3) {x5 : Int32} (n a c : Nat) (ha : a < 2 ^ 16) (hc : c + 1 < 2 ^ 30) :
    gX10_brokenOf (n + 1) 133 [uV, .ref r, .int (nI (256 * w)), .int (nI c), .int (nI a), .int x5, .int (nI (lnkN B)), .int (nI d), .int (nI f), uV] [] h = gX10_brokenOf n 133 [uV, .ref r, .int (nI (256 * w)), .int (nI (pst B (a, c) (2 * d + (f - 2))).2), .int (nI (pst B (a, c) (2 * d + (f - 2))).1), .int x5, .int (nI (lnkN B)), .int (nI d), .int (nI (f + 1)), uV] [] h := by
  obtain ⟨rk, rl, rw', -, rB⟩ := id R
  have hl : lnkN B < 2 ^ 12 := bitsOf_lt _ 12
  have hff := q_fieldOf R (n := d) (f := f) hd (by omega)
  have hh := m_has (a := lnkN B) (k := d) (by omega) (by omega) h
  have hp := W.1 d hd f hf
  have hf1 : nI f + 1 = nI (f + 1) := by simp (maxSteps := 3000000) (disch := omega) only [↓reduceIte, if_true, if_false, ite_not, not_true_eq_false, not_false_eq_true, ↓qqI_p, ↓qqR_p, ↓qqV_p, ↓qqIx_p, ↓qqRx_p, ↓qqVx_p, qqI_s, qqR_s, qqV_s, qqIx_s, qqRx_s, qqVx_s, qqIx_t, qqVx_t, ↓letH_s, inB_nI, nI_leI, nI_ltI, nI_eq, nI_eq0, nI_eqm, nI_eqn, nI_le0, nI_lt0, nI_0lt, nI_0le, nI_clamp, pk_mul, nI_add, pk_div, pk_sub, rem_n, z_add, add_z, m_cell, kmk, lmk, rmk, b2i_0, b2i_n1, bft, le_t, le_f, lt_t, lt_f, eq_t, eq_f, k1, k2, k3, k4, k5, k6, k7, k8, k9, k10, k11, k12, k13, k15, k16, k20, k24, k30, k60, k64, k99, k100, k200, k255, k256, k512, k2912, k3392, k3393, k3394, k3395, k3396, k3397, k3398]
  have hc1 : nI c + 1 = nI (c + 1) := by simp (maxSteps := 3000000) (disch := omega) only [↓reduceIte, if_true, if_false, ite_not, not_true_eq_false, not_false_eq_true, ↓qqI_p, ↓qqR_p, ↓qqV_p, ↓qqIx_p, ↓qqRx_p, ↓qqVx_p, qqI_s, qqR_s, qqV_s, qqIx_s, qqRx_s, qqVx_s, qqIx_t, qqVx_t, ↓letH_s, inB_nI, nI_leI, nI_ltI, nI_eq, nI_eq0, nI_eqm, nI_eqn, nI_le0, nI_lt0, nI_0lt, nI_0le, nI_clamp, pk_mul, nI_add, pk_div, pk_sub, rem_n, z_add, add_z, m_cell, kmk, lmk, rmk, b2i_0, b2i_n1, bft, le_t, le_f, lt_t, lt_f, eq_t, eq_f, k1, k2, k3, k4, k5, k6, k7, k8, k9, k10, k11, k12, k13, k15, k16, k20, k24, k30, k60, k64, k99, k100, k200, k255, k256, k512, k2912, k3392, k3393, k3394, k3395, k3396, k3397, k3398]
  have hc0 : nI c + 0 = nI c := Int32.add_zero _
  have e2 : 2 ^ fd B d f < 2 ^ 16 := Nat.pow_lt_pow_right (by decide) hp
  have ho := or_nI31 (a := a) (b := 2 ^ fd B d f) (by omega) (by omega)
  have hs : (1 : Int32) <<< (nI (fd B d f) &&& 31) = nI (2 ^ fd B d f) := one_shl (by omega)
  have hb1 : inB (nI (256 * w) + nI (fd B d f)) 3398 = true := by simp (maxSteps := 3000000) (disch := omega) only [↓reduceIte, if_true, if_false, ite_not, not_true_eq_false, not_false_eq_true, ↓qqI_p, ↓qqR_p, ↓qqV_p, ↓qqIx_p, ↓qqRx_p, ↓qqVx_p, qqI_s, qqR_s, qqV_s, qqIx_s, qqRx_s, qqVx_s, qqIx_t, qqVx_t, ↓letH_s, inB_nI, nI_leI, nI_ltI, nI_eq, nI_eq0, nI_eqm, nI_eqn, nI_le0, nI_lt0, nI_0lt, nI_0le, nI_clamp, pk_mul, nI_add, pk_div, pk_sub, rem_n, z_add, add_z, m_cell, kmk, lmk, rmk, b2i_0, b2i_n1, bft, le_t, le_f, lt_t, lt_f, eq_t, eq_f, k1, k2, k3, k4, k5, k6, k7, k8, k9, k10, k11, k12, k13, k15, k16, k20, k24, k30, k60, k64, k99, k100, k200, k255, k256, k512, k2912, k3392, k3393, k3394, k3395, k3396, k3397, k3398] <;> omega
  have hx1 : (nI (256 * w) + nI (fd B d f)).toNatClampNeg = 256 * w + fd B d f := by simp (maxSteps := 3000000) (disch := omega) only [↓reduceIte, if_true, if_false, ite_not, not_true_eq_false, not_false_eq_true, ↓qqI_p, ↓qqR_p, ↓qqV_p, ↓qqIx_p, ↓qqRx_p, ↓qqVx_p, qqI_s, qqR_s, qqV_s, qqIx_s, qqRx_s, qqVx_s, qqIx_t, qqVx_t, ↓letH_s, inB_nI, nI_leI, nI_ltI, nI_eq, nI_eq0, nI_eqm, nI_eqn, nI_le0, nI_lt0, nI_0lt, nI_0le, nI_clamp, pk_mul, nI_add, pk_div, pk_sub, rem_n, z_add, add_z, m_cell, kmk, lmk, rmk, b2i_0, b2i_n1, bft, le_t, le_f, lt_t, lt_f, eq_t, eq_f, k1, k2, k3, k4, k5, k6, k7, k8, k9, k10, k11, k12, k13, k15, k16, k20, k24, k30, k60, k64, k99, k100, k200, k255, k256, k512, k2912, k3392, k3393, k3394, k3395, k3396, k3397, k3398] <;> omega
  have hr1 := q_rd R (x := fd B d f) (by omega)
  have hb := rB (fd B d f)
  have hha := m_has (a := a) (k := fd B d f) (by omega) (by omega) h
  have hd2 : (2 * d + (f - 2)) / 2 = d := by omega
  have hm2 : 2 + (2 * d + (f - 2)) % 2 = f := by omega
  have hblk : blkP B (2 * d + (f - 2)) = if (lnkN B).testBit d = true then fd B d f else 0 := by unfold blkP; rw [hd2, hm2]
  unfold pst
  rw [hblk, zX10_brokenOf_133]
  unfold kX10_brokenOf_133
  rw [if_neg (by rw [show (3 : Int32) = nI 3 from rfl, nI_ltI (by decide) (by omega)]; omega), hff, bI_s, hh, bI_s, hf1]
  cases hbit : (lnkN B).testBit d with
  | false => rw [if_pos b2i_f]; rfl
  | true =>
    rw [if_neg (by decide), if_pos rfl]
    by_cases h0 : fd B d f = 0
    · rw [if_neg (by rw [h0]; simp [nI_0]), if_pos h0]
    · rw [if_pos (by rw [nI_eq0 (by omega)]; exact h0), if_neg h0, if_pos rk, rl, if_pos hb1, hx1, hr1, hs, ho, hc1, hc0]
      by_cases hB : B (fd B d f) = 0
      · rw [if_pos (by rw [hB]; rfl), if_pos (Or.inl hB)]
      · rw [if_neg (by rw [nI_eq0 (by omega)]; exact hB), hha, bI_s]
        cases ht : a.testBit (fd B d f) with
        | false =>
          rw [if_pos b2i_f, if_neg (by rintro (q | q); exact hB q; cases q)]
          rfl
        | true => rw [if_neg (by decide), if_pos (Or.inr rfl)]
noncomputable def nst (B : Nat → Nat) (x : Nat × Nat) (d : Nat) : Nat × Nat := pst B (pst B (x.1, x.2 + brD B d) (2 * d)) (2 * d + 1)
theorem pst_off (B : Nat → Nat) (a c e k : Nat) : pst B (a, c + e) k = ((pst B (a, c) k).1, (pst B (a, c) k).2 + e) := by
  unfold pst
  by_cases h0 : blkP B k = 0
  · rw [if_pos h0, if_pos h0]
  · rw [if_neg h0, if_neg h0]
    show (_, c + e + _) = (_, c + _ + e)
    rw [Nat.add_right_comm]
theorem nst_sum (B : Nat → Nat) : ∀ (c d a n e : Nat), (List.range' d c).foldl (nst B) (a, n + e) = (((List.range' (2 * d) (2 * c)).foldl (pst B) (a, n)).1, ((List.range' (2 * d) (2 * c)).foldl (pst B) (a, n)).2 + (e + sr (brD B) d c)) := by
  intro c
  induction c with
  | zero => intro d a n e; rfl
  | succ c ih =>
    intro d a n e
    rw [List.range'_succ, List.foldl_cons, show 2 * (c + 1) = (2 * c + 1) + 1 by omega, List.range'_succ, List.foldl_cons, List.range'_succ, List.foldl_cons, sr_s]
    have h1 : nst B (a, n + e) d = ((pst B (pst B (a, n) (2 * d)) (2 * d + 1)).1, (pst B (pst B (a, n) (2 * d)) (2 * d + 1)).2 + (e + brD B d)) := by
      unfold nst
      show pst B (pst B (a, n + e + brD B d) (2 * d)) (2 * d + 1) = _
      rw [Nat.add_assoc, pst_off, pst_off]
    rw [h1, ih, Nat.add_assoc]
    rfl
theorem brD_le (B : Nat → Nat) (d : Nat) : brD B d ≤ 16 := by
  unfold brD brE
  split
  · exact Nat.le_trans (List.length_filter_le _ _) (ents_len B d)
  · omega
theorem q_br_go (R : RB h r w B) (W : Wf B) : ∀ (c d n a x : Nat), d + c = 12 → a < 2 ^ 16 → x + 18 * c + 18 < 2 ^ 30 →
    gX10_brokenOf (n + 21 * c + 1) 22 [uV, .ref r, .int (nI (256 * w)), .int (nI x), .int (nI a), .int (nI (rbits B)), .int (nI (lnkN B)), .int (nI d), uV, uV] [] h = some (.inl (some (.int (nI ((List.range' d c).foldl (nst B) (a, x)).2))), h) := by
  intro c
  induction c with
  | zero =>
    intro d n a x hd ha hx
    have : d = 12 := by omega
    subst this
    rw [Nat.mul_zero, Nat.add_zero, zX10_brokenOf_22]
    unfold kX10_brokenOf_22
    rw [if_pos (by decide)]
    rfl
  | succ c ih =>
    intro d n a x hd ha hx
    have hd1 : nI d + 1 = nI (d + 1) := by simp (maxSteps := 3000000) (disch := omega) only [↓reduceIte, if_true, if_false, ite_not, not_true_eq_false, not_false_eq_true, ↓qqI_p, ↓qqR_p, ↓qqV_p, ↓qqIx_p, ↓qqRx_p, ↓qqVx_p, qqI_s, qqR_s, qqV_s, qqIx_s, qqRx_s, qqVx_s, qqIx_t, qqVx_t, ↓letH_s, inB_nI, nI_leI, nI_ltI, nI_eq, nI_eq0, nI_eqm, nI_eqn, nI_le0, nI_lt0, nI_0lt, nI_0le, nI_clamp, pk_mul, nI_add, pk_div, pk_sub, rem_n, z_add, add_z, m_cell, kmk, lmk, rmk, b2i_0, b2i_n1, bft, le_t, le_f, lt_t, lt_f, eq_t, eq_f, k1, k2, k3, k4, k5, k6, k7, k8, k9, k10, k11, k12, k13, k15, k16, k20, k24, k30, k60, k64, k99, k100, k200, k255, k256, k512, k2912, k3392, k3393, k3394, k3395, k3396, k3397, k3398]
    obtain ⟨n', l1, e1⟩ := q_br_32 R W (d := d) (by omega) (x4 := nI a) (n + 21 * c + 4) x (by omega)
    have hble := brD_le B d
    rw [zX10_brokenOf_22, List.range'_succ, List.foldl_cons]
    unfold kX10_brokenOf_22
    rw [if_neg (by simp (maxSteps := 3000000) (disch := omega) only [↓reduceIte, if_true, if_false, ite_not, not_true_eq_false, not_false_eq_true, ↓qqI_p, ↓qqR_p, ↓qqV_p, ↓qqIx_p, ↓qqRx_p, ↓qqVx_p, qqI_s, qqR_s, qqV_s, qqIx_s, qqRx_s, qqVx_s, qqIx_t, qqVx_t, ↓letH_s, inB_nI, nI_leI, nI_ltI, nI_eq, nI_eq0, nI_eqm, nI_eqn, nI_le0, nI_lt0, nI_0lt, nI_0le, nI_clamp, pk_mul, nI_add, pk_div, pk_sub, rem_n, z_add, add_z, m_cell, kmk, lmk, rmk, b2i_0, b2i_n1, bft, le_t, le_f, lt_t, lt_f, eq_t, eq_f, k1, k2, k3, k4, k5, k6, k7, k8, k9, k10, k11, k12, k13, k15, k16, k20, k24, k30, k60, k64, k99, k100, k200, k255, k256, k512, k2912, k3392, k3393, k3394, k3395, k3396, k3397, k3398] <;> omega), show n + 21 * (c + 1) = n + 21 * c + 4 + 17 by omega, e1]
    obtain ⟨n2, rfl⟩ : ∃ n2, n' = n2 + 21 * c + 1 + 1 + 1 + 1 := ⟨n' - 21 * c - 4, by omega⟩
    have hp1 := pst_lt (x := (a, x + brD B d)) W.1 (k := 2 * d) (by omega) ha
    have hq1 := pst_le B (a, x + brD B d) (2 * d)
    have hq1 : (pst B (a, x + brD B d) (2 * d)).2 ≤ x + brD B d + 1 := hq1
    have s1 := q_br_133 R W (d := d) (f := 2) (by omega) (Or.inl rfl) (x5 := nI (rbits B)) (n2 + 21 * c + 1 + 1 + 1) a (x + brD B d) ha (by omega)
    rw [show 2 * d + (2 - 2) = 2 * d by omega] at s1
    rw [s1]
    have s2 := q_br_133 R W (d := d) (f := 3) (by omega) (Or.inr rfl) (x5 := nI (rbits B)) (n2 + 21 * c + 1 + 1) (pst B (a, x + brD B d) (2 * d)).1 (pst B (a, x + brD B d) (2 * d)).2 hp1 (by omega)
    rw [show 2 * d + (3 - 2) = 2 * d + 1 by omega] at s2
    rw [s2]
    have hn : nst B (a, x) d = pst B (pst B (a, x + brD B d) (2 * d)) (2 * d + 1) := rfl
    have hp2 := pst_lt (x := pst B (a, x + brD B d) (2 * d)) W.1 (k := 2 * d + 1) (by omega) hp1
    have hq2 := pst_le B (pst B (a, x + brD B d) (2 * d)) (2 * d + 1)
    rw [zX10_brokenOf_133]
    unfold kX10_brokenOf_133
    rw [if_pos (by decide), hd1, hn]
    exact ih (d + 1) n2 (pst B (pst B (a, x + brD B d) (2 * d)) (2 * d + 1)).1 (pst B (pst B (a, x + brD B d) (2 * d)) (2 * d + 1)).2 (by omega) hp2 (by omega)
theorem q_broken (R : RB h r w B) (W : Wf B) (m : Nat) : fX10_brokenOf m r (nI (256 * w)) h = some (.inl (some (.int (nI (((List.range' 0 24).foldl (pst B) (0, 0)).2 + sr (brD B) 0 12)))), h) := by
  unfold fX10_brokenOf kX10_brokenOf_0
  rw [q_reached R W, bI_s, q_linked R, bI_s]
  have := q_br_go R W 12 0 999747 0 0 rfl (by decide) (by decide)
  refine Eq.trans this ?_
  have hs := nst_sum B 12 0 0 0 0
  rw [hs, Nat.zero_add]
end P3
