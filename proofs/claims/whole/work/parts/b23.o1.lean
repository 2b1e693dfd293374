/-! ===== owner, room ===== -/
section O1
variable {h : Hp} {s w m r : Nat} {B : Nat → Nat}
theorem t_owner_go (R : CB h s w B) {b : Nat} (hb : b < 2 ^ 31) (hb0 : b ≠ 0) : ∀ (c n q : Nat), n + c = 12 → c < q →
    gX8_ownerOf q 2 [.ref s, .int (nI w), .int (nI b), .int (nI n)] [] h = some (.inl (some (.int (oI ((List.range' n c).find? (fun n => (lnkN B).testBit n && (fd B n 2 == b || fd B n 3 == b)))))), h) := by
  intro c
  induction c with
  | zero =>
    intro n q hn hq
    obtain ⟨q, rfl⟩ := sc hq
    rw [zX8_ownerOf_2]
    unfold kX8_ownerOf_2
    rw [if_neg (by rw [nI_eq0 hb]; exact hb0), if_pos (by simp (maxSteps := 3000000) (disch := omega) only [↓reduceIte, if_true, if_false, ite_not, not_true_eq_false, not_false_eq_true, ↓qqI_p, ↓qqR_p, ↓qqV_p, ↓qqIx_p, ↓qqRx_p, ↓qqVx_p, qqI_s, qqR_s, qqV_s, qqIx_s, qqRx_s, qqVx_s, qqIx_t, qqVx_t, ↓letH_s, inB_nI, nI_leI, nI_ltI, nI_eq, nI_eq0, nI_eqm, nI_eqn, nI_le0, nI_lt0, nI_0lt, nI_0le, nI_clamp, pk_mul, nI_add, pk_div, pk_sub, rem_n, z_add, add_z, m_cell, kmk, lmk, rmk, b2i_0, b2i_n1, bft, le_t, le_f, lt_t, lt_f, eq_t, eq_f, k1, k2, k3, k4, k5, k6, k7, k8, k9, k10, k11, k12, k13, k15, k16, k20, k24, k30, k60, k64, k99, k100, k200, k255, k256, k512, k2912, k3392, k3393, k3394, k3395, k3396, k3397, k3398] <;> omega)]
    rfl
  | succ c ih =>
    intro n q hn hq
    obtain ⟨q, rfl⟩ := sc hq
    have h0 : fX5_nodeField s (nI w) (nI n) 0 h = some (.inl (some (.int (nI (fd B n 0)))), h) := c_nodeField R (n := n) (f := 0) (by omega) (by decide)
    have h2 : fX5_nodeField s (nI w) (nI n) 2 h = some (.inl (some (.int (nI (fd B n 2)))), h) := c_nodeField R (n := n) (f := 2) (by omega) (by decide)
    have h3 : fX5_nodeField s (nI w) (nI n) 3 h = some (.inl (some (.int (nI (fd B n 3)))), h) := c_nodeField R (n := n) (f := 3) (by omega) (by decide)
    have g0 : fd B n 0 < 128 := R.2.2.2 _
    have g2 : fd B n 2 < 128 := R.2.2.2 _
    have g3 : fd B n 3 < 128 := R.2.2.2 _
    have ih := ih (n + 1) q (by omega) (by omega)
    have hs1 : nI n + 1 = nI (n + 1) := by simp (maxSteps := 3000000) (disch := omega) only [↓reduceIte, if_true, if_false, ite_not, not_true_eq_false, not_false_eq_true, ↓qqI_p, ↓qqR_p, ↓qqV_p, ↓qqIx_p, ↓qqRx_p, ↓qqVx_p, qqI_s, qqR_s, qqV_s, qqIx_s, qqRx_s, qqVx_s, qqIx_t, qqVx_t, ↓letH_s, inB_nI, nI_leI, nI_ltI, nI_eq, nI_eq0, nI_eqm, nI_eqn, nI_le0, nI_lt0, nI_0lt, nI_0le, nI_clamp, pk_mul, nI_add, pk_div, pk_sub, rem_n, z_add, add_z, m_cell, kmk, lmk, rmk, b2i_0, b2i_n1, bft, le_t, le_f, lt_t, lt_f, eq_t, eq_f, k1, k2, k3, k4, k5, k6, k7, k8, k9, k10, k11, k12, k13, k15, k16, k20, k24, k30, k60, k64, k99, k100, k200, k255, k256, k512, k2912, k3392, k3393, k3394, k3395, k3396, k3397, k3398]
    have hbit : (lnkN B).testBit n = decide (0 < fd B n 0) := by
      unfold lnkN
      rw [bitsOf_bit]
      simp [show n < 12 by omega]
    rw [zX8_ownerOf_2, List.range'_succ, List.find?_cons, hbit]
    unfold kX8_ownerOf_2
    rw [if_neg (by rw [nI_eq0 hb]; exact hb0), if_neg (by simp (maxSteps := 3000000) (disch := omega) only [↓reduceIte, if_true, if_false, ite_not, not_true_eq_false, not_false_eq_true, ↓qqI_p, ↓qqR_p, ↓qqV_p, ↓qqIx_p, ↓qqRx_p, ↓qqVx_p, qqI_s, qqR_s, qqV_s, qqIx_s, qqRx_s, qqVx_s, qqIx_t, qqVx_t, ↓letH_s, inB_nI, nI_leI, nI_ltI, nI_eq, nI_eq0, nI_eqm, nI_eqn, nI_le0, nI_lt0, nI_0lt, nI_0le, nI_clamp, pk_mul, nI_add, pk_div, pk_sub, rem_n, z_add, add_z, m_cell, kmk, lmk, rmk, b2i_0, b2i_n1, bft, le_t, le_f, lt_t, lt_f, eq_t, eq_f, k1, k2, k3, k4, k5, k6, k7, k8, k9, k10, k11, k12, k13, k15, k16, k20, k24, k30, k60, k64, k99, k100, k200, k255, k256, k512, k2912, k3392, k3393, k3394, k3395, k3396, k3397, k3398] <;> omega), if_pos R.1.1, h0, bI_s]
    by_cases e0 : fd B n 0 = 0
    · rw [if_pos (by rw [e0]; rfl), hs1, ih]
      simp [e0]
    · rw [if_neg (by rw [nI_eq0 (by omega)]; exact e0), if_pos R.1.1, h2, bI_s]
      have e0' : decide (0 < fd B n 0) = true := by simp; omega
      rw [e0', Bool.true_and]
      by_cases e2 : fd B n 2 = b
      · rw [if_pos (by rw [e2])]
        simp [e2, oI]
      · rw [if_neg (by rw [nI_eq (by omega) hb]; exact e2), if_pos R.1.1, h3, bI_s]
        have e2' : (fd B n 2 == b) = false := by simpa using e2
        by_cases e3 : fd B n 3 = b
        · rw [if_neg (by rw [e3]; simp)]
          simp [e3, oI]
        · rw [if_pos (by rw [nI_eq (by omega) hb]; exact e3), hs1, ih]
          have e3' : (fd B n 3 == b) = false := by simpa using e3
          simp [e2', e3']
theorem t_owner (R : CB h s w B) {b : Nat} (hb : b < 2 ^ 31) : fX8_ownerOf s (nI w) (nI b) h = some (.inl (some (.int (if b = 0 then -1 else oI (ptrF B (lnkN B) b)))), h) := by
  by_cases hb0 : b = 0
  · subst hb0
    unfold fX8_ownerOf kX8_ownerOf_0
    rw [show FF = 999999 + 1 from rfl]
    have hz := zX8_ownerOf_2 999999 s (nI w) (nI 0) 0 h
    rw [hz]
    unfold kX8_ownerOf_2
    rw [if_pos nI_0, if_pos rfl]
  · rw [if_neg hb0]
    exact t_owner_go R hb hb0 12 0 FF rfl (by decide)
/-- entries without a name -/
def freeN (B : Nat → Nat) (n : Nat) : Nat := ((ents B n).filter (fun e => B e == 0)).length
theorem t_fe1 (R : CB h s w B) {b : Nat} (hb : b < 16) (hb0 : b ≠ 0) {x2 x5 : Int32} : ∀ (k j n a : Nat), j + k = 8 →
    gX8_freeEntries (n + k + 1) 33 [.ref s, .int (nI w), .int x2, .int (nI a), .int x5, .int (nI b), .int (nI j)] [] h = gX8_freeEntries n 5 [.ref s, .int (nI w), .int x2, .int (nI (a + ((ebs b j k).filter (fun e => B e == 0)).length)), .int (x5 + 1), uV, uV] [] h := by
  have hs := R.1.1
  intro k
  induction k with
  | zero =>
    intro j n a hj
    rw [Nat.add_zero, zX8_freeEntries_33]
    have : j = 8 := by omega
    subst this
    unfold kX8_freeEntries_33
    rw [if_neg (by rw [nI_eq0 (by omega)]; exact hb0), if_pos (by decide)]
    rfl
  | succ k ih =>
    intro j n a hj
    have ha1 := c_atN R hb (j := j) (by omega)
    have hB : B (16 * b + 2 * j) < 128 := R.2.2.2 _
    rw [show n + (k + 1) + 1 = (n + k + 1) + 1 by omega, zX8_freeEntries_33, ebs_cons, List.filter_cons]
    unfold kX8_freeEntries_33
    rw [if_neg (by rw [nI_eq0 (by omega)]; exact hb0), if_neg (by rw [k8, nI_leI (by decide) (by omega)]; omega), if_pos hs, k2, pk_mul, ha1, bI_s, nI_1]
    by_cases e : B (16 * b + 2 * j) = 0
    · rw [if_neg (by rw [e]; simp [nI_0]), nI_1, ih (j + 1) n (a + 1) (by omega)]
      have e' : (B (16 * b + 2 * j) == 0) = true := by simpa using e
      rw [e']
      simp only [if_true, List.length_cons]
      rw [show a + 1 + ((ebs b (j + 1) k).filter (fun e => B e == 0)).length = a + (((ebs b (j + 1) k).filter (fun e => B e == 0)).length + 1) by omega]
    · have e' : (B (16 * b + 2 * j) == 0) = false := by simpa using e
      rw [if_pos (by rw [nI_eq0 (by omega)]; exact e), ih (j + 1) n a (by omega), e']
      rfl
theorem t_feF (R : CB h s w B) (P : Pb B) {d f : Nat} (hd : d < 12) (hk : isK B d 2 = true) (hf : f = 2 ∨ f = 3) (a n : Nat) :
    ∃ n', n ≤ n' ∧ gX8_freeEntries (n + 10) 5 [.ref s, .int (nI w), .int (nI d), .int (nI a), .int (nI f), uV, uV] [] h = gX8_freeEntries n' 5 [.ref s, .int (nI w), .int (nI d), .int (nI (a + ((eb (fd B d f)).filter (fun e => B e == 0)).length)), .int (nI (f + 1)), uV, uV] [] h := by
  have hb := P d hd f hf
  have hnf := c_nodeField R hd (f := f) (by omega)
  have h1 := c_isDirectory R hd
  rw [hk] at h1
  rw [show n + 10 = (n + 9) + 1 from rfl, zX8_freeEntries_5]
  unfold kX8_freeEntries_5
  rw [if_pos R.1.1, h1, bI_s, if_neg (by decide), if_neg (by rw [k3, nI_ltI (by decide) (by omega)]; omega), if_pos R.1.1, hnf, bI_s]
  by_cases e : fd B d f = 0
  · refine ⟨n + 8, by omega, ?_⟩
    rw [e, eb_0, show n + 9 = (n + 8) + 1 from rfl, zX8_freeEntries_33]
    unfold kX8_freeEntries_33
    rw [if_pos nI_0, nI_1]
    rfl
  · refine ⟨n, Nat.le_refl _, ?_⟩
    have := t_fe1 R hb e (x2 := nI d) (x5 := nI f) 8 0 n a rfl
    rw [eb_ebs e, ← nI_1]
    exact this
theorem t_free (R : CB h s w B) (P : Pb B) {d : Nat} (hd : d < 12) : fX8_freeEntries s (nI w) (nI d) h = some (.inl (some (.int (nI (if isK B d 2 = true then freeN B d else 0)))), h) := by
  have h1 := c_isDirectory R hd
  unfold fX8_freeEntries kX8_freeEntries_0
  cases hk : isK B d 2 with
  | false =>
    rw [hk] at h1
    rw [show FF = 999999 + 1 from rfl, zX8_freeEntries_5]
    unfold kX8_freeEntries_5
    rw [if_pos R.1.1, h1, bI_s, if_pos (by decide)]
    rfl
  | true =>
    rw [if_pos rfl]
    obtain ⟨n1, q1, e1⟩ := t_feF R P hd hk (f := 2) (Or.inl rfl) 0 999990
    obtain ⟨n1', rfl⟩ : ∃ n', n1 = n' + 10 := ⟨n1 - 10, by omega⟩
    obtain ⟨n2, q2, e2⟩ := t_feF R P hd hk (f := 3) (Or.inr rfl) (0 + ((eb (fd B d 2)).filter (fun e => B e == 0)).length) n1'
    obtain ⟨n2', rfl⟩ : ∃ n', n2 = n' + 1 := ⟨n2 - 1, by omega⟩
    refine Eq.trans e1 (Eq.trans e2 ?_)
    rw [hk] at h1
    rw [zX8_freeEntries_5]
    unfold kX8_freeEntries_5
    rw [if_pos R.1.1, h1, bI_s, if_neg (by decide), if_pos (by decide)]
    unfold freeN ents
    rw [List.filter_append, List.length_append, Nat.zero_add]
/-- the reference's room -/
theorem q_room_go (hm : kH h m = 18) (hr : rH h m 22 = r) (R : RB h r 0 B) (P : Pb B) {n : Nat} (hn : n < 12) (hk : isK B n 2 = true) : ∀ (l pre : List Nat) (q a : Nat), ents B n = pre ++ l → l.length < q → a + l.length < 2 ^ 31 →
    gX10_room q 32 [.ref m, .int (nI n), .int (nI a), .int (nI pre.length)] [] h = some (.inl (some (.int (nI (a + (l.filter (fun e => B e == 0)).length)))), h) := by
  obtain ⟨rk, rl, rw', -, rB⟩ := id R
  have hi : fX10_isKind r 0 (nI n) 2 h = some (.inl (some (.int (b2i true))), h) := by
    have := q_isKind R hn (t := 2) (by decide)
    rw [hk] at this
    exact this
  intro l
  induction l with
  | nil =>
    intro pre q a e hq ha
    obtain ⟨q, rfl⟩ := sc hq
    rw [List.append_nil] at e
    have he : fX10_entryOf r 0 (nI n) (nI pre.length) h = _ := q_entE R P hn e
    rw [zX10_room_32]
    unfold kX10_room_32
    rw [if_pos hm, hr, hi, bI_s, if_neg (by decide), if_pos hm, hr, he, bI_s, if_pos rfl]
    rfl
  | cons z l ih =>
    intro pre q a e hq ha
    obtain ⟨q, rfl⟩ := sc hq
    obtain ⟨he, hz, hp⟩ := q_ent R P hn e
    have he : fX10_entryOf r 0 (nI n) (nI pre.length) h = _ := he
    have ih := ih (pre ++ [z]) q
    rw [len1] at ih
    rw [List.length_cons] at ha hq
    have hs1 : nI pre.length + 1 = nI (pre.length + 1) := by simp (maxSteps := 3000000) (disch := omega) only [↓reduceIte, if_true, if_false, ite_not, not_true_eq_false, not_false_eq_true, ↓qqI_p, ↓qqR_p, ↓qqV_p, ↓qqIx_p, ↓qqRx_p, ↓qqVx_p, qqI_s, qqR_s, qqV_s, qqIx_s, qqRx_s, qqVx_s, qqIx_t, qqVx_t, ↓letH_s, inB_nI, nI_leI, nI_ltI, nI_eq, nI_eq0, nI_eqm, nI_eqn, nI_le0, nI_lt0, nI_0lt, nI_0le, nI_clamp, pk_mul, nI_add, pk_div, pk_sub, rem_n, z_add, add_z, m_cell, kmk, lmk, rmk, b2i_0, b2i_n1, bft, le_t, le_f, lt_t, lt_f, eq_t, eq_f, k1, k2, k3, k4, k5, k6, k7, k8, k9, k10, k11, k12, k13, k15, k16, k20, k24, k30, k60, k64, k99, k100, k200, k255, k256, k512, k2912, k3392, k3393, k3394, k3395, k3396, k3397, k3398]
    have hz0 : (0 : Int32) + nI z = nI z := Int32.zero_add _
    have hb1 : inB (nI z) 3398 = true := by simp (maxSteps := 3000000) (disch := omega) only [↓reduceIte, if_true, if_false, ite_not, not_true_eq_false, not_false_eq_true, ↓qqI_p, ↓qqR_p, ↓qqV_p, ↓qqIx_p, ↓qqRx_p, ↓qqVx_p, qqI_s, qqR_s, qqV_s, qqIx_s, qqRx_s, qqVx_s, qqIx_t, qqVx_t, ↓letH_s, inB_nI, nI_leI, nI_ltI, nI_eq, nI_eq0, nI_eqm, nI_eqn, nI_le0, nI_lt0, nI_0lt, nI_0le, nI_clamp, pk_mul, nI_add, pk_div, pk_sub, rem_n, z_add, add_z, m_cell, kmk, lmk, rmk, b2i_0, b2i_n1, bft, le_t, le_f, lt_t, lt_f, eq_t, eq_f, k1, k2, k3, k4, k5, k6, k7, k8, k9, k10, k11, k12, k13, k15, k16, k20, k24, k30, k60, k64, k99, k100, k200, k255, k256, k512, k2912, k3392, k3393, k3394, k3395, k3396, k3397, k3398] <;> omega
    have hx1 : (nI z).toNatClampNeg = z := by simp (maxSteps := 3000000) (disch := omega) only [↓reduceIte, if_true, if_false, ite_not, not_true_eq_false, not_false_eq_true, ↓qqI_p, ↓qqR_p, ↓qqV_p, ↓qqIx_p, ↓qqRx_p, ↓qqVx_p, qqI_s, qqR_s, qqV_s, qqIx_s, qqRx_s, qqVx_s, qqIx_t, qqVx_t, ↓letH_s, inB_nI, nI_leI, nI_ltI, nI_eq, nI_eq0, nI_eqm, nI_eqn, nI_le0, nI_lt0, nI_0lt, nI_0le, nI_clamp, pk_mul, nI_add, pk_div, pk_sub, rem_n, z_add, add_z, m_cell, kmk, lmk, rmk, b2i_0, b2i_n1, bft, le_t, le_f, lt_t, lt_f, eq_t, eq_f, k1, k2, k3, k4, k5, k6, k7, k8, k9, k10, k11, k12, k13, k15, k16, k20, k24, k30, k60, k64, k99, k100, k200, k255, k256, k512, k2912, k3392, k3393, k3394, k3395, k3396, k3397, k3398] <;> omega
    have hr1 : h.2 r z = nI (B z) := by
      have := q_rd R (x := z) (by omega)
      rw [show 256 * 0 + z = z by omega] at this
      exact this
    have hzm : ¬ nI z = -1 := fun e => (nI_eqm (by omega)).mp e
    have ha1 : nI a + 1 = nI (a + 1) := by simp (maxSteps := 3000000) (disch := omega) only [↓reduceIte, if_true, if_false, ite_not, not_true_eq_false, not_false_eq_true, ↓qqI_p, ↓qqR_p, ↓qqV_p, ↓qqIx_p, ↓qqRx_p, ↓qqVx_p, qqI_s, qqR_s, qqV_s, qqIx_s, qqRx_s, qqVx_s, qqIx_t, qqVx_t, ↓letH_s, inB_nI, nI_leI, nI_ltI, nI_eq, nI_eq0, nI_eqm, nI_eqn, nI_le0, nI_lt0, nI_0lt, nI_0le, nI_clamp, pk_mul, nI_add, pk_div, pk_sub, rem_n, z_add, add_z, m_cell, kmk, lmk, rmk, b2i_0, b2i_n1, bft, le_t, le_f, lt_t, lt_f, eq_t, eq_f, k1, k2, k3, k4, k5, k6, k7, k8, k9, k10, k11, k12, k13, k15, k16, k20, k24, k30, k60, k64, k99, k100, k200, k255, k256, k512, k2912, k3392, k3393, k3394, k3395, k3396, k3397, k3398]
    rw [zX10_room_32]
    unfold kX10_room_32
    rw [if_pos hm, hr, hi, bI_s, if_neg (by decide), if_pos hm, hr, he, bI_s, if_neg hzm, if_pos hm, hr, he, bI_s, if_pos rk, rl, hz0, if_pos hb1, hx1, hr1, List.filter_cons]
    have hb := rB z
    by_cases h0 : B z = 0
    · rw [if_neg (by rw [h0]; decide), hs1, ha1, ih (a + 1) (app1 e) (by omega) (by omega)]
      have h0' : (B z == 0) = true := by simpa using h0
      rw [h0']
      simp only [if_true, List.length_cons]
      rw [show a + 1 + (l.filter (fun e => B e == 0)).length = a + ((l.filter (fun e => B e == 0)).length + 1) by omega]
    · rw [if_pos (by intro q'; exact h0 ((nI_eq0 (by omega)).mp q')), hs1, show nI a + 0 = nI a from Int32.add_zero _, ih a (app1 e) (by omega) (by omega)]
      have h0' : (B z == 0) = false := by simpa using h0
      rw [h0']
      rfl
end O1
