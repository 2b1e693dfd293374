/-! ===== the class: linked, used, pointed to, times named, free entries ===== -/
theorem andnot_nI {a b : Nat} (ha : a < 2 ^ 31) (hb : b < 2 ^ 31) : nI a &&& (nI b ^^^ (-1)) = nI (a ^^^ (a &&& b)) := by
  apply nI_of_bv
  rw [Int32.toBitVec_and, Int32.toBitVec_xor, nI_bv, nI_bv]
  have h1 : ((-1 : Int32)).toBitVec = BitVec.allOnes 32 := by decide
  rw [h1]
  refine BitVec.eq_of_getLsbD_eq (fun i hi => ?_)
  simp only [BitVec.getLsbD_and, BitVec.getLsbD_xor, BitVec.getLsbD_ofNat, BitVec.getLsbD_allOnes, hi, decide_true, Bool.true_and, Nat.testBit_xor, Nat.testBit_and]
  cases a.testBit i <;> cases b.testBit i <;> rfl
def dif (a b : Nat) : Nat := a ^^^ (a &&& b)
theorem dif_bit (a b i : Nat) : (dif a b).testBit i = (a.testBit i && !b.testBit i) := by
  unfold dif
  rw [Nat.testBit_xor, Nat.testBit_and]
  cases a.testBit i <;> cases b.testBit i <;> rfl
theorem dif_lt {a b n : Nat} (ha : a < 2 ^ n) : dif a b < 2 ^ n := Nat.xor_lt_two_pow ha (Nat.lt_of_le_of_lt Nat.and_le_left ha)
def usdN (B : Nat → Nat) (z : Nat) : Nat := bitsOf (fun b => !(B b == 0)) z
def ptd (B : Nat → Nat) (bits n : Nat) : Nat := (List.range' 0 n).foldl (fun a n => if bits.testBit n = true then (a ||| 2 ^ fd B n 2) ||| 2 ^ fd B n 3 else a) 0
theorem ptd_succ (B : Nat → Nat) (bits n : Nat) : ptd B bits (n + 1) = if bits.testBit n = true then (ptd B bits n ||| 2 ^ fd B n 2) ||| 2 ^ fd B n 3 else ptd B bits n := by
  unfold ptd
  rw [List.range'_1_concat, List.foldl_append]
  simp only [Nat.zero_add]
  rfl
theorem ptd_lt {B : Nat → Nat} (P : Pb B) (bits : Nat) {n : Nat} : n ≤ 12 → ptd B bits n < 2 ^ 16 := by
  induction n with
  | zero => intro _; show 0 < 2 ^ 16; decide
  | succ n ih =>
    intro hn
    have ih := ih (by omega)
    rw [ptd_succ]
    split
    · exact Nat.or_lt_two_pow (Nat.or_lt_two_pow ih (Nat.pow_lt_pow_right (by decide) (P n (by omega) 2 (Or.inl rfl)))) (Nat.pow_lt_pow_right (by decide) (P n (by omega) 3 (Or.inr rfl)))
    · exact ih
theorem ptd_bit (B : Nat → Nat) (bits b : Nat) (n : Nat) : (ptd B bits n).testBit b = true ↔ ∃ k, k < n ∧ bits.testBit k = true ∧ (fd B k 2 = b ∨ fd B k 3 = b) := by
  induction n with
  | zero => simp [ptd]
  | succ n ih =>
    rw [ptd_succ]
    by_cases e : bits.testBit n = true
    · rw [if_pos e, Nat.testBit_or, Nat.testBit_or, Nat.testBit_two_pow, Nat.testBit_two_pow, Bool.or_eq_true, Bool.or_eq_true, ih, decide_eq_true_eq, decide_eq_true_eq]
      constructor
      · rintro ((⟨k, h1, h2⟩ | h1) | h1)
        · exact ⟨k, by omega, h2⟩
        · exact ⟨n, by omega, e, Or.inl h1⟩
        · exact ⟨n, by omega, e, Or.inr h1⟩
      · rintro ⟨k, h1, h2, h3⟩
        by_cases hk : k = n
        · subst hk
          rcases h3 with h3 | h3
          · exact Or.inl (Or.inr h3)
          · exact Or.inr h3
        · exact Or.inl (Or.inl ⟨k, by omega, h2, h3⟩)
    · rw [if_neg e, ih]
      constructor
      · rintro ⟨k, h1, h2⟩
        exact ⟨k, by omega, h2⟩
      · rintro ⟨k, h1, h2, h3⟩
        have : k ≠ n := fun q => e (by rw [← q]; exact h2)
        exact ⟨k, by omega, h2, h3⟩
theorem ptd_ptr (B : Nat → Nat) (bits b : Nat) : (ptd B bits 12).testBit b = !(ptrF B bits b).isNone := by
  cases h : ptrF B bits b with
  | none =>
    cases h2 : (ptd B bits 12).testBit b with
    | false => rfl
    | true =>
      exfalso
      obtain ⟨k, h3, h4, h5⟩ := (ptd_bit B bits b 12).mp h2
      have h6 := List.find?_eq_none.mp h k (List.mem_range'_1.mpr ⟨by omega, by omega⟩)
      rcases h5 with h5 | h5 <;> simp [h4, h5] at h6
  | some n =>
    have h1 := List.find?_some h
    have h2 := ptrF_lt h
    simp only [Bool.and_eq_true, Bool.or_eq_true, beq_iff_eq] at h1
    rw [(ptd_bit B bits b 12).mpr ⟨n, h2, h1.1, h1.2⟩]
    rfl
section T2
variable {h : Hp} {s w : Nat} {B : Nat → Nat}
theorem t_linked_go (R : CB h s w B) : ∀ (c n q : Nat), n + c = 12 → c < q →
    gX8_linkedNodes q 4 [.ref s, .int (nI w), .int (nI (bitsOf (fun n => decide (0 < fd B n 0)) n)), .int (nI n)] [] h = some (.inl (some (.int (nI (lnkN B)))), h) := by
  intro c
  induction c with
  | zero =>
    intro n q hn hq
    obtain ⟨q, rfl⟩ := sc hq
    rw [zX8_linkedNodes_4]
    simp (maxSteps := 3000000) (disch := omega) only [kX8_linkedNodes_4, ↓reduceIte, if_true, if_false, ite_not, not_true_eq_false, not_false_eq_true, ↓qqI_p, ↓qqR_p, ↓qqV_p, ↓qqIx_p, ↓qqRx_p, ↓qqVx_p, qqI_s, qqR_s, qqV_s, qqIx_s, qqRx_s, qqVx_s, qqIx_t, qqVx_t, ↓letH_s, inB_nI, nI_leI, nI_ltI, nI_eq, nI_eq0, nI_eqm, nI_eqn, nI_le0, nI_lt0, nI_0lt, nI_0le, nI_clamp, pk_mul, nI_add, pk_div, pk_sub, rem_n, z_add, add_z, m_cell, kmk, lmk, rmk, b2i_0, b2i_n1, bft, le_t, le_f, lt_t, lt_f, eq_t, eq_f, k1, k2, k3, k4, k5, k6, k7, k8, k9, k10, k11, k12, k13, k15, k16, k20, k24, k30, k60, k64, k99, k100, k200, k255, k256, k512, k2912, k3392, k3393, k3394, k3395, k3396, k3397, k3398]
    rw [show n = 12 by omega]
    rfl
  | succ c ih =>
    intro n q hn hq
    obtain ⟨q, rfl⟩ := sc hq
    have h0 : fX5_nodeField s (nI w) (nI n) 0 h = some (.inl (some (.int (nI (fd B n 0)))), h) := c_nodeField R (n := n) (f := 0) (by omega) (by decide)
    have g0 : fd B n 0 < 128 := R.2.2.2 _
    have ih := ih (n + 1) q (by omega) (by omega)
    have hlt := bitsOf_lt (fun n => decide (0 < fd B n 0)) n
    have hp := p2lt (k := n) (by omega)
    have hs := one_shl (k := n) (by omega)
    have ho := or_nI31 (a := bitsOf (fun n => decide (0 < fd B n 0)) n) (b := 2 ^ n) (by omega) hp
    rw [zX8_linkedNodes_4]
    unfold bitsOf at ih
    simp (maxSteps := 3000000) (disch := omega) only [kX8_linkedNodes_4, R.1.1, h0, ↓reduceIte, if_true, if_false, ite_not, not_true_eq_false, not_false_eq_true, ↓qqI_p, ↓qqR_p, ↓qqV_p, ↓qqIx_p, ↓qqRx_p, ↓qqVx_p, qqI_s, qqR_s, qqV_s, qqIx_s, qqRx_s, qqVx_s, qqIx_t, qqVx_t, ↓letH_s, inB_nI, nI_leI, nI_ltI, nI_eq, nI_eq0, nI_eqm, nI_eqn, nI_le0, nI_lt0, nI_0lt, nI_0le, nI_clamp, pk_mul, nI_add, pk_div, pk_sub, rem_n, z_add, add_z, m_cell, kmk, lmk, rmk, b2i_0, b2i_n1, bft, le_t, le_f, lt_t, lt_f, eq_t, eq_f, k1, k2, k3, k4, k5, k6, k7, k8, k9, k10, k11, k12, k13, k15, k16, k20, k24, k30, k60, k64, k99, k100, k200, k255, k256, k512, k2912, k3392, k3393, k3394, k3395, k3396, k3397, k3398, hs, ho]
    by_cases e : fd B n 0 = 0
    · rw [if_pos e]
      simpa [e] using ih
    · rw [if_neg e]
      have e2 : 0 < fd B n 0 := by omega
      simpa [e2] using ih
theorem t_linked (R : CB h s w B) : fX8_linkedNodes s (nI w) h = some (.inl (some (.int (nI (lnkN B)))), h) := t_linked_go R 12 0 FF rfl (by decide)
theorem t_used_go (R : CB h s w B) {z : Nat} (hz : h.2 s 0 = nI z) (hz2 : z ≤ 16) : ∀ (c n q : Nat), n + c = z → c < q →
    gX8_usedBlocks q 4 [.ref s, .int (nI w), .int (nI (usdN B n)), .int (nI n)] [] h = some (.inl (some (.int (nI (usdN B z)))), h) := by
  intro c
  induction c with
  | zero =>
    intro n q hn hq
    obtain ⟨q, rfl⟩ := sc hq
    rw [zX8_usedBlocks_4]
    simp (maxSteps := 3000000) (disch := omega) only [kX8_usedBlocks_4, R.1.1, hz, ↓reduceIte, if_true, if_false, ite_not, not_true_eq_false, not_false_eq_true, ↓qqI_p, ↓qqR_p, ↓qqV_p, ↓qqIx_p, ↓qqRx_p, ↓qqVx_p, qqI_s, qqR_s, qqV_s, qqIx_s, qqRx_s, qqVx_s, qqIx_t, qqVx_t, ↓letH_s, inB_nI, nI_leI, nI_ltI, nI_eq, nI_eq0, nI_eqm, nI_eqn, nI_le0, nI_lt0, nI_0lt, nI_0le, nI_clamp, pk_mul, nI_add, pk_div, pk_sub, rem_n, z_add, add_z, m_cell, kmk, lmk, rmk, b2i_0, b2i_n1, bft, le_t, le_f, lt_t, lt_f, eq_t, eq_f, k1, k2, k3, k4, k5, k6, k7, k8, k9, k10, k11, k12, k13, k15, k16, k20, k24, k30, k60, k64, k99, k100, k200, k255, k256, k512, k2912, k3392, k3393, k3394, k3395, k3396, k3397, k3398]
    rw [show n = z by omega]
  | succ c ih =>
    intro n q hn hq
    obtain ⟨q, rfl⟩ := sc hq
    have h0 : fX5_at s (nI w) 0 (nI n) h = some (.inl (some (.int (nI (B n)))), h) := by
      have := c_at R (b := 0) (p := n) (by decide) (by omega)
      rw [Nat.mul_zero, Nat.zero_add] at this
      exact this
    have g0 : B n < 128 := R.2.2.2 _
    have ih := ih (n + 1) q (by omega) (by omega)
    have hlt : usdN B n < 2 ^ n := bitsOf_lt _ n
    have hpw : 2 ^ n ≤ 2 ^ 16 := Nat.pow_le_pow_right (by decide) (by omega)
    have hp := p2lt (k := n) (by omega)
    have hs := one_shl (k := n) (by omega)
    have ho := or_nI31 (a := usdN B n) (b := 2 ^ n) (by omega) hp
    rw [zX8_usedBlocks_4]
    have hus : usdN B (n + 1) = usdN B n ||| (if !(B n == 0) then 2 ^ n else 0) := rfl
    rw [hus] at ih
    simp (maxSteps := 3000000) (disch := omega) only [kX8_usedBlocks_4, R.1.1, hz, h0, ↓reduceIte, if_true, if_false, ite_not, not_true_eq_false, not_false_eq_true, ↓qqI_p, ↓qqR_p, ↓qqV_p, ↓qqIx_p, ↓qqRx_p, ↓qqVx_p, qqI_s, qqR_s, qqV_s, qqIx_s, qqRx_s, qqVx_s, qqIx_t, qqVx_t, ↓letH_s, inB_nI, nI_leI, nI_ltI, nI_eq, nI_eq0, nI_eqm, nI_eqn, nI_le0, nI_lt0, nI_0lt, nI_0le, nI_clamp, pk_mul, nI_add, pk_div, pk_sub, rem_n, z_add, add_z, m_cell, kmk, lmk, rmk, b2i_0, b2i_n1, bft, le_t, le_f, lt_t, lt_f, eq_t, eq_f, k1, k2, k3, k4, k5, k6, k7, k8, k9, k10, k11, k12, k13, k15, k16, k20, k24, k30, k60, k64, k99, k100, k200, k255, k256, k512, k2912, k3392, k3393, k3394, k3395, k3396, k3397, k3398, hs, ho]
    by_cases e : B n = 0
    · rw [if_pos e]
      simpa [e] using ih
    · rw [if_neg e]
      have e2 : (B n == 0) = false := by simpa using e
      simpa [e2] using ih
theorem t_used (R : CB h s w B) {z : Nat} (hz : h.2 s 0 = nI z) (hz2 : z ≤ 16) : fX8_usedBlocks s (nI w) h = some (.inl (some (.int (nI (usdN B z)))), h) := t_used_go R hz hz2 z 0 FF (by omega) (by show _ < 1000000; omega)
theorem t_pointed_go (R : CB h s w B) (P : Pb B) {bits : Nat} (hb : bits < 2 ^ 12) : ∀ (c n q : Nat), n + c = 12 → c < q →
    gX8_pointedBlocks q 5 [.ref s, .int (nI w), .int (nI bits), .int (nI (ptd B bits n)), .int (nI n)] [] h = some (.inl (some (.int (nI (ptd B bits 12)))), h) := by
  intro c
  induction c with
  | zero =>
    intro n q hn hq
    obtain ⟨q, rfl⟩ := sc hq
    rw [zX8_pointedBlocks_5]
    simp (maxSteps := 3000000) (disch := omega) only [kX8_pointedBlocks_5, ↓reduceIte, if_true, if_false, ite_not, not_true_eq_false, not_false_eq_true, ↓qqI_p, ↓qqR_p, ↓qqV_p, ↓qqIx_p, ↓qqRx_p, ↓qqVx_p, qqI_s, qqR_s, qqV_s, qqIx_s, qqRx_s, qqVx_s, qqIx_t, qqVx_t, ↓letH_s, inB_nI, nI_leI, nI_ltI, nI_eq, nI_eq0, nI_eqm, nI_eqn, nI_le0, nI_lt0, nI_0lt, nI_0le, nI_clamp, pk_mul, nI_add, pk_div, pk_sub, rem_n, z_add, add_z, m_cell, kmk, lmk, rmk, b2i_0, b2i_n1, bft, le_t, le_f, lt_t, lt_f, eq_t, eq_f, k1, k2, k3, k4, k5, k6, k7, k8, k9, k10, k11, k12, k13, k15, k16, k20, k24, k30, k60, k64, k99, k100, k200, k255, k256, k512, k2912, k3392, k3393, k3394, k3395, k3396, k3397, k3398]
    rw [show n = 12 by omega]
  | succ c ih =>
    intro n q hn hq
    obtain ⟨q, rfl⟩ := sc hq
    have h2 : fX5_nodeField s (nI w) (nI n) 2 h = some (.inl (some (.int (nI (fd B n 2)))), h) := c_nodeField R (n := n) (f := 2) (by omega) (by decide)
    have h3 : fX5_nodeField s (nI w) (nI n) 3 h = some (.inl (some (.int (nI (fd B n 3)))), h) := c_nodeField R (n := n) (f := 3) (by omega) (by decide)
    have p2 := P n (by omega) 2 (Or.inl rfl)
    have p3 := P n (by omega) 3 (Or.inr rfl)
    have ih := ih (n + 1) q (by omega) (by omega)
    have hlt := ptd_lt P bits (n := n) (by omega)
    have e2 : 2 ^ fd B n 2 < 2 ^ 16 := Nat.pow_lt_pow_right (by decide) p2
    have e3 : 2 ^ fd B n 3 < 2 ^ 16 := Nat.pow_lt_pow_right (by decide) p3
    have ho1 := or_nI31 (a := ptd B bits n) (b := 2 ^ fd B n 2) (by omega) (by omega)
    have ho2 := or_nI31 (a := ptd B bits n ||| 2 ^ fd B n 2) (b := 2 ^ fd B n 3) (by have := Nat.or_lt_two_pow hlt e2; omega) (by omega)
    rw [ptd_succ] at ih
    rw [zX8_pointedBlocks_5]
    unfold kX8_pointedBlocks_5
    rw [if_neg (by rw [k12, nI_leI (by decide) (by omega)]; omega), bit_nI (by omega) (by omega), nI_1]
    cases hbn : bits.testBit n with
    | false =>
      rw [hbn] at ih
      rw [if_pos (show b2i false = 0 from rfl)]
      exact ih
    | true =>
      rw [hbn] at ih
      rw [if_neg (by decide), if_pos R.1.1, h2, bI_s, if_pos R.1.1, h3, bI_s, k1, one_shl (by omega), one_shl (by omega), ho1, ho2]
      exact ih
theorem t_pointed (R : CB h s w B) (P : Pb B) {bits : Nat} (hb : bits < 2 ^ 12) : fX8_pointedBlocks s (nI w) (nI bits) h = some (.inl (some (.int (nI (ptd B bits 12)))), h) := t_pointed_go R P hb 12 0 FF rfl (by decide)
theorem t_tn1 (R : CB h s w B) {b t : Nat} (hb : b < 16) (hb0 : b ≠ 0) (ht : t < 128) {x2 x5 : Int32} : ∀ (k j n a : Nat), j + k = 8 →
    gX8_timesNamed (n + k + 1) 34 [.ref s, .int (nI w), .int x2, .int (nI t), .int (nI a), .int x5, .int (nI b), .int (nI j)] [] h = gX8_timesNamed n 6 [.ref s, .int (nI w), .int x2, .int (nI t), .int (nI (a + ((ebs b j k).filter (fun e => !(B e == 0) && B (e + 1) == t)).length)), .int (x5 + 1), uV, uV] [] h := by
  have hs := R.1.1
  intro k
  induction k with
  | zero =>
    intro j n a hj
    rw [Nat.add_zero, zX8_timesNamed_34]
    have : j = 8 := by omega
    subst this
    unfold kX8_timesNamed_34
    rw [if_neg (by rw [nI_eq0 (by omega)]; exact hb0), if_pos (by decide)]
    rfl
  | succ k ih =>
    intro j n a hj
    have ha1 := c_atN R hb (j := j) (by omega)
    have ha2 := c_atM R hb (j := j) (by omega)
    have hB : B (16 * b + 2 * j) < 128 := R.2.2.2 _
    have hB2 : B (16 * b + 2 * j + 1) < 128 := R.2.2.2 _
    rw [show n + (k + 1) + 1 = (n + k + 1) + 1 by omega, zX8_timesNamed_34, ebs_cons, List.filter_cons]
    unfold kX8_timesNamed_34
    rw [if_neg (by rw [nI_eq0 (by omega)]; exact hb0), if_neg (by rw [k8, nI_leI (by decide) (by omega)]; omega), if_pos hs, k2, pk_mul, ha1, bI_s, nI_1]
    by_cases e : B (16 * b + 2 * j) = 0
    · rw [if_pos (by rw [nI_eq0 (by omega)]; exact e), ih (j + 1) n a (by omega)]
      simp [e]
    · have e' : (B (16 * b + 2 * j) == 0) = false := by simpa using e
      rw [if_neg (by rw [nI_eq0 (by omega)]; exact e), if_pos hs, nI_1, ha2, bI_s, nI_1, e']
      by_cases e2 : B (16 * b + 2 * j + 1) = t
      · have e2' : (B (16 * b + 2 * j + 1) == t) = true := by simpa using e2
        rw [if_neg (by rw [nI_eq (by omega) (by omega)]; simp [e2]), ih (j + 1) n (a + 1) (by omega), e2']
        simp only [Bool.not_false, Bool.and_self, if_true, List.length_cons]
        rw [show a + 1 + ((ebs b (j + 1) k).filter (fun e => !(B e == 0) && B (e + 1) == t)).length = a + (((ebs b (j + 1) k).filter (fun e => !(B e == 0) && B (e + 1) == t)).length + 1) by omega]
      · have e2' : (B (16 * b + 2 * j + 1) == t) = false := by simpa using e2
        rw [if_pos (by rw [nI_eq (by omega) (by omega)]; exact e2), ih (j + 1) n a (by omega), e2']
        rfl
theorem t_tnF (R : CB h s w B) (P : Pb B) {d f t : Nat} (hd : d < 12) (hk : isK B d 2 = true) (ht : t < 128) (hf : f = 2 ∨ f = 3) (a n : Nat) :
    ∃ n', n ≤ n' ∧ gX8_timesNamed (n + 10) 6 [.ref s, .int (nI w), .int (nI d), .int (nI t), .int (nI a), .int (nI f), uV, uV] [] h = gX8_timesNamed n' 6 [.ref s, .int (nI w), .int (nI d), .int (nI t), .int (nI (a + ((eb (fd B d f)).filter (fun e => !(B e == 0) && B (e + 1) == t)).length)), .int (nI (f + 1)), uV, uV] [] h := by
  have hb := P d hd f hf
  have hnf := c_nodeField R hd (f := f) (by omega)
  have h1 := c_isDirectory R hd
  rw [hk] at h1
  rw [show n + 10 = (n + 9) + 1 from rfl, zX8_timesNamed_6]
  unfold kX8_timesNamed_6
  rw [if_pos R.1.1, h1, bI_s, if_neg (by decide), if_neg (by rw [k3, nI_ltI (by decide) (by omega)]; omega), if_pos R.1.1, hnf, bI_s]
  by_cases e : fd B d f = 0
  · refine ⟨n + 8, by omega, ?_⟩
    rw [e, eb_0, show n + 9 = (n + 8) + 1 from rfl, zX8_timesNamed_34]
    unfold kX8_timesNamed_34
    rw [if_pos nI_0, nI_1]
    rfl
  · refine ⟨n, Nat.le_refl _, ?_⟩
    have := t_tn1 R hb e ht (x2 := nI d) (x5 := nI f) 8 0 n a rfl
    rw [eb_ebs e, ← nI_1]
    exact this
theorem t_timesNamed (R : CB h s w B) (P : Pb B) {d t : Nat} (hd : d < 12) (ht : t < 128) : fX8_timesNamed s (nI w) (nI d) (nI t) h = some (.inl (some (.int (nI (if isK B d 2 = true then cntE B d t else 0)))), h) := by
  have h1 := c_isDirectory R hd
  unfold fX8_timesNamed kX8_timesNamed_0
  cases hk : isK B d 2 with
  | false =>
    rw [hk] at h1
    rw [show FF = 999999 + 1 from rfl, zX8_timesNamed_6]
    unfold kX8_timesNamed_6
    rw [if_pos R.1.1, h1, bI_s, if_pos (by decide)]
    rfl
  | true =>
    rw [hk] at h1
    rw [if_pos rfl]
    obtain ⟨n1, l1, g1⟩ := t_tnF R P hd hk ht (f := 2) (Or.inl rfl) 0 999990
    refine Eq.trans g1 ?_
    obtain ⟨n2, l2, g2⟩ := t_tnF R P hd hk ht (f := 3) (Or.inr rfl) (0 + ((eb (fd B d 2)).filter (fun e => !(B e == 0) && B (e + 1) == t)).length) (n1 - 10)
    rw [show n1 - 10 + 10 = n1 by omega] at g2
    refine Eq.trans g2 ?_
    rw [show n2 = (n2 - 1) + 1 by omega, zX8_timesNamed_6]
    unfold kX8_timesNamed_6
    rw [if_pos R.1.1, h1, bI_s, if_neg (by decide), if_pos (by decide)]
    unfold cntE ents
    rw [List.filter_append, List.length_append, Nat.zero_add]
end T2
