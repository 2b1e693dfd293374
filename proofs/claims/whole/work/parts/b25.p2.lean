/-! ===== broken: pointers; the reference ===== -/
def blkP (B : Nat → Nat) (k : Nat) : Nat := if (lnkN B).testBit (k / 2) = true then fd B (k / 2) (2 + k % 2) else 0
def pst (B : Nat → Nat) (x : Nat × Nat) (k : Nat) : Nat × Nat := if blkP B k = 0 then x else (x.1 ||| 2 ^ blkP B k, x.2 + if B (blkP B k) = 0 ∨ x.1.testBit (blkP B k) = true then 1 else 0)
theorem pst_le (B : Nat → Nat) (x : Nat × Nat) (k : Nat) : (pst B x k).2 ≤ x.2 + 1 := by
  unfold pst
  split
  · omega
  · show x.2 + _ ≤ _
    split <;> omega
theorem blkP_lt {B : Nat → Nat} (P : Pb B) {k : Nat} (hk : k < 24) : blkP B k < 16 := by
  unfold blkP
  split
  · exact P (k / 2) (by omega) (2 + k % 2) (by omega)
  · omega
theorem pst_lt {B : Nat → Nat} (P : Pb B) {x : Nat × Nat} {k : Nat} (hk : k < 24) (h : x.1 < 2 ^ 16) : (pst B x k).1 < 2 ^ 16 := by
  unfold pst
  split
  · exact h
  · exact Nat.or_lt_two_pow h (Nat.pow_lt_pow_right (by decide) (blkP_lt P hk))
/-- what a block's count grows by -/
theorem usd_bit (B : Nat → Nat) {z b : Nat} (hb : b < z) : (usdN B z).testBit b = !(B b == 0) := by
  unfold usdN
  rw [bitsOf_bit]
  simp [hb]
section P2
variable {h : Hp} {s w r : Nat} {B : Nat → Nat}
theorem t_bp_58 (R : CB h s w B) {z : Nat} (hz2 : z ≤ 16) {k a n b : Nat} {x3 : Int32} (hk : k < 24) (hb : b < z) (hb16 : b < 16) (ha : a < 2 ^ 16) (hn : n < 2 ^ 30) (q : Nat) :
    gX8_brokenPointers (q + 1) 58 [.ref s, .int (nI w), .int (nI (usdN B z)), .int x3, .int (nI a), .int (nI n), .int (nI k), uV] [.int (nI b)] h = gX8_brokenPointers q 21 [.ref s, .int (nI w), .int (nI (usdN B z)), .int x3, .int (nI (if b = 0 then a else a ||| 2 ^ b)), .int (nI (if b = 0 then n else n + if B b = 0 ∨ a.testBit b = true then 1 else 0)), .int (nI (k + 1)), uV] [] h := by
  have hk1 : nI k + 1 = nI (k + 1) := by simp (maxSteps := 3000000) (disch := omega) only [↓reduceIte, if_true, if_false, ite_not, not_true_eq_false, not_false_eq_true, ↓qqI_p, ↓qqR_p, ↓qqV_p, ↓qqIx_p, ↓qqRx_p, ↓qqVx_p, qqI_s, qqR_s, qqV_s, qqIx_s, qqRx_s, qqVx_s, qqIx_t, qqVx_t, ↓letH_s, inB_nI, nI_leI, nI_ltI, nI_eq, nI_eq0, nI_eqm, nI_eqn, nI_le0, nI_lt0, nI_0lt, nI_0le, nI_clamp, pk_mul, nI_add, pk_div, pk_sub, rem_n, z_add, add_z, m_cell, kmk, lmk, rmk, b2i_0, b2i_n1, bft, le_t, le_f, lt_t, lt_f, eq_t, eq_f, k1, k2, k3, k4, k5, k6, k7, k8, k9, k10, k11, k12, k13, k15, k16, k20, k24, k30, k60, k64, k99, k100, k200, k255, k256, k512, k2912, k3392, k3393, k3394, k3395, k3396, k3397, k3398]
  have hn1 : nI n + 1 = nI (n + 1) := by simp (maxSteps := 3000000) (disch := omega) only [↓reduceIte, if_true, if_false, ite_not, not_true_eq_false, not_false_eq_true, ↓qqI_p, ↓qqR_p, ↓qqV_p, ↓qqIx_p, ↓qqRx_p, ↓qqVx_p, qqI_s, qqR_s, qqV_s, qqIx_s, qqRx_s, qqVx_s, qqIx_t, qqVx_t, ↓letH_s, inB_nI, nI_leI, nI_ltI, nI_eq, nI_eq0, nI_eqm, nI_eqn, nI_le0, nI_lt0, nI_0lt, nI_0le, nI_clamp, pk_mul, nI_add, pk_div, pk_sub, rem_n, z_add, add_z, m_cell, kmk, lmk, rmk, b2i_0, b2i_n1, bft, le_t, le_f, lt_t, lt_f, eq_t, eq_f, k1, k2, k3, k4, k5, k6, k7, k8, k9, k10, k11, k12, k13, k15, k16, k20, k24, k30, k60, k64, k99, k100, k200, k255, k256, k512, k2912, k3392, k3393, k3394, k3395, k3396, k3397, k3398]
  have hu : usdN B z < 2 ^ 16 := Nat.lt_of_lt_of_le (bitsOf_lt _ z) (Nat.pow_le_pow_right (by decide) hz2)
  have e2 : 2 ^ b < 2 ^ 16 := Nat.pow_lt_pow_right (by decide) hb16
  have ho := or_nI31 (a := a) (b := 2 ^ b) (by omega) (by omega)
  have hs : (1 : Int32) <<< (nI b &&& 31) = nI (2 ^ b) := one_shl (by omega)
  rw [zX8_brokenPointers_58]
  unfold kX8_brokenPointers_58
  by_cases hb0 : b = 0
  · rw [if_pos (by rw [hb0]; rfl), if_pos hb0, if_pos hb0, hk1]
  · rw [if_neg (by rw [nI_eq0 (by omega)]; exact hb0), if_neg hb0, if_neg hb0, bit_nI (by omega) (by omega), usd_bit B hb, hs, ho, hk1, hn1]
    by_cases hB : B b = 0
    · rw [if_pos (by rw [hB]; rfl), if_pos (Or.inl hB)]
    · have hB' : (B b == 0) = false := by simpa using hB
      rw [if_neg (by rw [hB']; decide), bit_nI (by omega) (by omega)]
      cases ht : a.testBit b with
      | false =>
        rw [if_pos (show b2i false = 0 from rfl), if_neg (by rintro (q | q); exact hB q; cases q)]
        rfl
      | true =>
        rw [if_neg (by decide), if_pos (Or.inr rfl)]
theorem t_bp_go (R : CB h s w B) (P : Pb B) {z : Nat} (hz2 : z ≤ 16) (hP : ∀ n, n < 12 → ∀ f, f = 2 ∨ f = 3 → fd B n f < z) (hz0 : 0 < z) : ∀ (c k q a n : Nat), k + c = 24 → 2 * c < q → a < 2 ^ 16 → n + c < 2 ^ 30 →
    gX8_brokenPointers q 21 [.ref s, .int (nI w), .int (nI (usdN B z)), .int (nI (lnkN B)), .int (nI a), .int (nI n), .int (nI k), uV] [] h = some (.inl (some (.int (nI ((List.range' k c).foldl (pst B) (a, n)).2))), h) := by
  have hl : lnkN B < 2 ^ 12 := bitsOf_lt _ 12
  intro c
  induction c with
  | zero =>
    intro k q a n hk hq ha hn
    obtain ⟨q, rfl⟩ := sc hq
    have : k = 24 := by omega
    subst this
    rw [zX8_brokenPointers_21]
    unfold kX8_brokenPointers_21
    rw [if_pos (by decide)]
    rfl
  | succ c ih =>
    intro k q a n hk hq ha hn
    obtain ⟨q, rfl⟩ : ∃ q', q = q' + 2 := ⟨q - 2, by omega⟩
    have hk2 : nI k / 2 = nI (k / 2) := by simp (maxSteps := 3000000) (disch := omega) only [↓reduceIte, if_true, if_false, ite_not, not_true_eq_false, not_false_eq_true, ↓qqI_p, ↓qqR_p, ↓qqV_p, ↓qqIx_p, ↓qqRx_p, ↓qqVx_p, qqI_s, qqR_s, qqV_s, qqIx_s, qqRx_s, qqVx_s, qqIx_t, qqVx_t, ↓letH_s, inB_nI, nI_leI, nI_ltI, nI_eq, nI_eq0, nI_eqm, nI_eqn, nI_le0, nI_lt0, nI_0lt, nI_0le, nI_clamp, pk_mul, nI_add, pk_div, pk_sub, rem_n, z_add, add_z, m_cell, kmk, lmk, rmk, b2i_0, b2i_n1, bft, le_t, le_f, lt_t, lt_f, eq_t, eq_f, k1, k2, k3, k4, k5, k6, k7, k8, k9, k10, k11, k12, k13, k15, k16, k20, k24, k30, k60, k64, k99, k100, k200, k255, k256, k512, k2912, k3392, k3393, k3394, k3395, k3396, k3397, k3398]
    have hkm : 2 + (nI k - nI k / 2 * 2) = nI (2 + k % 2) := by simp (maxSteps := 3000000) (disch := omega) only [↓reduceIte, if_true, if_false, ite_not, not_true_eq_false, not_false_eq_true, ↓qqI_p, ↓qqR_p, ↓qqV_p, ↓qqIx_p, ↓qqRx_p, ↓qqVx_p, qqI_s, qqR_s, qqV_s, qqIx_s, qqRx_s, qqVx_s, qqIx_t, qqVx_t, ↓letH_s, inB_nI, nI_leI, nI_ltI, nI_eq, nI_eq0, nI_eqm, nI_eqn, nI_le0, nI_lt0, nI_0lt, nI_0le, nI_clamp, pk_mul, nI_add, pk_div, pk_sub, rem_n, z_add, add_z, m_cell, kmk, lmk, rmk, b2i_0, b2i_n1, bft, le_t, le_f, lt_t, lt_f, eq_t, eq_f, k1, k2, k3, k4, k5, k6, k7, k8, k9, k10, k11, k12, k13, k15, k16, k20, k24, k30, k60, k64, k99, k100, k200, k255, k256, k512, k2912, k3392, k3393, k3394, k3395, k3396, k3397, k3398]
    have hnf : fX5_nodeField s (nI w) (nI (k / 2)) (nI (2 + k % 2)) h = some (.inl (some (.int (nI (fd B (k / 2) (2 + k % 2))))), h) := c_nodeField R (by omega) (by omega)
    have hb : blkP B k < z := by
      unfold blkP
      split
      · exact hP (k / 2) (by omega) (2 + k % 2) (by omega)
      · exact hz0
    have h58 := t_bp_58 R hz2 (x3 := nI (lnkN B)) (by omega : k < 24) hb (blkP_lt P (by omega)) ha (by omega : n < 2 ^ 30) q
    have hpst : pst B (a, n) k = (if blkP B k = 0 then a else a ||| 2 ^ blkP B k, if blkP B k = 0 then n else n + if B (blkP B k) = 0 ∨ a.testBit (blkP B k) = true then 1 else 0) := by
      unfold pst
      by_cases h0 : blkP B k = 0
      · rw [if_pos h0, if_pos h0, if_pos h0]
      · rw [if_neg h0, if_neg h0, if_neg h0]
    have hlt := pst_lt (x := (a, n)) P (by omega : k < 24) ha
    have hle := pst_le B (a, n) k
    rw [hpst] at hlt hle
    have ih := ih (k + 1) q (if blkP B k = 0 then a else a ||| 2 ^ blkP B k) (if blkP B k = 0 then n else n + if B (blkP B k) = 0 ∨ a.testBit (blkP B k) = true then 1 else 0) (by omega) (by omega) hlt (by have hle : (if blkP B k = 0 then n else n + if B (blkP B k) = 0 ∨ a.testBit (blkP B k) = true then 1 else 0) ≤ n + 1 := hle; omega)
    rw [show q + 2 = (q + 1) + 1 from rfl, zX8_brokenPointers_21, List.range'_succ, List.foldl_cons, hpst]
    unfold kX8_brokenPointers_21
    rw [if_neg (by simp (maxSteps := 3000000) (disch := omega) only [↓reduceIte, if_true, if_false, ite_not, not_true_eq_false, not_false_eq_true, ↓qqI_p, ↓qqR_p, ↓qqV_p, ↓qqIx_p, ↓qqRx_p, ↓qqVx_p, qqI_s, qqR_s, qqV_s, qqIx_s, qqRx_s, qqVx_s, qqIx_t, qqVx_t, ↓letH_s, inB_nI, nI_leI, nI_ltI, nI_eq, nI_eq0, nI_eqm, nI_eqn, nI_le0, nI_lt0, nI_0lt, nI_0le, nI_clamp, pk_mul, nI_add, pk_div, pk_sub, rem_n, z_add, add_z, m_cell, kmk, lmk, rmk, b2i_0, b2i_n1, bft, le_t, le_f, lt_t, lt_f, eq_t, eq_f, k1, k2, k3, k4, k5, k6, k7, k8, k9, k10, k11, k12, k13, k15, k16, k20, k24, k30, k60, k64, k99, k100, k200, k255, k256, k512, k2912, k3392, k3393, k3394, k3395, k3396, k3397, k3398] <;> omega), hk2, bit_nI (by omega) (by omega)]
    have hfin : gX8_brokenPointers (q + 1) 58 [.ref s, .int (nI w), .int (nI (usdN B z)), .int (nI (lnkN B)), .int (nI a), .int (nI n), .int (nI k), uV] [.int (nI (blkP B k))] h = some (.inl (some (.int (nI ((List.range' (k + 1) c).foldl (pst B) (if blkP B k = 0 then a else a ||| 2 ^ blkP B k, if blkP B k = 0 then n else n + if B (blkP B k) = 0 ∨ a.testBit (blkP B k) = true then 1 else 0)).2))), h) := by
      rw [h58]
      exact ih
    cases hbit : (lnkN B).testBit (k / 2) with
    | true =>
      have hbk : blkP B k = fd B (k / 2) (2 + k % 2) := by unfold blkP; rw [if_pos hbit]
      rw [if_pos (by decide), if_pos R.1.1, ← hk2, hkm, hk2, hnf, bI_s, ← hbk]
      exact hfin
    | false =>
      have hbk : blkP B k = 0 := by unfold blkP; rw [if_neg (by rw [hbit]; decide)]
      rw [if_neg (by decide)]
      refine Eq.trans ?_ hfin
      rw [hbk]
      rfl
theorem t_bp (R : CB h s w B) (P : Pb B) {z : Nat} (hz : h.2 s 0 = nI z) (hz2 : z ≤ 16) (hP : ∀ n, n < 12 → ∀ f, f = 2 ∨ f = 3 → fd B n f < z) (hz0 : 0 < z) : fX8_brokenPointers s (nI w) h = some (.inl (some (.int (nI ((List.range' 0 24).foldl (pst B) (0, 0)).2))), h) := by
  unfold fX8_brokenPointers kX8_brokenPointers_0
  rw [t_used R hz hz2, bI_s, t_linked R, bI_s]
  exact t_bp_go R P hz2 hP hz0 24 0 FF 0 0 rfl (by decide) (by decide) (by decide)
end P2
