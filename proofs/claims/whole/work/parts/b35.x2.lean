/-! ===== rings: both sides ===== -/
def wN (S : St) (b : Nat) : Nat := dif (wv b [] (sC S) 0) (2 ^ b)
def rg (S : St) (b o : Nat) : Nat := if (wN S b).testBit o = true ∧ (wN S o).testBit b = true then 1 else 0
theorem rg_sym (S : St) (b o : Nat) : rg S b o = rg S o b := by
  unfold rg
  by_cases h : (wN S b).testBit o = true ∧ (wN S o).testBit b = true
  · rw [if_pos h, if_pos ⟨h.2, h.1⟩]
  · rw [if_neg h, if_neg (fun q => h ⟨q.2, q.1⟩)]
theorem rg_le (S : St) (b o : Nat) : rg S b o ≤ 1 := by unfold rg; split <;> omega
theorem wv_lt (b : Nat) : ∀ (l pre : List Ch) (a : Nat), a < 2 ^ 16 → wv b pre l a < 2 ^ 16 := by
  intro l
  induction l with
  | nil => intro pre a ha; exact ha
  | cons c l ih =>
    intro pre a ha
    rw [wv_s]
    refine ih _ _ ?_
    split
    · exact Nat.or_lt_two_pow ha (bitsOf_lt _ 16)
    · exact ha
theorem wN_lt (S : St) (b : Nat) : wN S b < 2 ^ 16 := dif_lt (wv_lt b (sC S) [] 0 (by decide))
theorem sr_snoc (f : Nat → Nat) (c d : Nat) : sr f d (c + 1) = sr f d c + f (d + c) := by
  induction c generalizing d with
  | zero => rw [sr_s, sr_0, sr_0, Nat.add_zero, Nat.add_zero, Nat.zero_add]
  | succ c ih => rw [sr_s, ih (d + 1), sr_s f d c, show d + 1 + c = d + (c + 1) by omega]; omega
theorem tri (g : Nat → Nat → Nat) (hs : ∀ b o, g b o = g o b) : ∀ z, sr (fun b => sr (g b) (b + 1) (z - (b + 1))) 0 z = sr (fun b => sr (g b) 0 b) 0 z := by
  intro z
  induction z with
  | zero => rfl
  | succ z ih =>
    rw [sr_snoc, sr_snoc, ← ih]
    have h1 : sr (g (0 + z)) (0 + z + 1) (z + 1 - (0 + z + 1)) = 0 := by rw [show z + 1 - (0 + z + 1) = 0 by omega]; rfl
    rw [h1, Nat.add_zero, Nat.zero_add]
    have h2 : sr (fun b => sr (g b) (b + 1) (z + 1 - (b + 1))) 0 z = sr (fun b => sr (g b) (b + 1) (z - (b + 1)) + g b z) 0 z := by
      refine sr_cg z 0 (fun b _ hb => ?_)
      rw [show z + 1 - (b + 1) = (z - (b + 1)) + 1 by omega, sr_snoc, show b + 1 + (z - (b + 1)) = z by omega]
    rw [h2, sr_add]
    congr 1
    exact sr_cg z 0 (fun b _ _ => hs b z)
section X2
variable {h : Hp} {o s m r z : Nat} {S : St}
theorem c_r29 (ho : kH h o = 19) (hs : rH h o 0 = s) (R : Sta h s S z) {b : Nat} (hb : b < z) (hw : wN S b ≠ 0) : ∀ (c x q a : Nat), x + c = z → a + c < 2 ^ 30 →
    gX9_rings (q + c + 1) 29 [.ref o, .int (nI a), .int (nI b), .int (nI (wN S b)), .int (nI x)] [] h = gX9_rings q 4 [.ref o, .int (nI (a + sr (rg S b) x c)), .int (nI (b + 1)), uV, uV] [] h := by
  have hz := R.2.2.1.2
  have hlt := wN_lt S b
  have hb1 : nI b + 1 = nI (b + 1) := by simp (maxSteps := 3000000) (disch := omega) only [↓reduceIte, if_true, if_false, ite_not, not_true_eq_false, not_false_eq_true, ↓qqI_p, ↓qqR_p, ↓qqV_p, ↓qqIx_p, ↓qqRx_p, ↓qqVx_p, qqI_s, qqR_s, qqV_s, qqIx_s, qqRx_s, qqVx_s, qqIx_t, qqVx_t, ↓letH_s, inB_nI, nI_leI, nI_ltI, nI_eq, nI_eq0, nI_eqm, nI_eqn, nI_le0, nI_lt0, nI_0lt, nI_0le, nI_clamp, pk_mul, nI_add, pk_div, pk_sub, rem_n, z_add, add_z, m_cell, kmk, lmk, rmk, b2i_0, b2i_n1, bft, le_t, le_f, lt_t, lt_f, eq_t, eq_f, k1, k2, k3, k4, k5, k6, k7, k8, k9, k10, k11, k12, k13, k15, k16, k20, k24, k30, k60, k64, k99, k100, k200, k255, k256, k512, k2912, k3392, k3393, k3394, k3395, k3396, k3397, k3398]
  intro c
  induction c with
  | zero =>
    intro x q a hx ha
    rw [Nat.add_zero, zX9_rings_29]
    unfold kX9_rings_29
    rw [if_neg (by rw [nI_eq0 (by omega)]; exact hw), if_pos ho, hs, if_pos R.so.1, R.sz, if_pos (by rw [nI_leI (by omega) (by omega)]; omega), hb1]
    rfl
  | succ c ih =>
    intro x q a hx ha
    have hx1 : nI x + 1 = nI (x + 1) := by simp (maxSteps := 3000000) (disch := omega) only [↓reduceIte, if_true, if_false, ite_not, not_true_eq_false, not_false_eq_true, ↓qqI_p, ↓qqR_p, ↓qqV_p, ↓qqIx_p, ↓qqRx_p, ↓qqVx_p, qqI_s, qqR_s, qqV_s, qqIx_s, qqRx_s, qqVx_s, qqIx_t, qqVx_t, ↓letH_s, inB_nI, nI_leI, nI_ltI, nI_eq, nI_eq0, nI_eqm, nI_eqn, nI_le0, nI_lt0, nI_0lt, nI_0le, nI_clamp, pk_mul, nI_add, pk_div, pk_sub, rem_n, z_add, add_z, m_cell, kmk, lmk, rmk, b2i_0, b2i_n1, bft, le_t, le_f, lt_t, lt_f, eq_t, eq_f, k1, k2, k3, k4, k5, k6, k7, k8, k9, k10, k11, k12, k13, k15, k16, k20, k24, k30, k60, k64, k99, k100, k200, k255, k256, k512, k2912, k3392, k3393, k3394, k3395, k3396, k3397, k3398]
    have ha1 : nI a + 1 = nI (a + 1) := by simp (maxSteps := 3000000) (disch := omega) only [↓reduceIte, if_true, if_false, ite_not, not_true_eq_false, not_false_eq_true, ↓qqI_p, ↓qqR_p, ↓qqV_p, ↓qqIx_p, ↓qqRx_p, ↓qqVx_p, qqI_s, qqR_s, qqV_s, qqIx_s, qqRx_s, qqVx_s, qqIx_t, qqVx_t, ↓letH_s, inB_nI, nI_leI, nI_ltI, nI_eq, nI_eq0, nI_eqm, nI_eqn, nI_le0, nI_lt0, nI_0lt, nI_0le, nI_clamp, pk_mul, nI_add, pk_div, pk_sub, rem_n, z_add, add_z, m_cell, kmk, lmk, rmk, b2i_0, b2i_n1, bft, le_t, le_f, lt_t, lt_f, eq_t, eq_f, k1, k2, k3, k4, k5, k6, k7, k8, k9, k10, k11, k12, k13, k15, k16, k20, k24, k30, k60, k64, k99, k100, k200, k255, k256, k512, k2912, k3392, k3393, k3394, k3395, k3396, k3397, k3398]
    have hwx := c_waits R (b := x) (by omega)
    have hlx := wN_lt S x
    have hwx : fX5_blocksNeededBy s (nI x) h = some (.inl (some (.int (nI (wN S x)))), h) := hwx
    rw [show q + (c + 1) + 1 = (q + c + 1) + 1 by omega, zX9_rings_29, sr_s]
    unfold kX9_rings_29
    rw [if_neg (by rw [nI_eq0 (by omega)]; exact hw), if_pos ho, hs, if_pos R.so.1, R.sz, if_neg (by rw [nI_leI (by omega) (by omega)]; omega), bit_nI (by omega) (by omega), hx1]
    cases h1 : (wN S b).testBit x with
    | false =>
      have hr : rg S b x = 0 := by unfold rg; rw [if_neg (by rw [h1]; simp)]
      rw [if_pos b2i_f, hr, Nat.zero_add]
      exact ih (x + 1) q a (by omega) (by omega)
    | true =>
      rw [if_neg (by decide), hwx, bI_s, bit_nI (by omega) (by omega), ha1]
      cases h2 : (wN S x).testBit b with
      | false =>
        have hr : rg S b x = 0 := by unfold rg; rw [if_neg (by rw [h2]; simp)]
        rw [if_pos b2i_f, hr, Nat.zero_add]
        exact ih (x + 1) q a (by omega) (by omega)
      | true =>
        have hr : rg S b x = 1 := by unfold rg; rw [if_pos ⟨h1, h2⟩]
        rw [if_neg (by decide), hr, ih (x + 1) q (a + 1) (by omega) (by omega), Nat.add_assoc]
theorem c_r4 (ho : kH h o = 19) (hs : rH h o 0 = s) (R : Sta h s S z) : ∀ (c b q a : Nat), b + c = z → 20 * c < q → a + 16 * c < 2 ^ 30 →
    gX9_rings q 4 [.ref o, .int (nI a), .int (nI b), uV, uV] [] h = some (.inl (some (.int (nI (a + sr (fun b => sr (rg S b) (b + 1) (z - (b + 1))) b c)))), h) := by
  have hz := R.2.2.1.2
  intro c
  induction c with
  | zero =>
    intro b q a hb hq ha
    obtain ⟨q, rfl⟩ := sc hq
    rw [zX9_rings_4]
    unfold kX9_rings_4
    rw [if_pos ho, hs, if_pos R.so.1, R.sz, if_pos (by rw [nI_leI (by omega) (by omega)]; omega)]
    rfl
  | succ c ih =>
    intro b q a hb hq ha
    obtain ⟨q, rfl⟩ := sc hq
    have hb1 : nI b + 1 = nI (b + 1) := by simp (maxSteps := 3000000) (disch := omega) only [↓reduceIte, if_true, if_false, ite_not, not_true_eq_false, not_false_eq_true, ↓qqI_p, ↓qqR_p, ↓qqV_p, ↓qqIx_p, ↓qqRx_p, ↓qqVx_p, qqI_s, qqR_s, qqV_s, qqIx_s, qqRx_s, qqVx_s, qqIx_t, qqVx_t, ↓letH_s, inB_nI, nI_leI, nI_ltI, nI_eq, nI_eq0, nI_eqm, nI_eqn, nI_le0, nI_lt0, nI_0lt, nI_0le, nI_clamp, pk_mul, nI_add, pk_div, pk_sub, rem_n, z_add, add_z, m_cell, kmk, lmk, rmk, b2i_0, b2i_n1, bft, le_t, le_f, lt_t, lt_f, eq_t, eq_f, k1, k2, k3, k4, k5, k6, k7, k8, k9, k10, k11, k12, k13, k15, k16, k20, k24, k30, k60, k64, k99, k100, k200, k255, k256, k512, k2912, k3392, k3393, k3394, k3395, k3396, k3397, k3398]
    have hwb : fX5_blocksNeededBy s (nI b) h = some (.inl (some (.int (nI (wN S b)))), h) := c_waits R (b := b) (by omega)
    have hsum : sr (rg S b) (b + 1) (z - (b + 1)) ≤ 1 * (z - (b + 1)) := sr_le (rg_le S b) _ _
    rw [zX9_rings_4, sr_s]
    unfold kX9_rings_4
    rw [if_pos ho, hs, if_pos R.so.1, R.sz, if_neg (by rw [nI_leI (by omega) (by omega)]; omega), hwb, bI_s, hb1]
    by_cases hw : wN S b = 0
    · have h0 : sr (rg S b) (b + 1) (z - (b + 1)) = 0 := by
        refine Eq.trans (sr_cg _ _ (g := fun _ => 0) (fun x _ _ => ?_)) (sr_z _ _)
        unfold rg
        rw [if_neg (by rw [hw, Nat.zero_testBit]; simp)]
      obtain ⟨q, rfl⟩ : ∃ q', q = q' + 1 := ⟨q - 1, by omega⟩
      rw [zX9_rings_29]
      unfold kX9_rings_29
      rw [if_pos (by rw [hw]; rfl), hb1, h0, Nat.zero_add]
      exact ih (b + 1) q a (by omega) (by omega) (by omega)
    · have h29 := c_r29 ho hs R (b := b) (by omega) hw (z - (b + 1)) (b + 1) (q - (z - (b + 1)) - 1) a (by omega) (by omega)
      rw [show q - (z - (b + 1)) - 1 + (z - (b + 1)) + 1 = q by omega] at h29
      rw [h29, ih (b + 1) _ _ (by omega) (by omega) (by omega), Nat.add_assoc]
theorem q_r19 (hm : kH h m = 18) (hr : rH h m 22 = r) (R : Row h r S) (hp : ∀ c ∈ sC S, 0 ≤ c1 c ∧ 0 ≤ c3 c ∧ 0 ≤ c4 c) {b : Nat} (hb : b < 16) : ∀ (c x q a : Nat), x + c = b → a + c < 2 ^ 30 →
    gX10_rings (q + c + 1) 19 [.ref m, .int (nI a), .int (nI b), .int (nI x)] [] h = gX10_rings q 9 [.ref m, .int (nI (a + sr (rg S b) x c)), .int (nI (b + 1)), uV] [] h := by
  have hb1 : nI b + 1 = nI (b + 1) := by simp (maxSteps := 3000000) (disch := omega) only [↓reduceIte, if_true, if_false, ite_not, not_true_eq_false, not_false_eq_true, ↓qqI_p, ↓qqR_p, ↓qqV_p, ↓qqIx_p, ↓qqRx_p, ↓qqVx_p, qqI_s, qqR_s, qqV_s, qqIx_s, qqRx_s, qqVx_s, qqIx_t, qqVx_t, ↓letH_s, inB_nI, nI_leI, nI_ltI, nI_eq, nI_eq0, nI_eqm, nI_eqn, nI_le0, nI_lt0, nI_0lt, nI_0le, nI_clamp, pk_mul, nI_add, pk_div, pk_sub, rem_n, z_add, add_z, m_cell, kmk, lmk, rmk, b2i_0, b2i_n1, bft, le_t, le_f, lt_t, lt_f, eq_t, eq_f, k1, k2, k3, k4, k5, k6, k7, k8, k9, k10, k11, k12, k13, k15, k16, k20, k24, k30, k60, k64, k99, k100, k200, k255, k256, k512, k2912, k3392, k3393, k3394, k3395, k3396, k3397, k3398]
  have hwb : fX10_waitsFor m (nI b) h = some (.inl (some (.int (nI (wN S b)))), h) := q_waits hm hr R hp hb
  have hlt := wN_lt S b
  intro c
  induction c with
  | zero =>
    intro x q a hx ha
    rw [Nat.add_zero, zX10_rings_19]
    unfold kX10_rings_19
    rw [if_pos (by rw [nI_leI (by omega) (by omega)]; omega), hb1]
    rfl
  | succ c ih =>
    intro x q a hx ha
    have hx1 : nI x + 1 = nI (x + 1) := by simp (maxSteps := 3000000) (disch := omega) only [↓reduceIte, if_true, if_false, ite_not, not_true_eq_false, not_false_eq_true, ↓qqI_p, ↓qqR_p, ↓qqV_p, ↓qqIx_p, ↓qqRx_p, ↓qqVx_p, qqI_s, qqR_s, qqV_s, qqIx_s, qqRx_s, qqVx_s, qqIx_t, qqVx_t, ↓letH_s, inB_nI, nI_leI, nI_ltI, nI_eq, nI_eq0, nI_eqm, nI_eqn, nI_le0, nI_lt0, nI_0lt, nI_0le, nI_clamp, pk_mul, nI_add, pk_div, pk_sub, rem_n, z_add, add_z, m_cell, kmk, lmk, rmk, b2i_0, b2i_n1, bft, le_t, le_f, lt_t, lt_f, eq_t, eq_f, k1, k2, k3, k4, k5, k6, k7, k8, k9, k10, k11, k12, k13, k15, k16, k20, k24, k30, k60, k64, k99, k100, k200, k255, k256, k512, k2912, k3392, k3393, k3394, k3395, k3396, k3397, k3398]
    have ha1 : nI a + 1 = nI (a + 1) := by simp (maxSteps := 3000000) (disch := omega) only [↓reduceIte, if_true, if_false, ite_not, not_true_eq_false, not_false_eq_true, ↓qqI_p, ↓qqR_p, ↓qqV_p, ↓qqIx_p, ↓qqRx_p, ↓qqVx_p, qqI_s, qqR_s, qqV_s, qqIx_s, qqRx_s, qqVx_s, qqIx_t, qqVx_t, ↓letH_s, inB_nI, nI_leI, nI_ltI, nI_eq, nI_eq0, nI_eqm, nI_eqn, nI_le0, nI_lt0, nI_0lt, nI_0le, nI_clamp, pk_mul, nI_add, pk_div, pk_sub, rem_n, z_add, add_z, m_cell, kmk, lmk, rmk, b2i_0, b2i_n1, bft, le_t, le_f, lt_t, lt_f, eq_t, eq_f, k1, k2, k3, k4, k5, k6, k7, k8, k9, k10, k11, k12, k13, k15, k16, k20, k24, k30, k60, k64, k99, k100, k200, k255, k256, k512, k2912, k3392, k3393, k3394, k3395, k3396, k3397, k3398]
    have ha0 : nI a + 0 = nI a := Int32.add_zero _
    have hwx : fX10_waitsFor m (nI x) h = some (.inl (some (.int (nI (wN S x)))), h) := q_waits hm hr R hp (by omega)
    have hlx := wN_lt S x
    have t1 := m_has (a := wN S b) (k := x) (by omega) (by omega) h
    have t2 := m_has (a := wN S x) (k := b) (by omega) (by omega) h
    rw [show q + (c + 1) + 1 = (q + c + 1) + 1 by omega, zX10_rings_19, sr_s]
    unfold kX10_rings_19
    rw [if_neg (by rw [nI_leI (by omega) (by omega)]; omega), if_pos hm, hwb, bI_s, t1, bI_s, hx1, ha0, ha1]
    cases h1 : (wN S b).testBit x with
    | false =>
      have hr : rg S b x = 0 := by unfold rg; rw [if_neg (by rw [h1]; simp)]
      rw [if_pos b2i_f, hr, Nat.zero_add]
      exact ih (x + 1) q a (by omega) (by omega)
    | true =>
      rw [if_neg (by decide), if_pos hm, hwx, bI_s, t2, bI_s]
      cases h2 : (wN S x).testBit b with
      | false =>
        have hr : rg S b x = 0 := by unfold rg; rw [if_neg (by rw [h2]; simp)]
        rw [if_pos b2i_f, hr, Nat.zero_add]
        exact ih (x + 1) q a (by omega) (by omega)
      | true =>
        have hr : rg S b x = 1 := by unfold rg; rw [if_pos ⟨h1, h2⟩]
        rw [if_neg (by decide), hr, ih (x + 1) q (a + 1) (by omega) (by omega), Nat.add_assoc]
theorem q_r9 (hm : kH h m = 18) (hr : rH h m 22 = r) (R : Row h r S) (hp : ∀ c ∈ sC S, 0 ≤ c1 c ∧ 0 ≤ c3 c ∧ 0 ≤ c4 c) (hz : h.2 m 11 = nI z) (hz2 : z ≤ 16) : ∀ (c b q a : Nat), b + c = z → 20 * c < q → a + 16 * c < 2 ^ 30 →
    gX10_rings q 9 [.ref m, .int (nI a), .int (nI b), uV] [] h = some (.inl (some (.int (nI (a + sr (fun b => sr (rg S b) 0 b) b c)))), h) := by
  intro c
  induction c with
  | zero =>
    intro b q a hb hq ha
    obtain ⟨q, rfl⟩ := sc hq
    rw [zX10_rings_9]
    unfold kX10_rings_9
    rw [if_pos hm, hz, if_pos (by rw [nI_leI (by omega) (by omega)]; omega)]
    rfl
  | succ c ih =>
    intro b q a hb hq ha
    obtain ⟨q, rfl⟩ := sc hq
    have hsum : sr (rg S b) 0 b ≤ 1 * b := sr_le (rg_le S b) _ _
    rw [zX10_rings_9, sr_s]
    unfold kX10_rings_9
    rw [if_pos hm, hz, if_neg (by rw [nI_leI (by omega) (by omega)]; omega)]
    have h19 := q_r19 hm hr R hp (b := b) (by omega) b 0 (q - b - 1) a (by omega) (by omega)
    rw [show q - b - 1 + b + 1 = q by omega] at h19
    refine Eq.trans h19 ?_
    rw [ih (b + 1) _ _ (by omega) (by omega) (by omega), Nat.add_assoc]
end X2
