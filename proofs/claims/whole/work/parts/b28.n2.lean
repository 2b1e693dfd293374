/-! ===== what a change needs: the reference counts ===== -/
def cnt1 (pre : List Ch) (n : Int) : Nat := if 0 ≤ n then (if pre.any (fun e => (cI e : Int) == n) = true then 1 else 0) else (pre.filter (fun e => cB e == n.natAbs)).length
theorem cnt1_le (pre : List Ch) (n : Int) : cnt1 pre n ≤ pre.length + 1 := by
  unfold cnt1
  split
  · split <;> omega
  · exact Nat.le_succ_of_le (List.length_filter_le _ _)
theorem nN_sum {pre : List Ch} {c : Ch} (h : 0 ≤ c1 c ∧ 0 ≤ c3 c ∧ 0 ≤ c4 c) : nN pre c = cnt1 pre (c1 c) + cnt1 pre (c2 c) + cnt1 pre (c3 c) + cnt1 pre (c4 c) := by
  obtain ⟨h1, h3, h4⟩ := h
  have hf : (prs pre c).length = (if pre.any (fun e => (cI e : Int) == c1 c) = true then 1 else 0) + (if pre.any (fun e => (cI e : Int) == c2 c) = true then 1 else 0) + (if pre.any (fun e => (cI e : Int) == c3 c) = true then 1 else 0) + (if pre.any (fun e => (cI e : Int) == c4 c) = true then 1 else 0) := by
    unfold prs
    simp only [List.filter_cons, List.filter_nil]
    cases pre.any (fun e => (cI e : Int) == c1 c) <;> cases pre.any (fun e => (cI e : Int) == c2 c) <;> cases pre.any (fun e => (cI e : Int) == c3 c) <;> cases pre.any (fun e => (cI e : Int) == c4 c) <;> rfl
  unfold nN cnt1
  rw [hf, if_pos h1, if_pos h3, if_pos h4]
  by_cases h2 : 0 ≤ c2 c
  · have ha : allB c = none := by unfold allB; rw [if_neg (by omega)]
    rw [if_pos h2, ha]
    simp only []
    omega
  · have ha : allB c = some (c2 c).natAbs := by unfold allB; rw [if_pos (by omega)]
    have hz : pre.any (fun e => (cI e : Int) == c2 c) = false := by
      rw [List.any_eq_false]
      intro e _
      simp
      omega
    rw [if_neg h2, ha, hz]
    simp only [Bool.false_eq_true, if_false]
    omega
section N2
variable {h : Hp} {m r : Nat} {S : St}
theorem which_any (B : Bd S) {pre l : List Ch} {c : Ch} (e : sC S = pre ++ c :: l) {x : Nat} (hx : x < cI c) : ((sC S).findIdx? (fun c => cI c == x)).isSome = pre.any (fun e => (cI e : Int) == (x : Int)) := by
  rw [List.findIdx?_isSome, e, List.any_append, List.any_cons]
  have h1 : (cI c == x) = false := by simp; omega
  have hpw := B.2.2.2.2.2.2
  rw [e] at hpw
  have h2 : l.any (fun c => cI c == x) = false := by
    rw [List.any_eq_false]
    intro d hd
    have := (List.pairwise_cons.mp (List.pairwise_append.mp hpw).2.1).1 d hd
    simp
    omega
  rw [h1, h2, Bool.or_false, Bool.or_false]
  congr 1
  funext d
  have : ((cI d : Int) == (x : Int)) = (cI d == x) := by
    by_cases q : cI d = x
    · simp [q]
    · have q' : ¬ (cI d : Int) = (x : Int) := by omega
      rw [beq_eq_false_iff_ne.mpr q, beq_eq_false_iff_ne.mpr q']
  exact this.symm
theorem q_needs1 (hm : kH h m = 18) (hr : rH h m 22 = r) (R : Row h r S) {pre l : List Ch} {c : Ch} (e : sC S = pre ++ c :: l) {i : Nat} (hi : i < 4) {n : Int} (hn : n ∈ [c1 c, c2 c, c3 c, c4 c]) (hv : h.2 r (512 + 12 * pre.length + (4 + i)) = nz n) {x2 : Int32} (q a : Nat) (ha : a < 2 ^ 20) :
    gX10_change (q + 1) 137 [.ref m, .int (nI pre.length), .int x2, .int (nI (512 + 12 * pre.length)), .int (nI a), .int (nI (4 + i))] [] h = gX10_change q 137 [.ref m, .int (nI pre.length), .int x2, .int (nI (512 + 12 * pre.length)), .int (nI (a + cnt1 pre n)), .int (nI (4 + (i + 1)))] [] h := by
  obtain ⟨hch, hlen, -⟩ := R.ch e
  have hb := hch.2.2.2.2.2 n hn
  have hcM := hch.2.1
  have hM := R.bd.2.2.1
  have hbx : inB (nI (512 + 12 * pre.length) + nI (4 + i)) 3398 = true := by simp (maxSteps := 3000000) (disch := omega) only [↓reduceIte, if_true, if_false, ite_not, not_true_eq_false, not_false_eq_true, ↓qqI_p, ↓qqR_p, ↓qqV_p, ↓qqIx_p, ↓qqRx_p, ↓qqVx_p, qqI_s, qqR_s, qqV_s, qqIx_s, qqRx_s, qqVx_s, qqIx_t, qqVx_t, ↓letH_s, inB_nI, nI_leI, nI_ltI, nI_eq, nI_eq0, nI_eqm, nI_eqn, nI_le0, nI_lt0, nI_0lt, nI_0le, nI_clamp, pk_mul, nI_add, pk_div, pk_sub, rem_n, z_add, add_z, m_cell, kmk, lmk, rmk, b2i_0, b2i_n1, bft, le_t, le_f, lt_t, lt_f, eq_t, eq_f, k1, k2, k3, k4, k5, k6, k7, k8, k9, k10, k11, k12, k13, k15, k16, k20, k24, k30, k60, k64, k99, k100, k200, k255, k256, k512, k2912, k3392, k3393, k3394, k3395, k3396, k3397, k3398] <;> omega
  have hx : (nI (512 + 12 * pre.length) + nI (4 + i)).toNatClampNeg = 512 + 12 * pre.length + (4 + i) := by simp (maxSteps := 3000000) (disch := omega) only [↓reduceIte, if_true, if_false, ite_not, not_true_eq_false, not_false_eq_true, ↓qqI_p, ↓qqR_p, ↓qqV_p, ↓qqIx_p, ↓qqRx_p, ↓qqVx_p, qqI_s, qqR_s, qqV_s, qqIx_s, qqRx_s, qqVx_s, qqIx_t, qqVx_t, ↓letH_s, inB_nI, nI_leI, nI_ltI, nI_eq, nI_eq0, nI_eqm, nI_eqn, nI_le0, nI_lt0, nI_0lt, nI_0le, nI_clamp, pk_mul, nI_add, pk_div, pk_sub, rem_n, z_add, add_z, m_cell, kmk, lmk, rmk, b2i_0, b2i_n1, bft, le_t, le_f, lt_t, lt_f, eq_t, eq_f, k1, k2, k3, k4, k5, k6, k7, k8, k9, k10, k11, k12, k13, k15, k16, k20, k24, k30, k60, k64, k99, k100, k200, k255, k256, k512, k2912, k3392, k3393, k3394, k3395, k3396, k3397, k3398] <;> omega
  have hi1 : nI (4 + i) + 1 = nI (4 + (i + 1)) := by simp (maxSteps := 3000000) (disch := omega) only [↓reduceIte, if_true, if_false, ite_not, not_true_eq_false, not_false_eq_true, ↓qqI_p, ↓qqR_p, ↓qqV_p, ↓qqIx_p, ↓qqRx_p, ↓qqVx_p, qqI_s, qqR_s, qqV_s, qqIx_s, qqRx_s, qqVx_s, qqIx_t, qqVx_t, ↓letH_s, inB_nI, nI_leI, nI_ltI, nI_eq, nI_eq0, nI_eqm, nI_eqn, nI_le0, nI_lt0, nI_0lt, nI_0le, nI_clamp, pk_mul, nI_add, pk_div, pk_sub, rem_n, z_add, add_z, m_cell, kmk, lmk, rmk, b2i_0, b2i_n1, bft, le_t, le_f, lt_t, lt_f, eq_t, eq_f, k1, k2, k3, k4, k5, k6, k7, k8, k9, k10, k11, k12, k13, k15, k16, k20, k24, k30, k60, k64, k99, k100, k200, k255, k256, k512, k2912, k3392, k3393, k3394, k3395, k3396, k3397, k3398]; rfl
  have ha1 : nI a + 1 = nI (a + 1) := by simp (maxSteps := 3000000) (disch := omega) only [↓reduceIte, if_true, if_false, ite_not, not_true_eq_false, not_false_eq_true, ↓qqI_p, ↓qqR_p, ↓qqV_p, ↓qqIx_p, ↓qqRx_p, ↓qqVx_p, qqI_s, qqR_s, qqV_s, qqIx_s, qqRx_s, qqVx_s, qqIx_t, qqVx_t, ↓letH_s, inB_nI, nI_leI, nI_ltI, nI_eq, nI_eq0, nI_eqm, nI_eqn, nI_le0, nI_lt0, nI_0lt, nI_0le, nI_clamp, pk_mul, nI_add, pk_div, pk_sub, rem_n, z_add, add_z, m_cell, kmk, lmk, rmk, b2i_0, b2i_n1, bft, le_t, le_f, lt_t, lt_f, eq_t, eq_f, k1, k2, k3, k4, k5, k6, k7, k8, k9, k10, k11, k12, k13, k15, k16, k20, k24, k30, k60, k64, k99, k100, k200, k255, k256, k512, k2912, k3392, k3393, k3394, k3395, k3396, k3397, k3398]
  have ha0 : nI a + 0 = nI a := Int32.add_zero _
  have hle := nz_le hb.1 (by omega)
  rw [zX10_change_137]
  unfold kX10_change_137
  rw [if_neg (by simp (maxSteps := 3000000) (disch := omega) only [↓reduceIte, if_true, if_false, ite_not, not_true_eq_false, not_false_eq_true, ↓qqI_p, ↓qqR_p, ↓qqV_p, ↓qqIx_p, ↓qqRx_p, ↓qqVx_p, qqI_s, qqR_s, qqV_s, qqIx_s, qqRx_s, qqVx_s, qqIx_t, qqVx_t, ↓letH_s, inB_nI, nI_leI, nI_ltI, nI_eq, nI_eq0, nI_eqm, nI_eqn, nI_le0, nI_lt0, nI_0lt, nI_0le, nI_clamp, pk_mul, nI_add, pk_div, pk_sub, rem_n, z_add, add_z, m_cell, kmk, lmk, rmk, b2i_0, b2i_n1, bft, le_t, le_f, lt_t, lt_f, eq_t, eq_f, k1, k2, k3, k4, k5, k6, k7, k8, k9, k10, k11, k12, k13, k15, k16, k20, k24, k30, k60, k64, k99, k100, k200, k255, k256, k512, k2912, k3392, k3393, k3394, k3395, k3396, k3397, k3398] <;> omega), if_pos hm, hr, if_pos R.k, R.l, if_pos hbx, hx, hv, hi1, ha1, ha0]
  unfold cnt1
  by_cases h0 : 0 ≤ n
  · rw [if_pos (hle.mpr h0), if_pos h0]
    obtain ⟨x, rfl⟩ : ∃ x : Nat, n = (x : Int) := ⟨n.toNat, by omega⟩
    have hany := which_any R.bd e (x := x) (by omega)
    rw [nz_n]
    by_cases hx0 : x = 0
    · subst hx0
      have hno : pre.any (fun e => (cI e : Int) == ((0 : Nat) : Int)) = false := by
        rw [List.any_eq_false]
        intro d hd
        have := (R.bd.2.2.2.2.1 d (by rw [e]; simp [hd])).1
        simp
        omega
      have hw := m_which0 R (x := nI 0) (by decide)
      rw [hw, bI_s, if_neg (by simp), hno]
      rfl
    · have hw := m_which R (x := x) (by omega) (by omega)
      rw [hw, bI_s]
      cases hf : (sC S).findIdx? (fun c => cI c == x) with
      | none =>
        rw [hf] at hany
        rw [← hany]
        simp only []
        rw [if_neg (by simp)]
        rfl
      | some j =>
        have hj : j < 200 := by
          have := (List.findIdx?_eq_some_iff_getElem.mp hf).1
          have h5 := R.bd.1
          have := (List.findIdx?_eq_some_iff_getElem.mp hf).1
          have h6 : (sC S).length = pre.length + 1 + l.length := by rw [e]; simp; omega
          omega
        rw [hf] at hany
        rw [← hany]
        simp only []
        rw [if_pos (fun e => (nI_eqm (by omega)).mp e)]
        rfl
  · rw [if_neg (fun q => h0 (hle.mp q)), if_neg h0]
    obtain ⟨x, rfl⟩ : ∃ x : Nat, n = -(x : Int) := ⟨n.natAbs, by omega⟩
    have hneg : -(nz (-(x : Int))) = nI x := by rw [← nz_neg, Int32.neg_neg]
    have hah := m_ahead R (b := x) (by omega) e
    have hlf : (pre.filter (fun c => cB c == x)).length ≤ pre.length := List.length_filter_le _ _
    have hadd : nI a + nI (pre.filter (fun c => cB c == x)).length = nI (a + (pre.filter (fun c => cB c == x)).length) := by simp (maxSteps := 3000000) (disch := omega) only [↓reduceIte, if_true, if_false, ite_not, not_true_eq_false, not_false_eq_true, ↓qqI_p, ↓qqR_p, ↓qqV_p, ↓qqIx_p, ↓qqRx_p, ↓qqVx_p, qqI_s, qqR_s, qqV_s, qqIx_s, qqRx_s, qqVx_s, qqIx_t, qqVx_t, ↓letH_s, inB_nI, nI_leI, nI_ltI, nI_eq, nI_eq0, nI_eqm, nI_eqn, nI_le0, nI_lt0, nI_0lt, nI_0le, nI_clamp, pk_mul, nI_add, pk_div, pk_sub, rem_n, z_add, add_z, m_cell, kmk, lmk, rmk, b2i_0, b2i_n1, bft, le_t, le_f, lt_t, lt_f, eq_t, eq_f, k1, k2, k3, k4, k5, k6, k7, k8, k9, k10, k11, k12, k13, k15, k16, k20, k24, k30, k60, k64, k99, k100, k200, k255, k256, k512, k2912, k3392, k3393, k3394, k3395, k3396, k3397, k3398]
    rw [hneg, hah, bI_s, hadd, show (-(x : Int)).natAbs = x by omega]
theorem q_needs (hm : kH h m = 18) (hr : rH h m 22 = r) (R : Row h r S) {pre l : List Ch} {c : Ch} (e : sC S = pre ++ c :: l) (hp : 0 ≤ c1 c ∧ 0 ≤ c3 c ∧ 0 ≤ c4 c) (q : Nat) :
    gX10_change (q + 5) 137 [.ref m, .int (nI pre.length), .int 4, .int (nI (512 + 12 * pre.length)), .int (nI 0), .int (nI (4 + 0))] [] h = some (.inl (some (.int (nI (nN pre c)))), h) := by
  obtain ⟨-, hlen, -⟩ := R.ch e
  have hc := R.cel e
  have l1 := cnt1_le pre (c1 c)
  have l2 := cnt1_le pre (c2 c)
  have l3 := cnt1_le pre (c3 c)
  rw [show q + 5 = (q + 4) + 1 from rfl, q_needs1 hm hr R e (i := 0) (by decide) (n := c1 c) (by simp) hc.2.2.2.2.1 (q + 4) 0 (by decide), show q + 4 = (q + 3) + 1 from rfl, q_needs1 hm hr R e (i := 1) (by decide) (n := c2 c) (by simp) hc.2.2.2.2.2.1 (q + 3) _ (by omega), show q + 3 = (q + 2) + 1 from rfl, q_needs1 hm hr R e (i := 2) (by decide) (n := c3 c) (by simp) hc.2.2.2.2.2.2.1 (q + 2) _ (by omega), show q + 2 = (q + 1) + 1 from rfl, q_needs1 hm hr R e (i := 3) (by decide) (n := c4 c) (by simp) hc.2.2.2.2.2.2.2.1 (q + 1) _ (by omega), zX10_change_137]
  unfold kX10_change_137
  rw [if_pos (by decide), if_neg (by simp), nN_sum hp, Nat.zero_add]
end N2
