/-! ===== what a block waits for: the reference's loops ===== -/
section V4
variable {h : Hp} {m r : Nat} {S : St}
theorem q_w89 (hm : kH h m = 18) (hr : rH h m 22 = r) (R : Row h r S) {pre l : List Ch} {c : Ch} (e : sC S = pre ++ c :: l) {i : Nat} (hi : i < 4) {n : Int} (hn : n ∈ [c1 c, c2 c, c3 c, c4 c]) (hv : h.2 r (512 + 12 * pre.length + (4 + i)) = nz n) {x1 : Int32} (q a : Nat) (ha : a < 2 ^ 16) {s0 : Int32} (hs0 : (0 ≤ n → s0 = nI (o1 pre n)) ∧ (n < 0 → s0 = 0)) :
    gX10_waitsFor (q + 1) 89 [.ref m, .int x1, uV, .int (nI pre.length), .int (nI (512 + 12 * pre.length)), .int (nI (4 + i)), uV] [.int s0, .int (nI a)] h = gX10_waitsFor q 25 [.ref m, .int x1, .int (nI (a ||| o1 pre n)), .int (nI pre.length), .int (nI (512 + 12 * pre.length)), .int (nI (4 + (i + 1))), uV] [] h := by
  obtain ⟨hch, hlen, -⟩ := R.ch e
  have hb := hch.2.2.2.2.2 n hn
  have hcM := hch.2.1
  have hM := R.bd.2.2.1
  have hbx : inB (nI (512 + 12 * pre.length) + nI (4 + i)) 3398 = true := by simp (maxSteps := 3000000) (disch := omega) only [↓reduceIte, if_true, if_false, ite_not, not_true_eq_false, not_false_eq_true, ↓qqI_p, ↓qqR_p, ↓qqV_p, ↓qqIx_p, ↓qqRx_p, ↓qqVx_p, qqI_s, qqR_s, qqV_s, qqIx_s, qqRx_s, qqVx_s, qqIx_t, qqVx_t, ↓letH_s, inB_nI, nI_leI, nI_ltI, nI_eq, nI_eq0, nI_eqm, nI_eqn, nI_le0, nI_lt0, nI_0lt, nI_0le, nI_clamp, pk_mul, nI_add, pk_div, pk_sub, rem_n, z_add, add_z, m_cell, kmk, lmk, rmk, b2i_0, b2i_n1, bft, le_t, le_f, lt_t, lt_f, eq_t, eq_f, k1, k2, k3, k4, k5, k6, k7, k8, k9, k10, k11, k12, k13, k15, k16, k20, k24, k30, k60, k64, k99, k100, k200, k255, k256, k512, k2912, k3392, k3393, k3394, k3395, k3396, k3397, k3398] <;> omega
  have hx : (nI (512 + 12 * pre.length) + nI (4 + i)).toNatClampNeg = 512 + 12 * pre.length + (4 + i) := by simp (maxSteps := 3000000) (disch := omega) only [↓reduceIte, if_true, if_false, ite_not, not_true_eq_false, not_false_eq_true, ↓qqI_p, ↓qqR_p, ↓qqV_p, ↓qqIx_p, ↓qqRx_p, ↓qqVx_p, qqI_s, qqR_s, qqV_s, qqIx_s, qqRx_s, qqVx_s, qqIx_t, qqVx_t, ↓letH_s, inB_nI, nI_leI, nI_ltI, nI_eq, nI_eq0, nI_eqm, nI_eqn, nI_le0, nI_lt0, nI_0lt, nI_0le, nI_clamp, pk_mul, nI_add, pk_div, pk_sub, rem_n, z_add, add_z, m_cell, kmk, lmk, rmk, b2i_0, b2i_n1, bft, le_t, le_f, lt_t, lt_f, eq_t, eq_f, k1, k2, k3, k4, k5, k6, k7, k8, k9, k10, k11, k12, k13, k15, k16, k20, k24, k30, k60, k64, k99, k100, k200, k255, k256, k512, k2912, k3392, k3393, k3394, k3395, k3396, k3397, k3398] <;> omega
  have hi1 : nI (4 + i) + 1 = nI (4 + (i + 1)) := by simp (maxSteps := 3000000) (disch := omega) only [↓reduceIte, if_true, if_false, ite_not, not_true_eq_false, not_false_eq_true, ↓qqI_p, ↓qqR_p, ↓qqV_p, ↓qqIx_p, ↓qqRx_p, ↓qqVx_p, qqI_s, qqR_s, qqV_s, qqIx_s, qqRx_s, qqVx_s, qqIx_t, qqVx_t, ↓letH_s, inB_nI, nI_leI, nI_ltI, nI_eq, nI_eq0, nI_eqm, nI_eqn, nI_le0, nI_lt0, nI_0lt, nI_0le, nI_clamp, pk_mul, nI_add, pk_div, pk_sub, rem_n, z_add, add_z, m_cell, kmk, lmk, rmk, b2i_0, b2i_n1, bft, le_t, le_f, lt_t, lt_f, eq_t, eq_f, k1, k2, k3, k4, k5, k6, k7, k8, k9, k10, k11, k12, k13, k15, k16, k20, k24, k30, k60, k64, k99, k100, k200, k255, k256, k512, k2912, k3392, k3393, k3394, k3395, k3396, k3397, k3398]; rfl
  have hle := nz_le hb.1 (by omega)
  have hlt := o1_lt pre n
  have ho := or_nI31 (a := a) (b := o1 pre n) (by omega) (by omega)
  rw [zX10_waitsFor_89]
  unfold kX10_waitsFor_89
  rw [if_pos hm, hr, if_pos R.k, R.l, if_pos hbx, hx, hv, hi1]
  by_cases h0 : 0 ≤ n
  · rw [if_pos (hle.mpr h0), hs0.1 h0, ho, show nI (a ||| o1 pre n) ||| 0 = nI (a ||| o1 pre n) from Int32.or_zero]
  · rw [if_neg (fun q => h0 (hle.mp q)), hs0.2 (by omega), show nI a ||| 0 = nI a from Int32.or_zero]
    obtain ⟨x, rfl⟩ : ∃ x : Nat, n = -(x : Int) := ⟨n.natAbs, by omega⟩
    have hneg : -(nz (-(x : Int))) = nI x := by rw [← nz_neg, Int32.neg_neg]
    have hah := m_ahead R (b := x) (by omega) e
    have hlf : (pre.filter (fun c => cB c == x)).length ≤ pre.length := List.length_filter_le _ _
    have hon := o1_neg R.bd e (x := x) (by omega)
    rw [hneg, hah, bI_s]
    by_cases hz : (pre.filter (fun c => cB c == x)).length = 0
    · rw [if_pos hz] at hon
      rw [if_pos (by rw [hz]; decide), hon, Nat.or_zero, show nI a ||| 0 = nI a from Int32.or_zero]
    · rw [if_neg hz] at hon
      have hs : (1 : Int32) <<< (nI x &&& 31) = nI (2 ^ x) := one_shl (by omega)
      rw [if_neg (by rw [show (0 : Int32) = nI 0 from rfl, nI_leI (by omega) (by decide)]; omega), if_pos hm, hr, if_pos R.k, R.l, if_pos hbx, hv, hneg, hs, ← hon, ho]
theorem q_w25 (hm : kH h m = 18) (hr : rH h m 22 = r) (R : Row h r S) {pre l : List Ch} {c : Ch} (e : sC S = pre ++ c :: l) {i : Nat} (hi : i < 4) {n : Int} (hn : n ∈ [c1 c, c2 c, c3 c, c4 c]) (hv : h.2 r (512 + 12 * pre.length + (4 + i)) = nz n) (q a : Nat) (ha : a < 2 ^ 16) :
    gX10_waitsFor (q + 2) 25 [.ref m, .int (nI (cB c)), .int (nI a), .int (nI pre.length), .int (nI (512 + 12 * pre.length)), .int (nI (4 + i)), uV] [] h = gX10_waitsFor q 25 [.ref m, .int (nI (cB c)), .int (nI (a ||| o1 pre n)), .int (nI pre.length), .int (nI (512 + 12 * pre.length)), .int (nI (4 + (i + 1))), uV] [] h := by
  obtain ⟨hch, hlen, -⟩ := R.ch e
  have hb := hch.2.2.2.2.2 n hn
  have hcM := hch.2.1
  have hM := R.bd.2.2.1
  have hcel := R.cel e
  have hbx : inB (nI (512 + 12 * pre.length) + nI (4 + i)) 3398 = true := by simp (maxSteps := 3000000) (disch := omega) only [↓reduceIte, if_true, if_false, ite_not, not_true_eq_false, not_false_eq_true, ↓qqI_p, ↓qqR_p, ↓qqV_p, ↓qqIx_p, ↓qqRx_p, ↓qqVx_p, qqI_s, qqR_s, qqV_s, qqIx_s, qqRx_s, qqVx_s, qqIx_t, qqVx_t, ↓letH_s, inB_nI, nI_leI, nI_ltI, nI_eq, nI_eq0, nI_eqm, nI_eqn, nI_le0, nI_lt0, nI_0lt, nI_0le, nI_clamp, pk_mul, nI_add, pk_div, pk_sub, rem_n, z_add, add_z, m_cell, kmk, lmk, rmk, b2i_0, b2i_n1, bft, le_t, le_f, lt_t, lt_f, eq_t, eq_f, k1, k2, k3, k4, k5, k6, k7, k8, k9, k10, k11, k12, k13, k15, k16, k20, k24, k30, k60, k64, k99, k100, k200, k255, k256, k512, k2912, k3392, k3393, k3394, k3395, k3396, k3397, k3398] <;> omega
  have hx : (nI (512 + 12 * pre.length) + nI (4 + i)).toNatClampNeg = 512 + 12 * pre.length + (4 + i) := by simp (maxSteps := 3000000) (disch := omega) only [↓reduceIte, if_true, if_false, ite_not, not_true_eq_false, not_false_eq_true, ↓qqI_p, ↓qqR_p, ↓qqV_p, ↓qqIx_p, ↓qqRx_p, ↓qqVx_p, qqI_s, qqR_s, qqV_s, qqIx_s, qqRx_s, qqVx_s, qqIx_t, qqVx_t, ↓letH_s, inB_nI, nI_leI, nI_ltI, nI_eq, nI_eq0, nI_eqm, nI_eqn, nI_le0, nI_lt0, nI_0lt, nI_0le, nI_clamp, pk_mul, nI_add, pk_div, pk_sub, rem_n, z_add, add_z, m_cell, kmk, lmk, rmk, b2i_0, b2i_n1, bft, le_t, le_f, lt_t, lt_f, eq_t, eq_f, k1, k2, k3, k4, k5, k6, k7, k8, k9, k10, k11, k12, k13, k15, k16, k20, k24, k30, k60, k64, k99, k100, k200, k255, k256, k512, k2912, k3392, k3393, k3394, k3395, k3396, k3397, k3398] <;> omega
  have hbb : inB (nI (512 + 12 * pre.length) + 1) 3398 = true := by simp (maxSteps := 3000000) (disch := omega) only [↓reduceIte, if_true, if_false, ite_not, not_true_eq_false, not_false_eq_true, ↓qqI_p, ↓qqR_p, ↓qqV_p, ↓qqIx_p, ↓qqRx_p, ↓qqVx_p, qqI_s, qqR_s, qqV_s, qqIx_s, qqRx_s, qqVx_s, qqIx_t, qqVx_t, ↓letH_s, inB_nI, nI_leI, nI_ltI, nI_eq, nI_eq0, nI_eqm, nI_eqn, nI_le0, nI_lt0, nI_0lt, nI_0le, nI_clamp, pk_mul, nI_add, pk_div, pk_sub, rem_n, z_add, add_z, m_cell, kmk, lmk, rmk, b2i_0, b2i_n1, bft, le_t, le_f, lt_t, lt_f, eq_t, eq_f, k1, k2, k3, k4, k5, k6, k7, k8, k9, k10, k11, k12, k13, k15, k16, k20, k24, k30, k60, k64, k99, k100, k200, k255, k256, k512, k2912, k3392, k3393, k3394, k3395, k3396, k3397, k3398] <;> omega
  have hxb : (nI (512 + 12 * pre.length) + 1).toNatClampNeg = 512 + 12 * pre.length + 1 := by simp (maxSteps := 3000000) (disch := omega) only [↓reduceIte, if_true, if_false, ite_not, not_true_eq_false, not_false_eq_true, ↓qqI_p, ↓qqR_p, ↓qqV_p, ↓qqIx_p, ↓qqRx_p, ↓qqVx_p, qqI_s, qqR_s, qqV_s, qqIx_s, qqRx_s, qqVx_s, qqIx_t, qqVx_t, ↓letH_s, inB_nI, nI_leI, nI_ltI, nI_eq, nI_eq0, nI_eqm, nI_eqn, nI_le0, nI_lt0, nI_0lt, nI_0le, nI_clamp, pk_mul, nI_add, pk_div, pk_sub, rem_n, z_add, add_z, m_cell, kmk, lmk, rmk, b2i_0, b2i_n1, bft, le_t, le_f, lt_t, lt_f, eq_t, eq_f, k1, k2, k3, k4, k5, k6, k7, k8, k9, k10, k11, k12, k13, k15, k16, k20, k24, k30, k60, k64, k99, k100, k200, k255, k256, k512, k2912, k3392, k3393, k3394, k3395, k3396, k3397, k3398] <;> omega
  rw [show q + 2 = (q + 1) + 1 from rfl, zX10_waitsFor_25]
  unfold kX10_waitsFor_25
  rw [if_neg (by simp (maxSteps := 3000000) (disch := omega) only [↓reduceIte, if_true, if_false, ite_not, not_true_eq_false, not_false_eq_true, ↓qqI_p, ↓qqR_p, ↓qqV_p, ↓qqIx_p, ↓qqRx_p, ↓qqVx_p, qqI_s, qqR_s, qqV_s, qqIx_s, qqRx_s, qqVx_s, qqIx_t, qqVx_t, ↓letH_s, inB_nI, nI_leI, nI_ltI, nI_eq, nI_eq0, nI_eqm, nI_eqn, nI_le0, nI_lt0, nI_0lt, nI_0le, nI_clamp, pk_mul, nI_add, pk_div, pk_sub, rem_n, z_add, add_z, m_cell, kmk, lmk, rmk, b2i_0, b2i_n1, bft, le_t, le_f, lt_t, lt_f, eq_t, eq_f, k1, k2, k3, k4, k5, k6, k7, k8, k9, k10, k11, k12, k13, k15, k16, k20, k24, k30, k60, k64, k99, k100, k200, k255, k256, k512, k2912, k3392, k3393, k3394, k3395, k3396, k3397, k3398] <;> omega), if_pos hm, hr, if_pos R.k, R.l, if_pos hbb, hxb, hcel.2.1, if_neg (by simp), if_pos hbx, hx, hv]
  by_cases h0 : 0 < n
  · obtain ⟨x, rfl⟩ : ∃ x : Nat, n = (x : Int) := ⟨n.toNat, by omega⟩
    have hany := which_any R.bd e (x := x) (by omega)
    have hw := m_which R (x := x) (by omega) (by omega)
    rw [nz_n, hw, bI_s]
    cases hf : (sC S).findIdx? (fun c => cI c == x) with
    | none =>
      rw [hf] at hany
      simp only []
      rw [if_neg (by simp)]
      refine q_w89 hm hr R e hi hn hv q a ha ⟨fun _ => ?_, fun h => by omega⟩
      rw [o1_none R.bd e (by omega) (fun d hd hq => ?_)]
      · rfl
      · have : pre.any (fun e => (cI e : Int) == (x : Int)) = true := List.any_eq_true.mpr ⟨d, hd, by simpa using hq⟩
        rw [← hany] at this
        cases this
    | some j =>
      obtain ⟨hjl, hjx, -⟩ := List.findIdx?_eq_some_iff_getElem.mp hf
      have hj200 : (sC S).length ≤ 200 := R.bd.1
      have hjx : cI (sC S)[j] = x := by simpa using hjx
      have hsp : sC S = (sC S).take j ++ (sC S)[j] :: (sC S).drop (j + 1) := by rw [List.getElem_cons_drop, List.take_append_drop]
      have hc2 := (R.cel hsp).2.1
      have htl : ((sC S).take j).length = j := by rw [List.length_take]; omega
      rw [htl] at hc2
      have hdp : (sC S)[j] ∈ pre := by
        have hin : (sC S)[j] ∈ sC S := List.getElem_mem hjl
        have hpw := R.bd.2.2.2.2.2.2
        rw [e] at hpw
        have hin2 : (sC S)[j] ∈ pre ++ c :: l := by rw [← e]; exact hin
        rcases List.mem_append.mp hin2 with w | w
        · exact w
        · rcases List.mem_cons.mp w with w | w
          · rw [w] at hjx; omega
          · have := (List.pairwise_cons.mp (List.pairwise_append.mp hpw).2.1).1 _ w
            omega
      have hc16 := (R.bd.2.2.2.2.1 _ (List.getElem_mem hjl)).2.2.1
      have hos := o1_some R.bd e hdp
      rw [hjx] at hos
      have hcell : (512 : Int32) + 12 * nI j = nI (512 + 12 * j) := by simp (maxSteps := 3000000) (disch := omega) only [↓reduceIte, if_true, if_false, ite_not, not_true_eq_false, not_false_eq_true, ↓qqI_p, ↓qqR_p, ↓qqV_p, ↓qqIx_p, ↓qqRx_p, ↓qqVx_p, qqI_s, qqR_s, qqV_s, qqIx_s, qqRx_s, qqVx_s, qqIx_t, qqVx_t, ↓letH_s, inB_nI, nI_leI, nI_ltI, nI_eq, nI_eq0, nI_eqm, nI_eqn, nI_le0, nI_lt0, nI_0lt, nI_0le, nI_clamp, pk_mul, nI_add, pk_div, pk_sub, rem_n, z_add, add_z, m_cell, kmk, lmk, rmk, b2i_0, b2i_n1, bft, le_t, le_f, lt_t, lt_f, eq_t, eq_f, k1, k2, k3, k4, k5, k6, k7, k8, k9, k10, k11, k12, k13, k15, k16, k20, k24, k30, k60, k64, k99, k100, k200, k255, k256, k512, k2912, k3392, k3393, k3394, k3395, k3396, k3397, k3398]
      have hbj : inB (nI (512 + 12 * j) + 1) 3398 = true := by simp (maxSteps := 3000000) (disch := omega) only [↓reduceIte, if_true, if_false, ite_not, not_true_eq_false, not_false_eq_true, ↓qqI_p, ↓qqR_p, ↓qqV_p, ↓qqIx_p, ↓qqRx_p, ↓qqVx_p, qqI_s, qqR_s, qqV_s, qqIx_s, qqRx_s, qqVx_s, qqIx_t, qqVx_t, ↓letH_s, inB_nI, nI_leI, nI_ltI, nI_eq, nI_eq0, nI_eqm, nI_eqn, nI_le0, nI_lt0, nI_0lt, nI_0le, nI_clamp, pk_mul, nI_add, pk_div, pk_sub, rem_n, z_add, add_z, m_cell, kmk, lmk, rmk, b2i_0, b2i_n1, bft, le_t, le_f, lt_t, lt_f, eq_t, eq_f, k1, k2, k3, k4, k5, k6, k7, k8, k9, k10, k11, k12, k13, k15, k16, k20, k24, k30, k60, k64, k99, k100, k200, k255, k256, k512, k2912, k3392, k3393, k3394, k3395, k3396, k3397, k3398] <;> omega
      have hxj : (nI (512 + 12 * j) + 1).toNatClampNeg = 512 + 12 * j + 1 := by simp (maxSteps := 3000000) (disch := omega) only [↓reduceIte, if_true, if_false, ite_not, not_true_eq_false, not_false_eq_true, ↓qqI_p, ↓qqR_p, ↓qqV_p, ↓qqIx_p, ↓qqRx_p, ↓qqVx_p, qqI_s, qqR_s, qqV_s, qqIx_s, qqRx_s, qqVx_s, qqIx_t, qqVx_t, ↓letH_s, inB_nI, nI_leI, nI_ltI, nI_eq, nI_eq0, nI_eqm, nI_eqn, nI_le0, nI_lt0, nI_0lt, nI_0le, nI_clamp, pk_mul, nI_add, pk_div, pk_sub, rem_n, z_add, add_z, m_cell, kmk, lmk, rmk, b2i_0, b2i_n1, bft, le_t, le_f, lt_t, lt_f, eq_t, eq_f, k1, k2, k3, k4, k5, k6, k7, k8, k9, k10, k11, k12, k13, k15, k16, k20, k24, k30, k60, k64, k99, k100, k200, k255, k256, k512, k2912, k3392, k3393, k3394, k3395, k3396, k3397, k3398] <;> omega
      have hs : (1 : Int32) <<< (nI (cB (sC S)[j]) &&& 31) = nI (2 ^ cB (sC S)[j]) := one_shl (by omega)
      simp only []
      rw [if_pos (fun e => (nI_eqm (by omega)).mp e), if_pos hm, m_cell, bI_s, hcell, hr, if_pos R.k, R.l, if_pos hbj, hxj, hc2, hs]
      refine q_w89 hm hr R e hi hn hv q a ha ⟨fun _ => ?_, fun h => by omega⟩
      rw [hos]
  · have hle2 : nz n ≤ 0 := by rw [Int32.le_iff_toInt_le, nz_toInt hb.1 (by omega)]; show n ≤ 0; omega
    have hw := m_which0 R hle2
    rw [hw, bI_s, if_neg (by simp)]
    refine q_w89 hm hr R e hi hn hv q a ha ⟨fun h1 => ?_, fun _ => rfl⟩
    rw [o1_none R.bd e h1 (fun d hd hq => ?_)]
    · rfl
    · have := (R.bd.2.2.2.2.1 d (by rw [e]; exact List.mem_append_left _ hd)).1
      omega
theorem q_w4 (hm : kH h m = 18) (hr : rH h m 22 = r) (R : Row h r S) (hp : ∀ c ∈ sC S, 0 ≤ c1 c ∧ 0 ≤ c3 c ∧ 0 ≤ c4 c) {b : Nat} (hb : b < 16) : ∀ (l pre : List Ch) (q a : Nat), sC S = pre ++ l → a < 2 ^ 16 →
    gX10_waitsFor (q + 10 * l.length + 1) 4 [.ref m, .int (nI b), .int (nI a), .int (nI pre.length), uV, uV, uV] [] h = some (.inl (some (.int (nI (dif (wv b pre l a) (2 ^ b))))), h) := by
  have hb16 : 2 ^ b < 2 ^ 16 := Nat.pow_lt_pow_right (by decide) hb
  have hb92 : inB 3392 3398 = true := by decide
  intro l
  induction l with
  | nil =>
    intro pre q a e ha
    rw [List.append_nil] at e
    have hlen := R.bd.1
    rw [e] at hlen
    rw [List.length_nil, Nat.mul_zero, Nat.add_zero, zX10_waitsFor_4]
    unfold kX10_waitsFor_4
    have hs : (1 : Int32) <<< (nI b &&& 31) = nI (2 ^ b) := one_shl (by omega)
    rw [if_pos hm, hr, if_pos R.k, R.l, if_pos hb92, R.many, e, if_pos (by rw [nI_leI (by omega) (by omega)]; exact Nat.le_refl _), hs, andnot_nI (by omega) (by omega)]
    rfl
  | cons c l ih =>
    intro pre q a e ha
    obtain ⟨hch, hlen, hlen2⟩ := R.ch e
    have hc := R.cel e
    have hk1 : nI pre.length + 1 = nI (pre.length + 1) := by simp (maxSteps := 3000000) (disch := omega) only [↓reduceIte, if_true, if_false, ite_not, not_true_eq_false, not_false_eq_true, ↓qqI_p, ↓qqR_p, ↓qqV_p, ↓qqIx_p, ↓qqRx_p, ↓qqVx_p, qqI_s, qqR_s, qqV_s, qqIx_s, qqRx_s, qqVx_s, qqIx_t, qqVx_t, ↓letH_s, inB_nI, nI_leI, nI_ltI, nI_eq, nI_eq0, nI_eqm, nI_eqn, nI_le0, nI_lt0, nI_0lt, nI_0le, nI_clamp, pk_mul, nI_add, pk_div, pk_sub, rem_n, z_add, add_z, m_cell, kmk, lmk, rmk, b2i_0, b2i_n1, bft, le_t, le_f, lt_t, lt_f, eq_t, eq_f, k1, k2, k3, k4, k5, k6, k7, k8, k9, k10, k11, k12, k13, k15, k16, k20, k24, k30, k60, k64, k99, k100, k200, k255, k256, k512, k2912, k3392, k3393, k3394, k3395, k3396, k3397, k3398]
    have hcell : (512 : Int32) + 12 * nI pre.length = nI (512 + 12 * pre.length) := by simp (maxSteps := 3000000) (disch := omega) only [↓reduceIte, if_true, if_false, ite_not, not_true_eq_false, not_false_eq_true, ↓qqI_p, ↓qqR_p, ↓qqV_p, ↓qqIx_p, ↓qqRx_p, ↓qqVx_p, qqI_s, qqR_s, qqV_s, qqIx_s, qqRx_s, qqVx_s, qqIx_t, qqVx_t, ↓letH_s, inB_nI, nI_leI, nI_ltI, nI_eq, nI_eq0, nI_eqm, nI_eqn, nI_le0, nI_lt0, nI_0lt, nI_0le, nI_clamp, pk_mul, nI_add, pk_div, pk_sub, rem_n, z_add, add_z, m_cell, kmk, lmk, rmk, b2i_0, b2i_n1, bft, le_t, le_f, lt_t, lt_f, eq_t, eq_f, k1, k2, k3, k4, k5, k6, k7, k8, k9, k10, k11, k12, k13, k15, k16, k20, k24, k30, k60, k64, k99, k100, k200, k255, k256, k512, k2912, k3392, k3393, k3394, k3395, k3396, k3397, k3398]
    have ih := fun q a ha => ih (pre ++ [c]) q a (app1 e) ha
    rw [len1] at ih
    rw [List.length_cons, wv_s, show q + 10 * (l.length + 1) + 1 = (q + 10 * l.length + 10) + 1 by omega, zX10_waitsFor_4]
    unfold kX10_waitsFor_4
    rw [if_pos hm, hr, if_pos R.k, R.l, if_pos hb92, R.many, if_neg (by rw [nI_leI (by omega) (by omega)]; omega), m_cell, bI_s, hcell]
    by_cases hcb : cB c = b
    · rw [if_pos hcb]
      subst hcb
      have hnb := nbN_sum R.bd e (hp c (by rw [e]; simp))
      have t1 := o1_lt pre (c1 c)
      have t2 := o1_lt pre (c2 c)
      have t3 := o1_lt pre (c3 c)
      have t4 := o1_lt pre (c4 c)
      have u1 := Nat.or_lt_two_pow ha t1
      have u2 := Nat.or_lt_two_pow u1 t2
      have u3 := Nat.or_lt_two_pow u2 t3
      have u4 := Nat.or_lt_two_pow u3 t4
      have s1 := q_w25 hm hr R e (i := 0) (by decide) (n := c1 c) (by simp) hc.2.2.2.2.1 (q + 10 * l.length + 8) a ha
      have s2 := q_w25 hm hr R e (i := 1) (by decide) (n := c2 c) (by simp) hc.2.2.2.2.2.1 (q + 10 * l.length + 6) _ u1
      have s3 := q_w25 hm hr R e (i := 2) (by decide) (n := c3 c) (by simp) hc.2.2.2.2.2.2.1 (q + 10 * l.length + 4) _ u2
      have s4 := q_w25 hm hr R e (i := 3) (by decide) (n := c4 c) (by simp) hc.2.2.2.2.2.2.2.1 (q + 10 * l.length + 2) _ u3
      refine Eq.trans s1 (Eq.trans s2 (Eq.trans s3 (Eq.trans s4 ?_)))
      rw [show q + 10 * l.length + 2 = (q + 10 * l.length + 1) + 1 from rfl, zX10_waitsFor_25]
      unfold kX10_waitsFor_25
      rw [if_pos (by decide), hk1]
      have hor : a ||| nbN pre c = a ||| o1 pre (c1 c) ||| o1 pre (c2 c) ||| o1 pre (c3 c) ||| o1 pre (c4 c) := by
        rw [hnb, Nat.or_assoc, Nat.or_assoc, Nat.or_assoc]
      rw [hor]
      exact ih q _ u4
    · rw [if_neg hcb, show q + 10 * l.length + 10 = (q + 10 * l.length + 9) + 1 from rfl]
      have hbb : inB (nI (512 + 12 * pre.length) + 1) 3398 = true := by simp (maxSteps := 3000000) (disch := omega) only [↓reduceIte, if_true, if_false, ite_not, not_true_eq_false, not_false_eq_true, ↓qqI_p, ↓qqR_p, ↓qqV_p, ↓qqIx_p, ↓qqRx_p, ↓qqVx_p, qqI_s, qqR_s, qqV_s, qqIx_s, qqRx_s, qqVx_s, qqIx_t, qqVx_t, ↓letH_s, inB_nI, nI_leI, nI_ltI, nI_eq, nI_eq0, nI_eqm, nI_eqn, nI_le0, nI_lt0, nI_0lt, nI_0le, nI_clamp, pk_mul, nI_add, pk_div, pk_sub, rem_n, z_add, add_z, m_cell, kmk, lmk, rmk, b2i_0, b2i_n1, bft, le_t, le_f, lt_t, lt_f, eq_t, eq_f, k1, k2, k3, k4, k5, k6, k7, k8, k9, k10, k11, k12, k13, k15, k16, k20, k24, k30, k60, k64, k99, k100, k200, k255, k256, k512, k2912, k3392, k3393, k3394, k3395, k3396, k3397, k3398] <;> omega
      have hxb : (nI (512 + 12 * pre.length) + 1).toNatClampNeg = 512 + 12 * pre.length + 1 := by simp (maxSteps := 3000000) (disch := omega) only [↓reduceIte, if_true, if_false, ite_not, not_true_eq_false, not_false_eq_true, ↓qqI_p, ↓qqR_p, ↓qqV_p, ↓qqIx_p, ↓qqRx_p, ↓qqVx_p, qqI_s, qqR_s, qqV_s, qqIx_s, qqRx_s, qqVx_s, qqIx_t, qqVx_t, ↓letH_s, inB_nI, nI_leI, nI_ltI, nI_eq, nI_eq0, nI_eqm, nI_eqn, nI_le0, nI_lt0, nI_0lt, nI_0le, nI_clamp, pk_mul, nI_add, pk_div, pk_sub, rem_n, z_add, add_z, m_cell, kmk, lmk, rmk, b2i_0, b2i_n1, bft, le_t, le_f, lt_t, lt_f, eq_t, eq_f, k1, k2, k3, k4, k5, k6, k7, k8, k9, k10, k11, k12, k13, k15, k16, k20, k24, k30, k60, k64, k99, k100, k200, k255, k256, k512, k2912, k3392, k3393, k3394, k3395, k3396, k3397, k3398] <;> omega
      have hc16 := hch.2.2.1
      rw [zX10_waitsFor_25]
      unfold kX10_waitsFor_25
      rw [if_neg (by decide), if_pos hm, hr, if_pos R.k, R.l, if_pos hbb, hxb, hc.2.1, if_pos (by rw [nI_eq (by omega) (by omega)]; exact hcb), hk1, show q + 10 * l.length + 9 = (q + 8) + 10 * l.length + 1 by omega]
      exact ih (q + 8) a ha
theorem q_waits (hm : kH h m = 18) (hr : rH h m 22 = r) (R : Row h r S) (hp : ∀ c ∈ sC S, 0 ≤ c1 c ∧ 0 ≤ c3 c ∧ 0 ≤ c4 c) {b : Nat} (hb : b < 16) : fX10_waitsFor m (nI b) h = some (.inl (some (.int (nI (dif (wv b [] (sC S) 0) (2 ^ b))))), h) := by
  unfold fX10_waitsFor kX10_waitsFor_0
  have hl := R.bd.1
  have := q_w4 hm hr R hp hb (sC S) [] (999999 - 10 * (sC S).length) 0 rfl (by decide)
  rw [show 999999 - 10 * (sC S).length + 10 * (sC S).length + 1 = FF by show _ = 1000000; omega] at this
  exact this
end V4
