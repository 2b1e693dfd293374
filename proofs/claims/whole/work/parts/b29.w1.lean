/-! ===== storms: what is drawn ===== -/
def drw (x : Int32) : Nat := x.toBitVec.toNat / 2 ^ 16 % 2 ^ 15
theorem drw_lt (x : Int32) : drw x < 32768 := Nat.mod_lt _ (by decide)
theorem x_nI (x : Int32) : x = nI x.toBitVec.toNat := nI_of_bv (by simp)
theorem ush15 (x : Int32) : ushr x 16 &&& 32767 = nI (drw x) := by
  have h1 := ushr_nI (a := x.toBitVec.toNat) (k := 16) x.toBitVec.isLt (by decide)
  rw [← x_nI x] at h1
  have h1 : ushr x 16 = nI (x.toBitVec.toNat / 2 ^ 16) := h1
  rw [h1]
  have h2 := pk_andN (n := x.toBitVec.toNat / 2 ^ 16) (by have := x.toBitVec.isLt; omega) (m := 32767) 15 rfl
  exact h2
theorem ssh15 (x : Int32) : (x >>> ((16 : Int32) &&& 31)) &&& 32767 = nI (drw x) := by
  apply nI_of_bv
  have hs : (((16 : Int32) &&& 31).toBitVec.smod 32) = 16#32 := by decide
  have hk : (32767 : Int32).toBitVec = BitVec.ofNat 32 32767 := by decide
  rw [Int32.toBitVec_and, Int32.toBitVec_shiftRight, hs, hk]
  refine BitVec.eq_of_getLsbD_eq (fun i hi => ?_)
  rw [BitVec.getLsbD_and, BitVec.getLsbD_ofNat, BitVec.getLsbD_ofNat, BitVec.sshiftRight_eq', BitVec.getLsbD_sshiftRight, show (32767 : Nat) = 2 ^ 15 - 1 from rfl, Nat.testBit_two_pow_sub_one]
  unfold drw
  rw [Nat.testBit_mod_two_pow, Nat.testBit_div_two_pow]
  have h16 : (16#32).toNat = 16 := rfl
  rw [h16]
  by_cases h15 : i < 15
  · have hlt : 16 + i < 32 := by omega
    have hnl : ¬ 32 ≤ i := by omega
    have hc : i + 16 = 16 + i := Nat.add_comm _ _
    simp only [hi, hlt, hnl, h15, if_true, decide_true, decide_false, Bool.not_false, Bool.true_and, Bool.and_true, BitVec.getLsbD, Nat.add_comm]
    rw [if_pos (by omega)]
  · simp [h15]
/-- a number below n is drawn -/
def seedN (x : Int32) : Int32 := x * 1103515245 + 12345
theorem rem_dr {d n : Nat} (hn : 0 < n) (hn2 : n < 2 ^ 31) (hd : d < 32768) : nI d - nI d / nI n * nI n = nI (d % n) := by
  have hle := Nat.div_mul_le_self d n
  have e : d - d / n * n = d % n := rem_n d n
  have h1 : nI d / nI n * nI n = nI (d / n * n) := by simp (maxSteps := 3000000) (disch := omega) only [↓reduceIte, if_true, if_false, ite_not, not_true_eq_false, not_false_eq_true, ↓qqI_p, ↓qqR_p, ↓qqV_p, ↓qqIx_p, ↓qqRx_p, ↓qqVx_p, qqI_s, qqR_s, qqV_s, qqIx_s, qqRx_s, qqVx_s, qqIx_t, qqVx_t, ↓letH_s, inB_nI, nI_leI, nI_ltI, nI_eq, nI_eq0, nI_eqm, nI_eqn, nI_le0, nI_lt0, nI_0lt, nI_0le, nI_clamp, pk_mul, nI_add, pk_div, pk_sub, rem_n, z_add, add_z, m_cell, kmk, lmk, rmk, b2i_0, b2i_n1, bft, le_t, le_f, lt_t, lt_f, eq_t, eq_f, k1, k2, k3, k4, k5, k6, k7, k8, k9, k10, k11, k12, k13, k15, k16, k20, k24, k30, k60, k64, k99, k100, k200, k255, k256, k512, k2912, k3392, k3393, k3394, k3395, k3396, k3397, k3398]
  rw [h1, ← e]
  generalize d / n * n = y at hle
  simp (maxSteps := 3000000) (disch := omega) only [↓reduceIte, if_true, if_false, ite_not, not_true_eq_false, not_false_eq_true, ↓qqI_p, ↓qqR_p, ↓qqV_p, ↓qqIx_p, ↓qqRx_p, ↓qqVx_p, qqI_s, qqR_s, qqV_s, qqIx_s, qqRx_s, qqVx_s, qqIx_t, qqVx_t, ↓letH_s, inB_nI, nI_leI, nI_ltI, nI_eq, nI_eq0, nI_eqm, nI_eqn, nI_le0, nI_lt0, nI_0lt, nI_0le, nI_clamp, pk_mul, nI_add, pk_div, pk_sub, rem_n, z_add, add_z, m_cell, kmk, lmk, rmk, b2i_0, b2i_n1, bft, le_t, le_f, lt_t, lt_f, eq_t, eq_f, k1, k2, k3, k4, k5, k6, k7, k8, k9, k10, k11, k12, k13, k15, k16, k20, k24, k30, k60, k64, k99, k100, k200, k255, k256, k512, k2912, k3392, k3393, k3394, k3395, k3396, k3397, k3398]
section W1
variable {h : Hp} {s m : Nat}
theorem c_drawn (hk : kH h s = 17) {n : Nat} (hn : 0 < n) (hn2 : n < 2 ^ 31) : fX7_drawn s (nI n) h = some (.inl (some (.int (nI (drw (seedN (h.2 s 0)) % n)))), (h.1, upI h.2 s 0 (seedN (h.2 s 0)))) := by
  unfold fX7_drawn kX7_drawn_0
  have hu : (upI h.2 s 0 (h.2 s 0 * 1103515245 + 12345)) s 0 = seedN (h.2 s 0) := by unfold upI seedN; simp
  rw [if_pos hk, if_pos (by rw [show (0 : Int32) = nI 0 from rfl, nI_ltI (by decide) hn2]; exact hn), if_pos (by rw [nI_eq0 hn2]; omega), hu, ush15, rem_dr hn hn2 (drw_lt _)]
  rfl
theorem q_draw (hk : kH h m = 18) {n : Nat} (hn : 0 < n) (hn2 : n < 2 ^ 31) : fX10_draw m (nI n) h = some (.inl (some (.int (nI (drw (seedN (h.2 m 36)) % n)))), (h.1, upI h.2 m 36 (seedN (h.2 m 36)))) := by
  unfold fX10_draw kX10_draw_0
  have hu : (upI h.2 m 36 (h.2 m 36 * 1103515245 + 12345)) m 36 = seedN (h.2 m 36) := by unfold upI seedN; simp
  rw [if_pos hk, if_pos (by rw [nI_eq0 hn2]; omega), hu, ssh15, rem_dr hn hn2 (drw_lt _)]
  rfl
end W1
