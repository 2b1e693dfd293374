/-! ===== the class: leaks, how many bits ===== -/
theorem ushr_nI {a k : Nat} (ha : a < 2 ^ 32) (hk : k < 32) : ushr (nI a) (nI k) = nI (a / 2 ^ k) := by
  apply nI_of_bv
  unfold ushr
  have h1 : ((nI a).toUInt32 >>> ((nI k).toUInt32 &&& Int32.toUInt32 31)).toInt32.toBitVec = (BitVec.ofNat 32 a) >>> (BitVec.ofNat 32 k &&& 31#32).toNat := by
    show ((nI a).toBitVec >>> (((nI k).toBitVec &&& 31#32) % 32#32).toNat) = _
    rw [nI_bv, nI_bv]
    congr 1
    rw [BitVec.toNat_umod]
    have : (BitVec.ofNat 32 k &&& 31#32).toNat < 32 := by
      rw [BitVec.toNat_and]
      exact Nat.lt_of_le_of_lt Nat.and_le_right (by decide)
    exact Nat.mod_eq_of_lt this
  rw [h1]
  have h2 : (BitVec.ofNat 32 k &&& 31#32).toNat = k := by
    rw [BitVec.toNat_and, BitVec.toNat_ofNat, Nat.mod_eq_of_lt (by omega)]
    show k &&& 31 = k
    rw [show (31 : Nat) = 2 ^ 5 - 1 from rfl, Nat.and_two_pow_sub_one_eq_mod]
    exact Nat.mod_eq_of_lt (by omega)
  rw [h2]
  apply BitVec.eq_of_toNat_eq
  rw [BitVec.toNat_ushiftRight, BitVec.toNat_ofNat, BitVec.toNat_ofNat, Nat.mod_eq_of_lt ha, Nat.shiftRight_eq_div_pow, Nat.mod_eq_of_lt (Nat.lt_of_le_of_lt (Nat.div_le_self _ _) ha)]
def bc1 (x : Nat) : Nat := x - (x / 2 &&& 1431655765)
def bc2 (x : Nat) : Nat := (x &&& 858993459) + (x / 4 &&& 858993459)
def bc3 (x : Nat) : Nat := (x + x / 16) &&& 252645135
def bc4 (x : Nat) : Nat := x + x / 256
def bc5 (x : Nat) : Nat := (x + x / 65536) &&& 63
theorem bc_f {x : Nat} (hx : x < 2 ^ 16) (h : Hp) : fJ6_bitCount_0f7a4 (nI x) h = some (.inl (some (.int (nI (bc5 (bc4 (bc3 (bc2 (bc1 x)))))))), h) := by
  have a1 : nI x - (ushr (nI x) 1 &&& 1431655765) = nI (bc1 x) := by
    rw [show (1 : Int32) = nI 1 from rfl, ushr_nI (by omega) (by decide), show (1431655765 : Int32) = nI 1431655765 from rfl, and_nI (by omega) (by decide), pk_sub (Nat.le_trans Nat.and_le_left (by omega))]
    rfl
  have b1 : bc1 x < 2 ^ 16 := Nat.lt_of_le_of_lt (Nat.sub_le _ _) hx
  have a2 : (nI (bc1 x) &&& 858993459) + (ushr (nI (bc1 x)) 2 &&& 858993459) = nI (bc2 (bc1 x)) := by
    rw [show (2 : Int32) = nI 2 from rfl, ushr_nI (by omega) (by decide), show (858993459 : Int32) = nI 858993459 from rfl, and_nI (by omega) (by decide), and_nI (by omega) (by decide), nI_add]
    rfl
  have b2 : bc2 (bc1 x) < 2 ^ 17 := by
    unfold bc2
    have h1 : bc1 x &&& 858993459 ≤ bc1 x := Nat.and_le_left
    have h2 : bc1 x / 4 &&& 858993459 ≤ bc1 x / 4 := Nat.and_le_left
    omega
  have a3 : (nI (bc2 (bc1 x)) + ushr (nI (bc2 (bc1 x))) 4) &&& 252645135 = nI (bc3 (bc2 (bc1 x))) := by
    rw [show (4 : Int32) = nI 4 from rfl, ushr_nI (by omega) (by decide), nI_add, show (252645135 : Int32) = nI 252645135 from rfl, and_nI (by omega) (by decide)]
    rfl
  have b3 : bc3 (bc2 (bc1 x)) < 2 ^ 18 := by
    unfold bc3
    have h1 : (bc2 (bc1 x) + bc2 (bc1 x) / 16) &&& 252645135 ≤ bc2 (bc1 x) + bc2 (bc1 x) / 16 := Nat.and_le_left
    omega
  have a4 : nI (bc3 (bc2 (bc1 x))) + ushr (nI (bc3 (bc2 (bc1 x)))) 8 = nI (bc4 (bc3 (bc2 (bc1 x)))) := by
    rw [show (8 : Int32) = nI 8 from rfl, ushr_nI (by omega) (by decide), nI_add]
    rfl
  have b4 : bc4 (bc3 (bc2 (bc1 x))) < 2 ^ 19 := by unfold bc4; omega
  have a5 : (nI (bc4 (bc3 (bc2 (bc1 x)))) + ushr (nI (bc4 (bc3 (bc2 (bc1 x))))) 16) &&& 63 = nI (bc5 (bc4 (bc3 (bc2 (bc1 x))))) := by
    rw [show (16 : Int32) = nI 16 from rfl, ushr_nI (by omega) (by decide), nI_add, show (63 : Int32) = nI 63 from rfl, and_nI (by omega) (by decide)]
    rfl
  unfold fJ6_bitCount_0f7a4 kJ6_bitCount_0f7a4_0
  rw [a1, a2, a3, a4, a5]
theorem and8 {u v m k : Nat} (hv : v < 256) (hk : k < 256) : (256 * u + v) &&& (256 * m + k) = 256 * (u &&& m) + (v &&& k) := by
  have hvk : v &&& k < 2 ^ 8 := Nat.lt_of_le_of_lt Nat.and_le_left hv
  refine Nat.eq_of_testBit_eq (fun i => ?_)
  rw [Nat.testBit_and, show (256 : Nat) = 2 ^ 8 from rfl, Nat.testBit_two_pow_mul_add _ (by omega), Nat.testBit_two_pow_mul_add _ (by omega), Nat.testBit_two_pow_mul_add _ hvk]
  split
  · rw [Nat.testBit_and]
  · rw [Nat.testBit_and]
theorem bc8_1 : ∀ b : Fin 256, ∀ r : Fin 2, (128 * r.val + b.val / 2) &&& 85 = b.val / 2 &&& 1431655765 := by decide +kernel
theorem bc8_2 : ∀ b : Fin 256, ∀ r : Fin 4, (64 * r.val + b.val / 4) &&& 51 = b.val / 4 &&& 858993459 := by decide +kernel
theorem bc8_3 : ∀ b : Fin 256, b.val &&& 51 = b.val &&& 858993459 := by decide +kernel
theorem bc8_4 : ∀ b : Fin 256, bc1 b.val < 256 ∧ bc2 (bc1 b.val) ≤ 68 ∧ bc2 (bc1 b.val) % 16 ≤ 4 ∧ (bc2 (bc1 b.val) + bc2 (bc1 b.val) / 16) % 16 = onesN b.val ∧ onesN b.val ≤ 8 := by decide +kernel
theorem bc8_5 : ∀ A : Fin 69, (A.val + A.val / 16) &&& 986895 = (A.val + A.val / 16) % 16 := by decide +kernel
theorem bc_1 {a b : Nat} (ha : a < 256) (hb : b < 256) : bc1 (256 * a + b) = 256 * bc1 a + bc1 b := by
  unfold bc1
  rw [show (256 * a + b) / 2 = 256 * (a / 2) + (128 * (a % 2) + b / 2) by omega, show (1431655765 : Nat) = 256 * 5592405 + 85 from rfl, and8 (by omega) (by decide)]
  have h1 := bc8_1 ⟨b, hb⟩ ⟨a % 2, by omega⟩
  have h2 : a / 2 &&& 5592405 = a / 2 &&& (256 * 5592405 + 85) := by
    have : ∀ a : Fin 256, a.val / 2 &&& 5592405 = a.val / 2 &&& (256 * 5592405 + 85) := by decide +kernel
    exact this ⟨a, ha⟩
  have h3 : a / 2 &&& (256 * 5592405 + 85) ≤ a / 2 := Nat.and_le_left
  have h4 : b / 2 &&& 1431655765 ≤ b / 2 := Nat.and_le_left
  dsimp only at h1
  rw [h1, h2]
  show _ = 256 * (a - (a / 2 &&& (256 * 5592405 + 85))) + (b - (b / 2 &&& 1431655765))
  omega
theorem bc_2 {a b : Nat} (ha : a < 256) (hb : b < 256) : bc2 (256 * a + b) = 256 * bc2 a + bc2 b := by
  unfold bc2
  rw [show (256 * a + b) / 4 = 256 * (a / 4) + (64 * (a % 4) + b / 4) by omega, show (858993459 : Nat) = 256 * 3355443 + 51 from rfl, and8 hb (by decide), and8 (by omega) (by decide)]
  have h1 := bc8_2 ⟨b, hb⟩ ⟨a % 4, by omega⟩
  have h0 := bc8_3 ⟨b, hb⟩
  have h2 : a &&& 3355443 = a &&& (256 * 3355443 + 51) ∧ a / 4 &&& 3355443 = a / 4 &&& (256 * 3355443 + 51) := by
    have : ∀ a : Fin 256, a.val &&& 3355443 = a.val &&& (256 * 3355443 + 51) ∧ a.val / 4 &&& 3355443 = a.val / 4 &&& (256 * 3355443 + 51) := by decide +kernel
    exact this ⟨a, ha⟩
  dsimp only at h1 h0
  rw [h1, h0, h2.1, h2.2]
  show _ = 256 * ((a &&& (256 * 3355443 + 51)) + (a / 4 &&& (256 * 3355443 + 51))) + ((b &&& 858993459) + (b / 4 &&& 858993459))
  omega
theorem onesN_2 {a b : Nat} (ha : a < 256) (hb : b < 256) : onesN (256 * a + b) = onesN a + onesN b := by
  have e : List.range' 0 16 = List.range' 0 8 ++ (List.range' 0 8).map (fun k => 8 + k) := by decide
  have hz : ∀ x : Nat, x < 256 → ((List.range' 0 8).map (fun k => 8 + k)).filter (fun k => x.testBit k) = [] := fun x hx => by
    rw [List.filter_eq_nil_iff]
    intro k hk
    obtain ⟨j, -, rfl⟩ := List.mem_map.mp hk
    rw [Nat.testBit_lt_two_pow (Nat.lt_of_lt_of_le (show x < 2 ^ 8 from hx) (Nat.pow_le_pow_right (by decide) (by omega)))]
    decide
  unfold onesN
  rw [e, List.filter_append, List.filter_append, List.filter_append, hz a ha, hz b hb, List.append_nil, List.append_nil, List.length_append, List.filter_map, List.length_map, Nat.add_comm]
  congr 1
  · congr 1
    refine List.filter_congr (fun k _ => ?_)
    show (256 * a + b).testBit (8 + k) = a.testBit k
    rw [show (256 : Nat) = 2 ^ 8 from rfl, Nat.testBit_two_pow_mul_add _ (by omega), if_neg (by omega), Nat.add_sub_cancel_left]
  · congr 1
    refine List.filter_congr (fun k hk => ?_)
    have := (List.mem_range'_1.mp hk).2
    show (256 * a + b).testBit k = b.testBit k
    rw [show (256 : Nat) = 2 ^ 8 from rfl, Nat.testBit_two_pow_mul_add _ (by omega), if_pos (by omega)]
theorem bc_ones {x : Nat} (hx : x < 2 ^ 16) : bc5 (bc4 (bc3 (bc2 (bc1 x)))) = onesN x := by
  obtain ⟨a, b, ha, hb, rfl⟩ : ∃ a b, a < 256 ∧ b < 256 ∧ x = 256 * a + b := ⟨x / 256, x % 256, by omega, by omega, by omega⟩
  obtain ⟨a1, a2, a3, a4, a5⟩ := bc8_4 ⟨a, ha⟩
  obtain ⟨b1, b2, b3, b4, b5⟩ := bc8_4 ⟨b, hb⟩
  dsimp only at a1 a2 a3 a4 a5 b1 b2 b3 b4 b5
  rw [bc_1 ha hb, bc_2 a1 b1, onesN_2 ha hb]
  generalize bc2 (bc1 a) = A at *
  generalize bc2 (bc1 b) = C at *
  have h5 : (A + A / 16) &&& 986895 = (A + A / 16) % 16 := bc8_5 ⟨A, by omega⟩
  have h3 : bc3 (256 * A + C) = 256 * ((A + A / 16) % 16) + (C + C / 16) % 16 := by
    unfold bc3
    rw [show 256 * A + C + (256 * A + C) / 16 = 256 * (A + A / 16) + (C + C / 16 + 16 * (A % 16)) by omega, show (252645135 : Nat) = 256 * 986895 + 15 from rfl, and8 (by omega) (by decide), h5, show (15 : Nat) = 2 ^ 4 - 1 from rfl, Nat.and_two_pow_sub_one_eq_mod]
    omega
  rw [h3, a4, b4]
  unfold bc5 bc4
  rw [show (63 : Nat) = 2 ^ 6 - 1 from rfl, Nat.and_two_pow_sub_one_eq_mod]
  clear h3 h5 a4 b4
  generalize onesN a = oa at *
  generalize onesN b = ob at *
  have e1 : (256 * oa + ob) / 256 = oa := by omega
  rw [e1]
  have e2 : (256 * oa + ob + oa) / 65536 = 0 := by omega
  rw [e2]
  have e3 : (2 : Nat) ^ 6 = 64 := rfl
  rw [e3]
  omega
theorem t_bitCount {x : Nat} (hx : x < 2 ^ 16) (h : Hp) : fJ6_bitCount_0f7a4 (nI x) h = some (.inl (some (.int (nI (onesN x)))), h) := by
  rw [bc_f hx, bc_ones hx]
section T4
variable {h : Hp} {s w : Nat} {B : Nat → Nat}
theorem leakN_lt (B : Nat → Nat) {z : Nat} (hz : z ≤ 16) : leakN B z < 2 ^ 16 := Nat.lt_of_lt_of_le (bitsOf_lt _ z) (Nat.pow_le_pow_right (by decide) hz)
theorem t_leaked (R : CB h s w B) (W : Wf B) {z : Nat} (hz : h.2 s 0 = nI z) (hz2 : z ≤ 16) : fX8_leakedBlocks s (nI w) h = some (.inl (some (.int (nI (leakN B z)))), h) := by
  have hrl := rbits_lt B
  have hu : usdN B z < 2 ^ 16 := Nat.lt_of_lt_of_le (bitsOf_lt _ z) (Nat.pow_le_pow_right (by decide) hz2)
  have hp := ptd_lt W.1 (rbits B) (n := 12) (Nat.le_refl _)
  unfold fX8_leakedBlocks kX8_leakedBlocks_0
  rw [t_reached R W, bI_s, t_pointed R W.1 hrl, bI_s, t_used R hz hz2, bI_s]
  have e1 : nI (usdN B z) &&& (nI (ptd B (rbits B) 12) ^^^ (-1)) = nI (dif (usdN B z) (ptd B (rbits B) 12)) := andnot_nI (by omega) (by omega)
  have hd : dif (usdN B z) (ptd B (rbits B) 12) < 2 ^ 16 := dif_lt hu
  have e2 : nI (dif (usdN B z) (ptd B (rbits B) 12)) &&& (-16) = nI (dif (dif (usdN B z) (ptd B (rbits B) 12)) 15) := by
    rw [show (-16 : Int32) = nI 15 ^^^ (-1) by decide]
    exact andnot_nI (by omega) (by decide)
  rw [e1, e2]
  have : dif (dif (usdN B z) (ptd B (rbits B) 12)) 15 = leakN B z := by
    have hlt : usdN B z < 2 ^ z := bitsOf_lt _ z
    refine bitsOf_eq (dif_lt (dif_lt hlt)) (fun k hk => ?_)
    rw [dif_bit, dif_bit, ptd_ptr, show (15 : Nat) = 2 ^ 4 - 1 from rfl, Nat.testBit_two_pow_sub_one]
    unfold usdN isLeak
    rw [bitsOf_bit]
    simp only [hk, decide_true, Bool.true_and, Bool.not_not]
    by_cases h4 : k < 4
    · simp [h4]
      omega
    · simp [h4, show 4 ≤ k by omega]
  rw [this]
end T4
