/-! ===== storms: a step is drawn, by the class ===== -/
/-- the seed behind it, the kind of step, its two numbers -/
def dst (x : Int32) (z : Nat) : Int32 × Nat × Nat × Nat :=
  let s1 := seedN x
  let s2 := seedN s1
  let s3 := seedN s2
  let k := drw s1 % 8
  if k ≤ 2 then (s2, if k = 2 then 6 else 0, 0, 1 + drw s2 % 9)
  else if k = 3 then (s3, 3, drw s2 % 12, drw s3 % 100)
  else if k = 4 then (s2, 5, drw s2 % 12, 0)
  else (s2, 8, drw s2 % z, 0)
def Dw (h h' : Hp) (s : Nat) (d : Int32 × Nat × Nat × Nat) : Prop := h'.1 = h.1 ∧ (∀ r, r ≠ s → h'.2 r = h.2 r) ∧ h'.2 s 0 = d.1 ∧ h'.2 s 1 = nI d.2.1 ∧ h'.2 s 2 = nI d.2.2.1 ∧ h'.2 s 3 = nI d.2.2.2
section W2
variable {h : Hp} {s : Nat}
theorem c_drawStep (hk : kH h s = 17) {z : Nat} (hz : 0 < z ∧ z ≤ 16) : ∃ h', fX7_drawStep s (nI z) h = some (.inl none, h') ∧ Dw h h' s (dst (h.2 s 0) z) := by
  have hkk : ∀ g : Nat → Nat → Int32, kH (h.1, g) s = 17 := fun g => hk
  have hd8 := c_drawn hk (n := 8) (by decide) (by decide)
  have hd8 : fX7_drawn s 8 h = _ := hd8
  have hlt : drw (seedN (h.2 s 0)) % 8 < 8 := Nat.mod_lt _ (by decide)
  unfold fX7_drawStep kX7_drawStep_0
  rw [if_pos hk, hd8, bI_s, if_pos (hkk _)]
  unfold dst
  simp only []
  generalize hkd : drw (seedN (h.2 s 0)) % 8 = k at hlt ⊢
  by_cases h2 : k ≤ 2
  · rw [if_neg (by rw [show (2 : Int32) = nI 2 from rfl, nI_ltI (by decide) (by omega)]; omega), if_pos h2]
    by_cases h22 : k = 2
    · rw [if_neg (by rw [h22]; decide), if_pos h22]
      have hd := c_drawn (h := (h.1, upI (upI (upI (upI h.2 s 0 (seedN (h.2 s 0))) s 3 0) s 1 6) s 2 0)) (s := s) (hkk _) (n := 9) (by decide) (by decide)
      have hd : fX7_drawn s 9 _ = _ := hd
      rw [hd, bI_s, if_pos (hkk _)]
      refine ⟨_, rfl, rfl, fun r hr => ?_, ?_, ?_, ?_, ?_⟩
      · funext i; simp [upI, hr]
      · simp [upI]
      · simp [upI]; rfl
      · simp [upI]; rfl
      · simp [upI]
        have : ∀ n : Nat, n < 2 ^ 30 → 1 + nI n = nI (1 + n) := fun n hn => by simp (maxSteps := 3000000) (disch := omega) only [↓reduceIte, if_true, if_false, ite_not, not_true_eq_false, not_false_eq_true, ↓qqI_p, ↓qqR_p, ↓qqV_p, ↓qqIx_p, ↓qqRx_p, ↓qqVx_p, qqI_s, qqR_s, qqV_s, qqIx_s, qqRx_s, qqVx_s, qqIx_t, qqVx_t, ↓letH_s, inB_nI, nI_leI, nI_ltI, nI_eq, nI_eq0, nI_eqm, nI_eqn, nI_le0, nI_lt0, nI_0lt, nI_0le, nI_clamp, pk_mul, nI_add, pk_div, pk_sub, rem_n, z_add, add_z, m_cell, kmk, lmk, rmk, b2i_0, b2i_n1, bft, le_t, le_f, lt_t, lt_f, eq_t, eq_f, k1, k2, k3, k4, k5, k6, k7, k8, k9, k10, k11, k12, k13, k15, k16, k20, k24, k30, k60, k64, k99, k100, k200, k255, k256, k512, k2912, k3392, k3393, k3394, k3395, k3396, k3397, k3398]
        exact this _ (by have := Nat.mod_lt (drw (seedN (seedN (h.2 s 0)))) (show 0 < 9 by decide); omega)
    · rw [if_pos (by rw [show (2 : Int32) = nI 2 from rfl, nI_eq (by omega) (by decide)]; exact h22), if_neg h22]
      have hd := c_drawn (h := (h.1, upI (upI (upI (upI h.2 s 0 (seedN (h.2 s 0))) s 3 0) s 1 0) s 2 0)) (s := s) (hkk _) (n := 9) (by decide) (by decide)
      have hd : fX7_drawn s 9 _ = _ := hd
      rw [hd, bI_s, if_pos (hkk _)]
      refine ⟨_, rfl, rfl, fun r hr => ?_, ?_, ?_, ?_, ?_⟩
      · funext i; simp [upI, hr]
      · simp [upI]
      · simp [upI]; rfl
      · simp [upI]; rfl
      · simp [upI]
        have : ∀ n : Nat, n < 2 ^ 30 → 1 + nI n = nI (1 + n) := fun n hn => by simp (maxSteps := 3000000) (disch := omega) only [↓reduceIte, if_true, if_false, ite_not, not_true_eq_false, not_false_eq_true, ↓qqI_p, ↓qqR_p, ↓qqV_p, ↓qqIx_p, ↓qqRx_p, ↓qqVx_p, qqI_s, qqR_s, qqV_s, qqIx_s, qqRx_s, qqVx_s, qqIx_t, qqVx_t, ↓letH_s, inB_nI, nI_leI, nI_ltI, nI_eq, nI_eq0, nI_eqm, nI_eqn, nI_le0, nI_lt0, nI_0lt, nI_0le, nI_clamp, pk_mul, nI_add, pk_div, pk_sub, rem_n, z_add, add_z, m_cell, kmk, lmk, rmk, b2i_0, b2i_n1, bft, le_t, le_f, lt_t, lt_f, eq_t, eq_f, k1, k2, k3, k4, k5, k6, k7, k8, k9, k10, k11, k12, k13, k15, k16, k20, k24, k30, k60, k64, k99, k100, k200, k255, k256, k512, k2912, k3392, k3393, k3394, k3395, k3396, k3397, k3398]
        exact this _ (by have := Nat.mod_lt (drw (seedN (seedN (h.2 s 0)))) (show 0 < 9 by decide); omega)
  · rw [if_pos (by rw [show (2 : Int32) = nI 2 from rfl, nI_ltI (by decide) (by omega)]; omega), if_neg h2]
    by_cases h3 : k = 3
    · rw [if_neg (by rw [h3]; decide), if_pos h3]
      have hd := c_drawn (h := (h.1, upI (upI (upI h.2 s 0 (seedN (h.2 s 0))) s 3 0) s 1 3)) (s := s) (hkk _) (n := 12) (by decide) (by decide)
      have hd : fX7_drawn s 12 _ = _ := hd
      rw [hd, bI_s, if_pos (hkk _)]
      have hd2 := c_drawn (h := (h.1, upI (upI (upI (upI (upI h.2 s 0 (seedN (h.2 s 0))) s 3 0) s 1 3) s 0 (seedN (seedN (h.2 s 0)))) s 2 (nI (drw (seedN (seedN (h.2 s 0))) % 12)))) (s := s) (hkk _) (n := 100) (by decide) (by decide)
      have hv : (upI (upI (upI h.2 s 0 (seedN (h.2 s 0))) s 3 0) s 1 3) s 0 = seedN (h.2 s 0) := by simp [upI]
      simp only [hv]
      have hd2 : fX7_drawn s 100 _ = _ := hd2
      rw [hd2, bI_s, if_pos (hkk _)]
      refine ⟨_, rfl, rfl, fun r hr => ?_, ?_, ?_, ?_, ?_⟩
      · funext i; simp [upI, hr]
      · simp [upI]
      · simp [upI]; rfl
      · simp [upI]
      · simp [upI]
    · rw [if_pos (by rw [show (3 : Int32) = nI 3 from rfl, nI_eq (by omega) (by decide)]; exact h3), if_neg h3]
      by_cases h4 : k = 4
      · rw [if_neg (by rw [h4]; decide), if_pos h4]
        have hd := c_drawn (h := (h.1, upI (upI (upI h.2 s 0 (seedN (h.2 s 0))) s 3 0) s 1 5)) (s := s) (hkk _) (n := 12) (by decide) (by decide)
        have hd : fX7_drawn s 12 _ = _ := hd
        rw [hd, bI_s, if_pos (hkk _)]
        refine ⟨_, rfl, rfl, fun r hr => ?_, ?_, ?_, ?_, ?_⟩
        · funext i; simp [upI, hr]
        · simp [upI]
        · simp [upI]; rfl
        · simp [upI]
        · simp [upI]; rfl
      · rw [if_pos (by rw [show (4 : Int32) = nI 4 from rfl, nI_eq (by omega) (by decide)]; exact h4), if_neg h4]
        have hd := c_drawn (h := (h.1, upI (upI (upI h.2 s 0 (seedN (h.2 s 0))) s 3 0) s 1 8)) (s := s) (hkk _) (n := z) hz.1 (by omega)
        rw [hd, bI_s, if_pos (hkk _)]
        refine ⟨_, rfl, rfl, fun r hr => ?_, ?_, ?_, ?_, ?_⟩
        · funext i; simp [upI, hr]
        · simp [upI]
        · simp [upI]; rfl
        · simp [upI]
        · simp [upI]; rfl
end W2
