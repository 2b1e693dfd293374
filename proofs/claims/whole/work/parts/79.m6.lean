/-! ===== the reference copies a block, whole; leaves out what went ===== -/
theorem sub1 (x : Int32) : x + (-1) = x - 1 := by rw [Int32.sub_eq_add_neg]
section M6
variable {r m : Nat} {S : St}
theorem m_roll {b : Nat} (hb0 : b < 16) (hr : r ≠ m + 148) {x3 : Int32} (P : List (Ch × Bool)) : ∀ (T : List (Ch × Bool)) (n : Nat) (h : Hp), goes b (sC S) = P ++ T → 18 * P.length < n → Row h r S → MO h m → Fl h m (goes b (sC S)) →
    (∀ j, j < 16 → h.2 (m + 148) j = nI (rb (sD S) (16 * b + j) (P.map Prod.fst) T (mm S (16 * b + j)))) →
    ∃ h', gX10_copiesBlock n 120 [.ref m, .ref r, .int (nI b), .int x3, .int (nI P.length - 1), uV, uV] [] h = some (.inl (some (.int x3)), h') ∧ h'.1 = h.1 ∧ (∀ a, a ≠ m + 148 → h'.2 a = h.2 a) ∧
      (∀ j, j < 16 → h'.2 (m + 148) j = nI (rb (sD S) (16 * b + j) [] (goes b (sC S)) (mm S (16 * b + j)))) := by
  refine snoc_ind (P := fun P => ∀ (T : List (Ch × Bool)) (n : Nat) (h : Hp), goes b (sC S) = P ++ T → 18 * P.length < n → Row h r S → MO h m → Fl h m (goes b (sC S)) →
    (∀ j, j < 16 → h.2 (m + 148) j = nI (rb (sD S) (16 * b + j) (P.map Prod.fst) T (mm S (16 * b + j)))) →
    ∃ h', gX10_copiesBlock n 120 [.ref m, .ref r, .int (nI b), .int x3, .int (nI P.length - 1), uV, uV] [] h = some (.inl (some (.int x3)), h') ∧ h'.1 = h.1 ∧ (∀ a, a ≠ m + 148 → h'.2 a = h.2 a) ∧
      (∀ j, j < 16 → h'.2 (m + 148) j = nI (rb (sD S) (16 * b + j) [] (goes b (sC S)) (mm S (16 * b + j))))) ?_ ?_ P
  · intro T n h hg hn R M F hv
    obtain ⟨n, rfl⟩ := sc hn
    refine ⟨h, ?_, rfl, fun _ _ => rfl, fun j hj => by rw [hv j hj, hg]; rfl⟩
    rw [zX10_copiesBlock_120]
    unfold kX10_copiesBlock_120
    rw [if_pos (by decide)]
  · intro P q ih T n h hg hn R M F hv
    rw [len1] at hn
    obtain ⟨n, rfl⟩ : ∃ n', n = n' + 18 := ⟨n - 18, by omega⟩
    have hg2 : goes b (sC S) = P ++ q :: T := by rw [hg]; simp
    have e : sC S = P.map Prod.fst ++ q.1 :: T.map Prod.fst := by
      have := goes_fst b (sC S)
      rw [hg2] at this
      rw [← this]
      simp
    obtain ⟨hc, hl, hl2⟩ := R.ch e
    obtain ⟨-, q1, -⟩ := R.cel e
    obtain ⟨-, -, w1, -⟩ := hc
    obtain ⟨M0, ⟨M1, M2, M3⟩, -⟩ := id M
    have hF := F P q T hg2
    rw [List.length_map] at hl hl2 q1
    rw [len1, nI_pred, show n + 18 = (n + 17) + 1 by omega, zX10_copiesBlock_120]
    have hrb : ∀ j, rb (sD S) (16 * b + j) ((P ++ [q]).map Prod.fst) T (mm S (16 * b + j)) = rb (sD S) (16 * b + j) (P.map Prod.fst ++ [q.1]) T (mm S (16 * b + j)) := fun j => by simp
    by_cases hcb : cB q.1 = b
    · cases hq : q.2 with
      | true =>
        rw [hq] at hF
        obtain ⟨h', i1, i2, i3, i4⟩ := ih (q :: T) (n + 17) h hg2 (by omega) R M F (fun j hj => by
          rw [hv j hj, hrb]
          simp [rb, hq])
        refine ⟨h', ?_, i2, i3, i4⟩
        rw [← i1]
        simp (maxSteps := 3000000) (disch := omega) only [kX10_copiesBlock_120, R.k, R.l, M0, M1, M2, M3, ↓reduceIte, if_true, if_false, ite_not, not_true_eq_false, not_false_eq_true, ↓qqI_p, ↓qqR_p, ↓qqV_p, ↓qqIx_p, ↓qqRx_p, ↓qqVx_p, qqI_s, qqR_s, qqV_s, qqIx_s, qqRx_s, qqVx_s, qqIx_t, qqVx_t, ↓letH_s, inB_nI, nI_leI, nI_ltI, nI_eq, nI_eq0, nI_eqm, nI_eqn, nI_le0, nI_lt0, nI_0lt, nI_0le, nI_clamp, pk_mul, nI_add, pk_div, pk_sub, rem_n, z_add, add_z, m_cell, kmk, lmk, rmk, b2i_0, b2i_n1, bft, le_t, le_f, lt_t, lt_f, eq_t, eq_f, k1, k2, k3, k4, k5, k6, k7, k8, k9, k10, k11, k12, k13, k15, k16, k20, k24, k30, k60, k64, k99, k100, k200, k255, k256, k512, k2912, k3392, k3393, k3394, k3395, k3396, k3397, k3398, q1, hcb, hF]
        rw [← k1, sub1]
        simp
      | false =>
        rw [hq] at hF
        obtain ⟨h1, j1, j2, j3, j4⟩ := m_roll1 (m := m) hb0 hr e hcb (x3 := x3) (x4 := nI P.length) 16 0 n h rfl R M
        rw [List.length_map] at j1
        obtain ⟨h', i1, i2, i3, i4⟩ := ih (q :: T) n h1 hg2 (by omega) (R.eq j2 (j3 r hr)) (M.eq j2) (fun P' z T' e' => by rw [j3 _ (by omega)]; exact F P' z T' e') (fun j hj => by
          rw [j4 j, hv j hj, hrb]
          by_cases ht : tch q.1 (16 * b + j) = true
          · rw [if_pos ⟨by omega, hj, ht⟩]
            simp [rb, hq, ht]
          · rw [if_neg (fun q3 => ht q3.2.2)]
            simp [rb, ht])
        refine ⟨h', ?_, i2.trans j2, fun a ha => by rw [i3 a ha, j3 a ha], i4⟩
        rw [← i1, ← sub1, ← j1]
        simp (maxSteps := 3000000) (disch := omega) only [kX10_copiesBlock_120, R.k, R.l, M0, M1, M2, M3, ↓reduceIte, if_true, if_false, ite_not, not_true_eq_false, not_false_eq_true, ↓qqI_p, ↓qqR_p, ↓qqV_p, ↓qqIx_p, ↓qqRx_p, ↓qqVx_p, qqI_s, qqR_s, qqV_s, qqIx_s, qqRx_s, qqVx_s, qqIx_t, qqVx_t, ↓letH_s, inB_nI, nI_leI, nI_ltI, nI_eq, nI_eq0, nI_eqm, nI_eqn, nI_le0, nI_lt0, nI_0lt, nI_0le, nI_clamp, pk_mul, nI_add, pk_div, pk_sub, rem_n, z_add, add_z, m_cell, kmk, lmk, rmk, b2i_0, b2i_n1, bft, le_t, le_f, lt_t, lt_f, eq_t, eq_f, k1, k2, k3, k4, k5, k6, k7, k8, k9, k10, k11, k12, k13, k15, k16, k20, k24, k30, k60, k64, k99, k100, k200, k255, k256, k512, k2912, k3392, k3393, k3394, k3395, k3396, k3397, k3398, q1, hcb, hF]
        rfl
    · obtain ⟨h', i1, i2, i3, i4⟩ := ih (q :: T) (n + 17) h hg2 (by omega) R M F (fun j hj => by
        have ht : tch q.1 (16 * b + j) = false := by
          cases h4 : tch q.1 (16 * b + j)
          · rfl
          · have := (tch_iff.mp h4).1
            omega
        rw [hv j hj, hrb]
        simp [rb, ht])
      refine ⟨h', ?_, i2, i3, i4⟩
      rw [← i1]
      simp (maxSteps := 3000000) (disch := omega) only [kX10_copiesBlock_120, R.k, R.l, M0, M1, M2, M3, ↓reduceIte, if_true, if_false, ite_not, not_true_eq_false, not_false_eq_true, ↓qqI_p, ↓qqR_p, ↓qqV_p, ↓qqIx_p, ↓qqRx_p, ↓qqVx_p, qqI_s, qqR_s, qqV_s, qqIx_s, qqRx_s, qqVx_s, qqIx_t, qqVx_t, ↓letH_s, inB_nI, nI_leI, nI_ltI, nI_eq, nI_eq0, nI_eqm, nI_eqn, nI_le0, nI_lt0, nI_0lt, nI_0le, nI_clamp, pk_mul, nI_add, pk_div, pk_sub, rem_n, z_add, add_z, m_cell, kmk, lmk, rmk, b2i_0, b2i_n1, bft, le_t, le_f, lt_t, lt_f, eq_t, eq_f, k1, k2, k3, k4, k5, k6, k7, k8, k9, k10, k11, k12, k13, k15, k16, k20, k24, k30, k60, k64, k99, k100, k200, k255, k256, k512, k2912, k3392, k3393, k3394, k3395, k3396, k3397, k3398, q1, hcb]
      rw [← k1, sub1]
theorem m_copiesBlock {h : Hp} {b : Nat} (hb0 : b < 16) (hr : r ≠ m ∧ r ≠ m + 147 ∧ r ≠ m + 148) (R : Row h r S) (M : MO h m) :
    ∃ h', fX10_copiesBlock m r (nI b) h = some (.inl (some (.int (nI (hb b (goes b (sC S)))))), h') ∧ h'.1 = h.1 ∧ (∀ a, a ≠ m + 147 → a ≠ m + 148 → h'.2 a = h.2 a) ∧ Fl h' m (goes b (sC S)) ∧
      (∀ j, j < 16 → h'.2 (m + 148) j = nI (vA (sD S) (gone (goes b (sC S))) (16 * b + j))) := by
  have hB := R.bd.1
  obtain ⟨h1, a1, a2, a3, a4⟩ := m_flags hb0 hr.2.1 hr.1 (sC S) [] (999999 - (sC S).length) h R M (fun P q T e => by simp [goes] at e) rfl
  have R1 : Row h1 r S := R.eq a2 (a3 r hr.2.1)
  obtain ⟨h2, b1, b2, b3, b4⟩ := m_img (m := m) hb0 hr.2.2 (x3 := nI (hb b (goes b (sC S)))) 16 0 (999999 - (sC S).length - 17) h1 rfl R1 (M.eq a2)
  have R2 : Row h2 r S := R1.eq b2 (b3 r hr.2.2)
  have hgl := goes_len b (sC S)
  obtain ⟨h3, c1, c2, c3, c4⟩ := m_roll (m := m) hb0 hr.2.2 (x3 := nI (hb b (goes b (sC S)))) (goes b (sC S)) [] (999999 - (sC S).length - 17) h2 (by simp) (by omega) R2 ((M.eq a2).eq b2) (fun P q T e => by rw [b3 _ (by omega)]; exact a4 P q T e) (fun j hj => by
    rw [b4 j, if_pos (by omega)]
    rfl)
  refine ⟨h3, ?_, c2.trans (b2.trans a2), fun a ha hb => by rw [c3 a hb, b3 a hb, a3 a ha], fun P q T e => by rw [c3 _ (by omega), b3 _ (by omega)]; exact a4 P q T e, fun j hj => ?_⟩
  · unfold fX10_copiesBlock kX10_copiesBlock_0
    rw [show FF = 999999 - (sC S).length + (sC S).length + 1 from by show 1000000 = _; omega]
    refine a1.trans ?_
    rw [show 999999 - (sC S).length = 999999 - (sC S).length - 17 + 16 + 1 by omega]
    refine b1.trans ?_
    rw [hgl] at c1
    exact c1
  · rw [c4 j hj]
    have := rb_eq (sD S) (16 * b + j) (goes b (sC S)) [] (goes_apart b (sC S))
    rw [List.nil_append, goes_fst] at this
    congr 1
end M6
