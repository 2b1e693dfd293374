/-! ===== the class drafts a block's copy ===== -/
theorem cpI_at {I : Nat → Nat → Int32} {src dst sp dp n : Nat} (j : Nat) : cpI I src dst sp dp n dst j = if dp ≤ j ∧ j < dp + n then I src (sp + (j - dp)) else I dst j := by simp [cpI]
section C8
variable {s p z : Nat} {S : St}
theorem c_firstPlace {h : Hp} (R : Sta h s S z) {pre l : List Ch} {c : Ch} (e : sC S = pre ++ c :: l) : fX5_firstPlace s (nI pre.length) h = some (.inl (some (.int (nI (if cP c = 16 then 0 else cP c)))), h) := by
  obtain ⟨hc, hl, hl2⟩ := R.ch e
  obtain ⟨-, q2, -⟩ := R.cst e
  obtain ⟨-, -, -, w2, -⟩ := hc
  obtain ⟨r1, -, -, ⟨r5, r6, r7⟩, -⟩ := id R.so
  unfold fX5_firstPlace
  simp (maxSteps := 3000000) (disch := omega) only [kX5_firstPlace_0, r1, r5, r6, r7, ↓reduceIte, if_true, if_false, ite_not, not_true_eq_false, not_false_eq_true, ↓qqI_p, ↓qqR_p, ↓qqV_p, ↓qqIx_p, ↓qqRx_p, ↓qqVx_p, qqI_s, qqR_s, qqV_s, qqIx_s, qqRx_s, qqVx_s, qqIx_t, qqVx_t, ↓letH_s, inB_nI, nI_leI, nI_ltI, nI_eq, nI_eq0, nI_eqm, nI_eqn, nI_le0, nI_lt0, nI_0lt, nI_0le, nI_clamp, pk_mul, nI_add, pk_div, pk_sub, rem_n, z_add, add_z, m_cell, kmk, lmk, rmk, b2i_0, b2i_n1, bft, le_t, le_f, lt_t, lt_f, eq_t, eq_f, k1, k2, k3, k4, k5, k6, k7, k8, k9, k10, k11, k12, k13, k15, k16, k20, k24, k30, k60, k64, k99, k100, k200, k255, k256, k512, k2912, k3392, k3393, k3394, k3395, k3396, k3397, k3398, q2]
  by_cases h1 : cP c = 16
  · simp [h1, nI_0]
  · simp [h1]
theorem c_roll {b : Nat} (hb0 : b < 16) (hps : p + 5 ≤ s ∨ s + 10 ≤ p) (P : List (Ch × Bool)) : ∀ (T : List (Ch × Bool)) (n : Nat) (h : Hp), goes b (sC S) = P ++ T → P.length < n → Sta h s S z → PO h p → Flc h p (goes b (sC S)) → 0 < hb b (goes b (sC S)) → h.2 p 5 = nI (hb b (goes b (sC S))) →
    (∀ j, j < 16 → h.2 (p + 3) j = nI (rb (sD S) (16 * b + j) (P.map Prod.fst) T (mm S (16 * b + j)))) →
    ∃ h', gX2_draft n 31 [.ref p, .ref s, .int (nI b), .int (nI P.length - 1), uV, uV] [] h = some (.inl none, h') ∧ h'.1 = h.1 ∧ (∀ a, a ≠ p + 3 → h'.2 a = h.2 a) ∧
      (∀ j, j < 16 → h'.2 (p + 3) j = nI (rb (sD S) (16 * b + j) [] (goes b (sC S)) (mm S (16 * b + j)))) := by
  refine snoc_ind (P := fun P => ∀ (T : List (Ch × Bool)) (n : Nat) (h : Hp), goes b (sC S) = P ++ T → P.length < n → Sta h s S z → PO h p → Flc h p (goes b (sC S)) → 0 < hb b (goes b (sC S)) → h.2 p 5 = nI (hb b (goes b (sC S))) →
    (∀ j, j < 16 → h.2 (p + 3) j = nI (rb (sD S) (16 * b + j) (P.map Prod.fst) T (mm S (16 * b + j)))) →
    ∃ h', gX2_draft n 31 [.ref p, .ref s, .int (nI b), .int (nI P.length - 1), uV, uV] [] h = some (.inl none, h') ∧ h'.1 = h.1 ∧ (∀ a, a ≠ p + 3 → h'.2 a = h.2 a) ∧
      (∀ j, j < 16 → h'.2 (p + 3) j = nI (rb (sD S) (16 * b + j) [] (goes b (sC S)) (mm S (16 * b + j))))) ?_ ?_ P
  · intro T n h hg hn R M F h0 h5 hv
    obtain ⟨n, rfl⟩ := sc hn
    have hB := R.bd.1
    have hle := hb_le b (goes b (sC S))
    rw [goes_len] at hle
    refine ⟨h, ?_, rfl, fun _ _ => rfl, fun j hj => by rw [hv j hj, hg]; rfl⟩
    rw [zX2_draft_31]
    unfold kX2_draft_31
    rw [if_pos M.1, h5, if_neg (by rw [nI_le0 (by omega)]; omega), if_pos (by decide)]
  · intro P q ih T n h hg hn R M F h0 h5 hv
    rw [len1] at hn
    obtain ⟨n, rfl⟩ := sc hn
    have hB := R.bd.1
    have hle := hb_le b (goes b (sC S))
    rw [goes_len] at hle
    have hg2 : goes b (sC S) = P ++ q :: T := by rw [hg]; simp
    have e : sC S = P.map Prod.fst ++ q.1 :: T.map Prod.fst := by
      have := goes_fst b (sC S)
      rw [hg2] at this
      rw [← this]
      simp
    obtain ⟨hc, hl, hl2⟩ := R.ch e
    obtain ⟨q1, q2, -, q4, -⟩ := R.cst e
    have hfp := c_firstPlace R e
    obtain ⟨-, -, w1, w2, -⟩ := hc
    obtain ⟨M0, ⟨M1, M2, M3⟩, -, ⟨M7, M8, M9⟩, -⟩ := id M
    obtain ⟨r1, -, ⟨r2, r3, r4⟩, ⟨r5, r6, r7⟩, -, ⟨r8, r9, r10⟩, -⟩ := id R.so
    have hF := F P q T hg2
    rw [List.length_map] at hl hl2 q1 q2 q4 hfp
    rw [len1, nI_pred, zX2_draft_31]
    have hrb : ∀ j, rb (sD S) (16 * b + j) ((P ++ [q]).map Prod.fst) T (mm S (16 * b + j)) = rb (sD S) (16 * b + j) (P.map Prod.fst ++ [q.1]) T (mm S (16 * b + j)) := fun j => by simp
    have hs1 : nI P.length + (-nI 1) = nI P.length - 1 := sub1 _
    by_cases hcb : cB q.1 = b
    · cases hq : q.2 with
      | true =>
        rw [hq, b2i_t1] at hF
        obtain ⟨h', i1, i2, i3, i4⟩ := ih (q :: T) n h hg2 (by omega) R M F h0 h5 (fun j hj => by
          rw [hv j hj, hrb]
          simp [rb, hq])
        refine ⟨h', ?_, i2, i3, i4⟩
        rw [← i1]
        simp (maxSteps := 3000000) (disch := omega) only [kX2_draft_31, r1, r2, r3, r4, M0, M1, M2, M3, ↓reduceIte, if_true, if_false, ite_not, not_true_eq_false, not_false_eq_true, ↓qqI_p, ↓qqR_p, ↓qqV_p, ↓qqIx_p, ↓qqRx_p, ↓qqVx_p, qqI_s, qqR_s, qqV_s, qqIx_s, qqRx_s, qqVx_s, qqIx_t, qqVx_t, ↓letH_s, inB_nI, nI_leI, nI_ltI, nI_eq, nI_eq0, nI_eqm, nI_eqn, nI_le0, nI_lt0, nI_0lt, nI_0le, nI_clamp, pk_mul, nI_add, pk_div, pk_sub, rem_n, z_add, add_z, m_cell, kmk, lmk, rmk, b2i_0, b2i_n1, bft, le_t, le_f, lt_t, lt_f, eq_t, eq_f, k1, k2, k3, k4, k5, k6, k7, k8, k9, k10, k11, k12, k13, k15, k16, k20, k24, k30, k60, k64, k99, k100, k200, k255, k256, k512, k2912, k3392, k3393, k3394, k3395, k3396, k3397, k3398, h5, q1, hcb, hF]
        rw [hs1]
        rfl
      | false =>
        rw [hq, b2i_f] at hF
        by_cases h16 : cP q.1 = 16
        · obtain ⟨h', i1, i2, i3, i4⟩ := ih (q :: T) n (h.1, cpI h.2 (s + 5) (p + 3) (P.length * 16) 0 16) hg2 (by omega) (R.up (fun a x y => cpI_ne (by omega))) M.up (fun P' q' T' e' => by dsimp only; rw [cpI_ne (by omega)]; exact F P' q' T' e') h0 (by dsimp only; rw [cpI_ne (by omega)]; exact h5) (fun j hj => by
            dsimp only
            rw [cpI_at, if_pos (by omega), show P.length * 16 + (j - 0) = 16 * P.length + j by omega, q4 j hj (Or.inl h16), hcb]
            have ht : tch q.1 (16 * b + j) = true := tch_iff.mpr ⟨by omega, Or.inl h16⟩
            simp [rb, hq, ht])
          refine ⟨h', ?_, i2, fun a ha => by rw [i3 a ha]; exact cpI_ne ha, i4⟩
          rw [← i1]
          rw [if_pos h16] at hfp
          simp (maxSteps := 3000000) (disch := omega) only [kX2_draft_31, r1, r2, r3, r4, r5, r6, r7, r8, r9, r10, M0, M1, M2, M3, M7, M8, M9, ↓reduceIte, if_true, if_false, ite_not, not_true_eq_false, not_false_eq_true, ↓qqI_p, ↓qqR_p, ↓qqV_p, ↓qqIx_p, ↓qqRx_p, ↓qqVx_p, qqI_s, qqR_s, qqV_s, qqIx_s, qqRx_s, qqVx_s, qqIx_t, qqVx_t, ↓letH_s, inB_nI, nI_leI, nI_ltI, nI_eq, nI_eq0, nI_eqm, nI_eqn, nI_le0, nI_lt0, nI_0lt, nI_0le, nI_clamp, pk_mul, nI_add, pk_div, pk_sub, rem_n, z_add, add_z, m_cell, kmk, lmk, rmk, b2i_0, b2i_n1, bft, le_t, le_f, lt_t, lt_f, eq_t, eq_f, k1, k2, k3, k4, k5, k6, k7, k8, k9, k10, k11, k12, k13, k15, k16, k20, k24, k30, k60, k64, k99, k100, k200, k255, k256, k512, k2912, k3392, k3393, k3394, k3395, k3396, k3397, k3398, h5, q1, q2, hcb, hF, hfp, h16]
          rw [hs1]
          rfl
        · obtain ⟨h', i1, i2, i3, i4⟩ := ih (q :: T) n (h.1, cpI h.2 (s + 5) (p + 3) (P.length * 16 + cP q.1) (cP q.1) 1) hg2 (by omega) (R.up (fun a x y => cpI_ne (by omega))) M.up (fun P' q' T' e' => by dsimp only; rw [cpI_ne (by omega)]; exact F P' q' T' e') h0 (by dsimp only; rw [cpI_ne (by omega)]; exact h5) (fun j hj => by
            dsimp only
            rw [cpI_at]
            by_cases hj2 : cP q.1 = j
            · have ht : tch q.1 (16 * b + j) = true := tch_iff.mpr ⟨by omega, Or.inr (by omega)⟩
              rw [if_pos (by omega), show P.length * 16 + cP q.1 + (j - cP q.1) = 16 * P.length + j by omega, q4 j hj (Or.inr hj2), hcb]
              simp [rb, hq, ht]
            · have ht : tch q.1 (16 * b + j) = false := by
                cases h4 : tch q.1 (16 * b + j)
                · rfl
                · have := (tch_iff.mp h4).2
                  omega
              rw [if_neg (by omega), hv j hj, hrb]
              simp [rb, ht])
          refine ⟨h', ?_, i2, fun a ha => by rw [i3 a ha]; exact cpI_ne ha, i4⟩
          rw [← i1]
          rw [if_neg h16] at hfp
          simp (maxSteps := 3000000) (disch := omega) only [kX2_draft_31, r1, r2, r3, r4, r5, r6, r7, r8, r9, r10, M0, M1, M2, M3, M7, M8, M9, ↓reduceIte, if_true, if_false, ite_not, not_true_eq_false, not_false_eq_true, ↓qqI_p, ↓qqR_p, ↓qqV_p, ↓qqIx_p, ↓qqRx_p, ↓qqVx_p, qqI_s, qqR_s, qqV_s, qqIx_s, qqRx_s, qqVx_s, qqIx_t, qqVx_t, ↓letH_s, inB_nI, nI_leI, nI_ltI, nI_eq, nI_eq0, nI_eqm, nI_eqn, nI_le0, nI_lt0, nI_0lt, nI_0le, nI_clamp, pk_mul, nI_add, pk_div, pk_sub, rem_n, z_add, add_z, m_cell, kmk, lmk, rmk, b2i_0, b2i_n1, bft, le_t, le_f, lt_t, lt_f, eq_t, eq_f, k1, k2, k3, k4, k5, k6, k7, k8, k9, k10, k11, k12, k13, k15, k16, k20, k24, k30, k60, k64, k99, k100, k200, k255, k256, k512, k2912, k3392, k3393, k3394, k3395, k3396, k3397, k3398, h5, q1, q2, hcb, hF, hfp, h16]
          rw [hs1]
          rfl
    · obtain ⟨h', i1, i2, i3, i4⟩ := ih (q :: T) n h hg2 (by omega) R M F h0 h5 (fun j hj => by
        have ht : tch q.1 (16 * b + j) = false := by
          cases h4 : tch q.1 (16 * b + j)
          · rfl
          · have := (tch_iff.mp h4).1
            omega
        rw [hv j hj, hrb]
        simp [rb, ht])
      refine ⟨h', ?_, i2, i3, i4⟩
      rw [← i1]
      simp (maxSteps := 3000000) (disch := omega) only [kX2_draft_31, r1, r2, r3, r4, M0, M1, M2, M3, ↓reduceIte, if_true, if_false, ite_not, not_true_eq_false, not_false_eq_true, ↓qqI_p, ↓qqR_p, ↓qqV_p, ↓qqIx_p, ↓qqRx_p, ↓qqVx_p, qqI_s, qqR_s, qqV_s, qqIx_s, qqRx_s, qqVx_s, qqIx_t, qqVx_t, ↓letH_s, inB_nI, nI_leI, nI_ltI, nI_eq, nI_eq0, nI_eqm, nI_eqn, nI_le0, nI_lt0, nI_0lt, nI_0le, nI_clamp, pk_mul, nI_add, pk_div, pk_sub, rem_n, z_add, add_z, m_cell, kmk, lmk, rmk, b2i_0, b2i_n1, bft, le_t, le_f, lt_t, lt_f, eq_t, eq_f, k1, k2, k3, k4, k5, k6, k7, k8, k9, k10, k11, k12, k13, k15, k16, k20, k24, k30, k60, k64, k99, k100, k200, k255, k256, k512, k2912, k3392, k3393, k3394, k3395, k3396, k3397, k3398, h5, q1, hcb]
      rw [hs1]
      rfl
theorem rb_none {d : Nat → Nat} {x : Nat} {g : List (Ch × Bool)} {b : Nat} (h0 : hb b g = 0) (hx : x / 16 = b) : ∀ (P : List Ch) (v : Nat), (∀ q ∈ g, True) → rb d x P g v = v := by
  induction g with
  | nil => intro P v _; rfl
  | cons q g ih =>
    intro P v _
    unfold rb
    have h1 : ¬ (!q.2 && tch q.1 x) = true := fun w => by
      simp only [Bool.and_eq_true, Bool.not_eq_true'] at w
      have h2 := (tch_iff.mp w.2).1
      unfold hb at h0
      rw [List.filter_cons, if_pos (by simp [h2, hx, w.1])] at h0
      simp at h0
    rw [if_neg h1]
    refine ih ?_ _ _ (fun _ _ => trivial)
    unfold hb at h0 ⊢
    rw [List.filter_cons] at h0
    split at h0
    · simp at h0
    · exact h0
theorem c_draft {h : Hp} {b : Nat} (hb0 : b < 16) (hps : p + 5 ≤ s ∨ s + 10 ≤ p) (A : Na S) (R : Sta h s S z) (M : PO h p) :
    ∃ h', fX2_draft p s (nI b) h = some (.inl none, h') ∧ h'.1 = h.1 ∧ (∀ a, a ≠ p → a ≠ p + 1 → a ≠ p + 3 → h'.2 a = h.2 a) ∧ (∀ j, j ≠ 4 → j ≠ 5 → h'.2 p j = h.2 p j) ∧
      Flc h' p (goes b (sC S)) ∧ h'.2 p 4 = nI (gone (goes b (sC S))).length ∧ h'.2 p 5 = nI (hb b (goes b (sC S))) ∧ (∀ j, j < 16 → h'.2 (p + 3) j = nI (vA (sD S) (gone (goes b (sC S))) (16 * b + j))) := by
  obtain ⟨h1, a1, a2, a3, a4, a5, a6, a7⟩ := c_weigh hb0 hps A R M
  have R1 : Sta h1 s S z := R.eqs a2 (fun a x y => a3 a (by omega) (by omega))
  have M1 := M.eq a2
  have hB := R.bd.1
  have hle := hb_le b (goes b (sC S))
  have hgl := goes_len b (sC S)
  obtain ⟨M0, -, -, ⟨M7, M8, M9⟩, -⟩ := id M1
  obtain ⟨r1, ⟨r2, r3, r4⟩, -⟩ := id R1.so
  have hun : cpI h1.2 (s + 1) (p + 3) (b * 16) 0 16 s 2 = nI (sC S).length := by rw [cpI_ne (by omega)]; exact R1.un
  have hfin : ∀ j, j < 16 → rb (sD S) (16 * b + j) [] (goes b (sC S)) (mm S (16 * b + j)) = vA (sD S) (gone (goes b (sC S))) (16 * b + j) := fun j hj => by
    have := rb_eq (sD S) (16 * b + j) (goes b (sC S)) [] (goes_apart b (sC S))
    rw [List.nil_append, goes_fst] at this
    exact this
  have hstart : fX2_draft p s (nI b) h = gX2_draft FF 31 [.ref p, .ref s, .int (nI b), .int (nI (goes b (sC S)).length - 1), uV, uV] [] (h1.1, cpI h1.2 (s + 1) (p + 3) (b * 16) 0 16) := by
    unfold fX2_draft kX2_draft_0
    rw [if_pos M.1, a1, bV_s, if_pos r1, if_pos M0, r2, M7, if_pos r3, if_pos M8, k16, pk_mul, if_pos (by rw [nI_lt0 (by omega)]; exact id), nI_clamp (by omega), if_pos (by rw [r4]; omega), if_pos (by rw [M9]; decide), hun, hgl]
  have hv : ∀ j, j < 16 → (cpI h1.2 (s + 1) (p + 3) (b * 16) 0 16) (p + 3) j = nI (mm S (16 * b + j)) := fun j hj => by
    rw [cpI_at, if_pos (by omega), show b * 16 + (j - 0) = 16 * b + j by omega]
    exact R1.mem (by omega)
  have F1 : Flc (h1.1, cpI h1.2 (s + 1) (p + 3) (b * 16) 0 16) p (goes b (sC S)) := fun P' q' T' e' => by dsimp only; rw [cpI_ne (by omega)]; exact a5 P' q' T' e'
  by_cases h0 : hb b (goes b (sC S)) = 0
  · refine ⟨(h1.1, cpI h1.2 (s + 1) (p + 3) (b * 16) 0 16), ?_, a2, fun a x y w => by dsimp only; rw [cpI_ne w]; exact a3 a x y, fun j x y => by dsimp only; rw [cpI_ne (by omega)]; exact a4 j x y, F1, by dsimp only; rw [cpI_ne (by omega)]; exact a6, by dsimp only; rw [cpI_ne (by omega)]; exact a7, fun j hj => ?_⟩
    · rw [hstart, show FF = 999999 + 1 from rfl, zX2_draft_31]
      unfold kX2_draft_31
      rw [if_pos M0, if_pos (by dsimp only; rw [cpI_ne (by omega), a7, h0]; decide)]
    · dsimp only
      rw [hv j hj, ← hfin j hj, rb_none h0 (by omega) _ _ (fun _ _ => trivial)]
  · obtain ⟨h', i1, i2, i3, i4⟩ := c_roll hb0 hps (goes b (sC S)) [] FF (h1.1, cpI h1.2 (s + 1) (p + 3) (b * 16) 0 16) (by simp) (by rw [hgl]; show _ < 1000000; omega) (R1.up (fun a x y => cpI_ne (by omega))) M1.up F1 (by omega) (by dsimp only; rw [cpI_ne (by omega)]; exact a7) (fun j hj => by dsimp only; rw [hv j hj]; rfl)
    dsimp only at i2 i3
    refine ⟨h', by rw [hstart, i1], i2.trans a2, fun a x y w => by rw [i3 a w, cpI_ne w]; exact a3 a x y, fun j x y => by rw [i3 p (by omega), cpI_ne (by omega)]; exact a4 j x y, fun P' q' T' e' => by rw [i3 _ (by omega)]; exact F1 P' q' T' e', by rw [i3 p (by omega), cpI_ne (by omega)]; exact a6, by rw [i3 p (by omega), cpI_ne (by omega)]; exact a7, fun j hj => by rw [i4 j hj, hfin j hj]⟩
end C8
