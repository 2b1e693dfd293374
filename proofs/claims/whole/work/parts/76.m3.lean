/-! ===== the reference makes a change, whole ===== -/
section M3
variable {h : Hp} {r : Nat} {S : St}
theorem m_wipe_go {b v p0 : Nat} {w : Nat → Nat} (hb : b < 16) (hw : ∀ x, w x < 128) (hp0 : 512 ≤ p0) (hp1 : p0 + 12 ≤ 2912) : ∀ (c i n : Nat) (h : Hp), i + c = 16 → c < n → kH h r = 1 → lH h r = 3398 →
    (∀ t, i ≤ t → t < 16 → h.2 r (16 * b + t) = nI (w (16 * b + t))) → (∀ q, q < 4 → h.2 r (p0 + 8 + q) = nI (wpk w (16 * b) q i)) →
    ∃ h', gX10_makes n 171 [.ref r, uV, uV, .int (nI v), uV, uV, uV, uV, .int (nI p0), .int (nI (16 * b)), .int (nI i)] [] h = some (.inl (some (.int (h.2 r p0))), h') ∧ h'.1 = h.1 ∧ (∀ a, a ≠ r → h'.2 a = h.2 a) ∧
      (∀ j, h'.2 r j = if 16 * b + i ≤ j ∧ j < 16 * b + 16 then nI v else if p0 + 8 ≤ j ∧ j < p0 + 12 then nI (wpk w (16 * b) (j - (p0 + 8)) 16) else h.2 r j) := by
  intro c
  induction c with
  | zero =>
    intro i n h hi hn hk hl h1 h2
    obtain ⟨n, rfl⟩ := sc hn
    refine ⟨h, ?_, rfl, fun _ _ => rfl, fun j => ?_⟩
    · rw [zX10_makes_171]
      simp (disch := omega) only [kX10_makes_171, hk, hl, ↓reduceIte, if_true, if_false, ite_not, not_true_eq_false, not_false_eq_true, ↓qqI_p, ↓qqR_p, ↓qqV_p, ↓qqIx_p, ↓qqRx_p, ↓qqVx_p, qqI_s, qqR_s, qqV_s, qqIx_s, qqRx_s, qqVx_s, qqIx_t, qqVx_t, ↓letH_s, inB_nI, nI_leI, nI_ltI, nI_eq, nI_eq0, nI_eqm, nI_eqn, nI_le0, nI_lt0, nI_0lt, nI_0le, nI_clamp, pk_mul, nI_add, pk_div, pk_sub, rem_n, z_add, add_z, m_cell, kmk, lmk, rmk, b2i_0, b2i_n1, bft, le_t, le_f, lt_t, lt_f, eq_t, eq_f, k1, k2, k3, k4, k5, k6, k7, k8, k9, k10, k11, k12, k13, k15, k16, k20, k24, k30, k60, k64, k99, k100, k200, k255, k256, k512, k2912, k3392, k3393, k3394, k3395, k3396, k3397, k3398]
    · rw [if_neg (by omega)]
      split
      · next q =>
        have := h2 (j - (p0 + 8)) (by omega)
        rw [show p0 + 8 + (j - (p0 + 8)) = j by omega, show i = 16 by omega] at this
        exact this
      · rfl
  | succ c ih =>
    intro i n h hi hn hk hl h1 h2
    obtain ⟨n, rfl⟩ := sc hn
    have e1 := h1 i (Nat.le_refl _) (by omega)
    have e2 := h2 (i / 4) (by omega)
    obtain ⟨h', ih1, ih2, ih3, ih4⟩ := ih (i + 1) n (h.1, upI (upI h.2 r (p0 + 8 + i / 4) (nI (wpk w (16 * b) (i / 4) (i + 1)))) r (16 * b + i) (nI v)) (by omega) (by omega) hk hl (fun t ht ht2 => by
      dsimp only
      rw [upI_at, eq_f (by omega), upI_at, eq_f (by omega)]
      exact h1 t (by omega) ht2) (fun q hq => by
      dsimp only
      rw [upI_at, eq_f (by omega), upI_at]
      by_cases e : p0 + 8 + q = p0 + 8 + i / 4
      · rw [if_pos e, show q = i / 4 by omega]
      · rw [if_neg e, h2 q hq]
        congr 1
        unfold wpk
        have : i < 4 * q ∨ 4 * q + 3 < i := by omega
        rcases this with t | t
        · simp (disch := omega) only [lt_f]
        · simp (disch := omega) only [lt_t])
    refine ⟨h', ?_, ih2, fun a ha => ?_, fun j => ?_⟩
    · rw [zX10_makes_171]
      simp (disch := omega) only [kX10_makes_171, hk, hl, ↓reduceIte, if_true, if_false, ite_not, not_true_eq_false, not_false_eq_true, ↓qqI_p, ↓qqR_p, ↓qqV_p, ↓qqIx_p, ↓qqRx_p, ↓qqVx_p, qqI_s, qqR_s, qqV_s, qqIx_s, qqRx_s, qqVx_s, qqIx_t, qqVx_t, ↓letH_s, inB_nI, nI_leI, nI_ltI, nI_eq, nI_eq0, nI_eqm, nI_eqn, nI_le0, nI_lt0, nI_0lt, nI_0le, nI_clamp, pk_mul, nI_add, pk_div, pk_sub, rem_n, z_add, add_z, m_cell, kmk, lmk, rmk, b2i_0, b2i_n1, bft, le_t, le_f, lt_t, lt_f, eq_t, eq_f, k1, k2, k3, k4, k5, k6, k7, k8, k9, k10, k11, k12, k13, k15, k16, k20, k24, k30, k60, k64, k99, k100, k200, k255, k256, k512, k2912, k3392, k3393, k3394, k3395, k3396, k3397, k3398, e1, e2, wpk_step (b := 16 * b) (i := i) (by omega) hw]
      simp only [upI_at] at ih1
      rw [ih1]
      simp (disch := omega) only [eq_f]
    · rw [ih3 a ha]
      show upI _ r _ _ a = _
      rw [upI_ne ha, upI_ne ha]
    · rw [ih4 j]
      show (if _ then _ else if _ then _ else upI _ r _ _ r j) = _
      by_cases q1 : 16 * b + (i + 1) ≤ j ∧ j < 16 * b + 16
      · rw [if_pos q1, if_pos (by omega)]
      · rw [if_neg q1]
        by_cases q2 : p0 + 8 ≤ j ∧ j < p0 + 12
        · rw [if_pos q2, if_neg (by omega), if_pos q2]
        · rw [if_neg q2, if_neg q2, upI_at, upI_at]
          by_cases q3 : j = 16 * b + i
          · rw [if_pos q3, if_pos (by omega)]
          · rw [if_neg q3, if_neg (by omega), if_neg (by omega)]
theorem m_zero_go {x2 x3 x9 : Int32} {p0 : Nat} (hp1 : p0 + 12 ≤ 2912) : ∀ (c j n : Nat) (h : Hp), j + c = 12 → kH h r = 1 → lH h r = 3398 →
    ∃ h', gX10_makes (n + c) 116 [.ref r, uV, .int x2, .int x3, uV, uV, uV, uV, .int (nI p0), .int x9, .int (nI j)] [] h = gX10_makes n 116 [.ref r, uV, .int x2, .int x3, uV, uV, uV, uV, .int (nI p0), .int x9, .int (nI 12)] [] h' ∧ h'.1 = h.1 ∧ (∀ a, a ≠ r → h'.2 a = h.2 a) ∧
      (∀ x, h'.2 r x = if p0 + j ≤ x ∧ x < p0 + 12 then 0 else h.2 r x) := by
  intro c
  induction c with
  | zero =>
    intro j n h hj hk hl
    refine ⟨h, by rw [show j = 12 by omega]; rfl, rfl, fun _ _ => rfl, fun x => by rw [if_neg (by omega)]⟩
  | succ c ih =>
    intro j n h hj hk hl
    obtain ⟨h', i1, i2, i3, i4⟩ := ih (j + 1) n (h.1, upI h.2 r (p0 + j) 0) (by omega) hk hl
    refine ⟨h', ?_, i2, fun a ha => by rw [i3 a ha]; exact upI_ne ha, fun x => ?_⟩
    · rw [show n + (c + 1) = (n + c) + 1 by omega, zX10_makes_116]
      simp (disch := omega) only [kX10_makes_116, hk, hl, ↓reduceIte, if_true, if_false, ite_not, not_true_eq_false, not_false_eq_true, ↓qqI_p, ↓qqR_p, ↓qqV_p, ↓qqIx_p, ↓qqRx_p, ↓qqVx_p, qqI_s, qqR_s, qqV_s, qqIx_s, qqRx_s, qqVx_s, qqIx_t, qqVx_t, ↓letH_s, inB_nI, nI_leI, nI_ltI, nI_eq, nI_eq0, nI_eqm, nI_eqn, nI_le0, nI_lt0, nI_0lt, nI_0le, nI_clamp, pk_mul, nI_add, pk_div, pk_sub, rem_n, z_add, add_z, m_cell, kmk, lmk, rmk, b2i_0, b2i_n1, bft, le_t, le_f, lt_t, lt_f, eq_t, eq_f, k1, k2, k3, k4, k5, k6, k7, k8, k9, k10, k11, k12, k13, k15, k16, k20, k24, k30, k60, k64, k99, k100, k200, k255, k256, k512, k2912, k3392, k3393, k3394, k3395, k3396, k3397, k3398]
      exact i1
    · rw [i4 x]
      dsimp only
      rw [upI_at]
      by_cases q : x = p0 + j
      · rw [if_pos q, if_neg (by omega), if_pos (by omega)]
      · rw [if_neg q]
        by_cases q2 : p0 + (j + 1) ≤ x ∧ x < p0 + 12
        · rw [if_pos q2, if_pos (by omega)]
        · rw [if_neg q2, if_neg (by omega)]
theorem wpk_0 (w : Nat → Nat) (b q : Nat) : wpk w b q 0 = 0 := by
  unfold wpk
  simp
theorem wpk_16 (w : Nat → Nat) (b q : Nat) (hq : q < 4) : wpk w b q 16 = pack w (b + 4 * q) := by
  unfold wpk pack
  simp (disch := omega) only [lt_t]
theorem m_makes (R : Row h r S) (sl : Sl S 1 0 1) {b p v : Nat} {n1 n2 n3 n4 : Int} (hb : b < 16) (hp : p ≤ 16) (hv : v < 128) (hn : ∀ n ∈ [n1, n2, n3, n4], -16 < n ∧ n ≤ sM S) :
    Res (fX10_makes r (nI b) (nI p) (nI v) (nz n1) (nz n2) (nz n3) (nz n4) h) (some (.int (nI (mkI S b p v)))) h r (mk S b p v n1 n2 n3 n4) := by
  unfold fX10_makes kX10_makes_0
  rw [m_isThere R hb hp hv, bI_s]
  have hmade : h.2 r 3394 = nI (sM S) := R.2.2.1.2.2.2.2.1
  have hB := R.bd
  have hk := R.k
  have hl := R.l
  have hbm := bd_mk (S := S) hB sl hb hp hv hn
  obtain ⟨s1, s2, s3⟩ := sl
  cases e : same S b p v with
  | true =>
    refine ⟨h, ?_, rfl, fun _ _ => rfl, ?_⟩
    · rw [if_neg (by decide)]
      simp [mkI, e, nI_0]
    · rw [show mk S b p v n1 n2 n3 n4 = S by simp [mk, e]]
      exact R
  | false =>
    rw [if_pos b2i_f, show mkI S b p v = sM S + 1 by simp [mkI, e]]
    simp (maxSteps := 4000000) (disch := omega) only [hk, hl, R.many, hmade, ↓reduceIte, if_true, if_false, ite_not, not_true_eq_false, not_false_eq_true, ↓qqI_p, ↓qqR_p, ↓qqV_p, ↓qqIx_p, ↓qqRx_p, ↓qqVx_p, qqI_s, qqR_s, qqV_s, qqIx_s, qqRx_s, qqVx_s, qqIx_t, qqVx_t, ↓letH_s, inB_nI, nI_leI, nI_ltI, nI_eq, nI_eq0, nI_eqm, nI_eqn, nI_le0, nI_lt0, nI_0lt, nI_0le, nI_clamp, pk_mul, nI_add, pk_div, pk_sub, rem_n, z_add, add_z, m_cell, kmk, lmk, rmk, b2i_0, b2i_n1, bft, le_t, le_f, lt_t, lt_f, eq_t, eq_f, k1, k2, k3, k4, k5, k6, k7, k8, k9, k10, k11, k12, k13, k15, k16, k20, k24, k30, k60, k64, k99, k100, k200, k255, k256, k512, k2912, k3392, k3393, k3394, k3395, k3396, k3397, k3398, upI_at]
    generalize hI : (upI (upI (upI (upI (upI (upI (upI (upI (upI (upI h.2 r 3392 (nI ((sC S).length + 1))) r 3394 (nI (sM S + 1))) r (512 + 12 * (sC S).length) (nI (sM S + 1))) r (512 + 12 * (sC S).length + 1) (nI b)) r (512 + 12 * (sC S).length + 2) (nI p)) r (512 + 12 * (sC S).length + 3) (nI v)) r (512 + 12 * (sC S).length + 4) (nz n1)) r (512 + 12 * (sC S).length + 5) (nz n2)) r (512 + 12 * (sC S).length + 6) (nz n3)) r (512 + 12 * (sC S).length + 7) (nz n4)) = I
    have hIn : ∀ a, a ≠ r → I a = h.2 a := fun a ha => by
      rw [← hI]
      simp only [upI_ne ha]
    have hIr : ∀ x, I r x = if x = 512 + 12 * (sC S).length + 7 then nz n4 else if x = 512 + 12 * (sC S).length + 6 then nz n3 else if x = 512 + 12 * (sC S).length + 5 then nz n2 else if x = 512 + 12 * (sC S).length + 4 then nz n1 else if x = 512 + 12 * (sC S).length + 3 then nI v else if x = 512 + 12 * (sC S).length + 2 then nI p else if x = 512 + 12 * (sC S).length + 1 then nI b else if x = 512 + 12 * (sC S).length then nI (sM S + 1) else if x = 3394 then nI (sM S + 1) else if x = 3392 then nI ((sC S).length + 1) else h.2 r x := fun x => by
      rw [← hI]
      simp only [upI_at]
    clear hI
    generalize hp0 : 512 + 12 * (sC S).length = p0 at *
    obtain ⟨h2, i1, i2, i3, i4⟩ := m_zero_go (r := r) (x2 := nI p) (x3 := nI v) (x9 := nI (16 * b)) (p0 := p0) (by omega) 4 8 999996 (h.1, I) rfl hk hl
    rw [show FF = 999996 + 4 from rfl, i1, zX10_makes_116]
    have hk2 : kH h2 r = 1 := (kh_eq i2 r).trans hk
    have hl2 : lH h2 r = 3398 := (lh_eq i2 r).trans hl
    have hr2 : ∀ x, x < 3398 → x ≠ 3392 → x ≠ 3394 → (x < p0 ∨ p0 + 12 ≤ x) → h2.2 r x = h.2 r x := fun x q1 q2 q3 q4 => by
      rw [i4, if_neg (by omega)]
      dsimp only
      rw [hIr]
      simp (disch := omega) only [eq_f]
    have hc2 : ∀ x, p0 ≤ x → x < p0 + 8 → h2.2 r x = I r x := fun x q1 q2 => by rw [i4, if_neg (by omega)]
    have h33 : h2.2 r 3392 = nI ((sC S).length + 1) ∧ h2.2 r 3394 = nI (sM S + 1) ∧ h2.2 r p0 = nI (sM S + 1) := by
      refine ⟨?_, ?_, ?_⟩
      · rw [i4, if_neg (by omega)]; dsimp only; rw [hIr]; simp (disch := omega) only [eq_f, eq_t, if_true]
      · rw [i4, if_neg (by omega)]; dsimp only; rw [hIr]; simp (disch := omega) only [eq_f, eq_t, if_true]
      · rw [i4, if_neg (by omega)]; dsimp only; rw [hIr]; simp (disch := omega) only [eq_f, eq_t, if_true]
    have hcel : ∀ A' : Nat → Int32, (∀ x, p0 ≤ x → x < p0 + 8 → A' x = I r x) → (p < 16 → A' (p0 + 8) = nI (mm S (16 * b + p))) → (p = 16 → ∀ i, i < 4 → A' (p0 + 8 + i) = nI (pack (mm S) (16 * b + 4 * i))) → Cel A' p0 (sM S + 1, b, p, v, n1, n2, n3, n4) (mm S) := fun A' q1 q2 q3 => by
      refine ⟨?_, ?_, ?_, ?_, ?_, ?_, ?_, ?_, q2, q3⟩
      · rw [q1 _ (by omega) (by omega), hIr]; simp (disch := omega) only [eq_f, eq_t, if_true]
      · rw [q1 _ (by omega) (by omega), hIr]; simp (disch := omega) only [eq_f, eq_t, if_true]
      · rw [q1 _ (by omega) (by omega), hIr]; simp (disch := omega) only [eq_f, eq_t, if_true]
      · rw [q1 _ (by omega) (by omega), hIr]; simp (disch := omega) only [eq_f, eq_t, if_true]
      · rw [q1 _ (by omega) (by omega), hIr]; simp (disch := omega) only [eq_f, eq_t, if_true]
      · rw [q1 _ (by omega) (by omega), hIr]; simp (disch := omega) only [eq_f, eq_t, if_true]
      · rw [q1 _ (by omega) (by omega), hIr]; simp (disch := omega) only [eq_f, eq_t, if_true]
      · rw [q1 _ (by omega) (by omega), hIr]; simp (disch := omega) only [eq_f, eq_t, if_true]
    by_cases hp2 : p = 16
    · subst hp2
      simp (disch := omega) only [kX10_makes_116, hk2, hl2, ↓reduceIte, if_true, if_false, ite_not, not_true_eq_false, not_false_eq_true, ↓qqI_p, ↓qqR_p, ↓qqV_p, ↓qqIx_p, ↓qqRx_p, ↓qqVx_p, qqI_s, qqR_s, qqV_s, qqIx_s, qqRx_s, qqVx_s, qqIx_t, qqVx_t, ↓letH_s, inB_nI, nI_leI, nI_ltI, nI_eq, nI_eq0, nI_eqm, nI_eqn, nI_le0, nI_lt0, nI_0lt, nI_0le, nI_clamp, pk_mul, nI_add, pk_div, pk_sub, rem_n, z_add, add_z, m_cell, kmk, lmk, rmk, b2i_0, b2i_n1, bft, le_t, le_f, lt_t, lt_f, eq_t, eq_f, k1, k2, k3, k4, k5, k6, k7, k8, k9, k10, k11, k12, k13, k15, k16, k20, k24, k30, k60, k64, k99, k100, k200, k255, k256, k512, k2912, k3392, k3393, k3394, k3395, k3396, k3397, k3398]
      obtain ⟨h3, j1, j2, j3, j4⟩ := m_wipe_go (r := r) (b := b) (v := v) (p0 := p0) (w := mm S) hb (bd_mm hB) (by omega) (by omega) 16 0 999995 h2 rfl (by decide) hk2 hl2 (fun t _ ht => by rw [hr2 _ (by omega) (by omega) (by omega) (by omega), R.mem (by omega)]) (fun q hq => by rw [i4, if_pos (by omega), wpk_0, nI_0])
      refine ⟨h3, by rw [h33.2.2] at j1; exact j1, by rw [j2, i2], fun a ha => by rw [j3 a ha, i3 a ha]; exact hIn a ha, ?_, ?_, ?_, hbm⟩
      · exact (kh_eq j2 r).trans hk2
      · exact (lh_eq j2 r).trans hl2
      · refine row_new R.2.2.1 e (fun x hx => ?_) (fun x q1 q2 => ?_) ?_ ?_ (fun x q1 q2 q3 q4 => ?_) ?_ (by omega)
        · rw [j4, if_neg (c := p0 + 8 ≤ x ∧ x < p0 + 12) (by omega), hr2 _ (by omega) (by omega) (by omega) (by omega)]
          by_cases q : 16 * b + 0 ≤ x ∧ x < 16 * b + 16
          · rw [if_pos q, if_pos (tch_iff.mpr ⟨by show b = x / 16; omega, Or.inl rfl⟩)]
          · rw [if_neg q, if_neg (fun q2 => by have q3 : b = x / 16 := (tch_iff.mp q2).1; omega)]
        · rw [j4, if_neg (by omega), if_neg (by omega), hr2 _ (by omega) (by omega) (by omega) (by omega)]
        · rw [j4, if_neg (by omega), if_neg (by omega), h33.1]
        · rw [j4, if_neg (by omega), if_neg (by omega), h33.2.1]
        · rw [j4, if_neg (by omega), if_neg (by omega), hr2 _ (by omega) (by omega) (by omega) (by omega)]
        · rw [hp0]
          refine hcel _ (fun x q1 q2 => ?_) (fun q => by omega) (fun _ i hi => ?_)
          · rw [j4, if_neg (by omega), if_neg (by omega), hc2 x q1 q2]
          · rw [j4, if_neg (by omega), if_pos (by omega), show p0 + 8 + i - (p0 + 8) = i by omega, wpk_16 _ _ _ hi]
    · have hp3 : p < 16 := by omega
      have hfr : h2.2 r (16 * b + p) = nI (mm S (16 * b + p)) := by rw [hr2 _ (by omega) (by omega) (by omega) (by omega), R.mem (by omega)]
      simp (disch := omega) only [kX10_makes_116, hk2, hl2, ↓reduceIte, if_true, if_false, ite_not, not_true_eq_false, not_false_eq_true, ↓qqI_p, ↓qqR_p, ↓qqV_p, ↓qqIx_p, ↓qqRx_p, ↓qqVx_p, qqI_s, qqR_s, qqV_s, qqIx_s, qqRx_s, qqVx_s, qqIx_t, qqVx_t, ↓letH_s, inB_nI, nI_leI, nI_ltI, nI_eq, nI_eq0, nI_eqm, nI_eqn, nI_le0, nI_lt0, nI_0lt, nI_0le, nI_clamp, pk_mul, nI_add, pk_div, pk_sub, rem_n, z_add, add_z, m_cell, kmk, lmk, rmk, b2i_0, b2i_n1, bft, le_t, le_f, lt_t, lt_f, eq_t, eq_f, k1, k2, k3, k4, k5, k6, k7, k8, k9, k10, k11, k12, k13, k15, k16, k20, k24, k30, k60, k64, k99, k100, k200, k255, k256, k512, k2912, k3392, k3393, k3394, k3395, k3396, k3397, k3398, upI_at, h33.2.2, hfr]
      refine ⟨_, rfl, i2, fun a ha => by dsimp only; rw [upI_ne ha, upI_ne ha, i3 a ha]; exact hIn a ha, ?_, ?_, ?_, hbm⟩
      · exact hk2
      · exact hl2
      · dsimp only
        refine row_new R.2.2.1 e (fun x hx => ?_) (fun x q1 q2 => ?_) ?_ ?_ (fun x q1 q2 q3 q4 => ?_) ?_ (by omega)
        · rw [upI_at, upI_at, eq_f (a := x) (b := p0 + 8) (by omega), hr2 _ (by omega) (by omega) (by omega) (by omega)]
          by_cases q : x = 16 * b + p
          · rw [if_pos q, if_pos (tch_iff.mpr ⟨by show b = x / 16; omega, Or.inr (by show p = x % 16; omega)⟩)]
          · rw [if_neg q, if_neg (fun q2 => by have q3 : b = x / 16 := (tch_iff.mp q2).1; have q4 : p = 16 ∨ p = x % 16 := (tch_iff.mp q2).2; omega)]
        · rw [upI_at, upI_at, eq_f (by omega), eq_f (by omega), hr2 _ (by omega) (by omega) (by omega) (by omega)]
        · rw [upI_at, upI_at, eq_f (by omega), eq_f (by omega), h33.1]
        · rw [upI_at, upI_at, eq_f (by omega), eq_f (by omega), h33.2.1]
        · rw [upI_at, upI_at, eq_f (by omega), eq_f (by omega), hr2 _ (by omega) (by omega) (by omega) (by omega)]
        · rw [hp0]
          refine hcel _ (fun x q1 q2 => ?_) (fun q => ?_) (fun q => by omega)
          · rw [upI_at, upI_at, eq_f (by omega), eq_f (by omega), hc2 x q1 q2]
          · rw [upI_at, upI_at, eq_f (by omega), eq_t rfl]
end M3
