/-! ===== the reference: fields, what is put off ===== -/
section M8
variable {h : Hp} {r m : Nat} {S : St}
theorem Row.sdx (R : Row h r S) {w x : Nat} (hw : w ≤ 1) (hx : x < 256) : h.2 r (256 * w + x) = nI (sd S w x) := by
  unfold sd
  by_cases e : w = 0
  · subst e
    rw [if_pos rfl, Nat.mul_zero, Nat.zero_add]
    exact R.mem hx
  · rw [if_neg e, show w = 1 by omega, Nat.mul_one]
    exact R.dsk hx
theorem m_byteOf {n f : Nat} (hn : n < 12) (hf : f < 4) (h : Hp) : fX10_byteOf (nI n) (nI f) h = some (.inl (some (.int (nI (16 + 4 * n + f)))), h) := by
  unfold fX10_byteOf
  simp (maxSteps := 3000000) (disch := omega) only [kX10_byteOf_0, ↓reduceIte, if_true, if_false, ite_not, not_true_eq_false, not_false_eq_true, ↓qqI_p, ↓qqR_p, ↓qqV_p, ↓qqIx_p, ↓qqRx_p, ↓qqVx_p, qqI_s, qqR_s, qqV_s, qqIx_s, qqRx_s, qqVx_s, qqIx_t, qqVx_t, ↓letH_s, inB_nI, nI_leI, nI_ltI, nI_eq, nI_eq0, nI_eqm, nI_eqn, nI_le0, nI_lt0, nI_0lt, nI_0le, nI_clamp, pk_mul, nI_add, pk_div, pk_sub, rem_n, z_add, add_z, m_cell, kmk, lmk, rmk, b2i_0, b2i_n1, bft, le_t, le_f, lt_t, lt_f, eq_t, eq_f, k1, k2, k3, k4, k5, k6, k7, k8, k9, k10, k11, k12, k13, k15, k16, k20, k24, k30, k60, k64, k99, k100, k200, k255, k256, k512, k2912, k3392, k3393, k3394, k3395, k3396, k3397, k3398]
  rw [show 16 * (1 + n / 4) + 4 * (n % 4) + f = 16 + 4 * n + f by omega]
theorem m_fieldOf (R : Row h r S) {w n f : Nat} (hw : w ≤ 1) (hn : n < 12) (hf : f < 4) : fX10_fieldOf r (nI (256 * w)) (nI n) (nI f) h = some (.inl (some (.int (nI (fd (sd S w) n f)))), h) := by
  unfold fX10_fieldOf
  simp (maxSteps := 3000000) (disch := omega) only [kX10_fieldOf_0, m_byteOf hn hf, R.k, R.l, ↓reduceIte, if_true, if_false, ite_not, not_true_eq_false, not_false_eq_true, ↓qqI_p, ↓qqR_p, ↓qqV_p, ↓qqIx_p, ↓qqRx_p, ↓qqVx_p, qqI_s, qqR_s, qqV_s, qqIx_s, qqRx_s, qqVx_s, qqIx_t, qqVx_t, ↓letH_s, inB_nI, nI_leI, nI_ltI, nI_eq, nI_eq0, nI_eqm, nI_eqn, nI_le0, nI_lt0, nI_0lt, nI_0le, nI_clamp, pk_mul, nI_add, pk_div, pk_sub, rem_n, z_add, add_z, m_cell, kmk, lmk, rmk, b2i_0, b2i_n1, bft, le_t, le_f, lt_t, lt_f, eq_t, eq_f, k1, k2, k3, k4, k5, k6, k7, k8, k9, k10, k11, k12, k13, k15, k16, k20, k24, k30, k60, k64, k99, k100, k200, k255, k256, k512, k2912, k3392, k3393, k3394, k3395, k3396, k3397, k3398, R.sdx hw (x := 16 + 4 * n + f) (by omega), fd]
theorem m_fieldOf0 (R : Row h r S) {n f : Nat} (hn : n < 12) (hf : f < 4) : fX10_fieldOf r 0 (nI n) (nI f) h = some (.inl (some (.int (nI (fd (mm S) n f)))), h) := m_fieldOf R (w := 0) (by decide) hn hf
theorem Res.trans {x : RS} {o : Option Value} {S1 S2 : St} {h1 : Hp} (a1 : h1.1 = h.1) (a2 : ∀ a, a ≠ r → h1.2 a = h.2 a) (b : Res x o h1 r S2) : Res x o h r S2 := by
  obtain ⟨h', b1, b2, b3, b4⟩ := b
  exact ⟨h', b1, b2.trans a1, fun a ha => by rw [b3 a ha, a2 a ha], b4⟩
theorem m_bare (R : Row h r S) (sl : Sl S 1 0 1) {b p v : Nat} (hb : b < 16) (hp : p ≤ 16) (hv : v < 128) : Res (fX10_bare r (nI b) (nI p) (nI v) h) (some (.int (nI (mkI S b p v)))) h r (mk S b p v 0 0 0 0) := by
  obtain ⟨h', a1, a2, a3, a4⟩ := m_makes R sl (n1 := 0) (n2 := 0) (n3 := 0) (n4 := 0) hb hp hv (fun n hn => by simp at hn; subst hn; omega)
  refine ⟨h', ?_, a2, a3, a4⟩
  unfold fX10_bare kX10_bare_0
  rw [show (0 : Int32) = nz 0 from rfl, a1]
  rfl
theorem m_field (R : Row h r S) (sl : Sl S 1 0 1) {n f v : Nat} {n1 n2 : Int} (hn : n < 12) (hf : f < 4) (hv : v < 128) (h1 : -16 < n1 ∧ n1 ≤ sM S) (h2 : -16 < n2 ∧ n2 ≤ sM S) :
    Res (fX10_field r (nI n) (nI f) (nI v) (nz n1) (nz n2) h) (some (.int (nI (mkFI S n f v)))) h r (mkF S n f v n1 n2) := by
  obtain ⟨h', a1, a2, a3, a4⟩ := m_makes R sl (b := 1 + n / 4) (p := 4 * (n % 4) + f) (v := v) (n1 := n1) (n2 := n2) (n3 := 0) (n4 := 0) (by omega) (by omega) hv (fun z hz => by
    simp at hz
    rcases hz with rfl | rfl | rfl
    · exact h1
    · exact h2
    · omega)
  refine ⟨h', ?_, a2, a3, a4⟩
  unfold fX10_field kX10_field_0
  rw [m_byteOf hn hf, bI_s, m_byteOf hn hf, bI_s]
  simp (maxSteps := 3000000) (disch := omega) only [↓reduceIte, if_true, if_false, ite_not, not_true_eq_false, not_false_eq_true, ↓qqI_p, ↓qqR_p, ↓qqV_p, ↓qqIx_p, ↓qqRx_p, ↓qqVx_p, qqI_s, qqR_s, qqV_s, qqIx_s, qqRx_s, qqVx_s, qqIx_t, qqVx_t, ↓letH_s, inB_nI, nI_leI, nI_ltI, nI_eq, nI_eq0, nI_eqm, nI_eqn, nI_le0, nI_lt0, nI_0lt, nI_0le, nI_clamp, pk_mul, nI_add, pk_div, pk_sub, rem_n, z_add, add_z, m_cell, kmk, lmk, rmk, b2i_0, b2i_n1, bft, le_t, le_f, lt_t, lt_f, eq_t, eq_f, k1, k2, k3, k4, k5, k6, k7, k8, k9, k10, k11, k12, k13, k15, k16, k20, k24, k30, k60, k64, k99, k100, k200, k255, k256, k512, k2912, k3392, k3393, k3394, k3395, k3396, k3397, k3398]
  rw [show (16 + 4 * n + f) / 16 = 1 + n / 4 by omega, show (16 + 4 * n + f) % 16 = 4 * (n % 4) + f by omega, show (0 : Int32) = nz 0 from rfl, a1]
  simp (maxSteps := 3000000) (disch := omega) only [↓reduceIte, if_true, if_false, ite_not, not_true_eq_false, not_false_eq_true, ↓qqI_p, ↓qqR_p, ↓qqV_p, ↓qqIx_p, ↓qqRx_p, ↓qqVx_p, qqI_s, qqR_s, qqV_s, qqIx_s, qqRx_s, qqVx_s, qqIx_t, qqVx_t, ↓letH_s, inB_nI, nI_leI, nI_ltI, nI_eq, nI_eq0, nI_eqm, nI_eqn, nI_le0, nI_lt0, nI_0lt, nI_0le, nI_clamp, pk_mul, nI_add, pk_div, pk_sub, rem_n, z_add, add_z, m_cell, kmk, lmk, rmk, b2i_0, b2i_n1, bft, le_t, le_f, lt_t, lt_f, eq_t, eq_f, k1, k2, k3, k4, k5, k6, k7, k8, k9, k10, k11, k12, k13, k15, k16, k20, k24, k30, k60, k64, k99, k100, k200, k255, k256, k512, k2912, k3392, k3393, k3394, k3395, k3396, k3397, k3398]
  rfl
theorem bd_putO (B : Bd S) {a b c : Nat} (sl : Sl S 0 1 0) (ha : a ≤ 1) (hb : b < 16) (hc : 1 ≤ c ∧ c ≤ sM S) : Bd (putO S a b c) := by
  obtain ⟨b1, b2, b3, b4, b5, b6, b7⟩ := B
  refine ⟨b1, ?_, b3, b4, b5, fun e he => ?_, b7⟩
  · show (sL S ++ [_]).length ≤ 160
    rw [len1]
    have := sl.2.1
    omega
  · rcases List.mem_append.mp he with q | q
    · exact b6 e q
    · rw [List.mem_singleton] at q
      subst q
      exact ⟨ha, hb, hc.1, Or.inl hc.2⟩
theorem sl_putO {a b c i j k : Nat} (sl : Sl S i (j + 1) k) : Sl (putO S a b c) i j k := by
  obtain ⟨s1, s2, s3⟩ := sl
  refine ⟨s1, ?_, s3⟩
  show (sL S ++ [_]).length + j ≤ 160
  rw [len1]
  omega
theorem m_putsOff (R : Row h r S) (sl : Sl S 0 1 0) {a b c : Nat} (ha : a ≤ 1) (hb : b < 16) (hc : 1 ≤ c ∧ c ≤ sM S) : Res (fX10_putsOff r (nI a) (nI b) (nI c) h) none h r (putO S a b c) := by
  have s2 := sl.2.1
  unfold fX10_putsOff
  simp (maxSteps := 3000000) (disch := omega) only [kX10_putsOff_0, R.k, R.l, R.put, ↓reduceIte, if_true, if_false, ite_not, not_true_eq_false, not_false_eq_true, ↓qqI_p, ↓qqR_p, ↓qqV_p, ↓qqIx_p, ↓qqRx_p, ↓qqVx_p, qqI_s, qqR_s, qqV_s, qqIx_s, qqRx_s, qqVx_s, qqIx_t, qqVx_t, ↓letH_s, inB_nI, nI_leI, nI_ltI, nI_eq, nI_eq0, nI_eqm, nI_eqn, nI_le0, nI_lt0, nI_0lt, nI_0le, nI_clamp, pk_mul, nI_add, pk_div, pk_sub, rem_n, z_add, add_z, m_cell, kmk, lmk, rmk, b2i_0, b2i_n1, bft, le_t, le_f, lt_t, lt_f, eq_t, eq_f, k1, k2, k3, k4, k5, k6, k7, k8, k9, k10, k11, k12, k13, k15, k16, k20, k24, k30, k60, k64, k99, k100, k200, k255, k256, k512, k2912, k3392, k3393, k3394, k3395, k3396, k3397, k3398, upI_at]
  refine ⟨_, rfl, rfl, fun z hz => by dsimp only; rw [upI_ne hz, upI_ne hz, upI_ne hz, upI_ne hz], R.k, R.l, ?_, bd_putO R.bd sl ha hb hc⟩
  obtain ⟨r1, r2, r3, r4, r5, r6, r7, r8, r9, r10⟩ := R.2.2.1
  have hx : ∀ x, x < 2912 + 3 * (sL S).length ∨ 3392 ≤ x → x ≠ 3393 → upI (upI (upI (upI h.2 r (2912 + 3 * (sL S).length) (nI a)) r (2912 + 3 * (sL S).length + 1) (nI b)) r (2912 + 3 * (sL S).length + 2) (nI c)) r 3393 (nI ((sL S).length + 1)) r x = h.2 r x := fun x q1 q2 => by
    rw [upI_at, eq_f q2, upI_at, eq_f (by omega), upI_at, eq_f (by omega), upI_at, eq_f (by omega)]
  dsimp only
  refine ⟨fun x q => ?_, fun x q => ?_, ?_, ?_, ?_, ?_, ?_, ?_, fun pre c' l e => ?_, fun pre e l q => ?_⟩
  · rw [hx x (by omega) (by omega)]; exact r1 x q
  · rw [hx _ (by omega) (by omega)]; exact r2 x q
  · rw [hx _ (by omega) (by omega)]; exact r3
  · rw [upI_at, eq_t rfl]
    show _ = nI (sL S ++ [_]).length
    rw [len1]
  · rw [hx _ (by omega) (by omega)]; exact r5
  · rw [hx _ (by omega) (by omega)]; exact r6
  · rw [hx _ (by omega) (by omega)]; exact r7
  · rw [hx _ (by omega) (by omega)]; exact r8
  · have hl := (R.ch (c := c') e).2
    exact (r9 pre c' l e).mv (fun i hi => hx _ (by omega) (by omega))
  · have q : sL S ++ [(a, b, c)] = pre ++ e :: l := q
    rcases List.eq_nil_or_concat l with rfl | ⟨T', y, rfl⟩
    · obtain ⟨h1, h2⟩ := List.append_inj' q rfl
      cases h2
      subst h1
      refine ⟨?_, ?_, ?_⟩
      · rw [upI_at, eq_f (by omega), upI_at, eq_f (by omega), upI_at, eq_f (by omega), upI_at, eq_t rfl]
      · rw [upI_at, eq_f (by omega), upI_at, eq_f (by omega), upI_at, eq_t rfl]
      · rw [upI_at, eq_f (by omega), upI_at, eq_t rfl]
    · rw [List.concat_eq_append] at q
      have h1 : sL S ++ [(a, b, c)] = (pre ++ e :: T') ++ [y] := by rw [q]; simp
      obtain ⟨h2, -⟩ := List.append_inj' h1 rfl
      have hl : (sL S).length = pre.length + 1 + T'.length := by rw [h2]; simp; omega
      obtain ⟨q0, q1, q2⟩ := r10 pre e T' h2
      refine ⟨?_, ?_, ?_⟩
      · rw [hx _ (by omega) (by omega)]; exact q0
      · rw [hx _ (by omega) (by omega)]; exact q1
      · rw [hx _ (by omega) (by omega)]; exact q2
end M8
