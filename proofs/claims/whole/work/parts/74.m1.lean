/-! ===== the reference's questions about changes ===== -/
section M1
variable {h : Hp} {r : Nat} {S : St}
theorem m_isDirty_go (R : Row h r S) {b : Nat} (hb : b < 2 ^ 31) : ∀ (l pre : List Ch) (n : Nat), sC S = pre ++ l → l.length < n →
    gX10_isDirty n 2 [.ref r, .int (nI b), .int (nI pre.length)] [] h = some (.inl (some (.int (b2i (l.any (fun c => cB c == b))))), h) := by
  intro l
  induction l with
  | nil =>
    intro pre n e hn
    obtain ⟨n, rfl⟩ := sc hn
    have hl : (sC S).length = pre.length := by rw [e]; simp
    have hb := R.bd.1
    rw [zX10_isDirty_2]
    simp (disch := omega) only [kX10_isDirty_2, R.k, R.l, R.many, hl, ↓reduceIte, if_true, if_false, ite_not, not_true_eq_false, not_false_eq_true, ↓qqI_p, ↓qqR_p, ↓qqV_p, ↓qqIx_p, ↓qqRx_p, ↓qqVx_p, qqI_s, qqR_s, qqV_s, qqIx_s, qqRx_s, qqVx_s, qqIx_t, qqVx_t, ↓letH_s, inB_nI, nI_leI, nI_ltI, nI_eq, nI_eq0, nI_eqm, nI_eqn, nI_le0, nI_lt0, nI_0lt, nI_0le, nI_clamp, pk_mul, nI_add, pk_div, pk_sub, rem_n, z_add, add_z, m_cell, kmk, lmk, rmk, b2i_0, b2i_n1, bft, le_t, le_f, lt_t, lt_f, eq_t, eq_f, k1, k2, k3, k4, k5, k6, k7, k8, k9, k10, k11, k12, k13, k15, k16, k20, k24, k30, k60, k64, k99, k100, k200, k255, k256, k512, k2912, k3392, k3393, k3394, k3395, k3396, k3397, k3398, List.any_nil, b2i_f]
  | cons c l ih =>
    intro pre n e hn
    obtain ⟨n, rfl⟩ := sc hn
    obtain ⟨hc, hl, hl2⟩ := R.ch e
    obtain ⟨q0, q1, -⟩ := R.cel e
    have ih := ih (pre ++ [c]) n (app1 e) (by simp at hn ⊢; omega)
    obtain ⟨-, -, g1, -⟩ := hc
    rw [len1] at ih
    rw [zX10_isDirty_2]
    simp (disch := omega) only [kX10_isDirty_2, R.k, R.l, R.many, hl2, ↓reduceIte, if_true, if_false, ite_not, not_true_eq_false, not_false_eq_true, ↓qqI_p, ↓qqR_p, ↓qqV_p, ↓qqIx_p, ↓qqRx_p, ↓qqVx_p, qqI_s, qqR_s, qqV_s, qqIx_s, qqRx_s, qqVx_s, qqIx_t, qqVx_t, ↓letH_s, inB_nI, nI_leI, nI_ltI, nI_eq, nI_eq0, nI_eqm, nI_eqn, nI_le0, nI_lt0, nI_0lt, nI_0le, nI_clamp, pk_mul, nI_add, pk_div, pk_sub, rem_n, z_add, add_z, m_cell, kmk, lmk, rmk, b2i_0, b2i_n1, bft, le_t, le_f, lt_t, lt_f, eq_t, eq_f, k1, k2, k3, k4, k5, k6, k7, k8, k9, k10, k11, k12, k13, k15, k16, k20, k24, k30, k60, k64, k99, k100, k200, k255, k256, k512, k2912, k3392, k3393, k3394, k3395, k3396, k3397, k3398, q1, ih, List.any_cons]
    by_cases e1 : cB c = b
    · simp [e1, b2i, ← k1]
    · have e3 : (cB c == b) = false := by simpa using e1
      simp [e1, e3]
theorem m_isDirty (R : Row h r S) {b : Nat} (hb : b < 2 ^ 31) : fX10_isDirty r (nI b) h = some (.inl (some (.int (b2i (dirt S b)))), h) :=
  m_isDirty_go R hb (sC S) [] FF rfl (by have := R.bd.1; show (sC S).length < 1000000; omega)
theorem m_ahead_go (R : Row h r S) {b : Nat} (hb : b < 2 ^ 31) {k : Nat} (hk : k ≤ (sC S).length) : ∀ (l pre : List Ch) (n q : Nat), (sC S).take k = pre ++ l → l.length < n → q ≤ pre.length →
    gX10_ahead n 5 [.ref r, .int (nI k), .int (nI b), .int (nI q), .int (nI pre.length)] [] h = some (.inl (some (.int (nI (q + (l.filter (fun c => cB c == b)).length)))), h) := by
  intro l
  induction l with
  | nil =>
    intro pre n q e hn hq
    obtain ⟨n, rfl⟩ := sc hn
    have hl : k = pre.length := by have := congrArg List.length e; simp at this; omega
    have hb := R.bd.1
    rw [zX10_ahead_5]
    simp (disch := omega) only [kX10_ahead_5, ↓reduceIte, if_true, if_false, ite_not, not_true_eq_false, not_false_eq_true, ↓qqI_p, ↓qqR_p, ↓qqV_p, ↓qqIx_p, ↓qqRx_p, ↓qqVx_p, qqI_s, qqR_s, qqV_s, qqIx_s, qqRx_s, qqVx_s, qqIx_t, qqVx_t, ↓letH_s, inB_nI, nI_leI, nI_ltI, nI_eq, nI_eq0, nI_eqm, nI_eqn, nI_le0, nI_lt0, nI_0lt, nI_0le, nI_clamp, pk_mul, nI_add, pk_div, pk_sub, rem_n, z_add, add_z, m_cell, kmk, lmk, rmk, b2i_0, b2i_n1, bft, le_t, le_f, lt_t, lt_f, eq_t, eq_f, k1, k2, k3, k4, k5, k6, k7, k8, k9, k10, k11, k12, k13, k15, k16, k20, k24, k30, k60, k64, k99, k100, k200, k255, k256, k512, k2912, k3392, k3393, k3394, k3395, k3396, k3397, k3398, List.filter_nil, List.length_nil, Nat.add_zero]
  | cons c l ih =>
    intro pre n q e hn hq
    obtain ⟨n, rfl⟩ := sc hn
    have e2 : sC S = pre ++ c :: (l ++ (sC S).drop k) := by
      have := List.take_append_drop k (sC S)
      rw [e] at this
      simpa using this.symm
    obtain ⟨hc, hl, hl2⟩ := R.ch e2
    obtain ⟨q0, q1, -⟩ := R.cel e2
    have hk2 : k = pre.length + 1 + l.length := by have := congrArg List.length e; simp at this; omega
    have ih := fun q => ih (pre ++ [c]) n q (app1 e) (by simp at hn ⊢; omega)
    obtain ⟨-, -, g1, -⟩ := hc
    simp only [len1] at ih
    have ih0 := ih q (by omega)
    have ih1 := ih (q + 1) (by omega)
    rw [zX10_ahead_5]
    simp (disch := omega) only [kX10_ahead_5, R.k, R.l, ↓reduceIte, if_true, if_false, ite_not, not_true_eq_false, not_false_eq_true, ↓qqI_p, ↓qqR_p, ↓qqV_p, ↓qqIx_p, ↓qqRx_p, ↓qqVx_p, qqI_s, qqR_s, qqV_s, qqIx_s, qqRx_s, qqVx_s, qqIx_t, qqVx_t, ↓letH_s, inB_nI, nI_leI, nI_ltI, nI_eq, nI_eq0, nI_eqm, nI_eqn, nI_le0, nI_lt0, nI_0lt, nI_0le, nI_clamp, pk_mul, nI_add, pk_div, pk_sub, rem_n, z_add, add_z, m_cell, kmk, lmk, rmk, b2i_0, b2i_n1, bft, le_t, le_f, lt_t, lt_f, eq_t, eq_f, k1, k2, k3, k4, k5, k6, k7, k8, k9, k10, k11, k12, k13, k15, k16, k20, k24, k30, k60, k64, k99, k100, k200, k255, k256, k512, k2912, k3392, k3393, k3394, k3395, k3396, k3397, k3398, q1, ih0, ih1, List.filter_cons]
    by_cases e1 : cB c = b
    · simp only [e1, beq_self_eq_true, if_true, List.length_cons]
      rw [show q + 1 + (l.filter fun c => cB c == b).length = q + ((l.filter fun c => cB c == b).length + 1) by omega]
    · simp [e1]
theorem m_ahead (R : Row h r S) {b : Nat} (hb : b < 2 ^ 31) {pre : List Ch} {c : Ch} {l : List Ch} (e : sC S = pre ++ c :: l) : fX10_ahead r (nI pre.length) (nI b) h = some (.inl (some (.int (nI (pre.filter (fun c => cB c == b)).length))), h) := by
  have hl := (R.ch e).2
  have := m_ahead_go R hb (k := pre.length) (by omega) pre [] FF 0 (by rw [e]; simp) (by show pre.length < 1000000; omega) (by simp)
  rw [Nat.zero_add] at this
  exact this
theorem m_which_go (R : Row h r S) {x : Nat} (h0 : 0 < x) (hx : x < 2 ^ 31) : ∀ (l pre : List Ch) (n : Nat), sC S = pre ++ l → l.length < n →
    gX10_which n 2 [.ref r, .int (nI x), .int (nI pre.length)] [] h = some (.inl (some (.int (match l.findIdx? (fun c => cI c == x) with | some j => nI (pre.length + j) | none => -1))), h) := by
  intro l
  induction l with
  | nil =>
    intro pre n e hn
    obtain ⟨n, rfl⟩ := sc hn
    have hl : (sC S).length = pre.length := by rw [e]; simp
    have hb := R.bd.1
    rw [zX10_which_2]
    simp (disch := omega) only [kX10_which_2, R.k, R.l, R.many, hl, ↓reduceIte, if_true, if_false, ite_not, not_true_eq_false, not_false_eq_true, ↓qqI_p, ↓qqR_p, ↓qqV_p, ↓qqIx_p, ↓qqRx_p, ↓qqVx_p, qqI_s, qqR_s, qqV_s, qqIx_s, qqRx_s, qqVx_s, qqIx_t, qqVx_t, ↓letH_s, inB_nI, nI_leI, nI_ltI, nI_eq, nI_eq0, nI_eqm, nI_eqn, nI_le0, nI_lt0, nI_0lt, nI_0le, nI_clamp, pk_mul, nI_add, pk_div, pk_sub, rem_n, z_add, add_z, m_cell, kmk, lmk, rmk, b2i_0, b2i_n1, bft, le_t, le_f, lt_t, lt_f, eq_t, eq_f, k1, k2, k3, k4, k5, k6, k7, k8, k9, k10, k11, k12, k13, k15, k16, k20, k24, k30, k60, k64, k99, k100, k200, k255, k256, k512, k2912, k3392, k3393, k3394, k3395, k3396, k3397, k3398, List.findIdx?_nil]
  | cons c l ih =>
    intro pre n e hn
    obtain ⟨n, rfl⟩ := sc hn
    obtain ⟨hc, hl, hl2⟩ := R.ch e
    obtain ⟨q0, q1, -⟩ := R.cel e
    have ih := ih (pre ++ [c]) n (app1 e) (by simp at hn ⊢; omega)
    obtain ⟨g0, g1, -⟩ := hc
    have g2 := R.bd.2.2.1
    rw [len1] at ih
    rw [zX10_which_2]
    simp (disch := omega) only [kX10_which_2, R.k, R.l, R.many, hl2, ↓reduceIte, if_true, if_false, ite_not, not_true_eq_false, not_false_eq_true, ↓qqI_p, ↓qqR_p, ↓qqV_p, ↓qqIx_p, ↓qqRx_p, ↓qqVx_p, qqI_s, qqR_s, qqV_s, qqIx_s, qqRx_s, qqVx_s, qqIx_t, qqVx_t, ↓letH_s, inB_nI, nI_leI, nI_ltI, nI_eq, nI_eq0, nI_eqm, nI_eqn, nI_le0, nI_lt0, nI_0lt, nI_0le, nI_clamp, pk_mul, nI_add, pk_div, pk_sub, rem_n, z_add, add_z, m_cell, kmk, lmk, rmk, b2i_0, b2i_n1, bft, le_t, le_f, lt_t, lt_f, eq_t, eq_f, k1, k2, k3, k4, k5, k6, k7, k8, k9, k10, k11, k12, k13, k15, k16, k20, k24, k30, k60, k64, k99, k100, k200, k255, k256, k512, k2912, k3392, k3393, k3394, k3395, k3396, k3397, k3398, q0, ih, List.findIdx?_cons]
    by_cases e1 : cI c = x
    · simp [e1]
    · simp only [e1, beq_iff_eq, if_false]
      cases l.findIdx? (fun c => cI c == x) with
      | none => rfl
      | some j => simp only [Option.map_some]; rw [show pre.length + 1 + j = pre.length + (j + 1) by omega]
theorem m_which (R : Row h r S) {x : Nat} (h0 : 0 < x) (hx : x < 2 ^ 31) : fX10_which r (nI x) h = some (.inl (some (.int (match (sC S).findIdx? (fun c => cI c == x) with | some j => nI j | none => -1))), h) := by
  have := m_which_go R h0 hx (sC S) [] FF rfl (by have := R.bd.1; show (sC S).length < 1000000; omega)
  simp only [List.length_nil, Nat.zero_add] at this
  exact this
theorem m_which0 (R : Row h r S) {x : Int32} (hx : x ≤ 0) : fX10_which r x h = some (.inl (some (.int (-1))), h) := by
  have hb := R.bd.1
  unfold fX10_which kX10_which_0
  rw [show FF = 999999 + 1 from rfl, show (0 : Int32) = nI 0 from rfl, zX10_which_2]
  simp (disch := omega) only [kX10_which_2, R.k, R.l, R.many, ↓reduceIte, if_true, if_false, ite_not, not_true_eq_false, not_false_eq_true, ↓qqI_p, ↓qqR_p, ↓qqV_p, ↓qqIx_p, ↓qqRx_p, ↓qqVx_p, qqI_s, qqR_s, qqV_s, qqIx_s, qqRx_s, qqVx_s, qqIx_t, qqVx_t, ↓letH_s, inB_nI, nI_leI, nI_ltI, nI_eq, nI_eq0, nI_eqm, nI_eqn, nI_le0, nI_lt0, nI_0lt, nI_0le, nI_clamp, pk_mul, nI_add, pk_div, pk_sub, rem_n, z_add, add_z, m_cell, kmk, lmk, rmk, b2i_0, b2i_n1, bft, le_t, le_f, lt_t, lt_f, eq_t, eq_f, k1, k2, k3, k4, k5, k6, k7, k8, k9, k10, k11, k12, k13, k15, k16, k20, k24, k30, k60, k64, k99, k100, k200, k255, k256, k512, k2912, k3392, k3393, k3394, k3395, k3396, k3397, k3398, hx]
  split <;> rfl
theorem m_latest_go (R : Row h r S) {b p : Nat} (hb : b < 2 ^ 31) (hp : p < 2 ^ 31) : ∀ (l pre : List Ch) (n q : Nat), sC S = pre ++ l → l.length < n →
    gX10_latest n 5 [.ref r, .int (nI b), .int (nI p), .int (nI q), .int (nI pre.length)] [] h = some (.inl (some (.int (nI (l.foldl (fun q c => if cB c = b ∧ cP c = p then cI c else q) q)))), h) := by
  intro l
  induction l with
  | nil =>
    intro pre n q e hn
    obtain ⟨n, rfl⟩ := sc hn
    have hl : (sC S).length = pre.length := by rw [e]; simp
    have hb := R.bd.1
    rw [zX10_latest_5]
    simp (disch := omega) only [kX10_latest_5, R.k, R.l, R.many, hl, ↓reduceIte, if_true, if_false, ite_not, not_true_eq_false, not_false_eq_true, ↓qqI_p, ↓qqR_p, ↓qqV_p, ↓qqIx_p, ↓qqRx_p, ↓qqVx_p, qqI_s, qqR_s, qqV_s, qqIx_s, qqRx_s, qqVx_s, qqIx_t, qqVx_t, ↓letH_s, inB_nI, nI_leI, nI_ltI, nI_eq, nI_eq0, nI_eqm, nI_eqn, nI_le0, nI_lt0, nI_0lt, nI_0le, nI_clamp, pk_mul, nI_add, pk_div, pk_sub, rem_n, z_add, add_z, m_cell, kmk, lmk, rmk, b2i_0, b2i_n1, bft, le_t, le_f, lt_t, lt_f, eq_t, eq_f, k1, k2, k3, k4, k5, k6, k7, k8, k9, k10, k11, k12, k13, k15, k16, k20, k24, k30, k60, k64, k99, k100, k200, k255, k256, k512, k2912, k3392, k3393, k3394, k3395, k3396, k3397, k3398, List.foldl_nil]
  | cons c l ih =>
    intro pre n q e hn
    obtain ⟨n, rfl⟩ := sc hn
    obtain ⟨hc, hl, hl2⟩ := R.ch e
    obtain ⟨q0, q1, q2, -⟩ := R.cel e
    have ih := fun q => ih (pre ++ [c]) n q (app1 e) (by simp at hn ⊢; omega)
    obtain ⟨-, -, g1, g3, -⟩ := hc
    simp only [len1] at ih
    rw [zX10_latest_5]
    simp (disch := omega) only [kX10_latest_5, R.k, R.l, R.many, hl2, ↓reduceIte, if_true, if_false, ite_not, not_true_eq_false, not_false_eq_true, ↓qqI_p, ↓qqR_p, ↓qqV_p, ↓qqIx_p, ↓qqRx_p, ↓qqVx_p, qqI_s, qqR_s, qqV_s, qqIx_s, qqRx_s, qqVx_s, qqIx_t, qqVx_t, ↓letH_s, inB_nI, nI_leI, nI_ltI, nI_eq, nI_eq0, nI_eqm, nI_eqn, nI_le0, nI_lt0, nI_0lt, nI_0le, nI_clamp, pk_mul, nI_add, pk_div, pk_sub, rem_n, z_add, add_z, m_cell, kmk, lmk, rmk, b2i_0, b2i_n1, bft, le_t, le_f, lt_t, lt_f, eq_t, eq_f, k1, k2, k3, k4, k5, k6, k7, k8, k9, k10, k11, k12, k13, k15, k16, k20, k24, k30, k60, k64, k99, k100, k200, k255, k256, k512, k2912, k3392, k3393, k3394, k3395, k3396, k3397, k3398, q0, q1, q2, ih, List.foldl_cons]
    by_cases e1 : cB c = b
    · by_cases e2 : cP c = p <;> simp [e1, e2]
    · simp [e1]
def latest (S : St) (b p : Nat) : Nat := (sC S).foldl (fun q c => if cB c = b ∧ cP c = p then cI c else q) 0
theorem m_latest (R : Row h r S) {b p : Nat} (hb : b < 2 ^ 31) (hp : p < 2 ^ 31) : fX10_latest r (nI b) (nI p) h = some (.inl (some (.int (nI (latest S b p)))), h) :=
  m_latest_go R hb hp (sC S) [] FF 0 rfl (by have := R.bd.1; show (sC S).length < 1000000; omega)
def cntL (S : St) (w k : Nat) : Nat := ((sL S).filter (fun e => e.1 == w && e.2.1 == k)).length
theorem m_later_go (R : Row h r S) {w k : Nat} (hw : w < 2 ^ 31) (hk : k < 2 ^ 31) : ∀ (l pre : List La) (n q : Nat), sL S = pre ++ l → l.length < n → q ≤ pre.length →
    gX10_later n 5 [.ref r, .int (nI w), .int (nI k), .int (nI q), .int (nI pre.length)] [] h = some (.inl (some (.int (nI (q + (l.filter (fun e => e.1 == w && e.2.1 == k)).length)))), h) := by
  intro l
  induction l with
  | nil =>
    intro pre n q e hn hq
    obtain ⟨n, rfl⟩ := sc hn
    have hl : (sL S).length = pre.length := by rw [e]; simp
    have hb := R.bd.2.1
    rw [zX10_later_5]
    simp (disch := omega) only [kX10_later_5, R.k, R.l, R.put, hl, ↓reduceIte, if_true, if_false, ite_not, not_true_eq_false, not_false_eq_true, ↓qqI_p, ↓qqR_p, ↓qqV_p, ↓qqIx_p, ↓qqRx_p, ↓qqVx_p, qqI_s, qqR_s, qqV_s, qqIx_s, qqRx_s, qqVx_s, qqIx_t, qqVx_t, ↓letH_s, inB_nI, nI_leI, nI_ltI, nI_eq, nI_eq0, nI_eqm, nI_eqn, nI_le0, nI_lt0, nI_0lt, nI_0le, nI_clamp, pk_mul, nI_add, pk_div, pk_sub, rem_n, z_add, add_z, m_cell, kmk, lmk, rmk, b2i_0, b2i_n1, bft, le_t, le_f, lt_t, lt_f, eq_t, eq_f, k1, k2, k3, k4, k5, k6, k7, k8, k9, k10, k11, k12, k13, k15, k16, k20, k24, k30, k60, k64, k99, k100, k200, k255, k256, k512, k2912, k3392, k3393, k3394, k3395, k3396, k3397, k3398, List.filter_nil, List.length_nil, Nat.add_zero]
  | cons c l ih =>
    intro pre n q e hn hq
    obtain ⟨n, rfl⟩ := sc hn
    have hb := R.bd.2.1
    have hl2 : (sL S).length = pre.length + 1 + l.length := by rw [e]; simp; omega
    obtain ⟨q0, q1, -⟩ := R.lat e
    obtain ⟨g0, g1, g2, g3⟩ := R.bd.2.2.2.2.2.1 c (by rw [e]; simp)
    have ih := fun q => ih (pre ++ [c]) n q (app1 e) (by simp at hn ⊢; omega)
    simp only [len1] at ih
    have ih0 := ih q (by omega)
    have ih1 := ih (q + 1) (by omega)
    rw [zX10_later_5]
    simp (disch := omega) only [kX10_later_5, R.k, R.l, R.put, hl2, ↓reduceIte, if_true, if_false, ite_not, not_true_eq_false, not_false_eq_true, ↓qqI_p, ↓qqR_p, ↓qqV_p, ↓qqIx_p, ↓qqRx_p, ↓qqVx_p, qqI_s, qqR_s, qqV_s, qqIx_s, qqRx_s, qqVx_s, qqIx_t, qqVx_t, ↓letH_s, inB_nI, nI_leI, nI_ltI, nI_eq, nI_eq0, nI_eqm, nI_eqn, nI_le0, nI_lt0, nI_0lt, nI_0le, nI_clamp, pk_mul, nI_add, pk_div, pk_sub, rem_n, z_add, add_z, m_cell, kmk, lmk, rmk, b2i_0, b2i_n1, bft, le_t, le_f, lt_t, lt_f, eq_t, eq_f, k1, k2, k3, k4, k5, k6, k7, k8, k9, k10, k11, k12, k13, k15, k16, k20, k24, k30, k60, k64, k99, k100, k200, k255, k256, k512, k2912, k3392, k3393, k3394, k3395, k3396, k3397, k3398, q0, q1, ih0, ih1, List.filter_cons]
    by_cases e1 : c.1 = w
    · by_cases e2 : c.2.1 = k
      · simp only [e1, e2, beq_self_eq_true, Bool.and_self, if_true, List.length_cons]
        rw [show q + 1 + (l.filter fun e => e.1 == w && e.2.1 == k).length = q + ((l.filter fun e => e.1 == w && e.2.1 == k).length + 1) by omega]
      · simp [e1, e2]
    · simp [e1]
theorem m_later (R : Row h r S) {w k : Nat} (hw : w < 2 ^ 31) (hk : k < 2 ^ 31) : fX10_later r (nI w) (nI k) h = some (.inl (some (.int (nI (cntL S w k)))), h) := by
  have := m_later_go R hw hk (sL S) [] FF 0 rfl (by have := R.bd.2.1; show (sL S).length < 1000000; omega) (by simp)
  rw [Nat.zero_add] at this
  exact this
end M1
