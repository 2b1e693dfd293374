/-! ===== under and deep: class and reference ===== -/
section U2
variable {h : Hp} {s w m r : Nat} {B : Nat → Nat}
theorem t_under_go (R : CB h s w B) (W : Wf B) {d c12 : Nat} (hd : d < 12) (hc : c12 < 12) {F : Nat → Int32} {FX : Nat → Int32 → Int32 → Int32 → Hp → RS} (hF : isK B d 2 = true → ∀ y, y < 12 → FX s (nI w) (nI y) (nI (c12 + 1)) h = some (.inl (some (.int (F y))), h)) : ∀ (c k q : Nat) (a : Int32), k + c = 16 → c < q →
    gX8_countUnder FX q 6 [.ref s, .int (nI w), .int (nI d), .int (nI c12), .int a, .int (nI k), uV] [] h = some (.inl (some (.int ((List.range' k c).foldl (fun a k => onN (fun (a : Int32) y => a + (1 + F y)) a (nmA B d k)) a))), h) := by
  intro c
  induction c with
  | zero =>
    intro k q a hk hq
    obtain ⟨q, rfl⟩ := sc hq
    rw [zX8_countUnder_6]
    simp (maxSteps := 3000000) (disch := omega) only [kX8_countUnder_6, ↓reduceIte, if_true, if_false, ite_not, not_true_eq_false, not_false_eq_true, ↓qqI_p, ↓qqR_p, ↓qqV_p, ↓qqIx_p, ↓qqRx_p, ↓qqVx_p, qqI_s, qqR_s, qqV_s, qqIx_s, qqRx_s, qqVx_s, qqIx_t, qqVx_t, ↓letH_s, inB_nI, nI_leI, nI_ltI, nI_eq, nI_eq0, nI_eqm, nI_eqn, nI_le0, nI_lt0, nI_0lt, nI_0le, nI_clamp, pk_mul, nI_add, pk_div, pk_sub, rem_n, z_add, add_z, m_cell, kmk, lmk, rmk, b2i_0, b2i_n1, bft, le_t, le_f, lt_t, lt_f, eq_t, eq_f, k1, k2, k3, k4, k5, k6, k7, k8, k9, k10, k11, k12, k13, k15, k16, k20, k24, k30, k60, k64, k99, k100, k200, k255, k256, k512, k2912, k3392, k3393, k3394, k3395, k3396, k3397, k3398]
    rfl
  | succ c ih =>
    intro k q a hk hq
    obtain ⟨q, rfl⟩ := sc hq
    have hn := t_namedAt R W.1 (d := d) (k := k) hd (by omega)
    have hs1 : nI k + 1 = nI (k + 1) := by simp (maxSteps := 3000000) (disch := omega) only [↓reduceIte, if_true, if_false, ite_not, not_true_eq_false, not_false_eq_true, ↓qqI_p, ↓qqR_p, ↓qqV_p, ↓qqIx_p, ↓qqRx_p, ↓qqVx_p, qqI_s, qqR_s, qqV_s, qqIx_s, qqRx_s, qqVx_s, qqIx_t, qqVx_t, ↓letH_s, inB_nI, nI_leI, nI_ltI, nI_eq, nI_eq0, nI_eqm, nI_eqn, nI_le0, nI_lt0, nI_0lt, nI_0le, nI_clamp, pk_mul, nI_add, pk_div, pk_sub, rem_n, z_add, add_z, m_cell, kmk, lmk, rmk, b2i_0, b2i_n1, bft, le_t, le_f, lt_t, lt_f, eq_t, eq_f, k1, k2, k3, k4, k5, k6, k7, k8, k9, k10, k11, k12, k13, k15, k16, k20, k24, k30, k60, k64, k99, k100, k200, k255, k256, k512, k2912, k3392, k3393, k3394, k3395, k3396, k3397, k3398]
    have hs2 : nI c12 + 1 = nI (c12 + 1) := by simp (maxSteps := 3000000) (disch := omega) only [↓reduceIte, if_true, if_false, ite_not, not_true_eq_false, not_false_eq_true, ↓qqI_p, ↓qqR_p, ↓qqV_p, ↓qqIx_p, ↓qqRx_p, ↓qqVx_p, qqI_s, qqR_s, qqV_s, qqIx_s, qqRx_s, qqVx_s, qqIx_t, qqVx_t, ↓letH_s, inB_nI, nI_leI, nI_ltI, nI_eq, nI_eq0, nI_eqm, nI_eqn, nI_le0, nI_lt0, nI_0lt, nI_0le, nI_clamp, pk_mul, nI_add, pk_div, pk_sub, rem_n, z_add, add_z, m_cell, kmk, lmk, rmk, b2i_0, b2i_n1, bft, le_t, le_f, lt_t, lt_f, eq_t, eq_f, k1, k2, k3, k4, k5, k6, k7, k8, k9, k10, k11, k12, k13, k15, k16, k20, k24, k30, k60, k64, k99, k100, k200, k255, k256, k512, k2912, k3392, k3393, k3394, k3395, k3396, k3397, k3398]
    rw [zX8_countUnder_6]
    unfold kX8_countUnder_6
    rw [if_neg (by simp (maxSteps := 3000000) (disch := omega) only [↓reduceIte, if_true, if_false, ite_not, not_true_eq_false, not_false_eq_true, ↓qqI_p, ↓qqR_p, ↓qqV_p, ↓qqIx_p, ↓qqRx_p, ↓qqVx_p, qqI_s, qqR_s, qqV_s, qqIx_s, qqRx_s, qqVx_s, qqIx_t, qqVx_t, ↓letH_s, inB_nI, nI_leI, nI_ltI, nI_eq, nI_eq0, nI_eqm, nI_eqn, nI_le0, nI_lt0, nI_0lt, nI_0le, nI_clamp, pk_mul, nI_add, pk_div, pk_sub, rem_n, z_add, add_z, m_cell, kmk, lmk, rmk, b2i_0, b2i_n1, bft, le_t, le_f, lt_t, lt_f, eq_t, eq_f, k1, k2, k3, k4, k5, k6, k7, k8, k9, k10, k11, k12, k13, k15, k16, k20, k24, k30, k60, k64, k99, k100, k200, k255, k256, k512, k2912, k3392, k3393, k3394, k3395, k3396, k3397, k3398] <;> omega), if_neg (by simp (maxSteps := 3000000) (disch := omega) only [↓reduceIte, if_true, if_false, ite_not, not_true_eq_false, not_false_eq_true, ↓qqI_p, ↓qqR_p, ↓qqV_p, ↓qqIx_p, ↓qqRx_p, ↓qqVx_p, qqI_s, qqR_s, qqV_s, qqIx_s, qqRx_s, qqVx_s, qqIx_t, qqVx_t, ↓letH_s, inB_nI, nI_leI, nI_ltI, nI_eq, nI_eq0, nI_eqm, nI_eqn, nI_le0, nI_lt0, nI_0lt, nI_0le, nI_clamp, pk_mul, nI_add, pk_div, pk_sub, rem_n, z_add, add_z, m_cell, kmk, lmk, rmk, b2i_0, b2i_n1, bft, le_t, le_f, lt_t, lt_f, eq_t, eq_f, k1, k2, k3, k4, k5, k6, k7, k8, k9, k10, k11, k12, k13, k15, k16, k20, k24, k30, k60, k64, k99, k100, k200, k255, k256, k512, k2912, k3392, k3393, k3394, k3395, k3396, k3397, k3398] <;> omega), hn, bI_s, List.range'_succ, List.foldl_cons]
    cases hna : nmA B d k with
    | none =>
      rw [if_pos oI_n, hs1]
      exact ih (k + 1) q a (by omega) (by omega)
    | some y =>
      obtain ⟨y1, y2, -⟩ := nmA_lt W hd (by omega) hna
      rw [if_neg (by rw [oI_s]; exact fun e => (nI_eqm (by omega)).mp e), oI_s, hs2, hF y2 y y1, bI_s, hs1]
      exact ih (k + 1) q (a + (1 + F y)) (by omega) (by omega)
theorem t_under_f (R : CB h s w B) (W : Wf B) : ∀ (f n d k : Nat), n < 12 → d + f = 12 → f < k → rX8_countUnder k s (nI w) (nI n) (nI d) h = some (.inl (some (.int (und B f n))), h) := by
  intro f
  induction f with
  | zero =>
    intro n d k hn hd hk
    obtain ⟨k, rfl⟩ := sc hk
    show kX8_countUnder_0 (gX8_countUnder (rX8_countUnder k) FF) (rX8_countUnder k) s (nI w) (nI n) (nI d) h = _
    unfold kX8_countUnder_0
    have : (FF : Nat) = 999999 + 1 := rfl
    rw [this]
    have hz := zX8_countUnder_6 (rX8_countUnder k) 999999 s (nI w) (nI n) (nI d) 0 0 uV h
    rw [hz]
    unfold kX8_countUnder_6
    rw [if_neg (by decide), if_pos (by simp (maxSteps := 3000000) (disch := omega) only [↓reduceIte, if_true, if_false, ite_not, not_true_eq_false, not_false_eq_true, ↓qqI_p, ↓qqR_p, ↓qqV_p, ↓qqIx_p, ↓qqRx_p, ↓qqVx_p, qqI_s, qqR_s, qqV_s, qqIx_s, qqRx_s, qqVx_s, qqIx_t, qqVx_t, ↓letH_s, inB_nI, nI_leI, nI_ltI, nI_eq, nI_eq0, nI_eqm, nI_eqn, nI_le0, nI_lt0, nI_0lt, nI_0le, nI_clamp, pk_mul, nI_add, pk_div, pk_sub, rem_n, z_add, add_z, m_cell, kmk, lmk, rmk, b2i_0, b2i_n1, bft, le_t, le_f, lt_t, lt_f, eq_t, eq_f, k1, k2, k3, k4, k5, k6, k7, k8, k9, k10, k11, k12, k13, k15, k16, k20, k24, k30, k60, k64, k99, k100, k200, k255, k256, k512, k2912, k3392, k3393, k3394, k3395, k3396, k3397, k3398] <;> omega)]
    rfl
  | succ f ih =>
    intro n d k hn hd hk
    obtain ⟨k, rfl⟩ := sc hk
    show kX8_countUnder_0 (gX8_countUnder (rX8_countUnder k) FF) (rX8_countUnder k) s (nI w) (nI n) (nI d) h = _
    unfold kX8_countUnder_0
    have hgo := t_under_go R W (d := n) (c12 := d) hn (by omega) (F := und B f) (FX := rX8_countUnder k) (fun _ y hy => ih y (d + 1) k hy (by omega) (by omega)) 16 0 FF 0 rfl (by decide)
    refine Eq.trans hgo ?_
    cases hk2 : isK B n 2 with
    | true =>
      have hfold := fold16 B n hk2 (fun (a : Int32) y => a + (1 + und B f y)) 0
      rw [hfold]
      rw [und_s, if_pos hk2]
      rfl
    | false =>
      have hfold := fold16_no B n hk2 (fun (a : Int32) y => a + (1 + und B f y)) 0
      rw [hfold]
      rw [und_s, if_neg (by rw [hk2]; decide)]
theorem t_under (R : CB h s w B) (W : Wf B) {n : Nat} (hn : n < 12) : fX8_countUnder s (nI w) (nI n) 0 h = some (.inl (some (.int (und B 12 n))), h) := t_under_f R W 12 n 0 40 hn rfl (by decide)
theorem t_deep_go (R : CB h s w B) (W : Wf B) {d c12 : Nat} (hd : d < 12) (hc : c12 < 12) {F : Nat → Int32} {FX : Nat → Int32 → Int32 → Int32 → Hp → RS} (hF : isK B d 2 = true → ∀ y, y < 12 → FX s (nI w) (nI y) (nI (c12 + 1)) h = some (.inl (some (.int (F y))), h)) : ∀ (c k q : Nat) (a : Int32), k + c = 16 → c < q →
    gX8_depthOf FX q 17 [.ref s, .int (nI w), .int (nI d), .int (nI c12), .int a, .int (nI k), uV] [] h = some (.inl (some (.int (1 + (List.range' k c).foldl (fun a k => onN (fun (a : Int32) y => mxI a (F y)) a (nmA B d k)) a))), h) := by
  intro c
  induction c with
  | zero =>
    intro k q a hk hq
    obtain ⟨q, rfl⟩ := sc hq
    rw [zX8_depthOf_17]
    unfold kX8_depthOf_17
    rw [if_pos (by simp (maxSteps := 3000000) (disch := omega) only [↓reduceIte, if_true, if_false, ite_not, not_true_eq_false, not_false_eq_true, ↓qqI_p, ↓qqR_p, ↓qqV_p, ↓qqIx_p, ↓qqRx_p, ↓qqVx_p, qqI_s, qqR_s, qqV_s, qqIx_s, qqRx_s, qqVx_s, qqIx_t, qqVx_t, ↓letH_s, inB_nI, nI_leI, nI_ltI, nI_eq, nI_eq0, nI_eqm, nI_eqn, nI_le0, nI_lt0, nI_0lt, nI_0le, nI_clamp, pk_mul, nI_add, pk_div, pk_sub, rem_n, z_add, add_z, m_cell, kmk, lmk, rmk, b2i_0, b2i_n1, bft, le_t, le_f, lt_t, lt_f, eq_t, eq_f, k1, k2, k3, k4, k5, k6, k7, k8, k9, k10, k11, k12, k13, k15, k16, k20, k24, k30, k60, k64, k99, k100, k200, k255, k256, k512, k2912, k3392, k3393, k3394, k3395, k3396, k3397, k3398] <;> omega)]
    rfl
  | succ c ih =>
    intro k q a hk hq
    obtain ⟨q, rfl⟩ := sc hq
    have hn := t_namedAt R W.1 (d := d) (k := k) hd (by omega)
    have hs1 : nI k + 1 = nI (k + 1) := by simp (maxSteps := 3000000) (disch := omega) only [↓reduceIte, if_true, if_false, ite_not, not_true_eq_false, not_false_eq_true, ↓qqI_p, ↓qqR_p, ↓qqV_p, ↓qqIx_p, ↓qqRx_p, ↓qqVx_p, qqI_s, qqR_s, qqV_s, qqIx_s, qqRx_s, qqVx_s, qqIx_t, qqVx_t, ↓letH_s, inB_nI, nI_leI, nI_ltI, nI_eq, nI_eq0, nI_eqm, nI_eqn, nI_le0, nI_lt0, nI_0lt, nI_0le, nI_clamp, pk_mul, nI_add, pk_div, pk_sub, rem_n, z_add, add_z, m_cell, kmk, lmk, rmk, b2i_0, b2i_n1, bft, le_t, le_f, lt_t, lt_f, eq_t, eq_f, k1, k2, k3, k4, k5, k6, k7, k8, k9, k10, k11, k12, k13, k15, k16, k20, k24, k30, k60, k64, k99, k100, k200, k255, k256, k512, k2912, k3392, k3393, k3394, k3395, k3396, k3397, k3398]
    have hs2 : nI c12 + 1 = nI (c12 + 1) := by simp (maxSteps := 3000000) (disch := omega) only [↓reduceIte, if_true, if_false, ite_not, not_true_eq_false, not_false_eq_true, ↓qqI_p, ↓qqR_p, ↓qqV_p, ↓qqIx_p, ↓qqRx_p, ↓qqVx_p, qqI_s, qqR_s, qqV_s, qqIx_s, qqRx_s, qqVx_s, qqIx_t, qqVx_t, ↓letH_s, inB_nI, nI_leI, nI_ltI, nI_eq, nI_eq0, nI_eqm, nI_eqn, nI_le0, nI_lt0, nI_0lt, nI_0le, nI_clamp, pk_mul, nI_add, pk_div, pk_sub, rem_n, z_add, add_z, m_cell, kmk, lmk, rmk, b2i_0, b2i_n1, bft, le_t, le_f, lt_t, lt_f, eq_t, eq_f, k1, k2, k3, k4, k5, k6, k7, k8, k9, k10, k11, k12, k13, k15, k16, k20, k24, k30, k60, k64, k99, k100, k200, k255, k256, k512, k2912, k3392, k3393, k3394, k3395, k3396, k3397, k3398]
    rw [zX8_depthOf_17]
    unfold kX8_depthOf_17
    rw [if_neg (by simp (maxSteps := 3000000) (disch := omega) only [↓reduceIte, if_true, if_false, ite_not, not_true_eq_false, not_false_eq_true, ↓qqI_p, ↓qqR_p, ↓qqV_p, ↓qqIx_p, ↓qqRx_p, ↓qqVx_p, qqI_s, qqR_s, qqV_s, qqIx_s, qqRx_s, qqVx_s, qqIx_t, qqVx_t, ↓letH_s, inB_nI, nI_leI, nI_ltI, nI_eq, nI_eq0, nI_eqm, nI_eqn, nI_le0, nI_lt0, nI_0lt, nI_0le, nI_clamp, pk_mul, nI_add, pk_div, pk_sub, rem_n, z_add, add_z, m_cell, kmk, lmk, rmk, b2i_0, b2i_n1, bft, le_t, le_f, lt_t, lt_f, eq_t, eq_f, k1, k2, k3, k4, k5, k6, k7, k8, k9, k10, k11, k12, k13, k15, k16, k20, k24, k30, k60, k64, k99, k100, k200, k255, k256, k512, k2912, k3392, k3393, k3394, k3395, k3396, k3397, k3398] <;> omega), if_neg (by simp (maxSteps := 3000000) (disch := omega) only [↓reduceIte, if_true, if_false, ite_not, not_true_eq_false, not_false_eq_true, ↓qqI_p, ↓qqR_p, ↓qqV_p, ↓qqIx_p, ↓qqRx_p, ↓qqVx_p, qqI_s, qqR_s, qqV_s, qqIx_s, qqRx_s, qqVx_s, qqIx_t, qqVx_t, ↓letH_s, inB_nI, nI_leI, nI_ltI, nI_eq, nI_eq0, nI_eqm, nI_eqn, nI_le0, nI_lt0, nI_0lt, nI_0le, nI_clamp, pk_mul, nI_add, pk_div, pk_sub, rem_n, z_add, add_z, m_cell, kmk, lmk, rmk, b2i_0, b2i_n1, bft, le_t, le_f, lt_t, lt_f, eq_t, eq_f, k1, k2, k3, k4, k5, k6, k7, k8, k9, k10, k11, k12, k13, k15, k16, k20, k24, k30, k60, k64, k99, k100, k200, k255, k256, k512, k2912, k3392, k3393, k3394, k3395, k3396, k3397, k3398] <;> omega), hn, bI_s, List.range'_succ, List.foldl_cons]
    cases hna : nmA B d k with
    | none =>
      rw [if_pos oI_n, hs1]
      exact ih (k + 1) q a (by omega) (by omega)
    | some y =>
      obtain ⟨y1, y2, -⟩ := nmA_lt W hd (by omega) hna
      rw [if_neg (by rw [oI_s]; exact fun e => (nI_eqm (by omega)).mp e), oI_s, hs2, hF y2 y y1, bI_s, hs1]
      exact ih (k + 1) q (mxI a (F y)) (by omega) (by omega)
theorem t_deep_f (R : CB h s w B) (W : Wf B) : ∀ (f n d k : Nat), n < 12 → d + f = 12 → f < k → rX8_depthOf k s (nI w) (nI n) (nI d) h = some (.inl (some (.int (dep B f n))), h) := by
  intro f
  induction f with
  | zero =>
    intro n d k hn hd hk
    obtain ⟨k, rfl⟩ := sc hk
    have h1 := c_isDirectory R hn
    show kX8_depthOf_0 (gX8_depthOf (rX8_depthOf k) FF) (rX8_depthOf k) s (nI w) (nI n) (nI d) h = _
    unfold kX8_depthOf_0
    rw [if_pos R.1.1, h1, bI_s, dep_0]
    cases hk2 : isK B n 2 with
    | false => rw [if_neg (by decide), if_neg (by decide)]
    | true =>
      rw [if_pos (by decide), if_pos rfl]
      have : (FF : Nat) = 999999 + 1 := rfl
      rw [this]
      have hz := zX8_depthOf_17 (rX8_depthOf k) 999999 s (nI w) (nI n) (nI d) 0 0 uV h
      rw [hz]
      unfold kX8_depthOf_17
      rw [if_neg (by decide), if_pos (by simp (maxSteps := 3000000) (disch := omega) only [↓reduceIte, if_true, if_false, ite_not, not_true_eq_false, not_false_eq_true, ↓qqI_p, ↓qqR_p, ↓qqV_p, ↓qqIx_p, ↓qqRx_p, ↓qqVx_p, qqI_s, qqR_s, qqV_s, qqIx_s, qqRx_s, qqVx_s, qqIx_t, qqVx_t, ↓letH_s, inB_nI, nI_leI, nI_ltI, nI_eq, nI_eq0, nI_eqm, nI_eqn, nI_le0, nI_lt0, nI_0lt, nI_0le, nI_clamp, pk_mul, nI_add, pk_div, pk_sub, rem_n, z_add, add_z, m_cell, kmk, lmk, rmk, b2i_0, b2i_n1, bft, le_t, le_f, lt_t, lt_f, eq_t, eq_f, k1, k2, k3, k4, k5, k6, k7, k8, k9, k10, k11, k12, k13, k15, k16, k20, k24, k30, k60, k64, k99, k100, k200, k255, k256, k512, k2912, k3392, k3393, k3394, k3395, k3396, k3397, k3398] <;> omega)]
      rfl
  | succ f ih =>
    intro n d k hn hd hk
    obtain ⟨k, rfl⟩ := sc hk
    have h1 := c_isDirectory R hn
    show kX8_depthOf_0 (gX8_depthOf (rX8_depthOf k) FF) (rX8_depthOf k) s (nI w) (nI n) (nI d) h = _
    unfold kX8_depthOf_0
    rw [if_pos R.1.1, h1, bI_s, dep_s]
    cases hk2 : isK B n 2 with
    | false => rw [if_neg (by decide), if_neg (by decide)]
    | true =>
      rw [if_pos (by decide), if_pos rfl]
      have hgo := t_deep_go R W (d := n) (c12 := d) hn (by omega) (F := dep B f) (FX := rX8_depthOf k) (fun _ y hy => ih y (d + 1) k hy (by omega) (by omega)) 16 0 FF 0 rfl (by decide)
      refine Eq.trans hgo ?_
      have hfold := fold16 B n hk2 (fun (a : Int32) y => mxI a (dep B f y)) 0
      rw [hfold]
      rfl
theorem t_deep (R : CB h s w B) (W : Wf B) {n : Nat} (hn : n < 12) : fX8_depthOf s (nI w) (nI n) 0 h = some (.inl (some (.int (dep B 12 n))), h) := t_deep_f R W 12 n 0 40 hn rfl (by decide)
end U2
