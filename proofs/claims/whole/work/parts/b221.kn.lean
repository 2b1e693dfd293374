/-! ===== under and deep: the class, which remembers what it found for each directory ===== -/
/-- what is remembered is right -/
def KN (h : Hp) (r : Nat) (U : Nat → Int32) : Prop := kH h r = 1 ∧ lH h r = 12 ∧ ∀ k, k < 12 → h.2 r k = -1 ∨ h.2 r k = U k
def FrK (h h' : Hp) (r : Nat) : Prop := h'.1 = h.1 ∧ ∀ a, a ≠ r → h'.2 a = h.2 a
theorem FrK.refl (h : Hp) (r : Nat) : FrK h h r := ⟨rfl, fun _ _ => rfl⟩
theorem FrK.trans {h h1 h2 : Hp} {r : Nat} (a : FrK h h1 r) (b : FrK h1 h2 r) : FrK h h2 r := ⟨b.1.trans a.1, fun y hy => by rw [b.2 y hy, a.2 y hy]⟩
theorem frK_up (h : Hp) (r k : Nat) (v : Int32) : FrK h (h.1, upI h.2 r k v) r := ⟨rfl, fun _ hy => upI_ne hy⟩
theorem CB.frK {h h' : Hp} {s w r : Nat} {B : Nat → Nat} (R : CB h s w B) (f : FrK h h' r) (hr : kH h r = 1) : CB h' s w B := by
  obtain ⟨⟨a1, a2, a3, a4⟩, a5, a6, a7⟩ := R
  have hne : s + 1 ≠ r := fun e => by rw [e, hr] at a3; exact absurd a3 (by decide)
  exact ⟨⟨by rw [kh_eq f.1]; exact a1, by rw [rh_eq f.1]; exact a2, by rw [kh_eq f.1]; exact a3, by rw [lh_eq f.1]; exact a4⟩, a5, fun y hy => by rw [f.2 _ hne]; exact a6 y hy, a7⟩
theorem KN.up {h : Hp} {r k : Nat} {U : Nat → Int32} (K : KN h r U) {v : Int32} (hv : v = U k) : KN (h.1, upI h.2 r k v) r U := by
  refine ⟨K.1, K.2.1, fun j hj => ?_⟩
  show upI h.2 r k v r j = -1 ∨ upI h.2 r k v r j = U j
  rw [upI_at]
  by_cases e : j = k
  · rw [if_pos e, e]; exact Or.inr hv
  · rw [if_neg e]; exact K.2.2 j hj
theorem und_fix {B : Nat → Nat} {rk : Nat → Int} (W : Wf B) (K : Rk B rk) {n : Nat} (hn : n < 12) (hk : isK B n 2 = true) : (ents B n).foldl (undF B (und B 12)) 0 = und B 12 n := by
  have h11 := hgt_11 (B := B) (r := rk) hn
  rw [und_st W K 12 13 n hn h11 (by omega), und_s, if_pos hk]
theorem dep_fix {B : Nat → Nat} {rk : Nat → Int} (W : Wf B) (K : Rk B rk) {n : Nat} (hn : n < 12) (hk : isK B n 2 = true) : 1 + (ents B n).foldl (depF B (dep B 12)) 0 = dep B 12 n := by
  have h11 := hgt_11 (B := B) (r := rk) hn
  rw [dep_st W K 12 13 n hn (by omega) (by omega), dep_s, if_pos hk]
theorem l12 : ((12 : Nat).toInt32) = nI 12 := rfl
section U2
variable {s w r : Nat} {B : Nat → Nat}
theorem t_under_go (W : Wf B) {d c12 : Nat} (hd : d < 12) (hc : c12 < 12) {U : Nat → Int32} {FX : Nat → Int32 → Int32 → Nat → Int32 → Hp → RS} (hF : isK B d 2 = true → ∀ e ∈ ents B d, B e ≠ 0 → ∀ g, CB g s w B → KN g r U → ∃ g', FX s (nI w) (nI (B (e + 1))) r (nI (c12 + 1)) g = some (.inl (some (.int (U (B (e + 1))))), g') ∧ FrK g g' r ∧ KN g' r U) : ∀ (c k q : Nat) (a : Int32) (g : Hp), k + c = 16 → c < q → CB g s w B → KN g r U → (List.range' k c).foldl (fun a k => onN (fun (a : Int32) y => a + (1 + U y)) a (nmA B d k)) a = U d →
    ∃ g', gX8_countUnder FX q 36 [.ref s, .int (nI w), .int (nI d), .ref r, .int (nI c12), .int a, .int (nI k), uV] [] g = some (.inl (some (.int (U d))), g') ∧ FrK g g' r ∧ KN g' r U := by
  intro c
  induction c with
  | zero =>
    intro k q a g hk hq R K hU
    obtain ⟨q, rfl⟩ := sc hq
    have hU : a = U d := hU
    refine ⟨(g.1, upI g.2 r d a), ?_, frK_up g r d a, K.up hU⟩
    rw [zX8_countUnder_36]
    unfold kX8_countUnder_36
    rw [if_pos (show (16 : Int32) ≤ nI k by rw [show k = 16 by omega]; decide), if_pos K.1, K.2.1, if_pos (inB_nI hd (by decide)), nI_clamp (by omega), hU]
  | succ c ih =>
    intro k q a g hk hq R K hU
    obtain ⟨q, rfl⟩ := sc hq
    have hn := t_namedAt R W.1 (d := d) (k := k) hd (by omega)
    have hs1 : nI k + 1 = nI (k + 1) := by simp (maxSteps := 3000000) (disch := omega) only [↓reduceIte, if_true, if_false, ite_not, not_true_eq_false, not_false_eq_true, ↓qqI_p, ↓qqR_p, ↓qqV_p, ↓qqIx_p, ↓qqRx_p, ↓qqVx_p, qqI_s, qqR_s, qqV_s, qqIx_s, qqRx_s, qqVx_s, qqIx_t, qqVx_t, ↓letH_s, inB_nI, nI_leI, nI_ltI, nI_eq, nI_eq0, nI_eqm, nI_eqn, nI_le0, nI_lt0, nI_0lt, nI_0le, nI_clamp, pk_mul, nI_add, pk_div, pk_sub, rem_n, z_add, add_z, m_cell, kmk, lmk, rmk, b2i_0, b2i_n1, bft, le_t, le_f, lt_t, lt_f, eq_t, eq_f, k1, k2, k3, k4, k5, k6, k7, k8, k9, k10, k11, k12, k13, k15, k16, k20, k24, k30, k60, k64, k99, k100, k200, k255, k256, k512, k2912, k3392, k3393, k3394, k3395, k3396, k3397, k3398]
    have hs2 : nI c12 + 1 = nI (c12 + 1) := by simp (maxSteps := 3000000) (disch := omega) only [↓reduceIte, if_true, if_false, ite_not, not_true_eq_false, not_false_eq_true, ↓qqI_p, ↓qqR_p, ↓qqV_p, ↓qqIx_p, ↓qqRx_p, ↓qqVx_p, qqI_s, qqR_s, qqV_s, qqIx_s, qqRx_s, qqVx_s, qqIx_t, qqVx_t, ↓letH_s, inB_nI, nI_leI, nI_ltI, nI_eq, nI_eq0, nI_eqm, nI_eqn, nI_le0, nI_lt0, nI_0lt, nI_0le, nI_clamp, pk_mul, nI_add, pk_div, pk_sub, rem_n, z_add, add_z, m_cell, kmk, lmk, rmk, b2i_0, b2i_n1, bft, le_t, le_f, lt_t, lt_f, eq_t, eq_f, k1, k2, k3, k4, k5, k6, k7, k8, k9, k10, k11, k12, k13, k15, k16, k20, k24, k30, k60, k64, k99, k100, k200, k255, k256, k512, k2912, k3392, k3393, k3394, k3395, k3396, k3397, k3398]
    rw [List.range'_succ, List.foldl_cons] at hU
    rw [zX8_countUnder_36]
    unfold kX8_countUnder_36
    rw [if_neg (by simp (maxSteps := 3000000) (disch := omega) only [↓reduceIte, if_true, if_false, ite_not, not_true_eq_false, not_false_eq_true, ↓qqI_p, ↓qqR_p, ↓qqV_p, ↓qqIx_p, ↓qqRx_p, ↓qqVx_p, qqI_s, qqR_s, qqV_s, qqIx_s, qqRx_s, qqVx_s, qqIx_t, qqVx_t, ↓letH_s, inB_nI, nI_leI, nI_ltI, nI_eq, nI_eq0, nI_eqm, nI_eqn, nI_le0, nI_lt0, nI_0lt, nI_0le, nI_clamp, pk_mul, nI_add, pk_div, pk_sub, rem_n, z_add, add_z, m_cell, kmk, lmk, rmk, b2i_0, b2i_n1, bft, le_t, le_f, lt_t, lt_f, eq_t, eq_f, k1, k2, k3, k4, k5, k6, k7, k8, k9, k10, k11, k12, k13, k15, k16, k20, k24, k30, k60, k64, k99, k100, k200, k255, k256, k512, k2912, k3392, k3393, k3394, k3395, k3396, k3397, k3398] <;> omega), hn, bI_s]
    cases hna : nmA B d k with
    | none =>
      rw [hna] at hU
      rw [if_pos oI_n, hs1]
      exact ih (k + 1) q a g (by omega) (by omega) R K hU
    | some y =>
      rw [hna] at hU
      obtain ⟨y1, y2, e, e1, e2, e3⟩ := nmA_lt W hd (by omega) hna
      obtain ⟨g1, f1, f2, f3⟩ := hF y2 e e1 e2 g R K
      rw [e3] at f1
      rw [if_neg (by rw [oI_s]; exact fun e => (nI_eqm (by omega)).mp e), oI_s, hs2, f1, bI_s, hs1]
      obtain ⟨g2, i1, i2, i3⟩ := ih (k + 1) q (a + (1 + U y)) g1 (by omega) (by omega) (R.frK f2 K.1) f3 hU
      exact ⟨g2, i1, f2.trans i2, i3⟩
theorem t_under_f (W : Wf B) {rk : Nat → Int} (Kr : Rk B rk) : ∀ (f n d k : Nat) (g : Hp), n < 12 → d + f = 12 → f < k → (isK B n 2 = true → hgt B rk n < f) → CB g s w B → KN g r (und B 12) → ∃ g', rX8_countUnder k s (nI w) (nI n) r (nI d) g = some (.inl (some (.int (und B 12 n))), g') ∧ FrK g g' r ∧ KN g' r (und B 12) := by
  intro f
  induction f with
  | zero =>
    intro n d k g hn hd hk hh R K
    obtain ⟨k, rfl⟩ := sc hk
    have hk2 : isK B n 2 = false := by
      cases hk2 : isK B n 2 with
      | false => rfl
      | true => exact absurd (hh hk2) (by omega)
    refine ⟨g, ?_, FrK.refl g r, K⟩
    show kX8_countUnder_0 (gX8_countUnder (rX8_countUnder k) FF) (rX8_countUnder k) s (nI w) (nI n) r (nI d) g = _
    unfold kX8_countUnder_0
    rw [if_neg (fun q => (nI_lt0 (by omega)).mp q), if_pos K.1, K.2.1, l12, if_neg (by rw [nI_leI (by decide) (by omega)]; omega), if_neg (show ¬ nI d < 12 by rw [show d = 12 by omega]; decide), und_no hk2]
  | succ f ih =>
    intro n d k g hn hd hk hh R K
    obtain ⟨k, rfl⟩ := sc hk
    rw [show rX8_countUnder (k + 1) s (nI w) (nI n) r (nI d) g = kX8_countUnder_0 (gX8_countUnder (rX8_countUnder k) FF) (rX8_countUnder k) s (nI w) (nI n) r (nI d) g from rfl]
    unfold kX8_countUnder_0
    rw [if_neg (fun q => (nI_lt0 (by omega)).mp q), if_pos K.1, K.2.1, l12, if_neg (by rw [nI_leI (by decide) (by omega)]; omega), if_pos (show nI d < 12 by rw [k12, nI_ltI (by omega) (by decide)]; omega), if_pos (inB_nI hn (by decide)), nI_clamp (by omega)]
    by_cases hm : g.2 r n = -1
    · rw [if_pos hm]
      refine t_under_go (d := n) (c12 := d) W hn (by omega) (U := und B 12) (FX := rX8_countUnder k) (fun hk2 e he h0 g1 R1 K1 => ?_) 16 0 FF 0 g rfl (by decide) R K ?_
      · have ht : fd B n 1 = 2 := by unfold isK at hk2; simp at hk2; exact hk2.2
        have hy := W.2.2 n hn ht e he h0
        exact ih _ (d + 1) k g1 hy (by omega) (by omega) (fun hky => by
          have := hgt_lt (r := rk) (n := n) hy hky (Kr n hn hk2 e he h0 hky)
          have := hh hk2
          omega) R1 K1
      · cases hk2 : isK B n 2 with
        | true => rw [fold16 B n hk2 (fun (a : Int32) y => a + (1 + und B 12 y)) 0]; exact und_fix W Kr hn hk2
        | false => rw [fold16_no B n hk2 (fun (a : Int32) y => a + (1 + und B 12 y)) 0, und_no hk2]
    · rw [if_neg hm]
      refine ⟨g, ?_, FrK.refl g r, K⟩
      rcases K.2.2 n hn with q | q
      · exact absurd q hm
      · rw [q]
theorem t_under (W : Wf B) {rk : Nat → Int} (Kr : Rk B rk) {n : Nat} (hn : n < 12) {g : Hp} (R : CB g s w B) (K : KN g r (und B 12)) : ∃ g', fX8_countUnder s (nI w) (nI n) r 0 g = some (.inl (some (.int (und B 12 n))), g') ∧ FrK g g' r ∧ KN g' r (und B 12) := t_under_f W Kr 12 n 0 40 g hn rfl (by decide) (fun _ => hgt_11 hn) R K
theorem t_deep_go (W : Wf B) {d c12 : Nat} (hd : d < 12) (hc : c12 < 12) {U : Nat → Int32} {FX : Nat → Int32 → Int32 → Nat → Int32 → Hp → RS} (hF : isK B d 2 = true → ∀ e ∈ ents B d, B e ≠ 0 → ∀ g, CB g s w B → KN g r U → ∃ g', FX s (nI w) (nI (B (e + 1))) r (nI (c12 + 1)) g = some (.inl (some (.int (U (B (e + 1))))), g') ∧ FrK g g' r ∧ KN g' r U) : ∀ (c k q : Nat) (a : Int32) (g : Hp), k + c = 16 → c < q → CB g s w B → KN g r U → 1 + (List.range' k c).foldl (fun a k => onN (fun (a : Int32) y => mxI a (U y)) a (nmA B d k)) a = U d →
    ∃ g', gX8_depthOf FX q 41 [.ref s, .int (nI w), .int (nI d), .ref r, .int (nI c12), .int a, .int (nI k), uV] [] g = some (.inl (some (.int (U d))), g') ∧ FrK g g' r ∧ KN g' r U := by
  intro c
  induction c with
  | zero =>
    intro k q a g hk hq R K hU
    obtain ⟨q, rfl⟩ := sc hq
    have hU : 1 + a = U d := hU
    refine ⟨(g.1, upI g.2 r d (1 + a)), ?_, frK_up g r d (1 + a), K.up hU⟩
    rw [zX8_depthOf_41]
    unfold kX8_depthOf_41
    rw [if_pos (show (16 : Int32) ≤ nI k by rw [show k = 16 by omega]; decide), if_pos K.1, K.2.1, if_pos (inB_nI hd (by decide)), nI_clamp (by omega), hU]
  | succ c ih =>
    intro k q a g hk hq R K hU
    obtain ⟨q, rfl⟩ := sc hq
    have hn := t_namedAt R W.1 (d := d) (k := k) hd (by omega)
    have hs1 : nI k + 1 = nI (k + 1) := by simp (maxSteps := 3000000) (disch := omega) only [↓reduceIte, if_true, if_false, ite_not, not_true_eq_false, not_false_eq_true, ↓qqI_p, ↓qqR_p, ↓qqV_p, ↓qqIx_p, ↓qqRx_p, ↓qqVx_p, qqI_s, qqR_s, qqV_s, qqIx_s, qqRx_s, qqVx_s, qqIx_t, qqVx_t, ↓letH_s, inB_nI, nI_leI, nI_ltI, nI_eq, nI_eq0, nI_eqm, nI_eqn, nI_le0, nI_lt0, nI_0lt, nI_0le, nI_clamp, pk_mul, nI_add, pk_div, pk_sub, rem_n, z_add, add_z, m_cell, kmk, lmk, rmk, b2i_0, b2i_n1, bft, le_t, le_f, lt_t, lt_f, eq_t, eq_f, k1, k2, k3, k4, k5, k6, k7, k8, k9, k10, k11, k12, k13, k15, k16, k20, k24, k30, k60, k64, k99, k100, k200, k255, k256, k512, k2912, k3392, k3393, k3394, k3395, k3396, k3397, k3398]
    have hs2 : nI c12 + 1 = nI (c12 + 1) := by simp (maxSteps := 3000000) (disch := omega) only [↓reduceIte, if_true, if_false, ite_not, not_true_eq_false, not_false_eq_true, ↓qqI_p, ↓qqR_p, ↓qqV_p, ↓qqIx_p, ↓qqRx_p, ↓qqVx_p, qqI_s, qqR_s, qqV_s, qqIx_s, qqRx_s, qqVx_s, qqIx_t, qqVx_t, ↓letH_s, inB_nI, nI_leI, nI_ltI, nI_eq, nI_eq0, nI_eqm, nI_eqn, nI_le0, nI_lt0, nI_0lt, nI_0le, nI_clamp, pk_mul, nI_add, pk_div, pk_sub, rem_n, z_add, add_z, m_cell, kmk, lmk, rmk, b2i_0, b2i_n1, bft, le_t, le_f, lt_t, lt_f, eq_t, eq_f, k1, k2, k3, k4, k5, k6, k7, k8, k9, k10, k11, k12, k13, k15, k16, k20, k24, k30, k60, k64, k99, k100, k200, k255, k256, k512, k2912, k3392, k3393, k3394, k3395, k3396, k3397, k3398]
    rw [List.range'_succ, List.foldl_cons] at hU
    rw [zX8_depthOf_41]
    unfold kX8_depthOf_41
    rw [if_neg (by simp (maxSteps := 3000000) (disch := omega) only [↓reduceIte, if_true, if_false, ite_not, not_true_eq_false, not_false_eq_true, ↓qqI_p, ↓qqR_p, ↓qqV_p, ↓qqIx_p, ↓qqRx_p, ↓qqVx_p, qqI_s, qqR_s, qqV_s, qqIx_s, qqRx_s, qqVx_s, qqIx_t, qqVx_t, ↓letH_s, inB_nI, nI_leI, nI_ltI, nI_eq, nI_eq0, nI_eqm, nI_eqn, nI_le0, nI_lt0, nI_0lt, nI_0le, nI_clamp, pk_mul, nI_add, pk_div, pk_sub, rem_n, z_add, add_z, m_cell, kmk, lmk, rmk, b2i_0, b2i_n1, bft, le_t, le_f, lt_t, lt_f, eq_t, eq_f, k1, k2, k3, k4, k5, k6, k7, k8, k9, k10, k11, k12, k13, k15, k16, k20, k24, k30, k60, k64, k99, k100, k200, k255, k256, k512, k2912, k3392, k3393, k3394, k3395, k3396, k3397, k3398] <;> omega), hn, bI_s]
    cases hna : nmA B d k with
    | none =>
      rw [hna] at hU
      rw [if_pos oI_n, hs1]
      exact ih (k + 1) q a g (by omega) (by omega) R K hU
    | some y =>
      rw [hna] at hU
      obtain ⟨y1, y2, e, e1, e2, e3⟩ := nmA_lt W hd (by omega) hna
      obtain ⟨g1, f1, f2, f3⟩ := hF y2 e e1 e2 g R K
      rw [e3] at f1
      rw [if_neg (by rw [oI_s]; exact fun e => (nI_eqm (by omega)).mp e), oI_s, hs2, f1, bI_s, hs1]
      obtain ⟨g2, i1, i2, i3⟩ := ih (k + 1) q (mxI a (U y)) g1 (by omega) (by omega) (R.frK f2 K.1) f3 hU
      exact ⟨g2, i1, f2.trans i2, i3⟩
theorem t_deep_f (W : Wf B) {rk : Nat → Int} (Kr : Rk B rk) : ∀ (f n d k : Nat) (g : Hp), n < 12 → d + f = 12 → f < k → (isK B n 2 = true → hgt B rk n < f) → CB g s w B → KN g r (dep B 12) → ∃ g', rX8_depthOf k s (nI w) (nI n) r (nI d) g = some (.inl (some (.int (dep B 12 n))), g') ∧ FrK g g' r ∧ KN g' r (dep B 12) := by
  intro f
  induction f with
  | zero =>
    intro n d k g hn hd hk hh R K
    obtain ⟨k, rfl⟩ := sc hk
    have h1 := c_isDirectory R hn
    have hk2 : isK B n 2 = false := by
      cases hk2 : isK B n 2 with
      | false => rfl
      | true => exact absurd (hh hk2) (by omega)
    refine ⟨g, ?_, FrK.refl g r, K⟩
    show kX8_depthOf_0 (gX8_depthOf (rX8_depthOf k) FF) (rX8_depthOf k) s (nI w) (nI n) r (nI d) g = _
    unfold kX8_depthOf_0
    rw [if_pos R.1.1, h1, bI_s, hk2, if_pos (by decide), dep_no hk2]
  | succ f ih =>
    intro n d k g hn hd hk hh R K
    obtain ⟨k, rfl⟩ := sc hk
    have h1 := c_isDirectory R hn
    rw [show rX8_depthOf (k + 1) s (nI w) (nI n) r (nI d) g = kX8_depthOf_0 (gX8_depthOf (rX8_depthOf k) FF) (rX8_depthOf k) s (nI w) (nI n) r (nI d) g from rfl]
    unfold kX8_depthOf_0
    cases hk2 : isK B n 2 with
    | false =>
      refine ⟨g, ?_, FrK.refl g r, K⟩
      rw [if_pos R.1.1, h1, bI_s, hk2, if_pos (by decide), dep_no hk2]
    | true =>
      rw [if_pos R.1.1, h1, bI_s, hk2, if_neg (by decide), if_pos K.1, K.2.1, l12, if_neg (by rw [nI_leI (by decide) (by omega)]; omega), if_pos (show nI d < 12 by rw [k12, nI_ltI (by omega) (by decide)]; omega), if_pos (inB_nI hn (by decide)), nI_clamp (by omega)]
      by_cases hm : g.2 r n = -1
      · rw [if_pos hm]
        refine t_deep_go (d := n) (c12 := d) W hn (by omega) (U := dep B 12) (FX := rX8_depthOf k) (fun hk2 e he h0 g1 R1 K1 => ?_) 16 0 FF 0 g rfl (by decide) R K ?_
        · have ht : fd B n 1 = 2 := by unfold isK at hk2; simp at hk2; exact hk2.2
          have hy := W.2.2 n hn ht e he h0
          exact ih _ (d + 1) k g1 hy (by omega) (by omega) (fun hky => by
            have := hgt_lt (r := rk) (n := n) hy hky (Kr n hn hk2 e he h0 hky)
            have := hh hk2
            omega) R1 K1
        · rw [fold16 B n hk2 (fun (a : Int32) y => mxI a (dep B 12 y)) 0]
          exact dep_fix W Kr hn hk2
      · rw [if_neg hm]
        refine ⟨g, ?_, FrK.refl g r, K⟩
        rcases K.2.2 n hn with q | q
        · exact absurd q hm
        · rw [q]
theorem t_deep (W : Wf B) {rk : Nat → Int} (Kr : Rk B rk) {n : Nat} (hn : n < 12) {g : Hp} (R : CB g s w B) (K : KN g r (dep B 12)) : ∃ g', fX8_depthOf s (nI w) (nI n) r 0 g = some (.inl (some (.int (dep B 12 n))), g') ∧ FrK g g' r ∧ KN g' r (dep B 12) := t_deep_f W Kr 12 n 0 40 g hn rfl (by decide) (fun _ => hgt_11 hn) R K
end U2
/-- all is forgotten -/
theorem c_forgetK_go {x r : Nat} : ∀ (c k q : Nat) (g : Hp), k + c = 12 → c < q → kH g x = 19 → rH g x 16 = r → kH g r = 1 → lH g r = 12 → (∀ j, j < k → g.2 r j = -1) → ∃ g', gX9_forgetKnown q 2 [.ref x, .int (nI k)] [] g = some (.inl none, g') ∧ FrK g g' r ∧ ∀ j, j < 12 → g'.2 r j = -1 := by
  intro c
  induction c with
  | zero =>
    intro k q g hk hq h1 h2 h3 h4 h5
    obtain ⟨q, rfl⟩ := sc hq
    refine ⟨g, ?_, FrK.refl g r, fun j hj => h5 j (by omega)⟩
    rw [zX9_forgetKnown_2]
    unfold kX9_forgetKnown_2
    rw [if_pos (show (12 : Int32) ≤ nI k by rw [show k = 12 by omega]; decide)]
  | succ c ih =>
    intro k q g hk hq h1 h2 h3 h4 h5
    obtain ⟨q, rfl⟩ := sc hq
    have hs1 : nI k + 1 = nI (k + 1) := by simp (maxSteps := 3000000) (disch := omega) only [↓reduceIte, if_true, if_false, ite_not, not_true_eq_false, not_false_eq_true, ↓qqI_p, ↓qqR_p, ↓qqV_p, ↓qqIx_p, ↓qqRx_p, ↓qqVx_p, qqI_s, qqR_s, qqV_s, qqIx_s, qqRx_s, qqVx_s, qqIx_t, qqVx_t, ↓letH_s, inB_nI, nI_leI, nI_ltI, nI_eq, nI_eq0, nI_eqm, nI_eqn, nI_le0, nI_lt0, nI_0lt, nI_0le, nI_clamp, pk_mul, nI_add, pk_div, pk_sub, rem_n, z_add, add_z, m_cell, kmk, lmk, rmk, b2i_0, b2i_n1, bft, le_t, le_f, lt_t, lt_f, eq_t, eq_f, k1, k2, k3, k4, k5, k6, k7, k8, k9, k10, k11, k12, k13, k15, k16, k20, k24, k30, k60, k64, k99, k100, k200, k255, k256, k512, k2912, k3392, k3393, k3394, k3395, k3396, k3397, k3398]
    rw [zX9_forgetKnown_2]
    unfold kX9_forgetKnown_2
    rw [if_neg (by simp (maxSteps := 3000000) (disch := omega) only [↓reduceIte, if_true, if_false, ite_not, not_true_eq_false, not_false_eq_true, ↓qqI_p, ↓qqR_p, ↓qqV_p, ↓qqIx_p, ↓qqRx_p, ↓qqVx_p, qqI_s, qqR_s, qqV_s, qqIx_s, qqRx_s, qqVx_s, qqIx_t, qqVx_t, ↓letH_s, inB_nI, nI_leI, nI_ltI, nI_eq, nI_eq0, nI_eqm, nI_eqn, nI_le0, nI_lt0, nI_0lt, nI_0le, nI_clamp, pk_mul, nI_add, pk_div, pk_sub, rem_n, z_add, add_z, m_cell, kmk, lmk, rmk, b2i_0, b2i_n1, bft, le_t, le_f, lt_t, lt_f, eq_t, eq_f, k1, k2, k3, k4, k5, k6, k7, k8, k9, k10, k11, k12, k13, k15, k16, k20, k24, k30, k60, k64, k99, k100, k200, k255, k256, k512, k2912, k3392, k3393, k3394, k3395, k3396, k3397, k3398] <;> omega), if_pos h1, h2, if_pos h3, h4, if_pos (inB_nI (by omega) (by decide)), nI_clamp (by omega), hs1]
    obtain ⟨g', i1, i2, i3⟩ := ih (k + 1) q (g.1, upI g.2 r k (-1)) (by omega) (by omega) h1 h2 h3 h4 (fun j hj => by
      show upI g.2 r k (-1) r j = -1
      rw [upI_at]
      by_cases e : j = k
      · rw [if_pos e]
      · rw [if_neg e]; exact h5 j (by omega))
    exact ⟨g', i1, (frK_up g r k (-1)).trans i2, i3⟩
theorem c_forgetK {x r : Nat} {g : Hp} (h1 : kH g x = 19) (h2 : rH g x 16 = r) (h3 : kH g r = 1) (h4 : lH g r = 12) : ∃ g', fX9_forgetKnown x g = some (.inl none, g') ∧ FrK g g' r ∧ ∀ U, KN g' r U := by
  obtain ⟨g', i1, i2, i3⟩ := c_forgetK_go (x := x) (r := r) 12 0 FF g rfl (by decide) h1 h2 h3 h4 (fun j hj => absurd hj (by omega))
  refine ⟨g', ?_, i2, fun U => ⟨by rw [kh_eq i2.1]; exact h3, by rw [lh_eq i2.1]; exact h4, fun k hk => Or.inl (i3 k hk)⟩⟩
  unfold fX9_forgetKnown kX9_forgetKnown_0
  exact i1
