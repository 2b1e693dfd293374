/-! ===== the reference copies a block ===== -/
theorem Row.eq {h h' : Hp} {r : Nat} {S : St} (e : h'.1 = h.1) (e2 : h'.2 r = h.2 r) (R : Row h r S) : Row h' r S := by
  unfold Row
  rw [kh_eq e, lh_eq e, e2]
  exact R
theorem Row.up {h : Hp} {r : Nat} {S : St} (R : Row h r S) {I : Nat → Nat → Int32} (e : I r = h.2 r) : Row (h.1, I) r S := Row.eq (h := h) rfl e R
theorem MO.up {h : Hp} {m : Nat} (M : MO h m) {I : Nat → Nat → Int32} : MO (h.1, I) m := MO.eq (h := h) rfl M
def hb (b : Nat) (g : List (Ch × Bool)) : Nat := (g.filter (fun q => cB q.1 == b && !q.2)).length
theorem hb_le (b : Nat) (g : List (Ch × Bool)) : hb b g ≤ g.length := List.length_filter_le _ _
theorem hb_snoc (b : Nat) (g : List (Ch × Bool)) (q : Ch × Bool) : hb b (g ++ [q]) = hb b g + if cB q.1 == b && !q.2 then 1 else 0 := by
  unfold hb
  rw [List.filter_append, List.length_append, List.filter_cons]
  split <;> rfl
theorem Fl.snoc {h : Hp} {m : Nat} {fl : List (Ch × Bool)} {q : Ch × Bool} (F : Fl h m fl) (e : h.2 (m + 147) fl.length = b2i q.2) : Fl h m (fl ++ [q]) := by
  intro P z T hP
  rcases List.eq_nil_or_concat T with rfl | ⟨T', y, rfl⟩
  · obtain ⟨e1, e2⟩ := List.append_inj' hP rfl
    cases e2
    subst e1
    exact e
  · rw [List.concat_eq_append] at hP
    have h1 : fl ++ [q] = (P ++ z :: T') ++ [y] := by rw [hP]; simp
    obtain ⟨e1, e2⟩ := List.append_inj' h1 rfl
    exact F P z T' e1
section M5
variable {r m : Nat} {S : St}
theorem m_flags {b : Nat} (hb0 : b < 16) (hr : r ≠ m + 147) (hm : r ≠ m) : ∀ (l pre : List Ch) (n : Nat) (h : Hp), Row h r S → MO h m → Fl h m (goes b pre) → sC S = pre ++ l →
    ∃ h', gX10_copiesBlock (n + l.length + 1) 5 [.ref m, .ref r, .int (nI b), .int (nI (hb b (goes b pre))), .int (nI pre.length), uV, uV] [] h = gX10_copiesBlock n 80 [.ref m, .ref r, .int (nI b), .int (nI (hb b (goes b (sC S)))), .int 0, uV, uV] [] h' ∧
      h'.1 = h.1 ∧ (∀ a, a ≠ m + 147 → h'.2 a = h.2 a) ∧ Fl h' m (goes b (sC S)) := by
  intro l
  induction l with
  | nil =>
    intro pre n h R M F e
    have hl : (sC S).length = pre.length := by rw [e]; simp
    have e' : pre = sC S := by rw [e]; simp
    have hB := R.bd.1
    refine ⟨h, ?_, rfl, fun _ _ => rfl, by rw [← e']; exact F⟩
    rw [show n + ([] : List Ch).length + 1 = n + 1 from rfl, zX10_copiesBlock_5]
    simp (maxSteps := 3000000) (disch := omega) only [kX10_copiesBlock_5, R.k, R.l, R.many, hl, ↓reduceIte, if_true, if_false, ite_not, not_true_eq_false, not_false_eq_true, ↓qqI_p, ↓qqR_p, ↓qqV_p, ↓qqIx_p, ↓qqRx_p, ↓qqVx_p, qqI_s, qqR_s, qqV_s, qqIx_s, qqRx_s, qqVx_s, qqIx_t, qqVx_t, ↓letH_s, inB_nI, nI_leI, nI_ltI, nI_eq, nI_eq0, nI_eqm, nI_eqn, nI_le0, nI_lt0, nI_0lt, nI_0le, nI_clamp, pk_mul, nI_add, pk_div, pk_sub, rem_n, z_add, add_z, m_cell, kmk, lmk, rmk, b2i_0, b2i_n1, bft, le_t, le_f, lt_t, lt_f, eq_t, eq_f, k1, k2, k3, k4, k5, k6, k7, k8, k9, k10, k11, k12, k13, k15, k16, k20, k24, k30, k60, k64, k99, k100, k200, k255, k256, k512, k2912, k3392, k3393, k3394, k3395, k3396, k3397, k3398]
    rw [e']
  | cons c l ih =>
    intro pre n h R M F e
    obtain ⟨hc, hl, hl2⟩ := R.ch e
    obtain ⟨-, q1, -⟩ := R.cel e
    obtain ⟨-, -, w1, -⟩ := hc
    have hgl := goes_len b pre
    have hle := hb_le b (goes b pre)
    obtain ⟨M0, ⟨M1, M2, M3⟩, -⟩ := id M
    have R1 : Row (h.1, upI h.2 (m + 147) pre.length 0) r S := R.up (upI_ne hr)
    have MM1 : MO (h.1, upI h.2 (m + 147) pre.length 0) m := M.up
    have F1 : Fl (h.1, upI h.2 (m + 147) pre.length 0) m (goes b pre) := fun P q T hP => by
      have hlt : P.length < pre.length := by rw [← hgl, hP]; simp
      dsimp only
      rw [upI_at, eq_f (by omega)]
      exact F P q T hP
    have hu : upI h.2 (m + 147) pre.length 0 r = h.2 r := upI_ne hr
    have hgs := goes_snoc b pre c
    by_cases hcb : cB c = b
    · have hmg := m_mayGo R1 MM1 e F1
      obtain ⟨h', i1, i2, i3, i4⟩ := ih (pre ++ [c]) n (h.1, upI (upI h.2 (m + 147) pre.length 0) (m + 147) pre.length (b2i (mayG c (goes b pre)))) (R.up (by rw [upI_ne hr, upI_ne hr])) (M.up) (by
        rw [hgs]
        refine Fl.snoc (fun P q T hP => ?_) ?_
        · have hlt : P.length < pre.length := by rw [← hgl, hP]; simp
          dsimp only
          rw [upI_at, eq_f (by omega)]
          exact F1 P q T hP
        · dsimp only
          rw [hgl, upI_at, eq_t rfl]
          simp [hcb]) (app1 e)
      refine ⟨h', ?_, i2, fun a ha => by rw [i3 a ha]; dsimp only; rw [upI_ne ha, upI_ne ha], i4⟩
      rw [show n + (c :: l).length + 1 = (n + l.length + 1) + 1 by simp; omega, zX10_copiesBlock_5, ← i1]
      have hk5 : (h.1, upI h.2 (m + 147) pre.length 0).1 = h.1 := rfl
      simp (maxSteps := 3000000) (disch := omega) only [kX10_copiesBlock_5, R.k, R.l, R.many, hl2, M0, M1, M2, M3, ↓reduceIte, if_true, if_false, ite_not, not_true_eq_false, not_false_eq_true, ↓qqI_p, ↓qqR_p, ↓qqV_p, ↓qqIx_p, ↓qqRx_p, ↓qqVx_p, qqI_s, qqR_s, qqV_s, qqIx_s, qqRx_s, qqVx_s, qqIx_t, qqVx_t, ↓letH_s, inB_nI, nI_leI, nI_ltI, nI_eq, nI_eq0, nI_eqm, nI_eqn, nI_le0, nI_lt0, nI_0lt, nI_0le, nI_clamp, pk_mul, nI_add, pk_div, pk_sub, rem_n, z_add, add_z, m_cell, kmk, lmk, rmk, b2i_0, b2i_n1, bft, le_t, le_f, lt_t, lt_f, eq_t, eq_f, k1, k2, k3, k4, k5, k6, k7, k8, k9, k10, k11, k12, k13, k15, k16, k20, k24, k30, k60, k64, k99, k100, k200, k255, k256, k512, k2912, k3392, k3393, k3394, k3395, k3396, k3397, k3398, hu, q1, hcb, hmg, b2i_or, upI_at, b2i_0, len1]
      rw [hgs, hb_snoc]
      cases mayG c (goes b pre) <;> simp [hcb, ← k1, ← nI_1]
    · obtain ⟨h', i1, i2, i3, i4⟩ := ih (pre ++ [c]) n (h.1, upI h.2 (m + 147) pre.length 0) R1 MM1 (by
        rw [hgs]
        refine Fl.snoc F1 ?_
        dsimp only
        rw [hgl, upI_at, eq_t rfl]
        simp [hcb, b2i]) (app1 e)
      refine ⟨h', ?_, i2, fun a ha => by rw [i3 a ha]; dsimp only; rw [upI_ne ha], i4⟩
      rw [show n + (c :: l).length + 1 = (n + l.length + 1) + 1 by simp; omega, zX10_copiesBlock_5, ← i1]
      simp (maxSteps := 3000000) (disch := omega) only [kX10_copiesBlock_5, R.k, R.l, R.many, hl2, M0, M1, M2, M3, ↓reduceIte, if_true, if_false, ite_not, not_true_eq_false, not_false_eq_true, ↓qqI_p, ↓qqR_p, ↓qqV_p, ↓qqIx_p, ↓qqRx_p, ↓qqVx_p, qqI_s, qqR_s, qqV_s, qqIx_s, qqRx_s, qqVx_s, qqIx_t, qqVx_t, ↓letH_s, inB_nI, nI_leI, nI_ltI, nI_eq, nI_eq0, nI_eqm, nI_eqn, nI_le0, nI_lt0, nI_0lt, nI_0le, nI_clamp, pk_mul, nI_add, pk_div, pk_sub, rem_n, z_add, add_z, m_cell, kmk, lmk, rmk, b2i_0, b2i_n1, bft, le_t, le_f, lt_t, lt_f, eq_t, eq_f, k1, k2, k3, k4, k5, k6, k7, k8, k9, k10, k11, k12, k13, k15, k16, k20, k24, k30, k60, k64, k99, k100, k200, k255, k256, k512, k2912, k3392, k3393, k3394, k3395, k3396, k3397, k3398, hu, q1, hcb, len1]
      rw [hgs, hb_snoc]
      have h3 : (cB c == b) = false := by simpa using hcb
      simp [h3]
theorem m_img {b : Nat} (hb0 : b < 16) (hr : r ≠ m + 148) {x3 : Int32} : ∀ (c i n : Nat) (h : Hp), i + c = 16 → Row h r S → MO h m →
    ∃ h', gX10_copiesBlock (n + c + 1) 80 [.ref m, .ref r, .int (nI b), .int x3, .int (nI i), uV, uV] [] h = gX10_copiesBlock n 120 [.ref m, .ref r, .int (nI b), .int x3, .int (nI (sC S).length - 1), uV, uV] [] h' ∧
      h'.1 = h.1 ∧ (∀ a, a ≠ m + 148 → h'.2 a = h.2 a) ∧ (∀ j, h'.2 (m + 148) j = if i ≤ j ∧ j < 16 then nI (mm S (16 * b + j)) else h.2 (m + 148) j) := by
  intro c
  induction c with
  | zero =>
    intro i n h hi R M
    have hB := R.bd.1
    refine ⟨h, ?_, rfl, fun _ _ => rfl, fun j => by rw [if_neg (by omega)]⟩
    rw [show n + 0 + 1 = n + 1 from rfl, zX10_copiesBlock_80]
    simp (maxSteps := 3000000) (disch := omega) only [kX10_copiesBlock_80, R.k, R.l, R.many, ↓reduceIte, if_true, if_false, ite_not, not_true_eq_false, not_false_eq_true, ↓qqI_p, ↓qqR_p, ↓qqV_p, ↓qqIx_p, ↓qqRx_p, ↓qqVx_p, qqI_s, qqR_s, qqV_s, qqIx_s, qqRx_s, qqVx_s, qqIx_t, qqVx_t, ↓letH_s, inB_nI, nI_leI, nI_ltI, nI_eq, nI_eq0, nI_eqm, nI_eqn, nI_le0, nI_lt0, nI_0lt, nI_0le, nI_clamp, pk_mul, nI_add, pk_div, pk_sub, rem_n, z_add, add_z, m_cell, kmk, lmk, rmk, b2i_0, b2i_n1, bft, le_t, le_f, lt_t, lt_f, eq_t, eq_f, k1, k2, k3, k4, k5, k6, k7, k8, k9, k10, k11, k12, k13, k15, k16, k20, k24, k30, k60, k64, k99, k100, k200, k255, k256, k512, k2912, k3392, k3393, k3394, k3395, k3396, k3397, k3398]
  | succ c ih =>
    intro i n h hi R M
    obtain ⟨M0, -, ⟨M1, M2, M3⟩, -⟩ := id M
    obtain ⟨h', i1, i2, i3, i4⟩ := ih (i + 1) n (h.1, upI h.2 (m + 148) i (nI (mm S (16 * b + i)))) (by omega) (R.up (upI_ne hr)) (M.up)
    refine ⟨h', ?_, i2, fun a ha => by rw [i3 a ha]; exact upI_ne ha, fun j => ?_⟩
    · rw [show n + (c + 1) + 1 = (n + c + 1) + 1 by omega, zX10_copiesBlock_80, ← i1]
      simp (maxSteps := 3000000) (disch := omega) only [kX10_copiesBlock_80, R.k, R.l, M0, M1, M2, M3, ↓reduceIte, if_true, if_false, ite_not, not_true_eq_false, not_false_eq_true, ↓qqI_p, ↓qqR_p, ↓qqV_p, ↓qqIx_p, ↓qqRx_p, ↓qqVx_p, qqI_s, qqR_s, qqV_s, qqIx_s, qqRx_s, qqVx_s, qqIx_t, qqVx_t, ↓letH_s, inB_nI, nI_leI, nI_ltI, nI_eq, nI_eq0, nI_eqm, nI_eqn, nI_le0, nI_lt0, nI_0lt, nI_0le, nI_clamp, pk_mul, nI_add, pk_div, pk_sub, rem_n, z_add, add_z, m_cell, kmk, lmk, rmk, b2i_0, b2i_n1, bft, le_t, le_f, lt_t, lt_f, eq_t, eq_f, k1, k2, k3, k4, k5, k6, k7, k8, k9, k10, k11, k12, k13, k15, k16, k20, k24, k30, k60, k64, k99, k100, k200, k255, k256, k512, k2912, k3392, k3393, k3394, k3395, k3396, k3397, k3398, R.mem]
    · rw [i4]
      dsimp only
      rw [upI_at]
      by_cases q : j = i
      · rw [if_neg (by omega), if_pos q, if_pos (by omega), q]
      · rw [if_neg (c := j = i) q]
        by_cases q2 : i + 1 ≤ j ∧ j < 16
        · rw [if_pos q2, if_pos (by omega)]
        · rw [if_neg q2, if_neg (by omega)]
theorem pack_get {w : Nat → Nat} {b t : Nat} (hw : ∀ x, w x < 128) (ht : t < 4) : nI (pack w b) >>> (nI (8 * t) &&& 31) &&& 255 = nI (w (b + t)) := by
  have h0 := hw b
  have h1 := hw (b + 1)
  have h2 := hw (b + 2)
  have h3 := hw (b + 3)
  have hlt : pack w b < 2 ^ 31 := by unfold pack; omega
  rw [shr_nI (by omega) hlt, and255_nI (by have := Nat.div_le_self (pack w b) (2 ^ (8 * t)); omega)]
  congr 1
  have hc : t = 0 ∨ t = 1 ∨ t = 2 ∨ t = 3 := by omega
  unfold pack
  rcases hc with rfl | rfl | rfl | rfl <;> simp <;> omega
theorem m_wasAt {h : Hp} (R : Row h r S) {pre l : List Ch} {c : Ch} (e : sC S = pre ++ c :: l) {i : Nat} (hi : i < 16) (hp : cP c = 16 ∨ cP c = i) :
    fX10_wasAt r (nI (512 + 12 * pre.length)) (nI i) h = some (.inl (some (.int (nI (vA (sD S) pre (16 * cB c + i))))), h) := by
  obtain ⟨hc, hl, hl2⟩ := R.ch e
  obtain ⟨-, -, t2, -, -, -, -, -, t8, t9⟩ := R.cel e
  have hB := R.bd
  have hv : ∀ x, vA (sD S) pre x < 128 := vA_lt hB.2.2.2.1 (fun c' hc' => (hB.2.2.2.2.1 c' (by rw [e]; exact List.mem_append_left _ hc')).2.2.2.2.1)
  obtain ⟨-, -, -, w2, -⟩ := hc
  unfold fX10_wasAt
  by_cases h16 : cP c = 16
  · have t9 := t9 h16 (i / 4) (by omega)
    simp (maxSteps := 3000000) (disch := omega) only [kX10_wasAt_0, R.k, R.l, ↓reduceIte, if_true, if_false, ite_not, not_true_eq_false, not_false_eq_true, ↓qqI_p, ↓qqR_p, ↓qqV_p, ↓qqIx_p, ↓qqRx_p, ↓qqVx_p, qqI_s, qqR_s, qqV_s, qqIx_s, qqRx_s, qqVx_s, qqIx_t, qqVx_t, ↓letH_s, inB_nI, nI_leI, nI_ltI, nI_eq, nI_eq0, nI_eqm, nI_eqn, nI_le0, nI_lt0, nI_0lt, nI_0le, nI_clamp, pk_mul, nI_add, pk_div, pk_sub, rem_n, z_add, add_z, m_cell, kmk, lmk, rmk, b2i_0, b2i_n1, bft, le_t, le_f, lt_t, lt_f, eq_t, eq_f, k1, k2, k3, k4, k5, k6, k7, k8, k9, k10, k11, k12, k13, k15, k16, k20, k24, k30, k60, k64, k99, k100, k200, k255, k256, k512, k2912, k3392, k3393, k3394, k3395, k3396, k3397, k3398, t2, t9, h16]
    rw [show (16 * cB c + 4 * (i / 4)) = 16 * cB c + 4 * (i / 4) from rfl, ← k255, pack_get hv (Nat.mod_lt i (by decide)), show 16 * cB c + 4 * (i / 4) + i % 4 = 16 * cB c + i by omega]
  · have hpi : cP c = i := by omega
    have t8 := t8 (by omega)
    simp (maxSteps := 3000000) (disch := omega) only [kX10_wasAt_0, R.k, R.l, ↓reduceIte, if_true, if_false, ite_not, not_true_eq_false, not_false_eq_true, ↓qqI_p, ↓qqR_p, ↓qqV_p, ↓qqIx_p, ↓qqRx_p, ↓qqVx_p, qqI_s, qqR_s, qqV_s, qqIx_s, qqRx_s, qqVx_s, qqIx_t, qqVx_t, ↓letH_s, inB_nI, nI_leI, nI_ltI, nI_eq, nI_eq0, nI_eqm, nI_eqn, nI_le0, nI_lt0, nI_0lt, nI_0le, nI_clamp, pk_mul, nI_add, pk_div, pk_sub, rem_n, z_add, add_z, m_cell, kmk, lmk, rmk, b2i_0, b2i_n1, bft, le_t, le_f, lt_t, lt_f, eq_t, eq_f, k1, k2, k3, k4, k5, k6, k7, k8, k9, k10, k11, k12, k13, k15, k16, k20, k24, k30, k60, k64, k99, k100, k200, k255, k256, k512, k2912, k3392, k3393, k3394, k3395, k3396, k3397, k3398, t2, t8]
    rw [hpi]
theorem m_roll1 {b : Nat} (hb0 : b < 16) (hr : r ≠ m + 148) {pre l : List Ch} {c : Ch} (e : sC S = pre ++ c :: l) (hcb : cB c = b) {x3 x4 : Int32} : ∀ (t i n : Nat) (h : Hp), i + t = 16 → Row h r S → MO h m →
    ∃ h', gX10_copiesBlock (n + t + 1) 158 [.ref m, .ref r, .int (nI b), .int x3, .int x4, .int (nI (512 + 12 * pre.length)), .int (nI i)] [] h = gX10_copiesBlock n 120 [.ref m, .ref r, .int (nI b), .int x3, .int (x4 + (-1)), uV, uV] [] h' ∧
      h'.1 = h.1 ∧ (∀ a, a ≠ m + 148 → h'.2 a = h.2 a) ∧ (∀ j, h'.2 (m + 148) j = if i ≤ j ∧ j < 16 ∧ tch c (16 * b + j) = true then nI (vA (sD S) pre (16 * b + j)) else h.2 (m + 148) j) := by
  intro t
  induction t with
  | zero =>
    intro i n h hi R M
    refine ⟨h, ?_, rfl, fun _ _ => rfl, fun j => by rw [if_neg (by omega)]⟩
    rw [show n + 0 + 1 = n + 1 from rfl, zX10_copiesBlock_158]
    simp (maxSteps := 3000000) (disch := omega) only [kX10_copiesBlock_158, ↓reduceIte, if_true, if_false, ite_not, not_true_eq_false, not_false_eq_true, ↓qqI_p, ↓qqR_p, ↓qqV_p, ↓qqIx_p, ↓qqRx_p, ↓qqVx_p, qqI_s, qqR_s, qqV_s, qqIx_s, qqRx_s, qqVx_s, qqIx_t, qqVx_t, ↓letH_s, inB_nI, nI_leI, nI_ltI, nI_eq, nI_eq0, nI_eqm, nI_eqn, nI_le0, nI_lt0, nI_0lt, nI_0le, nI_clamp, pk_mul, nI_add, pk_div, pk_sub, rem_n, z_add, add_z, m_cell, kmk, lmk, rmk, b2i_0, b2i_n1, bft, le_t, le_f, lt_t, lt_f, eq_t, eq_f, k1, k2, k3, k4, k5, k6, k7, k8, k9, k10, k11, k12, k13, k15, k16, k20, k24, k30, k60, k64, k99, k100, k200, k255, k256, k512, k2912, k3392, k3393, k3394, k3395, k3396, k3397, k3398]
  | succ t ih =>
    intro i n h hi R M
    obtain ⟨M0, -, ⟨M1, M2, M3⟩, -⟩ := id M
    obtain ⟨hc, hl, hl2⟩ := R.ch e
    obtain ⟨-, -, t2, -⟩ := R.cel e
    obtain ⟨-, -, w1, w2, -⟩ := hc
    have htc : tch c (16 * b + i) = true ↔ cP c = 16 ∨ cP c = i := by
      rw [tch_iff, hcb, show (16 * b + i) / 16 = b by omega, show (16 * b + i) % 16 = i by omega]
      simp
    have hputs : fX10_puts r (nI (512 + 12 * pre.length)) (nI i) h = some (.inl (some (.int (b2i (tch c (16 * b + i))))), h) := by
      unfold fX10_puts
      simp (maxSteps := 3000000) (disch := omega) only [kX10_puts_0, R.k, R.l, ↓reduceIte, if_true, if_false, ite_not, not_true_eq_false, not_false_eq_true, ↓qqI_p, ↓qqR_p, ↓qqV_p, ↓qqIx_p, ↓qqRx_p, ↓qqVx_p, qqI_s, qqR_s, qqV_s, qqIx_s, qqRx_s, qqVx_s, qqIx_t, qqVx_t, ↓letH_s, inB_nI, nI_leI, nI_ltI, nI_eq, nI_eq0, nI_eqm, nI_eqn, nI_le0, nI_lt0, nI_0lt, nI_0le, nI_clamp, pk_mul, nI_add, pk_div, pk_sub, rem_n, z_add, add_z, m_cell, kmk, lmk, rmk, b2i_0, b2i_n1, bft, le_t, le_f, lt_t, lt_f, eq_t, eq_f, k1, k2, k3, k4, k5, k6, k7, k8, k9, k10, k11, k12, k13, k15, k16, k20, k24, k30, k60, k64, k99, k100, k200, k255, k256, k512, k2912, k3392, k3393, k3394, k3395, k3396, k3397, k3398, t2]
      by_cases h1 : cP c = 16
      · rw [htc.mpr (Or.inl h1)]
        simp [h1, b2i, ← k1]
      · by_cases h2 : cP c = i
        · rw [htc.mpr (Or.inr h2)]
          simp [h1, h2, b2i, ← k1]
        · have h3 : tch c (16 * b + i) = false := by
            cases h4 : tch c (16 * b + i)
            · rfl
            · rcases htc.mp h4 with q | q
              · exact absurd q h1
              · exact absurd q h2
          rw [h3]
          simp [h1, h2, b2i]
    cases ht : tch c (16 * b + i) with
    | true =>
      have hw := m_wasAt R e (i := i) (by omega) (htc.mp ht)
      rw [hcb] at hw
      rw [ht] at hputs
      obtain ⟨h', i1, i2, i3, i4⟩ := ih (i + 1) n (h.1, upI h.2 (m + 148) i (nI (vA (sD S) pre (16 * b + i)))) (by omega) (R.up (upI_ne hr)) M.up
      refine ⟨h', ?_, i2, fun a ha => by rw [i3 a ha]; exact upI_ne ha, fun j => ?_⟩
      · rw [show n + (t + 1) + 1 = (n + t + 1) + 1 by omega, zX10_copiesBlock_158, ← i1]
        simp (maxSteps := 3000000) (disch := omega) only [kX10_copiesBlock_158, R.k, R.l, M0, M1, M2, M3, ↓reduceIte, if_true, if_false, ite_not, not_true_eq_false, not_false_eq_true, ↓qqI_p, ↓qqR_p, ↓qqV_p, ↓qqIx_p, ↓qqRx_p, ↓qqVx_p, qqI_s, qqR_s, qqV_s, qqIx_s, qqRx_s, qqVx_s, qqIx_t, qqVx_t, ↓letH_s, inB_nI, nI_leI, nI_ltI, nI_eq, nI_eq0, nI_eqm, nI_eqn, nI_le0, nI_lt0, nI_0lt, nI_0le, nI_clamp, pk_mul, nI_add, pk_div, pk_sub, rem_n, z_add, add_z, m_cell, kmk, lmk, rmk, b2i_0, b2i_n1, bft, le_t, le_f, lt_t, lt_f, eq_t, eq_f, k1, k2, k3, k4, k5, k6, k7, k8, k9, k10, k11, k12, k13, k15, k16, k20, k24, k30, k60, k64, k99, k100, k200, k255, k256, k512, k2912, k3392, k3393, k3394, k3395, k3396, k3397, k3398, hputs, b2i_0, hw]
        simp
      · rw [i4]
        dsimp only
        rw [upI_at]
        by_cases q : j = i
        · rw [if_neg (by omega), if_pos q, if_pos ⟨by omega, by omega, by rw [q]; exact ht⟩, q]
        · rw [if_neg (c := j = i) q]
          by_cases q2 : i + 1 ≤ j ∧ j < 16 ∧ tch c (16 * b + j) = true
          · rw [if_pos q2, if_pos ⟨by omega, q2.2⟩]
          · rw [if_neg q2, if_neg (fun q3 => q2 ⟨by omega, q3.2⟩)]
    | false =>
      rw [ht] at hputs
      obtain ⟨h', i1, i2, i3, i4⟩ := ih (i + 1) n (h.1, upI h.2 (m + 148) i (h.2 (m + 148) i)) (by omega) (R.up (upI_ne hr)) M.up
      refine ⟨h', ?_, i2, fun a ha => by rw [i3 a ha]; exact upI_ne ha, fun j => ?_⟩
      · rw [show n + (t + 1) + 1 = (n + t + 1) + 1 by omega, zX10_copiesBlock_158, ← i1]
        simp (maxSteps := 3000000) (disch := omega) only [kX10_copiesBlock_158, R.k, R.l, M0, M1, M2, M3, ↓reduceIte, if_true, if_false, ite_not, not_true_eq_false, not_false_eq_true, ↓qqI_p, ↓qqR_p, ↓qqV_p, ↓qqIx_p, ↓qqRx_p, ↓qqVx_p, qqI_s, qqR_s, qqV_s, qqIx_s, qqRx_s, qqVx_s, qqIx_t, qqVx_t, ↓letH_s, inB_nI, nI_leI, nI_ltI, nI_eq, nI_eq0, nI_eqm, nI_eqn, nI_le0, nI_lt0, nI_0lt, nI_0le, nI_clamp, pk_mul, nI_add, pk_div, pk_sub, rem_n, z_add, add_z, m_cell, kmk, lmk, rmk, b2i_0, b2i_n1, bft, le_t, le_f, lt_t, lt_f, eq_t, eq_f, k1, k2, k3, k4, k5, k6, k7, k8, k9, k10, k11, k12, k13, k15, k16, k20, k24, k30, k60, k64, k99, k100, k200, k255, k256, k512, k2912, k3392, k3393, k3394, k3395, k3396, k3397, k3398, hputs, b2i_0]
      · rw [i4]
        dsimp only
        rw [upI_at]
        by_cases q : j = i
        · rw [if_neg (by omega), if_pos q, if_neg (fun q3 => by rw [q, ht] at q3; exact absurd q3.2.2 (by decide)), q]
        · rw [if_neg (c := j = i) q]
          by_cases q2 : i + 1 ≤ j ∧ j < 16 ∧ tch c (16 * b + j) = true
          · rw [if_pos q2, if_pos ⟨by omega, q2.2⟩]
          · rw [if_neg q2, if_neg (fun q3 => q2 ⟨by omega, q3.2⟩)]
end M5
