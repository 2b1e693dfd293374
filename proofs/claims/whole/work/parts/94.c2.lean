/-! ===== the class makes a change ===== -/
/-- only a State's own cells have changed -/
def Own (h h' : Hp) (s : Nat) : Prop := h'.1 = h.1 ∧ ∀ a, a < s ∨ s + 10 ≤ a → h'.2 a = h.2 a
theorem Own.refl (h : Hp) (s : Nat) : Own h h s := ⟨rfl, fun _ _ => rfl⟩
theorem Own.trans {h h1 h2 : Hp} {s : Nat} (a : Own h h1 s) (b : Own h1 h2 s) : Own h h2 s := ⟨b.1.trans a.1, fun x hx => by rw [b.2 x hx, a.2 x hx]⟩
theorem prs_le (pre : List Ch) (c : Ch) : (prs pre c).length ≤ 4 := Nat.le_trans (List.length_filter_le _ _) (by simp)
theorem any_id {pre : List Ch} {n : Int} (h : ∀ e ∈ pre, (cI e : Int) ≠ n) : pre.any (fun e => (cI e : Int) == n) = false := by
  rw [List.any_eq_false]
  intro e he
  simpa using h e he
section C2
variable {s z : Nat} {S : St}
theorem c_cpy {b p v : Nat} {x2 : Int32} (hb : b < 16) (hv : v < 128) {k hi : Nat} (hk : k < 200) (hhi : hi < 256) (hhb : hi / 16 = b) (hB : ∀ x, mm S x < 128) : ∀ (c x n : Nat) (h : Hp), x + c = hi + 1 → x / 16 = b ∨ c = 0 → c < n → SO h s → (∀ y, x ≤ y → y ≤ hi → h.2 (s + 1) y = nI (mm S y)) →
    ∃ h', gX5_put n 129 [.ref s, .int (nI b), .int x2, .int (nI v), uV, .int (nI hi), uV, .int (nI k), .int (nI x)] [] h = gX5_put (n - c) 129 [.ref s, .int (nI b), .int x2, .int (nI v), uV, .int (nI hi), uV, .int (nI k), .int (nI (hi + 1))] [] h' ∧ h'.1 = h.1 ∧ (∀ a, a ≠ s + 1 → a ≠ s + 5 → h'.2 a = h.2 a) ∧
      (∀ y, h'.2 (s + 1) y = if x ≤ y ∧ y ≤ hi then nI v else h.2 (s + 1) y) ∧ (∀ y, h'.2 (s + 5) y = if 16 * k + x % 16 ≤ y ∧ y < 16 * k + x % 16 + c then nI (mm S (16 * b + (y - 16 * k))) else h.2 (s + 5) y) := by
  intro c
  induction c with
  | zero =>
    intro x n h hx hx2 hn O hm
    refine ⟨h, by rw [show x = hi + 1 by omega]; rfl, rfl, fun _ _ _ => rfl, fun y => by rw [if_neg (by omega)], fun y => by rw [if_neg (by omega)]⟩
  | succ c ih =>
    intro x n h hx hx2 hn O hm
    obtain ⟨n, rfl⟩ := sc hn
    obtain ⟨r1, ⟨r2, r3, r4⟩, -, -, -, ⟨r5, r6, r7⟩, -⟩ := id O
    have hxb : x / 16 = b := by omega
    have hmx := hm x (Nat.le_refl _) (by omega)
    have hi1 := i8 (hB x)
    have hi2 := i8 hv
    obtain ⟨h', i1, i2, i3, i4, i5⟩ := ih (x + 1) n (h.1, upI (upI h.2 (s + 5) (k * 16 + x - b * 16) (nI (mm S x))) (s + 1) x (nI v)) (by omega) (by omega) (by omega) (SO.eq (h := h) rfl O) (fun y hy hy2 => by
      dsimp only
      rw [upI_at, if_neg (by omega), upI_ne (by omega)]
      exact hm y (by omega) hy2)
    refine ⟨h', ?_, i2, fun a ha hb => by rw [i3 a ha hb]; dsimp only; rw [upI_ne ha, upI_ne hb], fun y => ?_, fun y => ?_⟩
    · rw [zX5_put_129, show n + 1 - (c + 1) = n - c by omega, ← i1]
      simp (maxSteps := 3000000) (disch := omega) only [kX5_put_129, r1, r2, r3, r4, r5, r6, r7, ↓reduceIte, if_true, if_false, ite_not, not_true_eq_false, not_false_eq_true, ↓qqI_p, ↓qqR_p, ↓qqV_p, ↓qqIx_p, ↓qqRx_p, ↓qqVx_p, qqI_s, qqR_s, qqV_s, qqIx_s, qqRx_s, qqVx_s, qqIx_t, qqVx_t, ↓letH_s, inB_nI, nI_leI, nI_ltI, nI_eq, nI_eq0, nI_eqm, nI_eqn, nI_le0, nI_lt0, nI_0lt, nI_0le, nI_clamp, pk_mul, nI_add, pk_div, pk_sub, rem_n, z_add, add_z, m_cell, kmk, lmk, rmk, b2i_0, b2i_n1, bft, le_t, le_f, lt_t, lt_f, eq_t, eq_f, k1, k2, k3, k4, k5, k6, k7, k8, k9, k10, k11, k12, k13, k15, k16, k20, k24, k30, k60, k64, k99, k100, k200, k255, k256, k512, k2912, k3392, k3393, k3394, k3395, k3396, k3397, k3398, hmx, hi1, hi2]
    · rw [i4]
      dsimp only
      rw [upI_at, upI_ne (by omega)]
      by_cases q : y = x
      · rw [if_neg (by omega), if_pos q, if_pos (by omega)]
      · rw [if_neg (c := y = x) q]
        by_cases q2 : x + 1 ≤ y ∧ y ≤ hi
        · rw [if_pos q2, if_pos (by omega)]
        · rw [if_neg q2, if_neg (by omega)]
    · rw [i5]
      dsimp only
      rw [upI_ne (by omega), upI_at]
      by_cases q : y = k * 16 + x - b * 16
      · rw [if_neg (by omega), if_pos q, if_pos (by omega), show 16 * b + (y - 16 * k) = x by omega]
      · rw [if_neg (c := y = k * 16 + x - b * 16) q]
        by_cases q2 : 16 * k + (x + 1) % 16 ≤ y ∧ y < 16 * k + (x + 1) % 16 + c
        · rw [if_pos q2, if_pos (by omega)]
        · rw [if_neg q2, if_neg (by omega)]
theorem c_none {k : Nat} (hk : k < 200) : ∀ (c j n : Nat) (h : Hp), j + c = 4 → SO h s →
    ∃ h', gX5_put (n + c) 203 [.ref s, uV, uV, uV, uV, uV, uV, .int (nI k), .int (nI j)] [] h = gX5_put n 203 [.ref s, uV, uV, uV, uV, uV, uV, .int (nI k), .int (nI 4)] [] h' ∧ h'.1 = h.1 ∧ (∀ a, a ≠ s + 6 → h'.2 a = h.2 a) ∧ (∀ y, h'.2 (s + 6) y = if 4 * k + j ≤ y ∧ y < 4 * k + 4 then -1 else h.2 (s + 6) y) := by
  intro c
  induction c with
  | zero =>
    intro j n h hj O
    exact ⟨h, by rw [show j = 4 by omega]; rfl, rfl, fun _ _ => rfl, fun y => by rw [if_neg (by omega)]⟩
  | succ c ih =>
    intro j n h hj O
    obtain ⟨r1, -, -, -, -, -, ⟨r2, r3, r4⟩, -⟩ := id O
    obtain ⟨h', i1, i2, i3, i4⟩ := ih (j + 1) n (h.1, upI h.2 (s + 6) (k * 4 + j) (-1)) (by omega) (SO.eq (h := h) rfl O)
    refine ⟨h', ?_, i2, fun a ha => by rw [i3 a ha]; exact upI_ne ha, fun y => ?_⟩
    · rw [show n + (c + 1) = (n + c) + 1 by omega, zX5_put_203, ← i1]
      simp (maxSteps := 3000000) (disch := omega) only [kX5_put_203, r1, r2, r3, r4, ↓reduceIte, if_true, if_false, ite_not, not_true_eq_false, not_false_eq_true, ↓qqI_p, ↓qqR_p, ↓qqV_p, ↓qqIx_p, ↓qqRx_p, ↓qqVx_p, qqI_s, qqR_s, qqV_s, qqIx_s, qqRx_s, qqVx_s, qqIx_t, qqVx_t, ↓letH_s, inB_nI, nI_leI, nI_ltI, nI_eq, nI_eq0, nI_eqm, nI_eqn, nI_le0, nI_lt0, nI_0lt, nI_0le, nI_clamp, pk_mul, nI_add, pk_div, pk_sub, rem_n, z_add, add_z, m_cell, kmk, lmk, rmk, b2i_0, b2i_n1, bft, le_t, le_f, lt_t, lt_f, eq_t, eq_f, k1, k2, k3, k4, k5, k6, k7, k8, k9, k10, k11, k12, k13, k15, k16, k20, k24, k30, k60, k64, k99, k100, k200, k255, k256, k512, k2912, k3392, k3393, k3394, k3395, k3396, k3397, k3398]
    · rw [i4]
      dsimp only
      rw [upI_at]
      by_cases q : y = k * 4 + j
      · rw [if_neg (by omega), if_pos q, if_pos (by omega)]
      · rw [if_neg (c := y = k * 4 + j) q]
        by_cases q2 : 4 * k + (j + 1) ≤ y ∧ y < 4 * k + 4
        · rw [if_pos q2, if_pos (by omega)]
        · rw [if_neg q2, if_neg (by omega)]
/-- where a change stands that is made now, or none -/
def pIx (S : St) (b p v : Nat) : Option Nat := if same S b p v then none else some (sC S).length
theorem Cst.mv {I I' : Nat → Nat → Int32} {d : Nat → Nat} {pre : List Ch} {c : Ch} (C : Cst I s d pre c) (h2 : I' (s + 2) pre.length = I (s + 2) pre.length) (h3 : I' (s + 3) pre.length = I (s + 3) pre.length) (h4 : I' (s + 4) pre.length = I (s + 4) pre.length) (h5 : ∀ i, i < 16 → I' (s + 5) (16 * pre.length + i) = I (s + 5) (16 * pre.length + i)) (h6 : ∀ i, i < 4 → I' (s + 6) (4 * pre.length + i) = I (s + 6) (4 * pre.length + i)) (h7 : I' (s + 7) pre.length = I (s + 7) pre.length) : Cst I' s d pre c := by
  obtain ⟨a1, a2, a3, a4, ⟨f, a5, a6, a7⟩, a8, a9⟩ := C
  exact ⟨by rw [h2]; exact a1, by rw [h3]; exact a2, by rw [h4]; exact a3, fun i hi hp => by rw [h5 i hi]; exact a4 i hi hp, ⟨f, fun i hi => by rw [h6 i hi]; exact a5 i hi, a6, a7⟩, by rw [h7]; exact a8, a9⟩
theorem c_put {h : Hp} (R : Sta h s S z) (sl : Sl S 1 0 1) {b p v : Nat} (hb : b < 16) (hp : p ≤ 16) (hv : v < 128) :
    ∃ h', fX5_put s (nI b) (nI p) (nI v) h = some (.inl (some (.int (oI (pIx S b p v)))), h') ∧ Own h h' s ∧ Sta h' s (mk S b p v 0 0 0 0) z := by
  have hB := R.bd
  have hB1 := hB.1
  have hun := R.un
  have hso := R.so
  obtain ⟨r1, ⟨r2, r3, r4⟩, ⟨r5, r6, r7⟩, ⟨r8, r9, r10⟩, ⟨r11, r12, r13⟩, ⟨r14, r15, r16⟩, ⟨r17, r18, r19⟩, ⟨r20, r21, r22⟩, -⟩ := id hso
  have hbm := bd_mk (S := S) hB sl hb hp hv (n1 := 0) (n2 := 0) (n3 := 0) (n4 := 0) (fun n hn => by simp at hn; subst hn; omega)
  obtain ⟨lo, hlo⟩ : ∃ lo, lo = 16 * b + (if p = 16 then 0 else p) := ⟨_, rfl⟩
  obtain ⟨hi, hhi⟩ : ∃ hi, hi = 16 * b + (if p = 16 then 15 else p) := ⟨_, rfl⟩
  have hlh : lo ≤ hi ∧ hi < 256 ∧ lo / 16 = b ∧ hi / 16 = b ∧ hi = lo + (if p = 16 then 15 else 0) ∧ lo % 16 = (if p = 16 then 0 else p) := by split at hlo <;> split at hhi <;> simp_all <;> omega
  obtain ⟨q1, q2, q3, q4, q5, q6⟩ := hlh
  have hsame : same S b p v = (List.range' lo (hi + 1 - lo)).all (fun x => mm S x == v) := by
    unfold same
    by_cases e : p = 16
    · simp only [e, if_true] at hlo q5 ⊢
      rw [show hi + 1 - lo = 16 by omega, hlo]
      simp only [Nat.add_zero]
      rw [List.range'_eq_map_range, List.all_map]
      rfl
    · simp only [e, if_false] at hlo q5 ⊢
      rw [show hi + 1 - lo = 1 by omega, hlo]
      simp [List.range'_succ]
  have hstart : fX5_put s (nI b) (nI p) (nI v) h = gX5_put FF 76 [.ref s, .int (nI b), .int (nI p), .int (nI v), .int (nI lo), .int (nI hi), .int 1, .int (nI lo), uV] [] h := by
    unfold fX5_put
    have hbb : nI b * 16 = nI (b * 16) := by rw [k16, pk_mul]
    by_cases e : p = 16
    · subst e
      simp only [if_true] at hlo hhi
      simp (maxSteps := 3000000) (disch := omega) only [kX5_put_0, r1, hun, ↓reduceIte, if_true, if_false, ite_not, not_true_eq_false, not_false_eq_true, ↓qqI_p, ↓qqR_p, ↓qqV_p, ↓qqIx_p, ↓qqRx_p, ↓qqVx_p, qqI_s, qqR_s, qqV_s, qqIx_s, qqRx_s, qqVx_s, qqIx_t, qqVx_t, ↓letH_s, inB_nI, nI_leI, nI_ltI, nI_eq, nI_eq0, nI_eqm, nI_eqn, nI_le0, nI_lt0, nI_0lt, nI_0le, nI_clamp, pk_mul, nI_add, pk_div, pk_sub, rem_n, z_add, add_z, m_cell, kmk, lmk, rmk, b2i_0, b2i_n1, bft, le_t, le_f, lt_t, lt_f, eq_t, eq_f, k1, k2, k3, k4, k5, k6, k7, k8, k9, k10, k11, k12, k13, k15, k16, k20, k24, k30, k60, k64, k99, k100, k200, k255, k256, k512, k2912, k3392, k3393, k3394, k3395, k3396, k3397, k3398]
      rw [hlo, hhi, Nat.mul_comm b 16]
      rfl
    · simp only [e, if_false] at hlo hhi
      simp (maxSteps := 3000000) (disch := omega) only [kX5_put_0, r1, hun, ↓reduceIte, if_true, if_false, ite_not, not_true_eq_false, not_false_eq_true, ↓qqI_p, ↓qqR_p, ↓qqV_p, ↓qqIx_p, ↓qqRx_p, ↓qqVx_p, qqI_s, qqR_s, qqV_s, qqIx_s, qqRx_s, qqVx_s, qqIx_t, qqVx_t, ↓letH_s, inB_nI, nI_leI, nI_ltI, nI_eq, nI_eq0, nI_eqm, nI_eqn, nI_le0, nI_lt0, nI_0lt, nI_0le, nI_clamp, pk_mul, nI_add, pk_div, pk_sub, rem_n, z_add, add_z, m_cell, kmk, lmk, rmk, b2i_0, b2i_n1, bft, le_t, le_f, lt_t, lt_f, eq_t, eq_f, k1, k2, k3, k4, k5, k6, k7, k8, k9, k10, k11, k12, k13, k15, k16, k20, k24, k30, k60, k64, k99, k100, k200, k255, k256, k512, k2912, k3392, k3393, k3394, k3395, k3396, k3397, k3398]
      rw [hlo, hhi, Nat.mul_comm b 16]
  have hgo := c_same_go R (b := nI b) (p := nI p) (v := nI v) (x1 := nI b) (x2 := nI p) (x4 := nI lo) (hi := hi) (vv := v) q2 hv rfl (hi + 1 - lo) lo FF true (by omega) (by show _ < 1000000; omega)
  rw [Bool.true_and, ← hsame] at hgo
  have hgo' : gX5_put FF 76 [.ref s, .int (nI b), .int (nI p), .int (nI v), .int (nI lo), .int (nI hi), .int 1, .int (nI lo), uV] [] h = _ := hgo
  rw [hstart, hgo']
  unfold pIx
  cases e : same S b p v with
  | true =>
    refine ⟨h, rfl, Own.refl h s, ?_⟩
    rw [show mk S b p v 0 0 0 0 = S by simp [mk, e]]
    exact R
  | false =>
    rw [if_neg (by decide), if_neg (by decide), show FF - (hi + 1 - lo) - 1 = 999999 - (hi + 1 - lo) from by show 1000000 - _ - 1 = _; omega]
    obtain ⟨h1, a1, a2, a3, a4, a5⟩ := c_cpy (S := S) (s := s) (b := b) (p := p) (v := v) (x2 := nI p) (k := (sC S).length) (hi := hi) hb hv (by have := sl.1; omega) q2 q4 (bd_mm hB) (hi + 1 - lo) lo (999999 - (hi + 1 - lo)) h (by omega) (Or.inl q3) (by omega) hso (fun y hy hy2 => R.mem (by omega))
    have O1 : SO h1 s := SO.eq a2 hso
    rw [a1]
    obtain ⟨N, hN⟩ : ∃ N, 999999 - (hi + 1 - lo) - (hi + 1 - lo) = N + 5 + 1 := ⟨999999 - (hi + 1 - lo) - (hi + 1 - lo) - 6, by split at q5 <;> omega⟩
    rw [hN, zX5_put_129]
    have s1 := sl.1
    simp (maxSteps := 3000000) (disch := omega) only [kX5_put_129, kh_eq a2, lh_eq a2, rh_eq a2, r1, r5, r6, r7, r8, r9, r10, r11, r12, r13, ↓reduceIte, if_true, if_false, ite_not, not_true_eq_false, not_false_eq_true, ↓qqI_p, ↓qqR_p, ↓qqV_p, ↓qqIx_p, ↓qqRx_p, ↓qqVx_p, qqI_s, qqR_s, qqV_s, qqIx_s, qqRx_s, qqVx_s, qqIx_t, qqVx_t, ↓letH_s, inB_nI, nI_leI, nI_ltI, nI_eq, nI_eq0, nI_eqm, nI_eqn, nI_le0, nI_lt0, nI_0lt, nI_0le, nI_clamp, pk_mul, nI_add, pk_div, pk_sub, rem_n, z_add, add_z, m_cell, kmk, lmk, rmk, b2i_0, b2i_n1, bft, le_t, le_f, lt_t, lt_f, eq_t, eq_f, k1, k2, k3, k4, k5, k6, k7, k8, k9, k10, k11, k12, k13, k15, k16, k20, k24, k30, k60, k64, k99, k100, k200, k255, k256, k512, k2912, k3392, k3393, k3394, k3395, k3396, k3397, k3398]
    generalize hI : upI (upI (upI h1.2 (s + 2) (sC S).length (nI b)) (s + 3) (sC S).length (nI p)) (s + 4) (sC S).length (nI v) = I
    have hIa : ∀ a, a ≠ s + 2 → a ≠ s + 3 → a ≠ s + 4 → I a = h1.2 a := fun a x1 x2 x3 => by rw [← hI, upI_ne x3, upI_ne x2, upI_ne x1]
    have hI2 : ∀ y, I (s + 2) y = if y = (sC S).length then nI b else h.2 (s + 2) y := fun y => by rw [← hI, upI_ne (by omega), upI_ne (by omega), upI_at, a3 _ (by omega) (by omega)]
    have hI3 : ∀ y, I (s + 3) y = if y = (sC S).length then nI p else h.2 (s + 3) y := fun y => by rw [← hI, upI_ne (by omega), upI_at, upI_ne (by omega), a3 _ (by omega) (by omega)]
    have hI4 : ∀ y, I (s + 4) y = if y = (sC S).length then nI v else h.2 (s + 4) y := fun y => by rw [← hI, upI_at, upI_ne (by omega), upI_ne (by omega), a3 _ (by omega) (by omega)]
    clear hI
    obtain ⟨h2, b1, b2, b3, b4⟩ := c_none (s := s) (k := (sC S).length) (by omega) 4 0 (N + 1) (h1.1, I) rfl (SO.eq (h := h1) rfl O1)
    have b1' : gX5_put (N + 5) 203 [.ref s, uV, uV, uV, uV, uV, uV, .int (nI (sC S).length), .int 0] [] (h1.1, I) = _ := b1
    rw [b1', zX5_put_203]
    dsimp only at b2 b3 b4
    have e2 : h2.1 = h.1 := b2.trans a2
    have hun2 : h2.2 s 2 = nI (sC S).length := by rw [b3 _ (by omega), hIa _ (by omega) (by omega) (by omega), a3 _ (by omega) (by omega)]; exact hun
    have hmd2 : h2.2 s 15 = nI (sM S) := by rw [b3 _ (by omega), hIa _ (by omega) (by omega) (by omega), a3 _ (by omega) (by omega)]; exact R.2.1.2.2.2.2.2.2.2.2.1
    have hu7 : upI h2.2 (s + 7) (sC S).length (-nI 1) s 2 = nI (sC S).length := by rw [upI_ne (by omega)]; exact hun2
    have hu8 : upI h2.2 (s + 7) (sC S).length (-nI 1) s 15 = nI (sM S) := by rw [upI_ne (by omega)]; exact hmd2
    simp (maxSteps := 3000000) (disch := omega) only [kX5_put_203, kh_eq e2, lh_eq e2, rh_eq e2, r1, r20, r21, r22, ↓reduceIte, if_true, if_false, ite_not, not_true_eq_false, not_false_eq_true, ↓qqI_p, ↓qqR_p, ↓qqV_p, ↓qqIx_p, ↓qqRx_p, ↓qqVx_p, qqI_s, qqR_s, qqV_s, qqIx_s, qqRx_s, qqVx_s, qqIx_t, qqVx_t, ↓letH_s, inB_nI, nI_leI, nI_ltI, nI_eq, nI_eq0, nI_eqm, nI_eqn, nI_le0, nI_lt0, nI_0lt, nI_0le, nI_clamp, pk_mul, nI_add, pk_div, pk_sub, rem_n, z_add, add_z, m_cell, kmk, lmk, rmk, b2i_0, b2i_n1, bft, le_t, le_f, lt_t, lt_f, eq_t, eq_f, k1, k2, k3, k4, k5, k6, k7, k8, k9, k10, k11, k12, k13, k15, k16, k20, k24, k30, k60, k64, k99, k100, k200, k255, k256, k512, k2912, k3392, k3393, k3394, k3395, k3396, k3397, k3398, hu7, upI_at, hu8]
    have hS : mk S b p v 0 0 0 0 = (sD S, sC S ++ [(sM S + 1, b, p, v, 0, 0, 0, 0)], sL S, sM S + 1, sW S, sH S, sK S) := by unfold mk; rw [e]; rfl
    have hf : ∀ a, a ≠ s → a ≠ s + 7 → upI (upI (upI h2.2 (s + 7) (sC S).length (-nI 1)) s 2 (nI ((sC S).length + 1))) s 15 (nI (sM S + 1)) a = h2.2 a := fun a x1 x2 => by rw [upI_ne x1, upI_ne x1, upI_ne x2]
    have hfs : ∀ y, y ≠ 2 → y ≠ 15 → upI (upI (upI h2.2 (s + 7) (sC S).length (-nI 1)) s 2 (nI ((sC S).length + 1))) s 15 (nI (sM S + 1)) s y = h.2 s y := fun y x1 x2 => by rw [upI_at, if_neg x2, upI_at, if_neg x1, upI_ne (by omega), b3 _ (by omega), hIa _ (by omega) (by omega) (by omega), a3 _ (by omega) (by omega)]
    have hf7 : ∀ y, upI (upI (upI h2.2 (s + 7) (sC S).length (-nI 1)) s 2 (nI ((sC S).length + 1))) s 15 (nI (sM S + 1)) (s + 7) y = if y = (sC S).length then -1 else h.2 (s + 7) y := fun y => by rw [upI_ne (by omega), upI_ne (by omega), upI_at, b3 _ (by omega), hIa _ (by omega) (by omega) (by omega), a3 _ (by omega) (by omega)]; rfl
    have ho : ∀ a, a ≠ s → a ≠ s + 1 → a ≠ s + 2 → a ≠ s + 3 → a ≠ s + 4 → a ≠ s + 5 → a ≠ s + 6 → a ≠ s + 7 → upI (upI (upI h2.2 (s + 7) (sC S).length (-nI 1)) s 2 (nI ((sC S).length + 1))) s 15 (nI (sM S + 1)) a = h.2 a := fun a x0 x1 x2 x3 x4 x5 x6 x7 => by rw [hf a x0 x7, b3 _ x6, hIa _ x2 x3 x4, a3 _ x1 x5]
    have g2 : upI (upI (upI h2.2 (s + 7) (sC S).length (-nI 1)) s 2 (nI ((sC S).length + 1))) s 15 (nI (sM S + 1)) (s + 2) = I (s + 2) := by rw [hf _ (by omega) (by omega), b3 _ (by omega)]
    have g3 : upI (upI (upI h2.2 (s + 7) (sC S).length (-nI 1)) s 2 (nI ((sC S).length + 1))) s 15 (nI (sM S + 1)) (s + 3) = I (s + 3) := by rw [hf _ (by omega) (by omega), b3 _ (by omega)]
    have g4 : upI (upI (upI h2.2 (s + 7) (sC S).length (-nI 1)) s 2 (nI ((sC S).length + 1))) s 15 (nI (sM S + 1)) (s + 4) = I (s + 4) := by rw [hf _ (by omega) (by omega), b3 _ (by omega)]
    have g5 : upI (upI (upI h2.2 (s + 7) (sC S).length (-nI 1)) s 2 (nI ((sC S).length + 1))) s 15 (nI (sM S + 1)) (s + 5) = h1.2 (s + 5) := by rw [hf _ (by omega) (by omega), b3 _ (by omega), hIa _ (by omega) (by omega) (by omega)]
    have g6 : upI (upI (upI h2.2 (s + 7) (sC S).length (-nI 1)) s 2 (nI ((sC S).length + 1))) s 15 (nI (sM S + 1)) (s + 6) = h2.2 (s + 6) := hf _ (by omega) (by omega)
    have g6' : ∀ y, h2.2 (s + 6) y = if 4 * (sC S).length + 0 ≤ y ∧ y < 4 * (sC S).length + 4 then -1 else h.2 (s + 6) y := fun y => by rw [b4, hIa _ (by omega) (by omega) (by omega), a3 _ (by omega) (by omega)]
    have g1 : upI (upI (upI h2.2 (s + 7) (sC S).length (-nI 1)) s 2 (nI ((sC S).length + 1))) s 15 (nI (sM S + 1)) (s + 1) = h1.2 (s + 1) := by rw [hf _ (by omega) (by omega), b3 _ (by omega), hIa _ (by omega) (by omega) (by omega)]
    refine ⟨_, rfl, ⟨e2, fun a ha => ho a (by omega) (by omega) (by omega) (by omega) (by omega) (by omega) (by omega) (by omega)⟩, SO.eq e2 hso, ?_, R.2.2.1, hbm⟩
    dsimp only
    obtain ⟨t1, t2, t3, t4, t5, t6, t7, t8, t9, t10, t11⟩ := R.2.1
    refine ⟨?_, fun x hx => ?_, fun x hx => ?_, ?_, ?_, ?_, ?_, ?_, ?_, fun pre c l hc => ?_, fun pre c l hc => ?_⟩
    · rw [hfs _ (by decide) (by decide)]; exact t1
    · rw [g1, a4, mm_mk, e, t2 x hx]
      simp only [Bool.false_eq_true, if_false]
      by_cases y : lo ≤ x ∧ x ≤ hi
      · rw [if_pos y, if_pos (tch_iff.mpr ⟨by show b = x / 16; omega, by show p = 16 ∨ p = x % 16; split at q5 <;> split at q6 <;> omega⟩)]
      · rw [if_neg y, if_neg (fun w => by have w1 : b = x / 16 := (tch_iff.mp w).1; have w2 : p = 16 ∨ p = x % 16 := (tch_iff.mp w).2; split at q5 <;> split at q6 <;> omega)]
    · rw [g1, a4, if_neg (by omega), t3 x hx, hS]
    · rw [upI_at, if_neg (by decide), upI_at, if_pos rfl, hS]
      show _ = nI (sC S ++ [_]).length
      rw [len1]
    · rw [hfs _ (by decide) (by decide), t5, hS]
    · rw [hfs _ (by decide) (by decide), t6, hS]
    · rw [hfs _ (by decide) (by decide), t7, hS]
    · rw [hfs _ (by decide) (by decide), t8, hS]
    · rw [upI_at, if_pos rfl, hS]
    · rw [hS] at hc ⊢
      have hc : sC S ++ [(sM S + 1, b, p, v, 0, 0, 0, 0)] = pre ++ c :: l := hc
      rcases List.eq_nil_or_concat l with rfl | ⟨l', y, rfl⟩
      · obtain ⟨e1, e3⟩ := List.append_inj' hc rfl
        cases e3
        subst e1
        refine ⟨by rw [g2, hI2, if_pos rfl], by rw [g3, hI3, if_pos rfl], by rw [g4, hI4, if_pos rfl], fun i hi' hpp => ?_, ⟨fun _ => none, fun i hi' => ?_, fun i _ j w => by simp at w, ?_⟩, by rw [hf7, if_pos rfl]; rfl, Int.le_refl 0, Int.le_refl 0, Int.le_refl 0⟩
        · rw [g5, a5, if_pos (by have hpp : p = 16 ∨ p = i := hpp; split at q5 <;> split at q6 <;> omega), show 16 * b + (16 * (sC S).length + i - 16 * (sC S).length) = 16 * b + i by omega]
          rfl
        · rw [g6, g6', if_pos (by omega)]; rfl
        · have hz : prs (sC S) (sM S + 1, b, p, v, 0, 0, 0, 0) = [] := by
            unfold prs
            rw [List.filter_eq_nil_iff]
            intro n hn
            have hn0 : n = 0 := by simp at hn; exact hn
            rw [hn0, any_id (fun e' he => by have := (hB.2.2.2.2.1 e' he).1; omega)]
            decide
          rw [hz]
          exact List.Perm.refl _
      · rw [List.concat_eq_append] at hc
        have h1' : sC S ++ [(sM S + 1, b, p, v, 0, 0, 0, 0)] = (pre ++ c :: l') ++ [y] := by rw [hc]; simp
        obtain ⟨e1, -⟩ := List.append_inj' h1' rfl
        have hl : (sC S).length = pre.length + 1 + l'.length := by rw [e1]; simp; omega
        refine Cst.mv (t10 pre c l' e1) ?_ ?_ ?_ (fun i hi' => ?_) (fun i hi' => ?_) ?_
        · rw [g2, hI2, if_neg (by omega)]
        · rw [g3, hI3, if_neg (by omega)]
        · rw [g4, hI4, if_neg (by omega)]
        · rw [g5, a5, if_neg (by omega)]
        · rw [g6, g6', if_neg (by omega)]
        · rw [hf7, if_neg (by omega)]
    · rw [hS] at hc ⊢
      obtain ⟨w1, P, c', T, w2, w3, w4⟩ := t11 pre c l hc
      refine ⟨by rw [ho _ (by omega) (by omega) (by omega) (by omega) (by omega) (by omega) (by omega) (by omega)]; exact w1, P, c', T ++ [(sM S + 1, b, p, v, 0, 0, 0, 0)], ?_, w3, by rw [ho _ (by omega) (by omega) (by omega) (by omega) (by omega) (by omega) (by omega) (by omega)]; exact w4⟩
      show sC S ++ _ = _
      rw [w2]
      simp
end C2
