/-! ===== under and deep: the reference; no path is long ===== -/
theorem cnt_le2 {p q : Nat → Bool} (h : ∀ x, p x = true → q x = true) : ∀ l : List Nat, l.countP p ≤ l.countP q := by
  intro l
  induction l with
  | nil => exact Nat.le_refl _
  | cons x l ih =>
    rw [List.countP_cons, List.countP_cons]
    by_cases hx : p x = true
    · rw [if_pos hx, if_pos (h x hx)]; omega
    · rw [if_neg hx]; split <;> omega
theorem cnt_lt2 {p q : Nat → Bool} (h : ∀ x, p x = true → q x = true) {y : Nat} (h1 : q y = true) (h2 : p y = false) : ∀ l : List Nat, y ∈ l → l.countP p < l.countP q := by
  intro l
  induction l with
  | nil => intro hy; cases hy
  | cons x l ih =>
    intro hy
    rw [List.countP_cons, List.countP_cons]
    rcases List.mem_cons.mp hy with e | e
    · subst e
      have := cnt_le2 h l
      rw [if_pos h1, if_neg (by rw [h2]; decide)]
      omega
    · have := ih e
      by_cases hx : p x = true
      · rw [if_pos hx, if_pos (h x hx)]; omega
      · rw [if_neg hx]; split <;> omega
/-- directories' births grow along edges -/
def Rk (B : Nat → Nat) (r : Nat → Int) : Prop := ∀ d, d < 12 → isK B d 2 = true → ∀ e ∈ ents B d, B e ≠ 0 → isK B (B (e + 1)) 2 = true → r d < r (B (e + 1))
def hgt (B : Nat → Nat) (r : Nat → Int) (n : Nat) : Nat := (List.range 12).countP (fun m => isK B m 2 && decide (r n < r m))
theorem hgt_lt {B : Nat → Nat} {r : Nat → Int} {n y : Nat} (hy : y < 12) (hk : isK B y 2 = true) (h : r n < r y) : hgt B r y < hgt B r n := by
  unfold hgt
  refine cnt_lt2 (fun x hx => ?_) (y := y) ?_ ?_ _ (List.mem_range.mpr hy)
  · rw [Bool.and_eq_true, decide_eq_true_eq] at hx ⊢
    exact ⟨hx.1, by omega⟩
  · rw [hk, Bool.true_and, decide_eq_true_eq]; exact h
  · simp
theorem hgt_11 {B : Nat → Nat} {r : Nat → Int} {n : Nat} (hn : n < 12) : hgt B r n < 12 := by
  have h1 : hgt B r n < (List.range 12).countP (fun _ => true) := by
    unfold hgt
    exact cnt_lt2 (fun _ _ => rfl) (y := n) rfl (by simp) _ (List.mem_range.mpr hn)
  have h2 : (List.range 12).countP (fun _ => true) = 12 := by decide
  omega
theorem und_no {B : Nat → Nat} {y : Nat} (h : isK B y 2 = false) (f : Nat) : und B f y = 0 := by
  cases f with
  | zero => rfl
  | succ f => rw [und_s, if_neg (by rw [h]; decide)]
theorem und_st {B : Nat → Nat} {r : Nat → Int} (W : Wf B) (K : Rk B r) : ∀ (f g n : Nat), n < 12 → hgt B r n < f → hgt B r n < g → und B f n = und B g n := by
  intro f
  induction f with
  | zero => intro g n _ h; omega
  | succ f ih =>
    intro g n hn h1 h2
    obtain ⟨g, rfl⟩ := sc h2
    rw [und_s, und_s]
    by_cases hk : isK B n 2 = true
    · rw [if_pos hk, if_pos hk]
      refine foldl_cg _ _ (fun e he a => ?_)
      unfold undF
      by_cases h0 : B e = 0
      · rw [if_pos h0, if_pos h0]
      · rw [if_neg h0, if_neg h0]
        have ht : fd B n 1 = 2 := by unfold isK at hk; simp at hk; exact hk.2
        have hy := W.2.2 n hn ht e he h0
        cases hky : isK B (B (e + 1)) 2 with
        | false => rw [und_no hky, und_no hky]
        | true =>
          have := hgt_lt (r := r) (n := n) hy hky (K n hn hk e he h0 hky)
          rw [ih g _ hy (by omega) (by omega)]
    · rw [if_neg hk, if_neg hk]
theorem dep_no {B : Nat → Nat} {y : Nat} (h : isK B y 2 = false) (f : Nat) : dep B f y = 0 := by
  cases f with
  | zero => rw [dep_0, if_neg (by rw [h]; decide)]
  | succ f => rw [dep_s, if_neg (by rw [h]; decide)]
theorem dep_z {B : Nat → Nat} {r : Nat → Int} (W : Wf B) (K : Rk B r) {n : Nat} (hn : n < 12) (h : hgt B r n = 0) (hk : isK B n 2 = true) (f : Nat) : dep B f n = 1 := by
  cases f with
  | zero => rw [dep_0, if_pos hk]
  | succ f =>
    rw [dep_s, if_pos hk]
    have hz : ∀ l : List Nat, (∀ e ∈ l, e ∈ ents B n) → l.foldl (depF B (dep B f)) 0 = 0 := by
      intro l
      induction l with
      | nil => intro _; rfl
      | cons e l ih =>
        intro hl
        rw [List.foldl_cons]
        have he := hl e List.mem_cons_self
        have : depF B (dep B f) 0 e = 0 := by
          unfold depF
          by_cases h0 : B e = 0
          · rw [if_pos h0]
          · rw [if_neg h0]
            have ht : fd B n 1 = 2 := by unfold isK at hk; simp at hk; exact hk.2
            have hy := W.2.2 n hn ht e he h0
            cases hky : isK B (B (e + 1)) 2 with
            | false => rw [dep_no hky]; rfl
            | true =>
              have := hgt_lt (r := r) (n := n) hy hky (K n hn hk e he h0 hky)
              omega
        rw [this]
        exact ih (fun e' he' => hl e' (List.mem_cons_of_mem _ he'))
    rw [hz _ (fun _ h => h)]
    rfl
theorem dep_st {B : Nat → Nat} {r : Nat → Int} (W : Wf B) (K : Rk B r) : ∀ (f g n : Nat), n < 12 → hgt B r n ≤ f → hgt B r n ≤ g → dep B f n = dep B g n := by
  intro f
  induction f with
  | zero =>
    intro g n hn h1 h2
    by_cases hk : isK B n 2 = true
    · rw [dep_z W K hn (by omega) hk, dep_z W K hn (by omega) hk]
    · have hk : isK B n 2 = false := by simpa using hk
      rw [dep_no hk, dep_no hk]
  | succ f ih =>
    intro g n hn h1 h2
    by_cases hk : isK B n 2 = true
    · by_cases hz : hgt B r n = 0
      · rw [dep_z W K hn hz hk, dep_z W K hn hz hk]
      · obtain ⟨g, rfl⟩ : ∃ g', g = g' + 1 := ⟨g - 1, by omega⟩
        rw [dep_s, dep_s, if_pos hk, if_pos hk]
        refine congrArg _ (foldl_cg _ _ (fun e he a => ?_))
        unfold depF
        by_cases h0 : B e = 0
        · rw [if_pos h0, if_pos h0]
        · rw [if_neg h0, if_neg h0]
          have ht : fd B n 1 = 2 := by unfold isK at hk; simp at hk; exact hk.2
          have hy := W.2.2 n hn ht e he h0
          cases hky : isK B (B (e + 1)) 2 with
          | false => rw [dep_no hky, dep_no hky]
          | true =>
            have := hgt_lt (r := r) (n := n) hy hky (K n hn hk e he h0 hky)
            rw [ih g _ hy (by omega) (by omega)]
    · have hk : isK B n 2 = false := by simpa using hk
      rw [dep_no hk, dep_no hk]
theorem mx_more (a b : Int32) (h : Hp) : fX10_more a b h = some (.inl (some (.int (mxI a b))), h) := by
  unfold fX10_more kX10_more_0 mxI
  by_cases h1 : a < b
  · rw [if_pos h1, if_pos (by rw [Int32.le_iff_toInt_le]; rw [Int32.lt_iff_toInt_lt] at h1; omega)]
  · by_cases h2 : a ≤ b
    · have : a = b := by
        rw [Int32.lt_iff_toInt_lt] at h1
        rw [Int32.le_iff_toInt_le] at h2
        exact Int32.toInt_inj.mp (by omega)
      rw [if_neg h1, if_pos h2, this]
    · rw [if_neg h1, if_neg h2]
section U3
variable {h : Hp} {m r w : Nat} {B k0 : Nat → Nat}
theorem q_under_go (hm : kH h m = 18) (hr : rH h m 22 = r) (R : RB h r w B) (W : Wf B) {n : Nat} (hn : n < 12) (hk : isK B n 2 = true) {F : Nat → Int32} {FX : Nat → Int32 → Int32 → Hp → RS} (hF : ∀ e ∈ ents B n, B e ≠ 0 → FX m (nI (256 * w)) (nI (B (e + 1))) h = some (.inl (some (.int (F (B (e + 1))))), h)) : ∀ (l pre : List Nat) (q : Nat) (a : Int32), ents B n = pre ++ l → l.length < q →
    gX10_underOf FX q 5 [.ref m, .int (nI (256 * w)), .int (nI n), .int a, .int (nI pre.length), uV] [] h = some (.inl (some (.int (l.foldl (undF B F) a))), h) := by
  obtain ⟨rk, rl, rw', -, rB⟩ := id R
  have hi : fX10_isKind r (nI (256 * w)) (nI n) 2 h = some (.inl (some (.int (b2i true))), h) := by
    have := q_isKind R hn (t := 2) (by decide)
    rw [hk] at this
    exact this
  intro l
  induction l with
  | nil =>
    intro pre q a e hq
    obtain ⟨q, rfl⟩ := sc hq
    rw [List.append_nil] at e
    have he := q_entE R W.1 hn e
    rw [zX10_underOf_5]
    unfold kX10_underOf_5
    rw [if_pos hm, hr, hi, bI_s, if_neg (by decide), if_pos hm, hr, he, bI_s, if_pos rfl]
    rfl
  | cons z l ih =>
    intro pre q a e hq
    obtain ⟨q, rfl⟩ := sc hq
    obtain ⟨he, hz, hp⟩ := q_ent R W.1 hn e
    have ih := ih (pre ++ [z]) q
    rw [len1] at ih
    have hs1 : nI pre.length + 1 = nI (pre.length + 1) := by simp (maxSteps := 3000000) (disch := omega) only [↓reduceIte, if_true, if_false, ite_not, not_true_eq_false, not_false_eq_true, ↓qqI_p, ↓qqR_p, ↓qqV_p, ↓qqIx_p, ↓qqRx_p, ↓qqVx_p, qqI_s, qqR_s, qqV_s, qqIx_s, qqRx_s, qqVx_s, qqIx_t, qqVx_t, ↓letH_s, inB_nI, nI_leI, nI_ltI, nI_eq, nI_eq0, nI_eqm, nI_eqn, nI_le0, nI_lt0, nI_0lt, nI_0le, nI_clamp, pk_mul, nI_add, pk_div, pk_sub, rem_n, z_add, add_z, m_cell, kmk, lmk, rmk, b2i_0, b2i_n1, bft, le_t, le_f, lt_t, lt_f, eq_t, eq_f, k1, k2, k3, k4, k5, k6, k7, k8, k9, k10, k11, k12, k13, k15, k16, k20, k24, k30, k60, k64, k99, k100, k200, k255, k256, k512, k2912, k3392, k3393, k3394, k3395, k3396, k3397, k3398]
    have hb1 : inB (nI (256 * w) + nI z) 3398 = true := by simp (maxSteps := 3000000) (disch := omega) only [↓reduceIte, if_true, if_false, ite_not, not_true_eq_false, not_false_eq_true, ↓qqI_p, ↓qqR_p, ↓qqV_p, ↓qqIx_p, ↓qqRx_p, ↓qqVx_p, qqI_s, qqR_s, qqV_s, qqIx_s, qqRx_s, qqVx_s, qqIx_t, qqVx_t, ↓letH_s, inB_nI, nI_leI, nI_ltI, nI_eq, nI_eq0, nI_eqm, nI_eqn, nI_le0, nI_lt0, nI_0lt, nI_0le, nI_clamp, pk_mul, nI_add, pk_div, pk_sub, rem_n, z_add, add_z, m_cell, kmk, lmk, rmk, b2i_0, b2i_n1, bft, le_t, le_f, lt_t, lt_f, eq_t, eq_f, k1, k2, k3, k4, k5, k6, k7, k8, k9, k10, k11, k12, k13, k15, k16, k20, k24, k30, k60, k64, k99, k100, k200, k255, k256, k512, k2912, k3392, k3393, k3394, k3395, k3396, k3397, k3398] <;> omega
    have hb2 : inB (nI (256 * w) + nI z + 1) 3398 = true := by simp (maxSteps := 3000000) (disch := omega) only [↓reduceIte, if_true, if_false, ite_not, not_true_eq_false, not_false_eq_true, ↓qqI_p, ↓qqR_p, ↓qqV_p, ↓qqIx_p, ↓qqRx_p, ↓qqVx_p, qqI_s, qqR_s, qqV_s, qqIx_s, qqRx_s, qqVx_s, qqIx_t, qqVx_t, ↓letH_s, inB_nI, nI_leI, nI_ltI, nI_eq, nI_eq0, nI_eqm, nI_eqn, nI_le0, nI_lt0, nI_0lt, nI_0le, nI_clamp, pk_mul, nI_add, pk_div, pk_sub, rem_n, z_add, add_z, m_cell, kmk, lmk, rmk, b2i_0, b2i_n1, bft, le_t, le_f, lt_t, lt_f, eq_t, eq_f, k1, k2, k3, k4, k5, k6, k7, k8, k9, k10, k11, k12, k13, k15, k16, k20, k24, k30, k60, k64, k99, k100, k200, k255, k256, k512, k2912, k3392, k3393, k3394, k3395, k3396, k3397, k3398] <;> omega
    have hx1 : (nI (256 * w) + nI z).toNatClampNeg = 256 * w + z := by simp (maxSteps := 3000000) (disch := omega) only [↓reduceIte, if_true, if_false, ite_not, not_true_eq_false, not_false_eq_true, ↓qqI_p, ↓qqR_p, ↓qqV_p, ↓qqIx_p, ↓qqRx_p, ↓qqVx_p, qqI_s, qqR_s, qqV_s, qqIx_s, qqRx_s, qqVx_s, qqIx_t, qqVx_t, ↓letH_s, inB_nI, nI_leI, nI_ltI, nI_eq, nI_eq0, nI_eqm, nI_eqn, nI_le0, nI_lt0, nI_0lt, nI_0le, nI_clamp, pk_mul, nI_add, pk_div, pk_sub, rem_n, z_add, add_z, m_cell, kmk, lmk, rmk, b2i_0, b2i_n1, bft, le_t, le_f, lt_t, lt_f, eq_t, eq_f, k1, k2, k3, k4, k5, k6, k7, k8, k9, k10, k11, k12, k13, k15, k16, k20, k24, k30, k60, k64, k99, k100, k200, k255, k256, k512, k2912, k3392, k3393, k3394, k3395, k3396, k3397, k3398] <;> omega
    have hx2 : (nI (256 * w) + nI z + 1).toNatClampNeg = 256 * w + (z + 1) := by simp (maxSteps := 3000000) (disch := omega) only [↓reduceIte, if_true, if_false, ite_not, not_true_eq_false, not_false_eq_true, ↓qqI_p, ↓qqR_p, ↓qqV_p, ↓qqIx_p, ↓qqRx_p, ↓qqVx_p, qqI_s, qqR_s, qqV_s, qqIx_s, qqRx_s, qqVx_s, qqIx_t, qqVx_t, ↓letH_s, inB_nI, nI_leI, nI_ltI, nI_eq, nI_eq0, nI_eqm, nI_eqn, nI_le0, nI_lt0, nI_0lt, nI_0le, nI_clamp, pk_mul, nI_add, pk_div, pk_sub, rem_n, z_add, add_z, m_cell, kmk, lmk, rmk, b2i_0, b2i_n1, bft, le_t, le_f, lt_t, lt_f, eq_t, eq_f, k1, k2, k3, k4, k5, k6, k7, k8, k9, k10, k11, k12, k13, k15, k16, k20, k24, k30, k60, k64, k99, k100, k200, k255, k256, k512, k2912, k3392, k3393, k3394, k3395, k3396, k3397, k3398] <;> omega
    have hr1 := q_rd R (x := z) (by omega)
    have hr2 := q_rd R (x := z + 1) (by omega)
    have hzm : ¬ nI z = -1 := fun e => (nI_eqm (by omega)).mp e
    rw [zX10_underOf_5]
    unfold kX10_underOf_5
    rw [if_pos hm, hr, hi, bI_s, if_neg (by decide), if_pos hm, hr, he, bI_s, if_neg hzm, if_pos hm, hr, he, bI_s, if_pos hm, hr, if_pos rk, rl, if_pos hb1, hx1, hr1, List.foldl_cons]
    have hb := rB z
    by_cases h0 : B z = 0
    · rw [if_neg (by rw [h0]; decide), hs1]
      have hu : undF B F a z = a := by unfold undF; rw [if_pos h0]
      rw [hu, show a + 0 = a from Int32.add_zero a]
      exact ih a (app1 e) (by simp at hq; omega)
    · rw [if_pos (by intro q'; exact h0 ((nI_eq0 (by omega)).mp q')), if_pos hb2, hx2, hr2, hF z (by rw [e]; simp) h0, bI_s, hs1]
      have hu : undF B F a z = a + (1 + F (B (z + 1))) := by unfold undF; rw [if_neg h0]
      rw [hu]
      exact ih _ (app1 e) (by simp at hq; omega)
theorem q_under_k (hm : kH h m = 18) (hr : rH h m 22 = r) (R : RB h r w B) (W : Wf B) {rk : Nat → Int} (K : Rk B rk) : ∀ (k n : Nat), n < 12 → 1 ≤ k → (isK B n 2 = true → hgt B rk n + 2 ≤ k) → rX10_underOf k m (nI (256 * w)) (nI n) h = some (.inl (some (.int (und B k n))), h) := by
  intro k
  induction k with
  | zero => intro n _ h1; omega
  | succ k ih =>
    intro n hn _ hh
    show kX10_underOf_0 (gX10_underOf (rX10_underOf k) FF) (rX10_underOf k) m (nI (256 * w)) (nI n) h = _
    unfold kX10_underOf_0
    cases hk : isK B n 2 with
    | true =>
      have hh := hh hk
      have ht : fd B n 1 = 2 := by unfold isK at hk; simp at hk; exact hk.2
      have hgo := q_under_go hm hr R W hn hk (F := und B k) (FX := rX10_underOf k) (fun e he h0 => ih _ (W.2.2 n hn ht e he h0) (by omega) (fun hky => by
        have := hgt_lt (r := rk) (n := n) (W.2.2 n hn ht e he h0) hky (K n hn hk e he h0 hky)
        omega)) (ents B n) [] FF 0 rfl (by have := ents_len B n; show _ < 1000000; omega)
      refine Eq.trans hgo ?_
      rw [und_s, if_pos hk]
    | false =>
      have hi : fX10_isKind r (nI (256 * w)) (nI n) 2 h = some (.inl (some (.int (b2i false))), h) := by
        have := q_isKind R hn (t := 2) (by decide)
        rw [hk] at this
        exact this
      have : (FF : Nat) = 999999 + 1 := rfl
      rw [this]
      have hz := zX10_underOf_5 (rX10_underOf k) 999999 m (nI (256 * w)) (nI n) 0 0 uV h
      rw [hz]
      unfold kX10_underOf_5
      rw [if_pos hm, hr, hi, bI_s, if_pos (by decide), und_no hk]
theorem q_under (hm : kH h m = 18) (hr : rH h m 22 = r) (R : RB h r w B) (W : Wf B) {rk : Nat → Int} (K : Rk B rk) {n : Nat} (hn : n < 12) : fX10_underOf m (nI (256 * w)) (nI n) h = some (.inl (some (.int (und B 12 n))), h) := by
  have h11 := hgt_11 (B := B) (r := rk) hn
  have := q_under_k hm hr R W K 40 n hn (by decide) (fun _ => by omega)
  rw [und_st W K 40 12 n hn (by omega) h11] at this
  exact this
theorem q_deep_go (hm : kH h m = 18) (hr : rH h m 22 = r) (R : RB h r w B) (W : Wf B) {n : Nat} (hn : n < 12) {F : Nat → Int32} {FX : Nat → Int32 → Int32 → Hp → RS} (hF : ∀ e ∈ ents B n, B e ≠ 0 → FX m (nI (256 * w)) (nI (B (e + 1))) h = some (.inl (some (.int (F (B (e + 1))))), h)) : ∀ (l pre : List Nat) (q : Nat) (a : Int32), ents B n = pre ++ l → l.length < q →
    gX10_deepOf FX q 20 [.ref m, .int (nI (256 * w)), .int (nI n), .int a, .int (nI pre.length), uV] [] h = some (.inl (some (.int (l.foldl (depF B F) a + 1))), h) := by
  obtain ⟨rk, rl, rw', -, rB⟩ := id R
  intro l
  induction l with
  | nil =>
    intro pre q a e hq
    obtain ⟨q, rfl⟩ := sc hq
    rw [List.append_nil] at e
    have he := q_entE R W.1 hn e
    rw [zX10_deepOf_20]
    unfold kX10_deepOf_20
    rw [if_pos hm, hr, he, bI_s, if_pos rfl]
    rfl
  | cons z l ih =>
    intro pre q a e hq
    obtain ⟨q, rfl⟩ := sc hq
    obtain ⟨he, hz, hp⟩ := q_ent R W.1 hn e
    have ih := ih (pre ++ [z]) q
    rw [len1] at ih
    have hs1 : nI pre.length + 1 = nI (pre.length + 1) := by simp (maxSteps := 3000000) (disch := omega) only [↓reduceIte, if_true, if_false, ite_not, not_true_eq_false, not_false_eq_true, ↓qqI_p, ↓qqR_p, ↓qqV_p, ↓qqIx_p, ↓qqRx_p, ↓qqVx_p, qqI_s, qqR_s, qqV_s, qqIx_s, qqRx_s, qqVx_s, qqIx_t, qqVx_t, ↓letH_s, inB_nI, nI_leI, nI_ltI, nI_eq, nI_eq0, nI_eqm, nI_eqn, nI_le0, nI_lt0, nI_0lt, nI_0le, nI_clamp, pk_mul, nI_add, pk_div, pk_sub, rem_n, z_add, add_z, m_cell, kmk, lmk, rmk, b2i_0, b2i_n1, bft, le_t, le_f, lt_t, lt_f, eq_t, eq_f, k1, k2, k3, k4, k5, k6, k7, k8, k9, k10, k11, k12, k13, k15, k16, k20, k24, k30, k60, k64, k99, k100, k200, k255, k256, k512, k2912, k3392, k3393, k3394, k3395, k3396, k3397, k3398]
    have hb1 : inB (nI (256 * w) + nI z) 3398 = true := by simp (maxSteps := 3000000) (disch := omega) only [↓reduceIte, if_true, if_false, ite_not, not_true_eq_false, not_false_eq_true, ↓qqI_p, ↓qqR_p, ↓qqV_p, ↓qqIx_p, ↓qqRx_p, ↓qqVx_p, qqI_s, qqR_s, qqV_s, qqIx_s, qqRx_s, qqVx_s, qqIx_t, qqVx_t, ↓letH_s, inB_nI, nI_leI, nI_ltI, nI_eq, nI_eq0, nI_eqm, nI_eqn, nI_le0, nI_lt0, nI_0lt, nI_0le, nI_clamp, pk_mul, nI_add, pk_div, pk_sub, rem_n, z_add, add_z, m_cell, kmk, lmk, rmk, b2i_0, b2i_n1, bft, le_t, le_f, lt_t, lt_f, eq_t, eq_f, k1, k2, k3, k4, k5, k6, k7, k8, k9, k10, k11, k12, k13, k15, k16, k20, k24, k30, k60, k64, k99, k100, k200, k255, k256, k512, k2912, k3392, k3393, k3394, k3395, k3396, k3397, k3398] <;> omega
    have hb2 : inB (nI (256 * w) + nI z + 1) 3398 = true := by simp (maxSteps := 3000000) (disch := omega) only [↓reduceIte, if_true, if_false, ite_not, not_true_eq_false, not_false_eq_true, ↓qqI_p, ↓qqR_p, ↓qqV_p, ↓qqIx_p, ↓qqRx_p, ↓qqVx_p, qqI_s, qqR_s, qqV_s, qqIx_s, qqRx_s, qqVx_s, qqIx_t, qqVx_t, ↓letH_s, inB_nI, nI_leI, nI_ltI, nI_eq, nI_eq0, nI_eqm, nI_eqn, nI_le0, nI_lt0, nI_0lt, nI_0le, nI_clamp, pk_mul, nI_add, pk_div, pk_sub, rem_n, z_add, add_z, m_cell, kmk, lmk, rmk, b2i_0, b2i_n1, bft, le_t, le_f, lt_t, lt_f, eq_t, eq_f, k1, k2, k3, k4, k5, k6, k7, k8, k9, k10, k11, k12, k13, k15, k16, k20, k24, k30, k60, k64, k99, k100, k200, k255, k256, k512, k2912, k3392, k3393, k3394, k3395, k3396, k3397, k3398] <;> omega
    have hx1 : (nI (256 * w) + nI z).toNatClampNeg = 256 * w + z := by simp (maxSteps := 3000000) (disch := omega) only [↓reduceIte, if_true, if_false, ite_not, not_true_eq_false, not_false_eq_true, ↓qqI_p, ↓qqR_p, ↓qqV_p, ↓qqIx_p, ↓qqRx_p, ↓qqVx_p, qqI_s, qqR_s, qqV_s, qqIx_s, qqRx_s, qqVx_s, qqIx_t, qqVx_t, ↓letH_s, inB_nI, nI_leI, nI_ltI, nI_eq, nI_eq0, nI_eqm, nI_eqn, nI_le0, nI_lt0, nI_0lt, nI_0le, nI_clamp, pk_mul, nI_add, pk_div, pk_sub, rem_n, z_add, add_z, m_cell, kmk, lmk, rmk, b2i_0, b2i_n1, bft, le_t, le_f, lt_t, lt_f, eq_t, eq_f, k1, k2, k3, k4, k5, k6, k7, k8, k9, k10, k11, k12, k13, k15, k16, k20, k24, k30, k60, k64, k99, k100, k200, k255, k256, k512, k2912, k3392, k3393, k3394, k3395, k3396, k3397, k3398] <;> omega
    have hx2 : (nI (256 * w) + nI z + 1).toNatClampNeg = 256 * w + (z + 1) := by simp (maxSteps := 3000000) (disch := omega) only [↓reduceIte, if_true, if_false, ite_not, not_true_eq_false, not_false_eq_true, ↓qqI_p, ↓qqR_p, ↓qqV_p, ↓qqIx_p, ↓qqRx_p, ↓qqVx_p, qqI_s, qqR_s, qqV_s, qqIx_s, qqRx_s, qqVx_s, qqIx_t, qqVx_t, ↓letH_s, inB_nI, nI_leI, nI_ltI, nI_eq, nI_eq0, nI_eqm, nI_eqn, nI_le0, nI_lt0, nI_0lt, nI_0le, nI_clamp, pk_mul, nI_add, pk_div, pk_sub, rem_n, z_add, add_z, m_cell, kmk, lmk, rmk, b2i_0, b2i_n1, bft, le_t, le_f, lt_t, lt_f, eq_t, eq_f, k1, k2, k3, k4, k5, k6, k7, k8, k9, k10, k11, k12, k13, k15, k16, k20, k24, k30, k60, k64, k99, k100, k200, k255, k256, k512, k2912, k3392, k3393, k3394, k3395, k3396, k3397, k3398] <;> omega
    have hr1 := q_rd R (x := z) (by omega)
    have hr2 := q_rd R (x := z + 1) (by omega)
    have hzm : ¬ nI z = -1 := fun e => (nI_eqm (by omega)).mp e
    rw [zX10_deepOf_20]
    unfold kX10_deepOf_20
    rw [if_pos hm, hr, he, bI_s, if_neg hzm, if_pos hm, hr, he, bI_s, if_pos hm, hr, if_pos rk, rl, if_pos hb1, hx1, hr1, List.foldl_cons]
    have hb := rB z
    by_cases h0 : B z = 0
    · rw [if_neg (by rw [h0]; decide), hs1]
      have hu : depF B F a z = a := by unfold depF; rw [if_pos h0]
      rw [hu]
      exact ih a (app1 e) (by simp at hq; omega)
    · rw [if_pos (by intro q'; exact h0 ((nI_eq0 (by omega)).mp q')), if_pos hb2, hx2, hr2, hF z (by rw [e]; simp) h0, bI_s, mx_more, bI_s, hs1]
      have hu : depF B F a z = mxI a (F (B (z + 1))) := by unfold depF; rw [if_neg h0]
      rw [hu]
      exact ih _ (app1 e) (by simp at hq; omega)
theorem q_deep_k (hm : kH h m = 18) (hr : rH h m 22 = r) (R : RB h r w B) (W : Wf B) {rk : Nat → Int} (K : Rk B rk) : ∀ (k n : Nat), n < 12 → (isK B n 2 = true → hgt B rk n + 1 ≤ k) → rX10_deepOf (k + 1) m (nI (256 * w)) (nI n) h = some (.inl (some (.int (dep B k n))), h) := by
  intro k
  induction k with
  | zero =>
    intro n hn hh
    have hk : isK B n 2 = false := by
      cases hk : isK B n 2 with
      | false => rfl
      | true => have := hh hk; omega
    have hi : fX10_isKind r (nI (256 * w)) (nI n) 2 h = some (.inl (some (.int (b2i false))), h) := by
      have := q_isKind R hn (t := 2) (by decide)
      rw [hk] at this
      exact this
    show kX10_deepOf_0 (gX10_deepOf (rX10_deepOf 0) FF) (rX10_deepOf 0) m (nI (256 * w)) (nI n) h = _
    unfold kX10_deepOf_0
    rw [if_pos hm, hr, hi, bI_s, if_neg (by decide), dep_no hk]
  | succ k ih =>
    intro n hn hh
    show kX10_deepOf_0 (gX10_deepOf (rX10_deepOf (k + 1)) FF) (rX10_deepOf (k + 1)) m (nI (256 * w)) (nI n) h = _
    unfold kX10_deepOf_0
    have hi : fX10_isKind r (nI (256 * w)) (nI n) 2 h = some (.inl (some (.int (b2i (isK B n 2)))), h) := q_isKind R hn (t := 2) (by decide)
    rw [if_pos hm, hr, hi, bI_s]
    cases hk : isK B n 2 with
    | true =>
      have hh := hh hk
      have ht : fd B n 1 = 2 := by unfold isK at hk; simp at hk; exact hk.2
      rw [if_pos (by decide)]
      have hgo := q_deep_go hm hr R W hn (F := dep B k) (FX := rX10_deepOf (k + 1)) (fun e he h0 => ih _ (W.2.2 n hn ht e he h0) (fun hky => by
        have := hgt_lt (r := rk) (n := n) (W.2.2 n hn ht e he h0) hky (K n hn hk e he h0 hky)
        omega)) (ents B n) [] FF 0 rfl (by have := ents_len B n; show _ < 1000000; omega)
      refine Eq.trans hgo ?_
      rw [dep_s, if_pos hk, Int32.add_comm]
    | false => rw [if_neg (by decide), dep_no hk]
theorem q_deep (hm : kH h m = 18) (hr : rH h m 22 = r) (R : RB h r w B) (W : Wf B) {rk : Nat → Int} (K : Rk B rk) {n : Nat} (hn : n < 12) : fX10_deepOf m (nI (256 * w)) (nI n) h = some (.inl (some (.int (dep B 12 n))), h) := by
  have h11 := hgt_11 (B := B) (r := rk) hn
  have := q_deep_k hm hr R W K 39 n hn (fun _ => by omega)
  rw [dep_st W K 39 12 n hn (by omega) (by omega)] at this
  exact this
end U3
/-- of the invariant: ranks on both sides -/
theorem ent_pt2 {B : Nat → Nat} {d e : Nat} (he : e ∈ ents B d) : ∃ f u, (f = 2 ∨ f = 3) ∧ fd B d f ≠ 0 ∧ u < 8 ∧ e = 16 * fd B d f + 2 * u := by
  rcases List.mem_append.mp he with w | w
  · obtain ⟨w1, j, w2, w3⟩ := eb_mem.mp w
    exact ⟨2, j, Or.inl rfl, w1, w2, w3⟩
  · obtain ⟨w1, j, w2, w3⟩ := eb_mem.mp w
    exact ⟨3, j, Or.inr rfl, w1, w2, w3⟩
theorem inw_rk {S : St} {z k : Nat} (I : Inw S z k) : (∃ r, Rk (mm S) r) ∧ ∃ r, Rk (sD S) r := by
  obtain ⟨I, t, p, N⟩ := I
  have hisK : ∀ {B : Nat → Nat} {n : Nat}, isK B n 2 = true → fd B n 1 = 2 := fun {B n} hk => by unfold isK at hk; simp at hk; exact hk.2
  refine ⟨⟨tM S t, fun d hd hk e he h0 hky => ?_⟩, ⟨t, fun d hd hk e he h0 hky => ?_⟩⟩
  · obtain ⟨f, u, hf, w1, w2, w3⟩ := ent_pt2 he
    have hx : pa (16 + 4 * d + f) := by unfold pa; omega
    have htg : tg (16 + 4 * d + f) = 16 + 4 * d + 1 := by unfold tg; omega
    have hnx : nx (16 + 4 * d + f) = d := by unfold nx; omega
    subst w3
    obtain ⟨-, y2⟩ := edge_m I.2.1.1 N hx (by rw [htg]; exact hisK hk) w1 w2 h0
    rw [hnx] at y2
    exact Int.lt_trans (y2 (hisK hky)).1 (y2 (hisK hky)).2
  · obtain ⟨f, u, hf, w1, w2, w3⟩ := ent_pt2 he
    have hx : pa (16 + 4 * d + f) := by unfold pa; omega
    have htg : tg (16 + 4 * d + f) = 16 + 4 * d + 1 := by unfold tg; omega
    have hnx : nx (16 + 4 * d + f) = d := by unfold nx; omega
    subst w3
    obtain ⟨-, y2⟩ := edge_d N hx (by rw [htg]; exact hisK hk) w1 w2 h0
    rw [hnx] at y2
    exact y2 (hisK hky)
