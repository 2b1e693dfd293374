/-! ===== what is reached ===== -/
def Ed (B : Nat → Nat) (a b : Nat) : Prop := a < 12 ∧ fd B a 1 = 2 ∧ ∃ e ∈ ents B a, B e ≠ 0 ∧ B (e + 1) = b
def Rch (B : Nat → Nat) (n : Nat) : Prop := ∀ X : Nat → Prop, X 0 → (∀ a b, X a → Ed B a b → X b) → X n
noncomputable def isR (B : Nat → Nat) (n : Nat) : Bool := @decide (Rch B n) (Classical.propDecidable _)
theorem isR_iff {B : Nat → Nat} {n : Nat} : isR B n = true ↔ Rch B n := by unfold isR; exact @decide_eq_true_iff _ (Classical.propDecidable _)
noncomputable def rbits (B : Nat → Nat) : Nat := bitsOf (isR B) 12
/-- a side that is in order: pointers, links and tags, entries of directories -/
def Wf (B : Nat → Nat) : Prop := Pb B ∧ (∀ n, n < 12 → (fd B n 0 = 0 ↔ fd B n 1 = 0)) ∧ ∀ n, n < 12 → fd B n 1 = 2 → ∀ e ∈ ents B n, B e ≠ 0 → B (e + 1) < 12
theorem Wf.ed {B : Nat → Nat} (W : Wf B) {a b : Nat} (h : Ed B a b) : b < 12 := by
  obtain ⟨h1, h2, e, h3, h4, h5⟩ := h
  rw [← h5]
  exact W.2.2 a h1 h2 e h3 h4
def orK (B : Nat → Nat) (a : Nat) (l : List Nat) : Nat := l.foldl (fun a e => if B e = 0 then a else a ||| 2 ^ B (e + 1)) a
def orN (B : Nat → Nat) (been a : Nat) (l : List Nat) : Nat := l.foldl (fun a n => if been.testBit n = true ∧ fd B n 1 = 2 then orK B a (ents B n) else a) a
theorem orK_lt {B : Nat → Nat} {l : List Nat} (hl : ∀ e ∈ l, B e ≠ 0 → B (e + 1) < 12) : ∀ {a : Nat}, a < 2 ^ 12 → orK B a l < 2 ^ 12 := by
  induction l with
  | nil => exact fun h => h
  | cons z l ih =>
    intro a ha
    refine ih (fun e he => hl e (List.mem_cons_of_mem _ he)) ?_
    dsimp only
    split
    · exact ha
    · next q => exact Nat.or_lt_two_pow ha (Nat.pow_lt_pow_right (by decide) (hl z List.mem_cons_self q))
theorem orK_ge (B : Nat → Nat) (l : List Nat) : ∀ a, a ≤ orK B a l := by
  induction l with
  | nil => exact fun a => Nat.le_refl a
  | cons z l ih =>
    intro a
    refine Nat.le_trans ?_ (ih _)
    dsimp only
    split
    · exact Nat.le_refl a
    · exact Nat.left_le_or
theorem orK_bit (B : Nat → Nat) (l : List Nat) (k : Nat) : ∀ a, (orK B a l).testBit k = true ↔ a.testBit k = true ∨ ∃ e ∈ l, B e ≠ 0 ∧ B (e + 1) = k := by
  induction l with
  | nil => intro a; simp [orK]
  | cons z l ih =>
    intro a
    show (orK B _ l).testBit k = true ↔ _
    rw [ih]
    dsimp only
    by_cases q : B z = 0
    · rw [if_pos q]
      simp [q]
    · rw [if_neg q, Nat.testBit_or, Nat.testBit_two_pow, Bool.or_eq_true, decide_eq_true_iff]
      simp only [List.mem_cons, exists_eq_or_imp]
      constructor
      · rintro ((h | h) | h)
        · exact Or.inl h
        · exact Or.inr (Or.inl ⟨q, h⟩)
        · exact Or.inr (Or.inr h)
      · rintro (h | h | h)
        · exact Or.inl (Or.inl h)
        · exact Or.inl (Or.inr h.2)
        · exact Or.inr h
theorem orN_lt {B : Nat → Nat} (W : Wf B) {been : Nat} {l : List Nat} (hl : ∀ n ∈ l, n < 12) : ∀ {a : Nat}, a < 2 ^ 12 → orN B been a l < 2 ^ 12 := by
  induction l with
  | nil => exact fun h => h
  | cons z l ih =>
    intro a ha
    refine ih (fun e he => hl e (List.mem_cons_of_mem _ he)) ?_
    dsimp only
    split
    · next q => exact orK_lt (W.2.2 z (hl z List.mem_cons_self) q.2) ha
    · exact ha
theorem orN_ge (B : Nat → Nat) (been : Nat) (l : List Nat) : ∀ a, a ≤ orN B been a l := by
  induction l with
  | nil => exact fun a => Nat.le_refl a
  | cons z l ih =>
    intro a
    refine Nat.le_trans ?_ (ih _)
    dsimp only
    split
    · exact orK_ge B _ a
    · exact Nat.le_refl a
theorem orN_bit (B : Nat → Nat) (been : Nat) (l : List Nat) (k : Nat) : ∀ a, (orN B been a l).testBit k = true ↔ a.testBit k = true ∨ ∃ n ∈ l, been.testBit n = true ∧ fd B n 1 = 2 ∧ ∃ e ∈ ents B n, B e ≠ 0 ∧ B (e + 1) = k := by
  induction l with
  | nil => intro a; simp [orN]
  | cons z l ih =>
    intro a
    show (orN B been _ l).testBit k = true ↔ _
    rw [ih]
    dsimp only
    simp only [List.mem_cons, exists_eq_or_imp]
    by_cases q : been.testBit z = true ∧ fd B z 1 = 2
    · rw [if_pos q, orK_bit]
      constructor
      · rintro ((h | h) | h)
        · exact Or.inl h
        · exact Or.inr (Or.inl ⟨q.1, q.2, h⟩)
        · exact Or.inr (Or.inr h)
      · rintro (h | h | h)
        · exact Or.inl (Or.inl h)
        · exact Or.inl (Or.inr h.2.2)
        · exact Or.inr h
    · rw [if_neg q]
      constructor
      · rintro (h | h)
        · exact Or.inl h
        · exact Or.inr (Or.inr h)
      · rintro (h | h | h)
        · exact Or.inl h
        · exact absurd ⟨h.1, h.2.1⟩ q
        · exact Or.inr h
section Q2
variable {h : Hp} {r w : Nat} {B : Nat → Nat}
theorem q_kids (R : RB h r w B) (W : Wf B) {n : Nat} (hn : n < 12) (ht : fd B n 1 = 2) {been : Int32} : ∀ (l pre : List Nat) (q a : Nat), ents B n = pre ++ l → a < 2 ^ 12 →
    gX10_reached (q + l.length + 1) 48 [.ref r, .int (nI (256 * w)), .int (nI a), .int been, .int (nI n), .int (nI pre.length), uV] [] h = gX10_reached q 14 [.ref r, .int (nI (256 * w)), .int (nI (orK B a l)), .int been, .int (nI (n + 1)), uV, uV] [] h := by
  obtain ⟨rk, rl, rw', -, rB⟩ := id R
  intro l
  induction l with
  | nil =>
    intro pre q a e ha
    rw [List.append_nil] at e
    have he := q_entE R W.1 hn e
    rw [show q + ([] : List Nat).length + 1 = q + 1 from rfl, zX10_reached_48]
    unfold kX10_reached_48
    rw [he, bI_s, if_pos rfl, nI_1]
    rfl
  | cons z l ih =>
    intro pre q a e ha
    obtain ⟨he, hz, hp⟩ := q_ent R W.1 hn e
    have hwf := W.2.2 n hn ht z (by rw [e]; simp)
    have ih := fun a => ih (pre ++ [z]) q a (app1 e)
    simp only [len1] at ih
    have hr := q_rd R (x := z) (by omega)
    have hr1 : h.2 r (256 * w + z + 1) = nI (B (z + 1)) := by rw [Nat.add_assoc]; exact q_rd R (x := z + 1) (by omega)
    have hb := rB z
    have hb1 := rB (z + 1)
    rw [show q + (z :: l).length + 1 = (q + l.length + 1) + 1 by simp; omega, zX10_reached_48]
    by_cases e1 : B z = 0
    · have ih := ih a ha
      simp (maxSteps := 3000000) (disch := omega) only [kX10_reached_48, he, rk, rl, ↓reduceIte, if_true, if_false, ite_not, not_true_eq_false, not_false_eq_true, ↓qqI_p, ↓qqR_p, ↓qqV_p, ↓qqIx_p, ↓qqRx_p, ↓qqVx_p, qqI_s, qqR_s, qqV_s, qqIx_s, qqRx_s, qqVx_s, qqIx_t, qqVx_t, ↓letH_s, inB_nI, nI_leI, nI_ltI, nI_eq, nI_eq0, nI_eqm, nI_eqn, nI_le0, nI_lt0, nI_0lt, nI_0le, nI_clamp, pk_mul, nI_add, pk_div, pk_sub, rem_n, z_add, add_z, m_cell, kmk, lmk, rmk, b2i_0, b2i_n1, bft, le_t, le_f, lt_t, lt_f, eq_t, eq_f, k1, k2, k3, k4, k5, k6, k7, k8, k9, k10, k11, k12, k13, k15, k16, k20, k24, k30, k60, k64, k99, k100, k200, k255, k256, k512, k2912, k3392, k3393, k3394, k3395, k3396, k3397, k3398, hr, hr1, or_z, e1, ih]
      rw [show orK B a (z :: l) = orK B a l by unfold orK; rw [List.foldl_cons, if_pos e1]]
    · have hlt := hwf e1
      have h2 : 2 ^ B (z + 1) < 2 ^ 12 := Nat.pow_lt_pow_right (by decide) hlt
      have ih := ih (a ||| 2 ^ B (z + 1)) (Nat.or_lt_two_pow ha h2)
      have hor : nI a ||| nI 1 <<< (nI (B (z + 1)) &&& 31) = nI (a ||| 2 ^ B (z + 1)) := by rw [one_shl (by omega), or_nI31 (by omega) (by omega)]
      simp (maxSteps := 3000000) (disch := omega) only [kX10_reached_48, he, rk, rl, ↓reduceIte, if_true, if_false, ite_not, not_true_eq_false, not_false_eq_true, ↓qqI_p, ↓qqR_p, ↓qqV_p, ↓qqIx_p, ↓qqRx_p, ↓qqVx_p, qqI_s, qqR_s, qqV_s, qqIx_s, qqRx_s, qqVx_s, qqIx_t, qqVx_t, ↓letH_s, inB_nI, nI_leI, nI_ltI, nI_eq, nI_eq0, nI_eqm, nI_eqn, nI_le0, nI_lt0, nI_0lt, nI_0le, nI_clamp, pk_mul, nI_add, pk_div, pk_sub, rem_n, z_add, add_z, m_cell, kmk, lmk, rmk, b2i_0, b2i_n1, bft, le_t, le_f, lt_t, lt_f, eq_t, eq_f, k1, k2, k3, k4, k5, k6, k7, k8, k9, k10, k11, k12, k13, k15, k16, k20, k24, k30, k60, k64, k99, k100, k200, k255, k256, k512, k2912, k3392, k3393, k3394, k3395, k3396, k3397, k3398, hr, hr1, e1, hor, ih]
      rw [show orK B a (z :: l) = orK B (a ||| 2 ^ B (z + 1)) l by unfold orK; rw [List.foldl_cons, if_neg e1]]
theorem q_round (R : RB h r w B) (W : Wf B) {been : Nat} (hbe : been < 2 ^ 12) : ∀ (c n q a : Nat), n + c = 12 → a < 2 ^ 12 →
    ∃ q', q ≤ q' ∧ gX10_reached (q + 18 * c + 1) 14 [.ref r, .int (nI (256 * w)), .int (nI a), .int (nI been), .int (nI n), uV, uV] [] h = gX10_reached q' 4 [.ref r, .int (nI (256 * w)), .int (nI (orN B been a (List.range' n c))), .int (nI been), uV, uV, uV] [] h := by
  intro c
  induction c with
  | zero =>
    intro n q a hn ha
    refine ⟨q, Nat.le_refl _, ?_⟩
    rw [show q + 18 * 0 + 1 = q + 1 from rfl, zX10_reached_14]
    simp (maxSteps := 3000000) (disch := omega) only [kX10_reached_14, ↓reduceIte, if_true, if_false, ite_not, not_true_eq_false, not_false_eq_true, ↓qqI_p, ↓qqR_p, ↓qqV_p, ↓qqIx_p, ↓qqRx_p, ↓qqVx_p, qqI_s, qqR_s, qqV_s, qqIx_s, qqRx_s, qqVx_s, qqIx_t, qqVx_t, ↓letH_s, inB_nI, nI_leI, nI_ltI, nI_eq, nI_eq0, nI_eqm, nI_eqn, nI_le0, nI_lt0, nI_0lt, nI_0le, nI_clamp, pk_mul, nI_add, pk_div, pk_sub, rem_n, z_add, add_z, m_cell, kmk, lmk, rmk, b2i_0, b2i_n1, bft, le_t, le_f, lt_t, lt_f, eq_t, eq_f, k1, k2, k3, k4, k5, k6, k7, k8, k9, k10, k11, k12, k13, k15, k16, k20, k24, k30, k60, k64, k99, k100, k200, k255, k256, k512, k2912, k3392, k3393, k3394, k3395, k3396, k3397, k3398]
    rfl
  | succ c ih =>
    intro n q a hn ha
    have hh := m_has (a := been) (k := n) (by omega) (by omega) h
    have hf := q_fieldOf R (n := n) (f := 1) (by omega) (by decide)
    have g1 : fd B n 1 < 128 := R.2.2.2.2 _
    rw [show q + 18 * (c + 1) + 1 = (q + 18 * c + 18) + 1 by omega, zX10_reached_14, List.range'_succ]
    have hstep : ∀ z, orN B been a (n :: z) = orN B been (if been.testBit n = true ∧ fd B n 1 = 2 then orK B a (ents B n) else a) z := fun z => rfl
    rw [hstep]
    cases hb : been.testBit n with
    | false =>
      rw [hb] at hh
      obtain ⟨q', h1, h2⟩ := ih (n + 1) (q + 17) a (by omega) ha
      refine ⟨q', by omega, ?_⟩
      rw [show q + 17 + 18 * c + 1 = q + 18 * c + 18 by omega] at h2
      simp (maxSteps := 3000000) (disch := omega) only [kX10_reached_14, hh, ↓reduceIte, if_true, if_false, ite_not, not_true_eq_false, not_false_eq_true, ↓qqI_p, ↓qqR_p, ↓qqV_p, ↓qqIx_p, ↓qqRx_p, ↓qqVx_p, qqI_s, qqR_s, qqV_s, qqIx_s, qqRx_s, qqVx_s, qqIx_t, qqVx_t, ↓letH_s, inB_nI, nI_leI, nI_ltI, nI_eq, nI_eq0, nI_eqm, nI_eqn, nI_le0, nI_lt0, nI_0lt, nI_0le, nI_clamp, pk_mul, nI_add, pk_div, pk_sub, rem_n, z_add, add_z, m_cell, kmk, lmk, rmk, b2i_0, b2i_n1, bft, le_t, le_f, lt_t, lt_f, eq_t, eq_f, k1, k2, k3, k4, k5, k6, k7, k8, k9, k10, k11, k12, k13, k15, k16, k20, k24, k30, k60, k64, k99, k100, k200, k255, k256, k512, k2912, k3392, k3393, k3394, k3395, k3396, k3397, k3398]
      rw [if_neg (by simp)]
      exact h2
    | true =>
      rw [hb] at hh
      by_cases ht : fd B n 1 = 2
      · rw [if_pos ⟨rfl, ht⟩]
        have hk := orK_lt (W.2.2 n (by omega) ht) ha
        have hle := ents_len B n
        obtain ⟨q', h1, h2⟩ := ih (n + 1) (q + 16 - (ents B n).length) (orK B a (ents B n)) (by omega) hk
        have hkid := q_kids R W (n := n) (by omega) ht (been := nI been) (ents B n) [] (q + 16 - (ents B n).length + 18 * c + 1) a rfl ha
        refine ⟨q', by omega, ?_⟩
        rw [h2] at hkid
        rw [← hkid, show q + 16 - (ents B n).length + 18 * c + 1 + (ents B n).length + 1 = q + 18 * c + 18 by omega]
        simp (maxSteps := 3000000) (disch := omega) only [kX10_reached_14, hh, hf, ht, ↓reduceIte, if_true, if_false, ite_not, not_true_eq_false, not_false_eq_true, ↓qqI_p, ↓qqR_p, ↓qqV_p, ↓qqIx_p, ↓qqRx_p, ↓qqVx_p, qqI_s, qqR_s, qqV_s, qqIx_s, qqRx_s, qqVx_s, qqIx_t, qqVx_t, ↓letH_s, inB_nI, nI_leI, nI_ltI, nI_eq, nI_eq0, nI_eqm, nI_eqn, nI_le0, nI_lt0, nI_0lt, nI_0le, nI_clamp, pk_mul, nI_add, pk_div, pk_sub, rem_n, z_add, add_z, m_cell, kmk, lmk, rmk, b2i_0, b2i_n1, bft, le_t, le_f, lt_t, lt_f, eq_t, eq_f, k1, k2, k3, k4, k5, k6, k7, k8, k9, k10, k11, k12, k13, k15, k16, k20, k24, k30, k60, k64, k99, k100, k200, k255, k256, k512, k2912, k3392, k3393, k3394, k3395, k3396, k3397, k3398]
        rfl
      · rw [if_neg (fun q => ht q.2)]
        obtain ⟨q', h1, h2⟩ := ih (n + 1) (q + 17) a (by omega) ha
        refine ⟨q', by omega, ?_⟩
        rw [show q + 17 + 18 * c + 1 = q + 18 * c + 18 by omega] at h2
        simp (maxSteps := 3000000) (disch := omega) only [kX10_reached_14, hh, hf, ht, ↓reduceIte, if_true, if_false, ite_not, not_true_eq_false, not_false_eq_true, ↓qqI_p, ↓qqR_p, ↓qqV_p, ↓qqIx_p, ↓qqRx_p, ↓qqVx_p, qqI_s, qqR_s, qqV_s, qqIx_s, qqRx_s, qqVx_s, qqIx_t, qqVx_t, ↓letH_s, inB_nI, nI_leI, nI_ltI, nI_eq, nI_eq0, nI_eqm, nI_eqn, nI_le0, nI_lt0, nI_0lt, nI_0le, nI_clamp, pk_mul, nI_add, pk_div, pk_sub, rem_n, z_add, add_z, m_cell, kmk, lmk, rmk, b2i_0, b2i_n1, bft, le_t, le_f, lt_t, lt_f, eq_t, eq_f, k1, k2, k3, k4, k5, k6, k7, k8, k9, k10, k11, k12, k13, k15, k16, k20, k24, k30, k60, k64, k99, k100, k200, k255, k256, k512, k2912, k3392, k3393, k3394, k3395, k3396, k3397, k3398]
        simpa using h2
theorem q_reached_go (R : RB h r w B) (W : Wf B) : ∀ (u a been q : Nat), 4096 ≤ a + u → a < 2 ^ 12 → been < 2 ^ 12 → a.testBit 0 = true → (∀ k, a.testBit k = true → Rch B k) → (∀ i k, been.testBit i = true → Ed B i k → a.testBit k = true) → 218 * u + 2 < q →
    gX10_reached q 4 [.ref r, .int (nI (256 * w)), .int (nI a), .int (nI been), uV, uV, uV] [] h = some (.inl (some (.int (nI (rbits B)))), h) := by
  intro u
  induction u with
  | zero =>
    intro a been q hu ha
    omega
  | succ u ih =>
    intro a been q hu ha hbe h0 hR hC hq
    have done : ∀ b, b < 2 ^ 12 → b.testBit 0 = true → (∀ k, b.testBit k = true → Rch B k) → (∀ i k, b.testBit i = true → Ed B i k → b.testBit k = true) → b = rbits B := fun b hb b0 bR bC => by
      refine bitsOf_eq hb (fun k hk => ?_)
      rw [Bool.eq_iff_iff, isR_iff]
      refine ⟨bR k, fun hr => hr (fun n => b.testBit n = true) b0 (fun i j hi he => bC i j hi he)⟩
    obtain ⟨q, rfl⟩ : ∃ q', q = q' + 219 := ⟨q - 219, by omega⟩
    rw [show q + 219 = (q + 218) + 1 by omega, zX10_reached_4]
    unfold kX10_reached_4
    by_cases e : a = been
    · subst e
      rw [if_pos rfl, ← done a ha h0 hR hC]
    · rw [if_neg (by rw [nI_eq (by omega) (by omega)]; exact e)]
      obtain ⟨q', h1, h2⟩ := q_round R W ha 12 0 (q + 1) a rfl ha
      have h2' : gX10_reached (q + 218) 14 [.ref r, .int (nI (256 * w)), .int (nI a), .int (nI a), .int 0, uV, uV] [] h = _ := h2
      rw [h2']
      have hlt := orN_lt W (been := a) (l := List.range' 0 12) (fun n hn => by simp at hn; omega) ha
      have hge := orN_ge B a (List.range' 0 12) a
      have hbit := orN_bit B a (List.range' 0 12)
      have hmem : ∀ n, n < 12 → n ∈ List.range' 0 12 := fun n hn => by simp; omega
      have k0 := (hbit 0 a).mpr (Or.inl h0)
      have kR : ∀ k, (orN B a a (List.range' 0 12)).testBit k = true → Rch B k := fun k hk => by
        rcases (hbit k a).mp hk with q1 | ⟨n, q1, q2, q3, q4⟩
        · exact hR k q1
        · have hn : n < 12 := by simp at q1; omega
          exact fun X x0 xc => xc n k (hR n q2 X x0 xc) ⟨hn, q3, q4⟩
      have kC : ∀ i k, a.testBit i = true → Ed B i k → (orN B a a (List.range' 0 12)).testBit k = true := fun i k hi he => (hbit k a).mpr (Or.inr ⟨i, hmem i he.1, hi, he.2⟩)
      by_cases e2 : orN B a a (List.range' 0 12) = a
      · rw [e2] at kC ⊢
        obtain ⟨q', rfl⟩ : ∃ z, q' = z + 1 := ⟨q' - 1, by omega⟩
        rw [zX10_reached_4]
        unfold kX10_reached_4
        rw [if_pos rfl, ← done a ha h0 hR kC]
      · exact ih _ a q' (by omega) hlt ha k0 kR kC (by omega)
theorem q_reached (R : RB h r w B) (W : Wf B) : fX10_reached r (nI (256 * w)) h = some (.inl (some (.int (nI (rbits B)))), h) := by
  refine q_reached_go R W 4095 1 0 FF (by decide) (by decide) (by decide) (by decide) (fun k hk => ?_) (fun i k hi => by simp at hi) (by decide)
  have : k = 0 := by
    rw [show (1 : Nat) = 2 ^ 0 from rfl, Nat.testBit_two_pow] at hk
    have : 0 = k := by simpa using hk
    omega
  subst this
  exact fun X x0 _ => x0
theorem rbits_lt (B : Nat → Nat) : rbits B < 2 ^ 12 := bitsOf_lt _ _
theorem rbits_bit (B : Nat → Nat) {n : Nat} (hn : n < 12) : (rbits B).testBit n = isR B n := by
  unfold rbits
  rw [bitsOf_bit]
  simp [hn]
end Q2
