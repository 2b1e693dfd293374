/-! ===== names, pointers, leaks ===== -/
def cntE (B : Nat → Nat) (n k : Nat) : Nat := ((ents B n).filter (fun e => !(B e == 0) && B (e + 1) == k)).length
noncomputable def nmdS (B : Nat → Nat) (k : Nat) (l : List Nat) : Nat := (l.map (fun n => if isR B n = true ∧ fd B n 1 = 2 then cntE B n k else 0)).sum
noncomputable def nmd (B : Nat → Nat) (k : Nat) : Nat := nmdS B k (List.range' 0 12)
def ptrF (B : Nat → Nat) (bits b : Nat) : Option Nat := (List.range' 0 12).find? (fun n => bits.testBit n && (fd B n 2 == b || fd B n 3 == b))
def lnkN (B : Nat → Nat) : Nat := bitsOf (fun n => decide (0 < fd B n 0)) 12
noncomputable def isLeak (B : Nat → Nat) (b : Nat) : Bool := decide (4 ≤ b) && !(B b == 0) && (ptrF B (rbits B) b).isNone
noncomputable def leakN (B : Nat → Nat) (z : Nat) : Nat := bitsOf (isLeak B) z
def onesN (x : Nat) : Nat := ((List.range' 0 16).filter (fun k => x.testBit k)).length
def fNode (B : Nat → Nat) : Option Nat := (List.range' 0 12).find? (fun n => fd B n 0 == 0 && fd B n 1 == 0)
def fBlock (B : Nat → Nat) (z : Nat) : Option Nat := (List.range' 4 (z - 4)).find? (fun b => B b == 0)
def oI (x : Option Nat) : Int32 := match x with
  | some n => nI n
  | none => -1
theorem oI_s (n : Nat) : oI (some n) = nI n := rfl
theorem oI_n : oI none = -1 := rfl
theorem cntE_le (B : Nat → Nat) (n k : Nat) : cntE B n k ≤ 16 := Nat.le_trans (List.length_filter_le _ _) (ents_len B n)
theorem nmdS_le (B : Nat → Nat) (k : Nat) (l : List Nat) : nmdS B k l ≤ 16 * l.length := by
  unfold nmdS
  induction l with
  | nil => simp
  | cons z l ih =>
    have := cntE_le B z k
    simp only [List.map_cons, List.sum_cons, List.length_cons]
    split <;> omega
section Q3
variable {h : Hp} {r m w : Nat} {B : Nat → Nat}
theorem q_named_in (R : RB h r w B) (P : Pb B) {n k : Nat} (hn : n < 12) (hk : k < 2 ^ 31) {x4 : Int32} : ∀ (l pre : List Nat) (q a : Nat), ents B n = pre ++ l → a + l.length < 1000 →
    gX10_named (q + l.length + 1) 47 [.ref r, .int (nI (256 * w)), .int (nI k), .int (nI a), .int x4, .int (nI n), .int (nI pre.length), uV] [] h = gX10_named q 12 [.ref r, .int (nI (256 * w)), .int (nI k), .int (nI (a + (l.filter (fun e => !(B e == 0) && B (e + 1) == k)).length)), .int x4, .int (nI (n + 1)), uV, uV] [] h := by
  obtain ⟨rk, rl, rw', -, rB⟩ := id R
  intro l
  induction l with
  | nil =>
    intro pre q a e ha
    rw [List.append_nil] at e
    have he := q_entE R P hn e
    rw [show q + ([] : List Nat).length + 1 = q + 1 from rfl, zX10_named_47]
    unfold kX10_named_47
    rw [he, bI_s, if_pos rfl, nI_1]
    rfl
  | cons z l ih =>
    intro pre q a e ha
    obtain ⟨he, hz, hp⟩ := q_ent R P hn e
    have hll : l.length ≤ 16 := by have := ents_len B n; rw [e] at this; simp at this; omega
    have ih := fun a => ih (pre ++ [z]) q a (app1 e)
    simp only [len1] at ih
    have hr := q_rd R (x := z) (by omega)
    have hr1 : h.2 r (256 * w + z + 1) = nI (B (z + 1)) := by rw [Nat.add_assoc]; exact q_rd R (x := z + 1) (by omega)
    have hb := rB z
    have hb1 := rB (z + 1)
    rw [show q + (z :: l).length + 1 = (q + l.length + 1) + 1 by simp; omega, zX10_named_47, List.filter_cons]
    have ha : a + l.length + 1 < 1000 := by simp at ha; omega
    have ih0 := ih a (by omega)
    by_cases e1 : B z = 0
    · simp (maxSteps := 3000000) (disch := omega) only [kX10_named_47, he, rk, rl, ↓reduceIte, if_true, if_false, ite_not, not_true_eq_false, not_false_eq_true, ↓qqI_p, ↓qqR_p, ↓qqV_p, ↓qqIx_p, ↓qqRx_p, ↓qqVx_p, qqI_s, qqR_s, qqV_s, qqIx_s, qqRx_s, qqVx_s, qqIx_t, qqVx_t, ↓letH_s, inB_nI, nI_leI, nI_ltI, nI_eq, nI_eq0, nI_eqm, nI_eqn, nI_le0, nI_lt0, nI_0lt, nI_0le, nI_clamp, pk_mul, nI_add, pk_div, pk_sub, rem_n, z_add, add_z, m_cell, kmk, lmk, rmk, b2i_0, b2i_n1, bft, le_t, le_f, lt_t, lt_f, eq_t, eq_f, k1, k2, k3, k4, k5, k6, k7, k8, k9, k10, k11, k12, k13, k15, k16, k20, k24, k30, k60, k64, k99, k100, k200, k255, k256, k512, k2912, k3392, k3393, k3394, k3395, k3396, k3397, k3398, hr, hr1, e1, ih0]
      simp
    · have e2 : (B z == 0) = false := by simpa using e1
      by_cases e3 : B (z + 1) = k
      · have ih1 := ih (a + 1) (by omega)
        simp (maxSteps := 3000000) (disch := omega) only [kX10_named_47, he, rk, rl, ↓reduceIte, if_true, if_false, ite_not, not_true_eq_false, not_false_eq_true, ↓qqI_p, ↓qqR_p, ↓qqV_p, ↓qqIx_p, ↓qqRx_p, ↓qqVx_p, qqI_s, qqR_s, qqV_s, qqIx_s, qqRx_s, qqVx_s, qqIx_t, qqVx_t, ↓letH_s, inB_nI, nI_leI, nI_ltI, nI_eq, nI_eq0, nI_eqm, nI_eqn, nI_le0, nI_lt0, nI_0lt, nI_0le, nI_clamp, pk_mul, nI_add, pk_div, pk_sub, rem_n, z_add, add_z, m_cell, kmk, lmk, rmk, b2i_0, b2i_n1, bft, le_t, le_f, lt_t, lt_f, eq_t, eq_f, k1, k2, k3, k4, k5, k6, k7, k8, k9, k10, k11, k12, k13, k15, k16, k20, k24, k30, k60, k64, k99, k100, k200, k255, k256, k512, k2912, k3392, k3393, k3394, k3395, k3396, k3397, k3398, hr, hr1, e1, e3, ih1]
        rw [if_pos (by simp [e2]), List.length_cons, show a + ((l.filter (fun e => !(B e == 0) && B (e + 1) == k)).length + 1) = a + 1 + (l.filter (fun e => !(B e == 0) && B (e + 1) == k)).length by omega]
      · have e4 : (B (z + 1) == k) = false := by simpa using e3
        simp (maxSteps := 3000000) (disch := omega) only [kX10_named_47, he, rk, rl, ↓reduceIte, if_true, if_false, ite_not, not_true_eq_false, not_false_eq_true, ↓qqI_p, ↓qqR_p, ↓qqV_p, ↓qqIx_p, ↓qqRx_p, ↓qqVx_p, qqI_s, qqR_s, qqV_s, qqIx_s, qqRx_s, qqVx_s, qqIx_t, qqVx_t, ↓letH_s, inB_nI, nI_leI, nI_ltI, nI_eq, nI_eq0, nI_eqm, nI_eqn, nI_le0, nI_lt0, nI_0lt, nI_0le, nI_clamp, pk_mul, nI_add, pk_div, pk_sub, rem_n, z_add, add_z, m_cell, kmk, lmk, rmk, b2i_0, b2i_n1, bft, le_t, le_f, lt_t, lt_f, eq_t, eq_f, k1, k2, k3, k4, k5, k6, k7, k8, k9, k10, k11, k12, k13, k15, k16, k20, k24, k30, k60, k64, k99, k100, k200, k255, k256, k512, k2912, k3392, k3393, k3394, k3395, k3396, k3397, k3398, hr, hr1, e1, e3, ih0]
        simp [e4]
theorem q_named_go (R : RB h r w B) (W : Wf B) {k : Nat} (hk : k < 2 ^ 31) : ∀ (c n q a : Nat), n + c = 12 → a + 16 * c < 900 → 18 * c < q →
    gX10_named q 12 [.ref r, .int (nI (256 * w)), .int (nI k), .int (nI a), .int (nI (rbits B)), .int (nI n), uV, uV] [] h = some (.inl (some (.int (nI (a + nmdS B k (List.range' n c))))), h) := by
  intro c
  induction c with
  | zero =>
    intro n q a hn ha hq
    obtain ⟨q, rfl⟩ := sc hq
    rw [zX10_named_12]
    simp (maxSteps := 3000000) (disch := omega) only [kX10_named_12, ↓reduceIte, if_true, if_false, ite_not, not_true_eq_false, not_false_eq_true, ↓qqI_p, ↓qqR_p, ↓qqV_p, ↓qqIx_p, ↓qqRx_p, ↓qqVx_p, qqI_s, qqR_s, qqV_s, qqIx_s, qqRx_s, qqVx_s, qqIx_t, qqVx_t, ↓letH_s, inB_nI, nI_leI, nI_ltI, nI_eq, nI_eq0, nI_eqm, nI_eqn, nI_le0, nI_lt0, nI_0lt, nI_0le, nI_clamp, pk_mul, nI_add, pk_div, pk_sub, rem_n, z_add, add_z, m_cell, kmk, lmk, rmk, b2i_0, b2i_n1, bft, le_t, le_f, lt_t, lt_f, eq_t, eq_f, k1, k2, k3, k4, k5, k6, k7, k8, k9, k10, k11, k12, k13, k15, k16, k20, k24, k30, k60, k64, k99, k100, k200, k255, k256, k512, k2912, k3392, k3393, k3394, k3395, k3396, k3397, k3398]
    rfl
  | succ c ih =>
    intro n q a hn ha hq
    have hh := m_has (a := rbits B) (k := n) (by have := rbits_lt B; omega) (by omega) h
    rw [rbits_bit B (by omega)] at hh
    have hf := q_fieldOf R (n := n) (f := 1) (by omega) (by decide)
    have g1 : fd B n 1 < 128 := R.2.2.2.2 _
    obtain ⟨q, rfl⟩ : ∃ q', q = q' + 18 := ⟨q - 18, by omega⟩
    rw [show q + 18 = (q + 17) + 1 by omega, zX10_named_12, List.range'_succ]
    have hstep : ∀ z, nmdS B k (n :: z) = (if isR B n = true ∧ fd B n 1 = 2 then cntE B n k else 0) + nmdS B k z := fun z => by unfold nmdS; rw [List.map_cons, List.sum_cons]
    rw [hstep]
    cases hb : isR B n with
    | false =>
      rw [hb] at hh
      have ih := ih (n + 1) (q + 17) a (by omega) (by omega) (by omega)
      simp (maxSteps := 3000000) (disch := omega) only [kX10_named_12, hh, ↓reduceIte, if_true, if_false, ite_not, not_true_eq_false, not_false_eq_true, ↓qqI_p, ↓qqR_p, ↓qqV_p, ↓qqIx_p, ↓qqRx_p, ↓qqVx_p, qqI_s, qqR_s, qqV_s, qqIx_s, qqRx_s, qqVx_s, qqIx_t, qqVx_t, ↓letH_s, inB_nI, nI_leI, nI_ltI, nI_eq, nI_eq0, nI_eqm, nI_eqn, nI_le0, nI_lt0, nI_0lt, nI_0le, nI_clamp, pk_mul, nI_add, pk_div, pk_sub, rem_n, z_add, add_z, m_cell, kmk, lmk, rmk, b2i_0, b2i_n1, bft, le_t, le_f, lt_t, lt_f, eq_t, eq_f, k1, k2, k3, k4, k5, k6, k7, k8, k9, k10, k11, k12, k13, k15, k16, k20, k24, k30, k60, k64, k99, k100, k200, k255, k256, k512, k2912, k3392, k3393, k3394, k3395, k3396, k3397, k3398]
      rw [if_neg (by simp), Nat.zero_add]
      exact ih
    | true =>
      rw [hb] at hh
      by_cases ht : fd B n 1 = 2
      · have hle := ents_len B n
        have hcl := cntE_le B n k
        have hin := q_named_in R W.1 (n := n) (by omega) hk (x4 := nI (rbits B)) (ents B n) [] (q + 16 - (ents B n).length) a rfl (by omega)
        have ih := ih (n + 1) (q + 16 - (ents B n).length) (a + cntE B n k) (by omega) (by omega) (by omega)
        rw [if_pos ⟨rfl, ht⟩, ← Nat.add_assoc, ← ih]
        simp (maxSteps := 3000000) (disch := omega) only [kX10_named_12, hh, hf, ht, ↓reduceIte, if_true, if_false, ite_not, not_true_eq_false, not_false_eq_true, ↓qqI_p, ↓qqR_p, ↓qqV_p, ↓qqIx_p, ↓qqRx_p, ↓qqVx_p, qqI_s, qqR_s, qqV_s, qqIx_s, qqRx_s, qqVx_s, qqIx_t, qqVx_t, ↓letH_s, inB_nI, nI_leI, nI_ltI, nI_eq, nI_eq0, nI_eqm, nI_eqn, nI_le0, nI_lt0, nI_0lt, nI_0le, nI_clamp, pk_mul, nI_add, pk_div, pk_sub, rem_n, z_add, add_z, m_cell, kmk, lmk, rmk, b2i_0, b2i_n1, bft, le_t, le_f, lt_t, lt_f, eq_t, eq_f, k1, k2, k3, k4, k5, k6, k7, k8, k9, k10, k11, k12, k13, k15, k16, k20, k24, k30, k60, k64, k99, k100, k200, k255, k256, k512, k2912, k3392, k3393, k3394, k3395, k3396, k3397, k3398]
        rw [show q + 17 = q + 16 - (ents B n).length + (ents B n).length + 1 by omega]
        exact hin
      · have ih := ih (n + 1) (q + 17) a (by omega) (by omega) (by omega)
        simp (maxSteps := 3000000) (disch := omega) only [kX10_named_12, hh, hf, ht, ↓reduceIte, if_true, if_false, ite_not, not_true_eq_false, not_false_eq_true, ↓qqI_p, ↓qqR_p, ↓qqV_p, ↓qqIx_p, ↓qqRx_p, ↓qqVx_p, qqI_s, qqR_s, qqV_s, qqIx_s, qqRx_s, qqVx_s, qqIx_t, qqVx_t, ↓letH_s, inB_nI, nI_leI, nI_ltI, nI_eq, nI_eq0, nI_eqm, nI_eqn, nI_le0, nI_lt0, nI_0lt, nI_0le, nI_clamp, pk_mul, nI_add, pk_div, pk_sub, rem_n, z_add, add_z, m_cell, kmk, lmk, rmk, b2i_0, b2i_n1, bft, le_t, le_f, lt_t, lt_f, eq_t, eq_f, k1, k2, k3, k4, k5, k6, k7, k8, k9, k10, k11, k12, k13, k15, k16, k20, k24, k30, k60, k64, k99, k100, k200, k255, k256, k512, k2912, k3392, k3393, k3394, k3395, k3396, k3397, k3398]
        simpa using ih
theorem q_named (R : RB h r w B) (W : Wf B) {k : Nat} (hk : k < 2 ^ 31) : fX10_named r (nI (256 * w)) (nI k) h = some (.inl (some (.int (nI (nmd B k)))), h) := by
  unfold fX10_named kX10_named_0
  rw [q_reached R W, bI_s]
  have := q_named_go R W hk 12 0 FF 0 rfl (by decide) (by decide)
  rw [Nat.zero_add] at this
  exact this
theorem q_pointer_go (R : RB h r w B) {bits b : Nat} (hb : bits < 2 ^ 31) (hb2 : b < 2 ^ 31) : ∀ (c n q : Nat), n + c = 12 → c < q →
    gX10_pointer q 3 [.ref r, .int (nI (256 * w)), .int (nI bits), .int (nI b), .int (nI n)] [] h = some (.inl (some (.int (oI ((List.range' n c).find? (fun n => bits.testBit n && (fd B n 2 == b || fd B n 3 == b)))))), h) := by
  intro c
  induction c with
  | zero =>
    intro n q hn hq
    obtain ⟨q, rfl⟩ := sc hq
    rw [zX10_pointer_3]
    simp (maxSteps := 3000000) (disch := omega) only [kX10_pointer_3, ↓reduceIte, if_true, if_false, ite_not, not_true_eq_false, not_false_eq_true, ↓qqI_p, ↓qqR_p, ↓qqV_p, ↓qqIx_p, ↓qqRx_p, ↓qqVx_p, qqI_s, qqR_s, qqV_s, qqIx_s, qqRx_s, qqVx_s, qqIx_t, qqVx_t, ↓letH_s, inB_nI, nI_leI, nI_ltI, nI_eq, nI_eq0, nI_eqm, nI_eqn, nI_le0, nI_lt0, nI_0lt, nI_0le, nI_clamp, pk_mul, nI_add, pk_div, pk_sub, rem_n, z_add, add_z, m_cell, kmk, lmk, rmk, b2i_0, b2i_n1, bft, le_t, le_f, lt_t, lt_f, eq_t, eq_f, k1, k2, k3, k4, k5, k6, k7, k8, k9, k10, k11, k12, k13, k15, k16, k20, k24, k30, k60, k64, k99, k100, k200, k255, k256, k512, k2912, k3392, k3393, k3394, k3395, k3396, k3397, k3398]
    rfl
  | succ c ih =>
    intro n q hn hq
    obtain ⟨q, rfl⟩ := sc hq
    have hh := m_has (a := bits) (k := n) hb (by omega) h
    have h2 := q_fieldOf R (n := n) (f := 2) (by omega) (by decide)
    have h3 := q_fieldOf R (n := n) (f := 3) (by omega) (by decide)
    have g2 : fd B n 2 < 128 := R.2.2.2.2 _
    have g3 : fd B n 3 < 128 := R.2.2.2.2 _
    have ih := ih (n + 1) q (by omega) (by omega)
    rw [zX10_pointer_3, List.range'_succ, List.find?_cons]
    simp (maxSteps := 3000000) (disch := omega) only [kX10_pointer_3, hh, h2, h3, ↓reduceIte, if_true, if_false, ite_not, not_true_eq_false, not_false_eq_true, ↓qqI_p, ↓qqR_p, ↓qqV_p, ↓qqIx_p, ↓qqRx_p, ↓qqVx_p, qqI_s, qqR_s, qqV_s, qqIx_s, qqRx_s, qqVx_s, qqIx_t, qqVx_t, ↓letH_s, inB_nI, nI_leI, nI_ltI, nI_eq, nI_eq0, nI_eqm, nI_eqn, nI_le0, nI_lt0, nI_0lt, nI_0le, nI_clamp, pk_mul, nI_add, pk_div, pk_sub, rem_n, z_add, add_z, m_cell, kmk, lmk, rmk, b2i_0, b2i_n1, bft, le_t, le_f, lt_t, lt_f, eq_t, eq_f, k1, k2, k3, k4, k5, k6, k7, k8, k9, k10, k11, k12, k13, k15, k16, k20, k24, k30, k60, k64, k99, k100, k200, k255, k256, k512, k2912, k3392, k3393, k3394, k3395, k3396, k3397, k3398, ih]
    cases bits.testBit n with
    | false => simp
    | true =>
      by_cases e2 : fd B n 2 = b
      · simp [e2, oI]
      · have e2' : (fd B n 2 == b) = false := by simpa using e2
        by_cases e3 : fd B n 3 = b
        · simp [e2, e3, oI]
        · have e3' : (fd B n 3 == b) = false := by simpa using e3
          simp [e2, e3, e2', e3']
theorem q_pointer (R : RB h r w B) {bits b : Nat} (hb : bits < 2 ^ 31) (hb2 : b < 2 ^ 31) : fX10_pointer r (nI (256 * w)) (nI bits) (nI b) h = some (.inl (some (.int (oI (ptrF B bits b)))), h) :=
  q_pointer_go R hb hb2 12 0 FF rfl (by decide)
theorem ptrF_lt {bits b n : Nat} (h : ptrF B bits b = some n) : n < 12 := by
  have := List.mem_of_find?_eq_some h
  simp at this
  omega
theorem oI_m1 {x : Option Nat} (h : ∀ n, x = some n → n < 2 ^ 31) : oI x = -1 ↔ x = none := by
  cases x with
  | none => simp [oI]
  | some n => simp only [oI_s, reduceCtorEq, iff_false]; rw [nI_eqm (h n rfl)]; exact fun q => q
theorem oI_m1' {x : Option Nat} (h : ∀ n, x = some n → n < 2 ^ 31) : oI x = -nI 1 ↔ x = none := oI_m1 h
theorem q_linked_go (R : RB h r w B) : ∀ (c n q : Nat), n + c = 12 → c < q →
    gX10_linked q 4 [.ref r, .int (nI (256 * w)), .int (nI (bitsOf (fun n => decide (0 < fd B n 0)) n)), .int (nI n)] [] h = some (.inl (some (.int (nI (lnkN B)))), h) := by
  intro c
  induction c with
  | zero =>
    intro n q hn hq
    obtain ⟨q, rfl⟩ := sc hq
    rw [zX10_linked_4]
    simp (maxSteps := 3000000) (disch := omega) only [kX10_linked_4, ↓reduceIte, if_true, if_false, ite_not, not_true_eq_false, not_false_eq_true, ↓qqI_p, ↓qqR_p, ↓qqV_p, ↓qqIx_p, ↓qqRx_p, ↓qqVx_p, qqI_s, qqR_s, qqV_s, qqIx_s, qqRx_s, qqVx_s, qqIx_t, qqVx_t, ↓letH_s, inB_nI, nI_leI, nI_ltI, nI_eq, nI_eq0, nI_eqm, nI_eqn, nI_le0, nI_lt0, nI_0lt, nI_0le, nI_clamp, pk_mul, nI_add, pk_div, pk_sub, rem_n, z_add, add_z, m_cell, kmk, lmk, rmk, b2i_0, b2i_n1, bft, le_t, le_f, lt_t, lt_f, eq_t, eq_f, k1, k2, k3, k4, k5, k6, k7, k8, k9, k10, k11, k12, k13, k15, k16, k20, k24, k30, k60, k64, k99, k100, k200, k255, k256, k512, k2912, k3392, k3393, k3394, k3395, k3396, k3397, k3398]
    rw [show n = 12 by omega]
    rfl
  | succ c ih =>
    intro n q hn hq
    obtain ⟨q, rfl⟩ := sc hq
    have h0 := q_fieldOf R (n := n) (f := 0) (by omega) (by decide)
    have g0 : fd B n 0 < 128 := R.2.2.2.2 _
    have ih := ih (n + 1) q (by omega) (by omega)
    have hlt := bitsOf_lt (fun n => decide (0 < fd B n 0)) n
    have hp := p2lt (k := n) (by omega)
    have hpn : 2 ^ n < 2 ^ 31 := p2lt (by omega)
    have hs := one_shl (k := n) (by omega)
    have ho := or_nI31 (a := bitsOf (fun n => decide (0 < fd B n 0)) n) (b := 2 ^ n) (by omega) hp
    rw [zX10_linked_4]
    unfold bitsOf at ih
    have h0' : fX10_fieldOf r (nI (256 * w)) (nI n) 0 h = some (.inl (some (.int (nI (fd B n 0)))), h) := h0
    simp (maxSteps := 3000000) (disch := omega) only [kX10_linked_4, h0', ↓reduceIte, if_true, if_false, ite_not, not_true_eq_false, not_false_eq_true, ↓qqI_p, ↓qqR_p, ↓qqV_p, ↓qqIx_p, ↓qqRx_p, ↓qqVx_p, qqI_s, qqR_s, qqV_s, qqIx_s, qqRx_s, qqVx_s, qqIx_t, qqVx_t, ↓letH_s, inB_nI, nI_leI, nI_ltI, nI_eq, nI_eq0, nI_eqm, nI_eqn, nI_le0, nI_lt0, nI_0lt, nI_0le, nI_clamp, pk_mul, nI_add, pk_div, pk_sub, rem_n, z_add, add_z, m_cell, kmk, lmk, rmk, b2i_0, b2i_n1, bft, le_t, le_f, lt_t, lt_f, eq_t, eq_f, k1, k2, k3, k4, k5, k6, k7, k8, k9, k10, k11, k12, k13, k15, k16, k20, k24, k30, k60, k64, k99, k100, k200, k255, k256, k512, k2912, k3392, k3393, k3394, k3395, k3396, k3397, k3398, or_z, hs, ho]
    by_cases e : fd B n 0 = 0
    · rw [if_pos e]
      simpa [e] using ih
    · rw [if_neg e]
      have e2 : 0 < fd B n 0 := by omega
      simpa [e2] using ih
theorem q_linked (R : RB h r w B) : fX10_linked r (nI (256 * w)) h = some (.inl (some (.int (nI (lnkN B)))), h) := q_linked_go R 12 0 FF rfl (by decide)
theorem lnkN_lt (B : Nat → Nat) : lnkN B < 2 ^ 12 := bitsOf_lt _ _
theorem q_leaking_go (R : RB h r w B) (hm : kH h m = 18) {z : Nat} (hz : h.2 m 11 = nI z) (hz2 : z ≤ 16) : ∀ (c b q : Nat), b + c = z → 4 ≤ b → c < q →
    gX10_leaking q 12 [.ref m, .ref r, .int (nI (256 * w)), .int (nI (bitsOf (isLeak B) b)), .int (nI (rbits B)), .int (nI b)] [] h = some (.inl (some (.int (nI (leakN B z)))), h) := by
  obtain ⟨rk, rl, rw', -, rB⟩ := id R
  have hrl := rbits_lt B
  intro c
  induction c with
  | zero =>
    intro b q hb h4 hq
    obtain ⟨q, rfl⟩ := sc hq
    rw [zX10_leaking_12]
    simp (maxSteps := 3000000) (disch := omega) only [kX10_leaking_12, hm, hz, ↓reduceIte, if_true, if_false, ite_not, not_true_eq_false, not_false_eq_true, ↓qqI_p, ↓qqR_p, ↓qqV_p, ↓qqIx_p, ↓qqRx_p, ↓qqVx_p, qqI_s, qqR_s, qqV_s, qqIx_s, qqRx_s, qqVx_s, qqIx_t, qqVx_t, ↓letH_s, inB_nI, nI_leI, nI_ltI, nI_eq, nI_eq0, nI_eqm, nI_eqn, nI_le0, nI_lt0, nI_0lt, nI_0le, nI_clamp, pk_mul, nI_add, pk_div, pk_sub, rem_n, z_add, add_z, m_cell, kmk, lmk, rmk, b2i_0, b2i_n1, bft, le_t, le_f, lt_t, lt_f, eq_t, eq_f, k1, k2, k3, k4, k5, k6, k7, k8, k9, k10, k11, k12, k13, k15, k16, k20, k24, k30, k60, k64, k99, k100, k200, k255, k256, k512, k2912, k3392, k3393, k3394, k3395, k3396, k3397, k3398]
    rw [show b = z by omega]
    rfl
  | succ c ih =>
    intro b q hb h4 hq
    obtain ⟨q, rfl⟩ := sc hq
    have hr := q_rd R (x := b) (by omega)
    have hB := rB b
    have hp := q_pointer R (bits := rbits B) (b := b) (by omega) (by omega)
    have ih := ih (b + 1) q (by omega) (by omega) (by omega)
    have hlt := bitsOf_lt (isLeak B) b
    have hpb := p2lt (k := b) (by omega)
    have hpw : 2 ^ b ≤ 2 ^ 16 := Nat.pow_le_pow_right (by decide) (by omega)
    have hs := one_shl (k := b) (by omega)
    have ho := or_nI31 (a := bitsOf (isLeak B) b) (b := 2 ^ b) (by omega) hpb
    have hom := oI_m1' (x := ptrF B (rbits B) b) (fun n hn => by have := ptrF_lt hn; omega)
    rw [zX10_leaking_12]
    unfold bitsOf at ih
    simp (maxSteps := 3000000) (disch := omega) only [kX10_leaking_12, hm, hz, rk, rl, ↓reduceIte, if_true, if_false, ite_not, not_true_eq_false, not_false_eq_true, ↓qqI_p, ↓qqR_p, ↓qqV_p, ↓qqIx_p, ↓qqRx_p, ↓qqVx_p, qqI_s, qqR_s, qqV_s, qqIx_s, qqRx_s, qqVx_s, qqIx_t, qqVx_t, ↓letH_s, inB_nI, nI_leI, nI_ltI, nI_eq, nI_eq0, nI_eqm, nI_eqn, nI_le0, nI_lt0, nI_0lt, nI_0le, nI_clamp, pk_mul, nI_add, pk_div, pk_sub, rem_n, z_add, add_z, m_cell, kmk, lmk, rmk, b2i_0, b2i_n1, bft, le_t, le_f, lt_t, lt_f, eq_t, eq_f, k1, k2, k3, k4, k5, k6, k7, k8, k9, k10, k11, k12, k13, k15, k16, k20, k24, k30, k60, k64, k99, k100, k200, k255, k256, k512, k2912, k3392, k3393, k3394, k3395, k3396, k3397, k3398, hr, hp, hom, or_z, hs, ho]
    by_cases e : B b = 0
    · rw [if_pos e]
      simpa [e, isLeak] using ih
    · rw [if_neg e]
      have e2 : (B b == 0) = false := by simpa using e
      cases hpp : ptrF B (rbits B) b with
      | none => simpa [isLeak, e2, hpp, h4] using ih
      | some n => simpa [isLeak, hpp] using ih
theorem bitsOf_low {p : Nat → Bool} {n : Nat} (h : ∀ k, k < n → p k = false) : bitsOf p n = 0 := by
  refine (bitsOf_eq (a := 0) (Nat.two_pow_pos _) (fun k hk => ?_)).symm
  rw [h k hk]
  simp
theorem q_leaking (R : RB h r w B) (W : Wf B) (hm : kH h m = 18) {z : Nat} (hz : h.2 m 11 = nI z) (hz1 : 6 ≤ z) (hz2 : z ≤ 16) : fX10_leaking m r (nI (256 * w)) h = some (.inl (some (.int (nI (leakN B z)))), h) := by
  unfold fX10_leaking kX10_leaking_0
  rw [q_reached R W, bI_s]
  have := q_leaking_go R hm hz hz2 (z - 4) 4 FF (by omega) (by omega) (by show _ < 1000000; omega)
  rw [bitsOf_low (fun k hk => by simp [isLeak]; omega)] at this
  exact this
theorem q_ones_go {x : Nat} (hx : x < 2 ^ 31) : ∀ (c k q a : Nat), k + c = 16 → c < q →
    gX10_ones q 4 [.int (nI x), .int (nI a), .int (nI k)] [] h = some (.inl (some (.int (nI (a + ((List.range' k c).filter (fun k => x.testBit k)).length)))), h) := by
  intro c
  induction c with
  | zero =>
    intro k q a hk hq
    obtain ⟨q, rfl⟩ := sc hq
    rw [zX10_ones_4]
    simp (maxSteps := 3000000) (disch := omega) only [kX10_ones_4, ↓reduceIte, if_true, if_false, ite_not, not_true_eq_false, not_false_eq_true, ↓qqI_p, ↓qqR_p, ↓qqV_p, ↓qqIx_p, ↓qqRx_p, ↓qqVx_p, qqI_s, qqR_s, qqV_s, qqIx_s, qqRx_s, qqVx_s, qqIx_t, qqVx_t, ↓letH_s, inB_nI, nI_leI, nI_ltI, nI_eq, nI_eq0, nI_eqm, nI_eqn, nI_le0, nI_lt0, nI_0lt, nI_0le, nI_clamp, pk_mul, nI_add, pk_div, pk_sub, rem_n, z_add, add_z, m_cell, kmk, lmk, rmk, b2i_0, b2i_n1, bft, le_t, le_f, lt_t, lt_f, eq_t, eq_f, k1, k2, k3, k4, k5, k6, k7, k8, k9, k10, k11, k12, k13, k15, k16, k20, k24, k30, k60, k64, k99, k100, k200, k255, k256, k512, k2912, k3392, k3393, k3394, k3395, k3396, k3397, k3398]
    rfl
  | succ c ih =>
    intro k q a hk hq
    obtain ⟨q, rfl⟩ := sc hq
    have ih := fun a => ih (k + 1) q a (by omega) (by omega)
    rw [zX10_ones_4, List.range'_succ, List.filter_cons]
    unfold kX10_ones_4
    rw [if_neg (by rw [k16, nI_leI (by decide) (by omega)]; omega), bit_nI hx (by omega), nI_1]
    cases x.testBit k with
    | false =>
      have := ih a
      rw [show nI a + b2i false = nI a from add_z _]
      simpa using this
    | true =>
      have := ih (a + 1)
      rw [show nI a + b2i true = nI (a + 1) from nI_1 a, this]
      simp only [if_true, List.length_cons]
      rw [show a + 1 + ((List.range' (k + 1) c).filter (fun k => x.testBit k)).length = a + (((List.range' (k + 1) c).filter (fun k => x.testBit k)).length + 1) by omega]
theorem q_ones {x : Nat} (hx : x < 2 ^ 31) : fX10_ones (nI x) h = some (.inl (some (.int (nI (onesN x)))), h) := by
  have := q_ones_go (h := h) hx 16 0 FF 0 rfl (by decide)
  rw [Nat.zero_add] at this
  exact this
end Q3
