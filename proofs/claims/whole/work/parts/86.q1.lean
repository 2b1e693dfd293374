/-! ===== one side of the store: bits, entries, what is reached ===== -/
def bitsOf (p : Nat → Bool) : Nat → Nat
  | 0 => 0
  | n + 1 => bitsOf p n ||| (if p n then 2 ^ n else 0)
theorem bitsOf_lt (p : Nat → Bool) (n : Nat) : bitsOf p n < 2 ^ n := by
  induction n with
  | zero => exact Nat.one_pos
  | succ n ih =>
    unfold bitsOf
    refine Nat.or_lt_two_pow (Nat.lt_trans ih (Nat.pow_lt_pow_right (by decide) (by omega))) ?_
    split
    · exact Nat.pow_lt_pow_right (by decide) (by omega)
    · exact Nat.two_pow_pos _
theorem bitsOf_bit (p : Nat → Bool) (n k : Nat) : (bitsOf p n).testBit k = (decide (k < n) && p k) := by
  induction n with
  | zero => simp [bitsOf]
  | succ n ih =>
    unfold bitsOf
    rw [Nat.testBit_or, ih]
    by_cases e : p n = true
    · rw [if_pos e, Nat.testBit_two_pow]
      by_cases h1 : n = k
      · subst h1
        simp [e]
      · have h2 : decide (n = k) = false := by simpa using h1
        rw [h2, Bool.or_false]
        congr 1
        by_cases h3 : k < n
        · simp [h3]; omega
        · simp [h3]; omega
    · rw [if_neg e, Nat.zero_testBit, Bool.or_false]
      by_cases h1 : k = n
      · subst h1
        simp [Bool.eq_false_iff.mpr e]
      · congr 1
        by_cases h3 : k < n
        · simp [h3]; omega
        · simp [h3]; omega
theorem bitsOf_eq {p : Nat → Bool} {n a : Nat} (ha : a < 2 ^ n) (h : ∀ k, k < n → a.testBit k = p k) : a = bitsOf p n := by
  refine Nat.eq_of_testBit_eq (fun k => ?_)
  rw [bitsOf_bit]
  by_cases hk : k < n
  · simp [hk, h k hk]
  · rw [Nat.testBit_lt_two_pow (Nat.lt_of_lt_of_le ha (Nat.pow_le_pow_right (by decide) (by omega)))]
    simp [hk]
theorem one_shl {k : Nat} (hk : k < 31) : nI 1 <<< (nI k &&& 31) = nI (2 ^ k) := by
  have : 2 ^ k < 2 ^ 31 := Nat.pow_lt_pow_right (by decide) hk
  rw [shl_nI (by omega) (by omega), Nat.one_mul]
theorem p2lt {k : Nat} (hk : k < 31) : 2 ^ k < 2 ^ 31 := Nat.pow_lt_pow_right (by decide) hk
theorem or_nI31 {a b : Nat} (ha : a < 2 ^ 31) (hb : b < 2 ^ 31) : nI a ||| nI b = nI (a ||| b) := or_nI (by omega) (by omega)
theorem or_z (x : Int32) : x ||| 0 = x := by simp
theorem m_has {a k : Nat} (ha : a < 2 ^ 31) (hk : k < 32) (h : Hp) : fX10_has (nI a) (nI k) h = some (.inl (some (.int (b2i (a.testBit k)))), h) := by
  unfold fX10_has kX10_has_0
  rw [bit_nI ha hk]
  cases a.testBit k <;> rfl
/-- a side of a row of the reference -/
def RB (h : Hp) (r w : Nat) (B : Nat → Nat) : Prop := kH h r = 1 ∧ lH h r = 3398 ∧ w ≤ 1 ∧ (∀ x, x < 256 → h.2 r (256 * w + x) = nI (B x)) ∧ ∀ x, B x < 128
theorem Row.rb {h : Hp} {r : Nat} {S : St} (R : Row h r S) {w : Nat} (hw : w ≤ 1) : RB h r w (sd S w) := ⟨R.1, R.2.1, hw, fun _ hx => R.sdx hw hx, fun x => bd_sd R.bd w x⟩
theorem Row.rb0 {h : Hp} {r : Nat} {S : St} (R : Row h r S) : RB h r 0 (mm S) := R.rb (w := 0) (by decide)
theorem Row.rb1 {h : Hp} {r : Nat} {S : St} (R : Row h r S) : RB h r 1 (sD S) := R.rb (w := 1) (by decide)
theorem eb_mem {b e : Nat} : e ∈ eb b ↔ b ≠ 0 ∧ ∃ j, j < 8 ∧ e = 16 * b + 2 * j := by
  unfold eb
  split
  · next q => simp [q]
  · next q =>
    simp only [List.mem_map, List.mem_range]
    constructor
    · rintro ⟨j, hj, rfl⟩
      exact ⟨q, j, hj, rfl⟩
    · rintro ⟨-, j, hj, rfl⟩
      exact ⟨j, hj, rfl⟩
theorem eb_len (b : Nat) : (eb b).length = if b = 0 then 0 else 8 := by
  unfold eb
  split <;> simp
theorem eb_get {b k : Nat} (hb : b ≠ 0) (hk : k < 8) : (eb b)[k]? = some (16 * b + 2 * k) := by
  unfold eb
  rw [if_neg hb]
  simp [hk]
theorem ents_len (B : Nat → Nat) (n : Nat) : (ents B n).length ≤ 16 := by
  unfold ents
  rw [List.length_append, eb_len, eb_len]
  split <;> split <;> omega
/-- pointers tell blocks -/
def Pb (B : Nat → Nat) : Prop := ∀ n, n < 12 → ∀ f, f = 2 ∨ f = 3 → fd B n f < 16
theorem ents_lt {B : Nat → Nat} (P : Pb B) {n e : Nat} (hn : n < 12) (he : e ∈ ents B n) : e + 1 < 256 := by
  unfold ents at he
  rcases List.mem_append.mp he with q | q
  · obtain ⟨-, j, hj, rfl⟩ := eb_mem.mp q
    have := P n hn 2 (Or.inl rfl)
    omega
  · obtain ⟨-, j, hj, rfl⟩ := eb_mem.mp q
    have := P n hn 3 (Or.inr rfl)
    omega
section Q1
variable {h : Hp} {r w : Nat} {B : Nat → Nat}
theorem q_fieldOf (R : RB h r w B) {n f : Nat} (hn : n < 12) (hf : f < 4) : fX10_fieldOf r (nI (256 * w)) (nI n) (nI f) h = some (.inl (some (.int (nI (fd B n f)))), h) := by
  obtain ⟨hk, hl, hw, hx, hB⟩ := R
  unfold fX10_fieldOf
  simp (maxSteps := 3000000) (disch := omega) only [kX10_fieldOf_0, m_byteOf hn hf, hk, hl, ↓reduceIte, if_true, if_false, ite_not, not_true_eq_false, not_false_eq_true, ↓qqI_p, ↓qqR_p, ↓qqV_p, ↓qqIx_p, ↓qqRx_p, ↓qqVx_p, qqI_s, qqR_s, qqV_s, qqIx_s, qqRx_s, qqVx_s, qqIx_t, qqVx_t, ↓letH_s, inB_nI, nI_leI, nI_ltI, nI_eq, nI_eq0, nI_eqm, nI_eqn, nI_le0, nI_lt0, nI_0lt, nI_0le, nI_clamp, pk_mul, nI_add, pk_div, pk_sub, rem_n, z_add, add_z, m_cell, kmk, lmk, rmk, b2i_0, b2i_n1, bft, le_t, le_f, lt_t, lt_f, eq_t, eq_f, k1, k2, k3, k4, k5, k6, k7, k8, k9, k10, k11, k12, k13, k15, k16, k20, k24, k30, k60, k64, k99, k100, k200, k255, k256, k512, k2912, k3392, k3393, k3394, k3395, k3396, k3397, k3398, hx (16 + 4 * n + f) (by omega), fd]
theorem q_isKind (R : RB h r w B) {n t : Nat} (hn : n < 12) (ht : t < 4) : fX10_isKind r (nI (256 * w)) (nI n) (nI t) h = some (.inl (some (.int (b2i (isK B n t)))), h) := by
  have h0 := q_fieldOf R hn (f := 0) (by decide)
  have h1 := q_fieldOf R hn (f := 1) (by decide)
  have hB := R.2.2.2.2
  have g0 : fd B n 0 < 128 := hB _
  have g1 : fd B n 1 < 128 := hB _
  unfold fX10_isKind kX10_isKind_0
  rw [show (0 : Int32) = nI 0 from rfl, h0, bI_s]
  rw [show (1 : Int32) = nI 1 from rfl, h1, bI_s, show (nI 0 : Int32) = 0 from rfl]
  simp (disch := omega) only [nI_le0, nI_eq]
  unfold isK
  by_cases e0 : fd B n 0 = 0
  · simp [e0, b2i]
  · by_cases e1 : fd B n 1 = t
    · have : 0 < fd B n 0 := by omega
      simp [e0, e1, this, b2i, ← k1]
    · have e2 : (fd B n 1 == t) = false := by simpa using e1
      simp [e0, e1, e2, b2i]
theorem q_entryOf (R : RB h r w B) (P : Pb B) {n k : Nat} (hn : n < 12) (hk : k < 2 ^ 31) : fX10_entryOf r (nI (256 * w)) (nI n) (nI k) h = some (.inl (some (.int (match (ents B n)[k]? with | some e => nI e | none => -1))), h) := by
  have h2 := q_fieldOf R hn (f := 2) (by decide)
  have h3 := q_fieldOf R hn (f := 3) (by decide)
  have g2 := P n hn 2 (Or.inl rfl)
  have g3 := P n hn 3 (Or.inr rfl)
  have hm : k % 8 < 8 := Nat.mod_lt _ (by decide)
  unfold fX10_entryOf kX10_entryOf_0
  rw [show (2 : Int32) = nI 2 from rfl, h2, bI_s, show (3 : Int32) = nI 3 from rfl, h3, bI_s]
  unfold ents
  by_cases e2 : fd B n 2 = 0
  · by_cases e3 : fd B n 3 = 0
    · simp (maxSteps := 3000000) (disch := omega) only [↓reduceIte, if_true, if_false, ite_not, not_true_eq_false, not_false_eq_true, ↓qqI_p, ↓qqR_p, ↓qqV_p, ↓qqIx_p, ↓qqRx_p, ↓qqVx_p, qqI_s, qqR_s, qqV_s, qqIx_s, qqRx_s, qqVx_s, qqIx_t, qqVx_t, ↓letH_s, inB_nI, nI_leI, nI_ltI, nI_eq, nI_eq0, nI_eqm, nI_eqn, nI_le0, nI_lt0, nI_0lt, nI_0le, nI_clamp, pk_mul, nI_add, pk_div, pk_sub, rem_n, z_add, add_z, m_cell, kmk, lmk, rmk, b2i_0, b2i_n1, bft, le_t, le_f, lt_t, lt_f, eq_t, eq_f, k1, k2, k3, k4, k5, k6, k7, k8, k9, k10, k11, k12, k13, k15, k16, k20, k24, k30, k60, k64, k99, k100, k200, k255, k256, k512, k2912, k3392, k3393, k3394, k3395, k3396, k3397, k3398, e2, e3, FF, zX10_entryOf_29, kX10_entryOf_29, zX10_entryOf_40, kX10_entryOf_40]
      simp [eb]
    · simp (maxSteps := 3000000) (disch := omega) only [↓reduceIte, if_true, if_false, ite_not, not_true_eq_false, not_false_eq_true, ↓qqI_p, ↓qqR_p, ↓qqV_p, ↓qqIx_p, ↓qqRx_p, ↓qqVx_p, qqI_s, qqR_s, qqV_s, qqIx_s, qqRx_s, qqVx_s, qqIx_t, qqVx_t, ↓letH_s, inB_nI, nI_leI, nI_ltI, nI_eq, nI_eq0, nI_eqm, nI_eqn, nI_le0, nI_lt0, nI_0lt, nI_0le, nI_clamp, pk_mul, nI_add, pk_div, pk_sub, rem_n, z_add, add_z, m_cell, kmk, lmk, rmk, b2i_0, b2i_n1, bft, le_t, le_f, lt_t, lt_f, eq_t, eq_f, k1, k2, k3, k4, k5, k6, k7, k8, k9, k10, k11, k12, k13, k15, k16, k20, k24, k30, k60, k64, k99, k100, k200, k255, k256, k512, k2912, k3392, k3393, k3394, k3395, k3396, k3397, k3398, e2, e3, FF, zX10_entryOf_29, kX10_entryOf_29, zX10_entryOf_40, kX10_entryOf_40]
      by_cases hk8 : k < 8
      · have hke := eb_get e3 hk8
        have he : eb 0 ++ eb (fd B n 3) = eb (fd B n 3) := rfl
        rw [if_pos hk8, he, hke, show k % 8 = k by omega]
      · rw [if_neg hk8, List.getElem?_eq_none (by rw [List.length_append, eb_len, eb_len, if_neg e3]; simp; omega)]
  · by_cases e3 : fd B n 3 = 0
    · simp (maxSteps := 3000000) (disch := omega) only [↓reduceIte, if_true, if_false, ite_not, not_true_eq_false, not_false_eq_true, ↓qqI_p, ↓qqR_p, ↓qqV_p, ↓qqIx_p, ↓qqRx_p, ↓qqVx_p, qqI_s, qqR_s, qqV_s, qqIx_s, qqRx_s, qqVx_s, qqIx_t, qqVx_t, ↓letH_s, inB_nI, nI_leI, nI_ltI, nI_eq, nI_eq0, nI_eqm, nI_eqn, nI_le0, nI_lt0, nI_0lt, nI_0le, nI_clamp, pk_mul, nI_add, pk_div, pk_sub, rem_n, z_add, add_z, m_cell, kmk, lmk, rmk, b2i_0, b2i_n1, bft, le_t, le_f, lt_t, lt_f, eq_t, eq_f, k1, k2, k3, k4, k5, k6, k7, k8, k9, k10, k11, k12, k13, k15, k16, k20, k24, k30, k60, k64, k99, k100, k200, k255, k256, k512, k2912, k3392, k3393, k3394, k3395, k3396, k3397, k3398, e2, e3, FF, zX10_entryOf_29, kX10_entryOf_29, zX10_entryOf_40, kX10_entryOf_40]
      by_cases hk8 : k < 8
      · have hke := eb_get e2 hk8
        have he : eb (fd B n 2) ++ eb 0 = eb (fd B n 2) := List.append_nil _
        rw [if_pos hk8, he, hke, show k % 8 = k by omega]
      · rw [if_neg hk8, List.getElem?_eq_none (by rw [List.length_append, eb_len, eb_len, if_neg e2]; simp; omega)]
    · simp (maxSteps := 3000000) (disch := omega) only [↓reduceIte, if_true, if_false, ite_not, not_true_eq_false, not_false_eq_true, ↓qqI_p, ↓qqR_p, ↓qqV_p, ↓qqIx_p, ↓qqRx_p, ↓qqVx_p, qqI_s, qqR_s, qqV_s, qqIx_s, qqRx_s, qqVx_s, qqIx_t, qqVx_t, ↓letH_s, inB_nI, nI_leI, nI_ltI, nI_eq, nI_eq0, nI_eqm, nI_eqn, nI_le0, nI_lt0, nI_0lt, nI_0le, nI_clamp, pk_mul, nI_add, pk_div, pk_sub, rem_n, z_add, add_z, m_cell, kmk, lmk, rmk, b2i_0, b2i_n1, bft, le_t, le_f, lt_t, lt_f, eq_t, eq_f, k1, k2, k3, k4, k5, k6, k7, k8, k9, k10, k11, k12, k13, k15, k16, k20, k24, k30, k60, k64, k99, k100, k200, k255, k256, k512, k2912, k3392, k3393, k3394, k3395, k3396, k3397, k3398, e2, e3, FF, zX10_entryOf_29, kX10_entryOf_29, zX10_entryOf_40, kX10_entryOf_40]
      by_cases hk16 : k < 8 + 8
      · rw [if_pos hk16]
        by_cases hk8 : k < 8
        · have hke := eb_get e2 hk8
          rw [List.getElem?_append_left (by rw [eb_len, if_neg e2]; exact hk8), hke, if_neg (by omega), show k % 8 = k by omega]
        · have hke := eb_get e3 (k := k - 8) (by omega)
          rw [List.getElem?_append_right (by rw [eb_len, if_neg e2]; omega), eb_len, if_neg e2, hke, if_pos (by omega), show k % 8 = k - 8 by omega]
      · rw [if_neg hk16, List.getElem?_eq_none (by rw [List.length_append, eb_len, eb_len, if_neg e2, if_neg e3]; omega)]
theorem q_ent (R : RB h r w B) (P : Pb B) {n : Nat} (hn : n < 12) {pre l : List Nat} {e : Nat} (q : ents B n = pre ++ e :: l) : fX10_entryOf r (nI (256 * w)) (nI n) (nI pre.length) h = some (.inl (some (.int (nI e))), h) ∧ e + 1 < 256 ∧ pre.length < 16 := by
  have hl := ents_len B n
  have hlt : pre.length < 16 := by rw [q] at hl; simp at hl; omega
  refine ⟨?_, ents_lt P hn (by rw [q]; simp), hlt⟩
  rw [q_entryOf R P hn (by omega), q]
  simp
theorem q_entE (R : RB h r w B) (P : Pb B) {n : Nat} (hn : n < 12) {pre : List Nat} (q : ents B n = pre) : fX10_entryOf r (nI (256 * w)) (nI n) (nI pre.length) h = some (.inl (some (.int (-1))), h) := by
  have hl := ents_len B n
  rw [q_entryOf R P hn (by rw [q] at hl; omega), q]
  simp
theorem q_rd (R : RB h r w B) {x : Nat} (hx : x < 256) : h.2 r (256 * w + x) = nI (B x) := R.2.2.2.1 x hx
theorem q_entry_go (R : RB h r w B) (P : Pb B) {n nm : Nat} (hn : n < 12) (hm : nm < 2 ^ 31) : ∀ (l pre : List Nat) (q : Nat), ents B n = pre ++ l → l.length < q →
    gX10_entry q 3 [.ref r, .int (nI (256 * w)), .int (nI n), .int (nI nm), .int (nI pre.length)] [] h = some (.inl (some (.int (match l.find? (fun e => B e == nm) with | some e => nI e | none => -1))), h) := by
  obtain ⟨rk, rl, rw', -, rB⟩ := id R
  intro l
  induction l with
  | nil =>
    intro pre q e hq
    obtain ⟨q, rfl⟩ := sc hq
    rw [List.append_nil] at e
    have he := q_entE R P hn e
    rw [zX10_entry_3]
    unfold kX10_entry_3
    rw [he, bI_s, if_pos rfl]
    rfl
  | cons z l ih =>
    intro pre q e hq
    obtain ⟨q, rfl⟩ := sc hq
    obtain ⟨he, hz, hp⟩ := q_ent R P hn e
    have ih := ih (pre ++ [z]) q (app1 e) (by simp at hq ⊢; omega)
    rw [len1] at ih
    have hr := q_rd R (x := z) (by omega)
    have hb := rB z
    rw [zX10_entry_3]
    simp (maxSteps := 3000000) (disch := omega) only [kX10_entry_3, he, rk, rl, ↓reduceIte, if_true, if_false, ite_not, not_true_eq_false, not_false_eq_true, ↓qqI_p, ↓qqR_p, ↓qqV_p, ↓qqIx_p, ↓qqRx_p, ↓qqVx_p, qqI_s, qqR_s, qqV_s, qqIx_s, qqRx_s, qqVx_s, qqIx_t, qqVx_t, ↓letH_s, inB_nI, nI_leI, nI_ltI, nI_eq, nI_eq0, nI_eqm, nI_eqn, nI_le0, nI_lt0, nI_0lt, nI_0le, nI_clamp, pk_mul, nI_add, pk_div, pk_sub, rem_n, z_add, add_z, m_cell, kmk, lmk, rmk, b2i_0, b2i_n1, bft, le_t, le_f, lt_t, lt_f, eq_t, eq_f, k1, k2, k3, k4, k5, k6, k7, k8, k9, k10, k11, k12, k13, k15, k16, k20, k24, k30, k60, k64, k99, k100, k200, k255, k256, k512, k2912, k3392, k3393, k3394, k3395, k3396, k3397, k3398, hr, ih, List.find?_cons]
    by_cases e1 : B z = nm
    · simp [e1]
    · have e2 : (B z == nm) = false := by simpa using e1
      simp [e1, e2]
theorem q_entry (R : RB h r w B) (P : Pb B) {n nm : Nat} (hn : n < 12) (hm : nm < 2 ^ 31) : fX10_entry r (nI (256 * w)) (nI n) (nI nm) h = some (.inl (some (.int (match fent B n nm with | some e => nI e | none => -1))), h) :=
  q_entry_go R P hn hm (ents B n) [] FF rfl (by have := ents_len B n; show _ < 1000000; omega)
theorem q_hasNames_go (R : RB h r w B) (P : Pb B) {n : Nat} (hn : n < 12) : ∀ (l pre : List Nat) (q : Nat), ents B n = pre ++ l → l.length < q →
    gX10_hasNames q 2 [.ref r, .int (nI (256 * w)), .int (nI n), .int (nI pre.length)] [] h = some (.inl (some (.int (b2i (l.any (fun e => !(B e == 0)))))), h) := by
  obtain ⟨rk, rl, rw', -, rB⟩ := id R
  intro l
  induction l with
  | nil =>
    intro pre q e hq
    obtain ⟨q, rfl⟩ := sc hq
    rw [List.append_nil] at e
    have he := q_entE R P hn e
    rw [zX10_hasNames_2]
    unfold kX10_hasNames_2
    rw [he, bI_s, if_pos rfl]
    rfl
  | cons z l ih =>
    intro pre q e hq
    obtain ⟨q, rfl⟩ := sc hq
    obtain ⟨he, hz, hp⟩ := q_ent R P hn e
    have ih := ih (pre ++ [z]) q (app1 e) (by simp at hq ⊢; omega)
    rw [len1] at ih
    have hr := q_rd R (x := z) (by omega)
    have hb := rB z
    rw [zX10_hasNames_2]
    simp (maxSteps := 3000000) (disch := omega) only [kX10_hasNames_2, he, rk, rl, ↓reduceIte, if_true, if_false, ite_not, not_true_eq_false, not_false_eq_true, ↓qqI_p, ↓qqR_p, ↓qqV_p, ↓qqIx_p, ↓qqRx_p, ↓qqVx_p, qqI_s, qqR_s, qqV_s, qqIx_s, qqRx_s, qqVx_s, qqIx_t, qqVx_t, ↓letH_s, inB_nI, nI_leI, nI_ltI, nI_eq, nI_eq0, nI_eqm, nI_eqn, nI_le0, nI_lt0, nI_0lt, nI_0le, nI_clamp, pk_mul, nI_add, pk_div, pk_sub, rem_n, z_add, add_z, m_cell, kmk, lmk, rmk, b2i_0, b2i_n1, bft, le_t, le_f, lt_t, lt_f, eq_t, eq_f, k1, k2, k3, k4, k5, k6, k7, k8, k9, k10, k11, k12, k13, k15, k16, k20, k24, k30, k60, k64, k99, k100, k200, k255, k256, k512, k2912, k3392, k3393, k3394, k3395, k3396, k3397, k3398, hr, ih, List.any_cons]
    by_cases e1 : B z = 0
    · simp [e1]
    · have e2 : (B z == 0) = false := by simpa using e1
      simp [e1, e2, b2i, ← k1]
theorem q_hasNames (R : RB h r w B) (P : Pb B) {n : Nat} (hn : n < 12) : fX10_hasNames r (nI (256 * w)) (nI n) h = some (.inl (some (.int (b2i ((ents B n).any (fun e => !(B e == 0)))))), h) :=
  q_hasNames_go R P hn (ents B n) [] FF rfl (by have := ents_len B n; show _ < 1000000; omega)
end Q1
