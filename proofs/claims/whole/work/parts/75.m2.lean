/-! ===== the reference makes a change ===== -/
def Res (x : RS) (o : Option Value) (h : Hp) (r : Nat) (S : St) : Prop := ∃ h', x = some (.inl o, h') ∧ h'.1 = h.1 ∧ (∀ a, a ≠ r → h'.2 a = h.2 a) ∧ Row h' r S
/-- room for some changes more -/
def Sl (S : St) (i j k : Nat) : Prop := (sC S).length + i ≤ 200 ∧ (sL S).length + j ≤ 160 ∧ sM S + k < 2 ^ 31
theorem nz_n (n : Nat) : nz (n : Int) = nI n := by
  unfold nz nI
  simp [Int32.ofInt, Int32.ofNat]
theorem nz_0 : nz 0 = 0 := rfl
theorem nz_neg (n : Nat) : -(nI n) = nz (-(n : Int)) := by
  rw [← nz_n]
  unfold nz
  simp [Int32.ofInt_neg]
theorem b2i_and1 (b : Bool) : b2i b &&& nI 1 = b2i b := by cases b <;> decide
theorem b2i_and0 (b : Bool) : b2i b &&& 0 = b2i false := by cases b <;> decide
theorem b2i_t1 : b2i true = nI 1 := rfl
theorem b2i_f0 : b2i false = nI 0 := rfl
theorem b2i_or (b : Bool) : b2i b = 0 ∨ b2i b = nI 1 := by cases b <;> decide
section M2
variable {h : Hp} {r : Nat} {S : St}
theorem m_isThere_go (R : Row h r S) {b p v : Nat} (hb : b < 16) (hp : p ≤ 16) (hv : v < 128) : ∀ (c j n : Nat) (a : Bool), j + c = 16 → c < n →
    gX10_isThere n 6 [.ref r, .int (nI b), .int (nI p), .int (nI v), .int (b2i a), .int (nI j)] [] h = some (.inl (some (.int (b2i (a && (List.range' j c).all (fun i => (decide (p < 16) && !(i == p)) || mm S (16 * b + i) == v))))), h) := by
  intro c
  induction c with
  | zero =>
    intro j n a hj hn
    obtain ⟨n, rfl⟩ := sc hn
    rw [zX10_isThere_6]
    simp (disch := omega) only [kX10_isThere_6, ↓reduceIte, if_true, if_false, ite_not, not_true_eq_false, not_false_eq_true, ↓qqI_p, ↓qqR_p, ↓qqV_p, ↓qqIx_p, ↓qqRx_p, ↓qqVx_p, qqI_s, qqR_s, qqV_s, qqIx_s, qqRx_s, qqVx_s, qqIx_t, qqVx_t, ↓letH_s, inB_nI, nI_leI, nI_ltI, nI_eq, nI_eq0, nI_eqm, nI_eqn, nI_le0, nI_lt0, nI_0lt, nI_0le, nI_clamp, pk_mul, nI_add, pk_div, pk_sub, rem_n, z_add, add_z, m_cell, kmk, lmk, rmk, b2i_0, b2i_n1, bft, le_t, le_f, lt_t, lt_f, eq_t, eq_f, k1, k2, k3, k4, k5, k6, k7, k8, k9, k10, k11, k12, k13, k15, k16, k20, k24, k30, k60, k64, k99, k100, k200, k255, k256, k512, k2912, k3392, k3393, k3394, k3395, k3396, k3397, k3398, b2i_or, List.range'_zero, List.all_nil, Bool.and_true]
  | succ c ih =>
    intro j n a hj hn
    obtain ⟨n, rfl⟩ := sc hn
    have ih := fun a => ih (j + 1) n a (by omega) (by omega)
    have g := bd_mm R.bd (16 * b + j)
    rw [zX10_isThere_6]
    simp (disch := omega) only [kX10_isThere_6, R.k, R.l, ↓reduceIte, if_true, if_false, ite_not, not_true_eq_false, not_false_eq_true, ↓qqI_p, ↓qqR_p, ↓qqV_p, ↓qqIx_p, ↓qqRx_p, ↓qqVx_p, qqI_s, qqR_s, qqV_s, qqIx_s, qqRx_s, qqVx_s, qqIx_t, qqVx_t, ↓letH_s, inB_nI, nI_leI, nI_ltI, nI_eq, nI_eq0, nI_eqm, nI_eqn, nI_le0, nI_lt0, nI_0lt, nI_0le, nI_clamp, pk_mul, nI_add, pk_div, pk_sub, rem_n, z_add, add_z, m_cell, kmk, lmk, rmk, b2i_0, b2i_n1, bft, le_t, le_f, lt_t, lt_f, eq_t, eq_f, k1, k2, k3, k4, k5, k6, k7, k8, k9, k10, k11, k12, k13, k15, k16, k20, k24, k30, k60, k64, k99, k100, k200, k255, k256, k512, k2912, k3392, k3393, k3394, k3395, k3396, k3397, k3398, R.mem, b2i_and0, b2i_and1, ih, List.range'_succ, List.all_cons]
    by_cases e1 : 16 ≤ p
    · have e2 : p = 16 := by omega
      subst e2
      by_cases e3 : mm S (16 * b + j) = v
      · simp [e3]
      · have e4 : (mm S (16 * b + j) == v) = false := by simpa using e3
        simp [e3, e4]
    · have e2 : p < 16 := by omega
      by_cases e5 : j = p
      · subst e5
        by_cases e3 : mm S (16 * b + j) = v
        · simp [e1, e3]
        · have e4 : (mm S (16 * b + j) == v) = false := by simpa using e3
          simp [e1, e3, e4]
      · have e6 : (j == p) = false := by simpa using e5
        simp [e1, e2, e5, e6]
theorem m_isThere (R : Row h r S) {b p v : Nat} (hb : b < 16) (hp : p ≤ 16) (hv : v < 128) : fX10_isThere r (nI b) (nI p) (nI v) h = some (.inl (some (.int (b2i (same S b p v)))), h) := by
  have := m_isThere_go R hb hp hv 16 0 FF true rfl (by decide)
  rw [show same S b p v = (true && (List.range' 0 16).all (fun i => (decide (p < 16) && !(i == p)) || mm S (16 * b + i) == v)) from ?_]
  · exact this
  · unfold same
    rw [Bool.true_and, ← List.range_eq_range']
    by_cases e : p = 16
    · subst e
      simp
    · rw [if_neg e]
      have hp2 : p < 16 := by omega
      cases hv : mm S (16 * b + p) == v with
      | true =>
        symm
        refine List.all_eq_true.mpr (fun i _ => ?_)
        by_cases q : i = p
        · subst q; simp [hv]
        · simp [hp2, q]
      | false =>
        symm
        rw [List.all_eq_false]
        exact ⟨p, List.mem_range.mpr hp2, by simp [hv]⟩
/-- a row behind a change -/
theorem row_new {A A' : Nat → Int32} {b p v : Nat} {n1 n2 n3 n4 : Int} (R : RowA A S) (hn : same S b p v = false)
    (g1 : ∀ x, x < 256 → A' x = if tch (sM S + 1, b, p, v, n1, n2, n3, n4) x then nI v else A x) (g2 : ∀ x, 256 ≤ x → x < 512 + 12 * (sC S).length → A' x = A x) (g3 : A' 3392 = nI ((sC S).length + 1)) (g4 : A' 3394 = nI (sM S + 1))
    (g5 : ∀ x, 2912 ≤ x → x < 3398 → x ≠ 3392 → x ≠ 3394 → A' x = A x) (g6 : Cel A' (512 + 12 * (sC S).length) (sM S + 1, b, p, v, n1, n2, n3, n4) (mm S)) (gl : (sL S).length ≤ 160) : RowA A' (mk S b p v n1 n2 n3 n4) := by
  obtain ⟨r1, r2, r3, r4, r5, r6, r7, r8, r9, r10⟩ := R
  have hS : mk S b p v n1 n2 n3 n4 = (sD S, sC S ++ [(sM S + 1, b, p, v, n1, n2, n3, n4)], sL S, sM S + 1, sW S, sH S, sK S) := by unfold mk; rw [hn]; rfl
  refine ⟨fun x hx => ?_, fun x hx => ?_, ?_, ?_, ?_, ?_, ?_, ?_, fun pre c l e => ?_, fun pre e l q => ?_⟩
  · rw [mm_mk, hn, g1 x hx, r1 x hx]
    simp only [Bool.false_eq_true, if_false]
    split <;> rfl
  · rw [g2 _ (by omega) (by omega), r2 x hx, hS]
  · rw [g3, hS]
    show nI _ = nI (sC S ++ [_]).length
    rw [len1]
  · rw [g5 _ (by omega) (by omega) (by omega) (by omega), r4, hS]
  · rw [g4, hS]
  · rw [g5 _ (by omega) (by omega) (by omega) (by omega), r6, hS]
  · rw [g5 _ (by omega) (by omega) (by omega) (by omega), r7, hS]
  · rw [g5 _ (by omega) (by omega) (by omega) (by omega), r8, hS]
  · rw [hS] at e ⊢
    have e : sC S ++ [(sM S + 1, b, p, v, n1, n2, n3, n4)] = pre ++ c :: l := e
    rcases List.eq_nil_or_concat l with rfl | ⟨l', z, rfl⟩
    · have h1 := List.append_inj' e rfl
      obtain ⟨e1, e2⟩ := h1
      cases e2
      subst e1
      exact g6
    · rw [List.concat_eq_append] at e
      have h1 : sC S ++ [(sM S + 1, b, p, v, n1, n2, n3, n4)] = (pre ++ c :: l') ++ [z] := by rw [e]; simp
      obtain ⟨e1, e2⟩ := List.append_inj' h1 rfl
      obtain ⟨q0, q1, q2, q3, q4, q5, q6, q7, q8, q9⟩ := r9 pre c l' e1
      have hl : (sC S).length = pre.length + 1 + l'.length := by rw [e1]; simp; omega
      refine ⟨?_, ?_, ?_, ?_, ?_, ?_, ?_, ?_, fun hp => ?_, fun hp i hi => ?_⟩
      · rw [g2 _ (by omega) (by omega), q0]
      · rw [g2 _ (by omega) (by omega), q1]
      · rw [g2 _ (by omega) (by omega), q2]
      · rw [g2 _ (by omega) (by omega), q3]
      · rw [g2 _ (by omega) (by omega), q4]
      · rw [g2 _ (by omega) (by omega), q5]
      · rw [g2 _ (by omega) (by omega), q6]
      · rw [g2 _ (by omega) (by omega), q7]
      · rw [g2 _ (by omega) (by omega), q8 hp]
      · rw [g2 _ (by omega) (by omega), q9 hp i hi]
  · rw [hS] at q
    have hl : (sL S).length = pre.length + 1 + l.length := by rw [show sL S = pre ++ e :: l from q]; simp; omega
    obtain ⟨q0, q1, q2⟩ := r10 pre e l q
    refine ⟨?_, ?_, ?_⟩
    · rw [g5 _ (by omega) (by omega) (by omega) (by omega), q0]
    · rw [g5 _ (by omega) (by omega) (by omega) (by omega), q1]
    · rw [g5 _ (by omega) (by omega) (by omega) (by omega), q2]
theorem bd_mk (B : Bd S) {b p v : Nat} {n1 n2 n3 n4 : Int} (sl : Sl S 1 0 1) (hb : b < 16) (hp : p ≤ 16) (hv : v < 128) (hn : ∀ n ∈ [n1, n2, n3, n4], -16 < n ∧ n ≤ sM S) : Bd (mk S b p v n1 n2 n3 n4) := by
  unfold mk
  split
  · exact B
  · obtain ⟨b1, b2, b3, b4, b5, b6, b7⟩ := B
    obtain ⟨s1, s2, s3⟩ := sl
    refine ⟨?_, b2, s3, b4, fun c hc => ?_, fun e he => ?_, ?_⟩
    · show (sC S ++ [_]).length ≤ 200
      simp; omega
    · rcases List.mem_append.mp hc with h1 | h1
      · obtain ⟨c1, c2, c3⟩ := b5 c h1
        exact ⟨c1, by show cI c ≤ sM S + 1; omega, c3⟩
      · rw [List.mem_singleton] at h1
        subst h1
        refine ⟨by show 1 ≤ sM S + 1; omega, Nat.le_refl _, hb, hp, hv, fun n hn' => ?_⟩
        have := hn n hn'
        refine ⟨this.1, ?_⟩
        show n < ((sM S + 1 : Nat) : Int)
        omega
    · obtain ⟨c1, c2, c3, c4⟩ := b6 e he
      exact ⟨c1, c2, c3, c4.imp (fun q => by show e.2.2 ≤ sM S + 1; omega) id⟩
    · refine List.pairwise_append.mpr ⟨b7, List.pairwise_singleton _ _, fun a ha c hc => ?_⟩
      rw [List.mem_singleton] at hc
      subst hc
      have := (b5 a ha).2.1
      show cI a < sM S + 1
      omega
theorem sl_mk {b p v : Nat} {n1 n2 n3 n4 : Int} {i j k : Nat} (sl : Sl S (i + 1) j (k + 1)) : Sl (mk S b p v n1 n2 n3 n4) i j k := by
  obtain ⟨s1, s2, s3⟩ := sl
  unfold mk
  split
  · exact ⟨by omega, by omega, by omega⟩
  · refine ⟨?_, ?_, ?_⟩
    · show (sC S ++ [_]).length + i ≤ 200
      rw [len1]
      omega
    · show (sL S).length + j ≤ 160
      omega
    · show sM S + 1 + k < 2 ^ 31
      omega
theorem Sl.le {i j k i' j' k' : Nat} (sl : Sl S i j k) (h1 : i' ≤ i) (h2 : j' ≤ j) (h3 : k' ≤ k) : Sl S i' j' k' := by
  obtain ⟨s1, s2, s3⟩ := sl
  exact ⟨by omega, by omega, by omega⟩
def wpk (w : Nat → Nat) (b q i : Nat) : Nat := (if 4 * q < i then w (b + 4 * q) else 0) + 256 * (if 4 * q + 1 < i then w (b + 4 * q + 1) else 0) + 65536 * (if 4 * q + 2 < i then w (b + 4 * q + 2) else 0) + 16777216 * (if 4 * q + 3 < i then w (b + 4 * q + 3) else 0)
theorem or_add {a v k : Nat} (ha : a < 2 ^ k) : a ||| v * 2 ^ k = a + v * 2 ^ k := by
  rw [Nat.or_comm, ← Nat.shiftLeft_eq, ← Nat.shiftLeft_add_eq_or_of_lt ha, Nat.add_comm]
theorem wpk_step {w : Nat → Nat} {b i : Nat} (hi : i < 16) (hw : ∀ x, w x < 128) : nI (wpk w b (i / 4) i) ||| nI (w (b + i)) <<< (nI (8 * (i % 4)) &&& 31) = nI (wpk w b (i / 4) (i + 1)) := by
  have h0 := hw (b + i)
  have hm : i % 4 < 4 := Nat.mod_lt _ (by decide)
  have hi2 : i = 4 * (i / 4) + i % 4 := by omega
  have ha := hw (b + 4 * (i / 4))
  have hb := hw (b + 4 * (i / 4) + 1)
  have hc := hw (b + 4 * (i / 4) + 2)
  have hd := hw (b + 4 * (i / 4) + 3)
  generalize hq : i / 4 = q at *
  have hcase : i % 4 = 0 ∨ i % 4 = 1 ∨ i % 4 = 2 ∨ i % 4 = 3 := by omega
  rcases hcase with e | e | e | e
  · have hi3 : i = 4 * q := by omega
    rw [e, shl_nI (by decide) (by omega), or_nI (by unfold wpk; simp (disch := omega) only [lt_f]; omega) (by omega), or_add (by unfold wpk; simp (disch := omega) only [lt_f]; omega)]
    unfold wpk
    subst hi3
    simp (disch := omega) only [lt_f, lt_t]
    simp
  · have hi3 : i = 4 * q + 1 := by omega
    rw [e, shl_nI (by decide) (by omega), or_nI (by unfold wpk; simp (disch := omega) only [lt_f, lt_t]; omega) (by omega), or_add (by unfold wpk; simp (disch := omega) only [lt_f, lt_t]; omega)]
    unfold wpk
    subst hi3
    simp (disch := omega) only [lt_f, lt_t]
    rw [show b + (4 * q + 1) = b + 4 * q + 1 by omega]
    congr 1
    omega
  · have hi3 : i = 4 * q + 2 := by omega
    rw [e, shl_nI (by decide) (by omega), or_nI (by unfold wpk; simp (disch := omega) only [lt_f, lt_t]; omega) (by omega), or_add (by unfold wpk; simp (disch := omega) only [lt_f, lt_t]; omega)]
    unfold wpk
    subst hi3
    simp (disch := omega) only [lt_f, lt_t]
    rw [show b + (4 * q + 2) = b + 4 * q + 2 by omega]
    congr 1
    omega
  · have hi3 : i = 4 * q + 3 := by omega
    rw [e, shl_nI (by decide) (by omega), or_nI (by unfold wpk; simp (disch := omega) only [lt_f, lt_t]; omega) (by omega), or_add (by unfold wpk; simp (disch := omega) only [lt_f, lt_t]; omega)]
    unfold wpk
    subst hi3
    simp (disch := omega) only [lt_f, lt_t]
    rw [show b + (4 * q + 3) = b + 4 * q + 3 by omega]
    congr 1
    omega
end M2
