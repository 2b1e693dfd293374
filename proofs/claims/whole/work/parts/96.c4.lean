/-! ===== the class puts off, lessens ===== -/
def Sc (S : St) (i j k : Nat) : Prop := Sl S i 0 k ∧ (sL S).length + j ≤ 64
theorem Sc.le {S : St} {i j k i' j' k' : Nat} (sl : Sc S i j k) (h1 : i' ≤ i) (h2 : j' ≤ j) (h3 : k' ≤ k) : Sc S i' j' k' := ⟨sl.1.le h1 (Nat.le_refl _) h3, by have := sl.2; omega⟩
theorem sc_mk {S : St} {b p v : Nat} {n1 n2 n3 n4 : Int} {i j k : Nat} (sl : Sc S (i + 1) j (k + 1)) : Sc (mk S b p v n1 n2 n3 n4) i j k := by
  refine ⟨sl_mk sl.1, ?_⟩
  unfold mk
  split
  · exact sl.2
  · exact sl.2
theorem sc_putO {S : St} {a b c i j k : Nat} (sl : Sc S i (j + 1) k) : Sc (putO S a b c) i j k := by
  refine ⟨⟨sl.1.1, ?_, sl.1.2.2⟩, ?_⟩
  · show (sL S ++ [_]).length + 0 ≤ 160
    rw [len1]
    have := sl.2
    omega
  · show (sL S ++ [_]).length + j ≤ 64
    rw [len1]
    have := sl.2
    omega
def lasF (b p : Nat) (q : Nat × Option Nat) (c : Ch) : Nat × Option Nat := (q.1 + 1, if cB c = b ∧ cP c = p then some q.1 else q.2)
def lasIx (l : List Ch) (b p : Nat) : Option Nat := (l.foldl (lasF b p) (0, none)).2
theorem lasF_len (b p : Nat) (l : List Ch) : (l.foldl (lasF b p) (0, none)).1 = l.length := by
  refine snoc_ind (P := fun l => (l.foldl (lasF b p) (0, none)).1 = l.length) rfl (fun l c ih => ?_) l
  rw [List.foldl_append, len1, ← ih]
  rfl
theorem lasIx_snoc (b p : Nat) (l : List Ch) (c : Ch) : lasIx (l ++ [c]) b p = if cB c = b ∧ cP c = p then some l.length else lasIx l b p := by
  unfold lasIx
  rw [List.foldl_append]
  show (if cB c = b ∧ cP c = p then some (l.foldl (lasF b p) (0, none)).1 else _) = _
  rw [lasF_len]
theorem lasIx_lt {b p j : Nat} (l : List Ch) : lasIx l b p = some j → j < l.length := by
  refine snoc_ind (P := fun l => lasIx l b p = some j → j < l.length) (fun h => by cases h) (fun l c ih h => ?_) l
  rw [lasIx_snoc] at h
  rw [len1]
  split at h
  · cases h; omega
  · have := ih h; omega
theorem las_lat (b p : Nat) (l : List Ch) : l.foldl (fun q c => if cB c = b ∧ cP c = p then cI c else q) 0 = match lasIx l b p with | some j => ((l[j]?).map cI).getD 0 | none => 0 := by
  refine snoc_ind (P := fun l => l.foldl (fun q c => if cB c = b ∧ cP c = p then cI c else q) 0 = match lasIx l b p with | some j => ((l[j]?).map cI).getD 0 | none => 0) rfl (fun l c ih => ?_) l
  rw [List.foldl_append, lasIx_snoc]
  show (if cB c = b ∧ cP c = p then cI c else _) = _
  by_cases e : cB c = b ∧ cP c = p
  · rw [if_pos e, if_pos e]
    simp
  · rw [if_neg e, if_neg e, ih]
    cases hl : lasIx l b p with
    | none => rfl
    | some j =>
      have := lasIx_lt l hl
      simp only
      rw [List.getElem?_append_left this]
section C4
variable {h : Hp} {s z : Nat} {S : St}
theorem c_latestOf (R : Sta h s S z) {b p : Nat} (hb : b < 2 ^ 31) (hp : p < 2 ^ 31) : fX5_latestOf s (nI b) (nI p) h = some (.inl (some (.int (oI (lasIx (sC S) b p)))), h) := by
  obtain ⟨r1, -, ⟨r2, r3, r4⟩, ⟨r5, r6, r7⟩, -⟩ := id R.so
  have hB := R.bd.1
  have go : ∀ (P : List Ch), ∀ (T : List Ch) (n : Nat), sC S = P ++ T → P.length < n → gX5_latestOf n 7 [.ref s, .int (nI b), .int (nI p), .int (nI P.length - 1)] [] h = some (.inl (some (.int (oI (lasIx P b p)))), h) := by
    intro P
    refine snoc_ind (P := fun P => ∀ (T : List Ch) (n : Nat), sC S = P ++ T → P.length < n → gX5_latestOf n 7 [.ref s, .int (nI b), .int (nI p), .int (nI P.length - 1)] [] h = some (.inl (some (.int (oI (lasIx P b p)))), h)) ?_ ?_ P
    · intro T n e hn
      obtain ⟨n, rfl⟩ := sc hn
      rw [zX5_latestOf_7]
      unfold kX5_latestOf_7
      rw [if_pos (by decide)]
      rfl
    · intro P c ih T n e hn
      rw [len1] at hn
      obtain ⟨n, rfl⟩ := sc hn
      have e2 : sC S = P ++ c :: T := by rw [e]; simp
      have ih := ih (c :: T) n e2 (by omega)
      obtain ⟨hc, hl, hl2⟩ := R.ch e2
      obtain ⟨q1, q2, -⟩ := R.cst e2
      obtain ⟨-, -, w1, w2, -⟩ := hc
      rw [len1, nI_pred, lasIx_snoc, zX5_latestOf_7]
      have hs1 : nI P.length + (-nI 1) = nI P.length - 1 := sub1 _
      simp (maxSteps := 3000000) (disch := omega) only [kX5_latestOf_7, r1, r2, r3, r4, r5, r6, r7, ↓reduceIte, if_true, if_false, ite_not, not_true_eq_false, not_false_eq_true, ↓qqI_p, ↓qqR_p, ↓qqV_p, ↓qqIx_p, ↓qqRx_p, ↓qqVx_p, qqI_s, qqR_s, qqV_s, qqIx_s, qqRx_s, qqVx_s, qqIx_t, qqVx_t, ↓letH_s, inB_nI, nI_leI, nI_ltI, nI_eq, nI_eq0, nI_eqm, nI_eqn, nI_le0, nI_lt0, nI_0lt, nI_0le, nI_clamp, pk_mul, nI_add, pk_div, pk_sub, rem_n, z_add, add_z, m_cell, kmk, lmk, rmk, b2i_0, b2i_n1, bft, le_t, le_f, lt_t, lt_f, eq_t, eq_f, k1, k2, k3, k4, k5, k6, k7, k8, k9, k10, k11, k12, k13, k15, k16, k20, k24, k30, k60, k64, k99, k100, k200, k255, k256, k512, k2912, k3392, k3393, k3394, k3395, k3396, k3397, k3398, q1, q2]
      rw [hs1, ih]
      by_cases e1 : cB c = b
      · by_cases e3 : cP c = p
        · simp [e1, e3, oI]
        · simp [e1, e3]
      · simp [e1]
  have := go (sC S) [] FF (by simp) (by show _ < 1000000; omega)
  unfold fX5_latestOf kX5_latestOf_0
  rw [if_pos r1, R.un]
  exact this
def tag1 (w k : Nat) : Nat := if w = 0 then 100 + k else k
theorem c_countPutOff (R : Sta h s S z) (hk : Lk S) (h64 : (sL S).length ≤ 64) {w k : Nat} (hw : w ≤ 1) (hk2 : k < 100) : fX5_countPutOff s (nI (tag1 w k)) h = some (.inl (some (.int (nI (cntL S w k)))), h) := by
  obtain ⟨r1, -, -, -, -, -, -, -, -, ⟨r2, r3, r4⟩⟩ := id R.so
  have hB := R.bd.2.1
  have ht : tag1 w k < 2 ^ 31 := by unfold tag1; split <;> omega
  have go : ∀ (l pre : List La) (n q : Nat), sL S = pre ++ l → l.length < n → q ≤ pre.length → (sL S).length ≤ 64 → gX5_countPutOff n 4 [.ref s, .int (nI (tag1 w k)), .int (nI q), .int (nI pre.length)] [] h = some (.inl (some (.int (nI (q + (l.filter (fun e => e.1 == w && e.2.1 == k)).length)))), h) := by
    intro l
    induction l with
    | nil =>
      intro pre n q e hn hq h64
      obtain ⟨n, rfl⟩ := sc hn
      have hl : (sL S).length = pre.length := by rw [e]; simp
      rw [zX5_countPutOff_4]
      simp (maxSteps := 3000000) (disch := omega) only [kX5_countPutOff_4, r1, R.wa, hl, ↓reduceIte, if_true, if_false, ite_not, not_true_eq_false, not_false_eq_true, ↓qqI_p, ↓qqR_p, ↓qqV_p, ↓qqIx_p, ↓qqRx_p, ↓qqVx_p, qqI_s, qqR_s, qqV_s, qqIx_s, qqRx_s, qqVx_s, qqIx_t, qqVx_t, ↓letH_s, inB_nI, nI_leI, nI_ltI, nI_eq, nI_eq0, nI_eqm, nI_eqn, nI_le0, nI_lt0, nI_0lt, nI_0le, nI_clamp, pk_mul, nI_add, pk_div, pk_sub, rem_n, z_add, add_z, m_cell, kmk, lmk, rmk, b2i_0, b2i_n1, bft, le_t, le_f, lt_t, lt_f, eq_t, eq_f, k1, k2, k3, k4, k5, k6, k7, k8, k9, k10, k11, k12, k13, k15, k16, k20, k24, k30, k60, k64, k99, k100, k200, k255, k256, k512, k2912, k3392, k3393, k3394, k3395, k3396, k3397, k3398, List.filter_nil, List.length_nil, Nat.add_zero]
    | cons c l ih =>
      intro pre n q e hn hq h64
      obtain ⟨n, rfl⟩ := sc hn
      have hl2 : (sL S).length = pre.length + 1 + l.length := by rw [e]; simp; omega
      obtain ⟨q0, -⟩ := R.lst e
      obtain ⟨g0, g1, g2, g3⟩ := R.bd.2.2.2.2.2.1 c (by rw [e]; simp)
      have g4 := hk c (by rw [e]; simp)
      have ih := fun q => ih (pre ++ [c]) n q (app1 e) (by simp at hn ⊢; omega)
      simp only [len1] at ih
      have ih0 := ih q (by omega) h64
      have ih1 := ih (q + 1) (by omega) h64
      have hq0 : h.2 (s + 9) pre.length = nI (tag1 c.1 c.2.1) := q0
      have ht2 : tag1 c.1 c.2.1 < 2 ^ 31 := by unfold tag1; split <;> omega
      have hiff : tag1 c.1 c.2.1 = tag1 w k ↔ (c.1 = w ∧ c.2.1 = k) := by
        unfold tag1
        constructor
        · intro x; split at x <;> split at x <;> omega
        · rintro ⟨x, y⟩; rw [x, y]
      rw [zX5_countPutOff_4]
      simp (maxSteps := 3000000) (disch := omega) only [kX5_countPutOff_4, r1, r2, r3, r4, R.wa, hl2, ↓reduceIte, if_true, if_false, ite_not, not_true_eq_false, not_false_eq_true, ↓qqI_p, ↓qqR_p, ↓qqV_p, ↓qqIx_p, ↓qqRx_p, ↓qqVx_p, qqI_s, qqR_s, qqV_s, qqIx_s, qqRx_s, qqVx_s, qqIx_t, qqVx_t, ↓letH_s, inB_nI, nI_leI, nI_ltI, nI_eq, nI_eq0, nI_eqm, nI_eqn, nI_le0, nI_lt0, nI_0lt, nI_0le, nI_clamp, pk_mul, nI_add, pk_div, pk_sub, rem_n, z_add, add_z, m_cell, kmk, lmk, rmk, b2i_0, b2i_n1, bft, le_t, le_f, lt_t, lt_f, eq_t, eq_f, k1, k2, k3, k4, k5, k6, k7, k8, k9, k10, k11, k12, k13, k15, k16, k20, k24, k30, k60, k64, k99, k100, k200, k255, k256, k512, k2912, k3392, k3393, k3394, k3395, k3396, k3397, k3398, hq0, ih0, ih1, List.filter_cons, hiff]
      by_cases e1 : c.1 = w ∧ c.2.1 = k
      · simp only [e1.1, e1.2, and_self, not_true_eq_false, if_false, beq_self_eq_true, Bool.and_self, if_true, List.length_cons]
        rw [show q + 1 + (l.filter fun e => e.1 == w && e.2.1 == k).length = q + ((l.filter fun e => e.1 == w && e.2.1 == k).length + 1) by omega]
      · have e2 : (c.1 == w && c.2.1 == k) = false := by
          cases hh : (c.1 == w && c.2.1 == k)
          · rfl
          · simp at hh; exact absurd hh e1
        simp [e1, e2]
  have := go (sL S) [] FF 0 rfl (by show _ < 1000000; omega) (by simp) h64
  rw [Nat.zero_add] at this
  exact this
end C4
