/-! ===== the class closes ranks ===== -/
def mvO (g : List (Ch × Bool)) (j : Nat) : Option Nat := match g[j]? with
  | some q => if q.2 then none else some (held (g.take j)).length
  | none => none
theorem mvO_app {P X : List (Ch × Bool)} {j : Nat} (hj : j < P.length) : mvO (P ++ X) j = mvO P j := by
  unfold mvO
  rw [List.getElem?_append_left hj, List.take_append_of_le_length (by omega)]
theorem mvO_at {P X : List (Ch × Bool)} {q : Ch × Bool} : mvO (P ++ q :: X) P.length = if q.2 then none else some (held P).length := by
  unfold mvO
  rw [List.getElem?_append_right (Nat.le_refl _), Nat.sub_self, List.getElem?_cons_zero, List.take_append_of_le_length (Nat.le_refl _), List.take_length]
theorem held_at {P : List (Ch × Bool)} {j : Nat} (hj : j < P.length) (h : P[j].2 = false) : mvO P j = some (held (P.take j)).length ∧ (held P)[(held (P.take j)).length]? = some P[j].1 ∧ (held (P.take j)).length < (held P).length := by
  have e : P = P.take j ++ P[j] :: P.drop (j + 1) := by rw [List.getElem_cons_drop, List.take_append_drop]
  have e2 : held P = held (P.take j) ++ P[j].1 :: held (P.drop (j + 1)) := by
    conv => lhs; rw [e]
    rw [held_app, held_cons, h]
    rfl
  refine ⟨?_, ?_, ?_⟩
  · unfold mvO
    rw [List.getElem?_eq_getElem hj]
    simp [h]
  · rw [e2, List.getElem?_append_right (Nat.le_refl _), Nat.sub_self]
    rfl
  · rw [e2]
    simp
theorem mvO_gone {P : List (Ch × Bool)} {j : Nat} (hj : j < P.length) (h : P[j].2 = true) : mvO P j = none := by
  unfold mvO
  rw [List.getElem?_eq_getElem hj]
  simp [h]
theorem held_pair {P : List (Ch × Bool)} (hp : (P.map Prod.fst).Pairwise (fun a b => cI a < cI b)) {j : Nat} (hj : j < P.length) : (held P).any (fun e => (cI e : Int) == (cI P[j].1 : Int)) = !P[j].2 := by
  cases h : P[j].2 with
  | false =>
    rw [Bool.not_false, List.any_eq_true]
    exact ⟨P[j].1, held_mem.mpr (by rw [← h]; exact List.getElem_mem hj), by simp⟩
  | true =>
    rw [Bool.not_true, List.any_eq_false]
    intro e he
    have h1 := held_mem.mp he
    obtain ⟨i, hi, hi2⟩ := List.getElem_of_mem h1
    simp only [beq_iff_eq, Int.natCast_inj]
    intro hq
    have hpw := List.pairwise_iff_getElem.mp hp
    have hij : i = j := by
      rcases Nat.lt_trichotomy i j with w | w | w
      · have := hpw i j (by simpa using hi) (by simpa using hj) w
        rw [List.getElem_map, List.getElem_map, hi2] at this
        have this : cI e < cI P[j].1 := this
        omega
      · exact w
      · have := hpw j i (by simpa using hj) (by simpa using hi) w
        rw [List.getElem_map, List.getElem_map, hi2] at this
        have this : cI P[j].1 < cI e := this
        omega
    subst hij
    rw [hi2] at h
    cases h
theorem nds_held {P : List (Ch × Bool)} {c : Ch} {f : Nat → Option Nat} (hp : (P.map Prod.fst).Pairwise (fun a b => cI a < cI b)) (f2 : ∀ i, i < 4 → ∀ j, f i = some j → j < P.length) (f3 : (ndI (P.map Prod.fst) f).Perm (prs (P.map Prod.fst) c)) :
    (∀ i, i < 4 → ∀ j, (f i).bind (mvO P) = some j → j < (held P).length) ∧ (ndI (held P) (fun i => (f i).bind (mvO P))).Perm (prs (held P) c) := by
  constructor
  · intro i hi j hj
    obtain ⟨k, hk, hk2⟩ := Option.bind_eq_some_iff.mp hj
    have hkl := f2 i hi k hk
    cases h : P[k].2 with
    | true => rw [mvO_gone hkl h] at hk2; cases hk2
    | false =>
      obtain ⟨a1, -, a3⟩ := held_at hkl h
      rw [a1] at hk2
      cases hk2
      exact a3
  · have h1 : ndI (held P) (fun i => (f i).bind (mvO P)) = (ndI (P.map Prod.fst) f).filter (fun n => (held P).any (fun e => (cI e : Int) == n)) := by
      unfold ndI
      rw [← List.filterMap_filterMap]
      have hL : ∀ j ∈ (List.range 4).filterMap f, j < P.length := fun j hj => by
        obtain ⟨i, hi, hi2⟩ := List.mem_filterMap.mp hj
        exact f2 i (List.mem_range.mp hi) j hi2
      generalize (List.range 4).filterMap f = L at hL
      induction L with
      | nil => rfl
      | cons j L ih =>
        have hj := hL j List.mem_cons_self
        have ih := ih (fun x hx => hL x (List.mem_cons_of_mem _ hx))
        have hid : (((P.map Prod.fst)[j]?).map (fun e => (cI e : Int))).getD 0 = (cI P[j].1 : Int) := by
          rw [List.getElem?_map, List.getElem?_eq_getElem hj]
          rfl
        rw [List.map_cons, List.filter_cons, hid, held_pair hp hj]
        cases h : P[j].2 with
        | true =>
          rw [List.filterMap_cons, mvO_gone hj h]
          exact ih
        | false =>
          obtain ⟨a1, a2, -⟩ := held_at hj h
          rw [List.filterMap_cons, a1]
          simp only [List.map_cons, a2, Option.map_some, Option.getD_some, Bool.not_false, if_true]
          rw [ih]
    have h2 : prs (held P) c = (prs (P.map Prod.fst) c).filter (fun n => (held P).any (fun e => (cI e : Int) == n)) := by
      unfold prs
      rw [List.filter_filter]
      refine List.filter_congr (fun n _ => ?_)
      cases hh : (held P).any (fun e => (cI e : Int) == n) with
      | false => rfl
      | true =>
        obtain ⟨e, he, he2⟩ := List.any_eq_true.mp hh
        have : (P.map Prod.fst).any (fun e => (cI e : Int) == n) = true := List.any_eq_true.mpr ⟨e, List.mem_map.mpr ⟨(e, false), held_mem.mp he, rfl⟩, he2⟩
        rw [this]
        rfl
    rw [h1, h2]
    exact f3.filter _
/-- a change moved to its new place; what was there is told by the old ones -/
def Cmv (I : Nat → Nat → Int32) (s : Nat) (d : Nat → Nat) (P1 : List (Ch × Bool)) (c : Ch) : Prop :=
  I (s + 2) (held P1).length = nI (cB c) ∧ I (s + 3) (held P1).length = nI (cP c) ∧ I (s + 4) (held P1).length = nI (cV c) ∧ (∀ i, i < 16 → cP c = 16 ∨ cP c = i → I (s + 5) (16 * (held P1).length + i) = nI (vA d (P1.map Prod.fst) (16 * cB c + i))) ∧ Nds (I (s + 6)) (held P1) c ∧ I (s + 7) (held P1).length = oI (allB c) ∧ (0 ≤ c1 c ∧ 0 ≤ c3 c ∧ 0 ≤ c4 c)
theorem Cmv.mv {I I' : Nat → Nat → Int32} {s : Nat} {d : Nat → Nat} {P1 : List (Ch × Bool)} {c : Ch} (C : Cmv I s d P1 c) (h2 : I' (s + 2) (held P1).length = I (s + 2) (held P1).length) (h3 : I' (s + 3) (held P1).length = I (s + 3) (held P1).length) (h4 : I' (s + 4) (held P1).length = I (s + 4) (held P1).length) (h5 : ∀ i, i < 16 → I' (s + 5) (16 * (held P1).length + i) = I (s + 5) (16 * (held P1).length + i)) (h6 : ∀ i, i < 4 → I' (s + 6) (4 * (held P1).length + i) = I (s + 6) (4 * (held P1).length + i)) (h7 : I' (s + 7) (held P1).length = I (s + 7) (held P1).length) : Cmv I' s d P1 c := by
  obtain ⟨a1, a2, a3, a4, ⟨f, a5, a6, a7⟩, a8, a9⟩ := C
  exact ⟨by rw [h2]; exact a1, by rw [h3]; exact a2, by rw [h4]; exact a3, fun i hi hp => by rw [h5 i hi]; exact a4 i hi hp, ⟨f, fun i hi => by rw [h6 i hi]; exact a5 i hi, a6, a7⟩, by rw [h7]; exact a8, a9⟩
section C9
variable {s p z : Nat} {S : St}
theorem c_mvN {k lf : Nat} (hk : k < 200) (hlf : lf ≤ k) (hps : p + 5 ≤ s ∨ s + 10 ≤ p) {f g : Nat → Option Nat} (f2 : ∀ i, i < 4 → ∀ j, f i = some j → j < k) (g2 : ∀ j, j < k → ∀ i, g j = some i → i < 200) : ∀ (t i n : Nat) (h : Hp), i + t = 4 → t < n → SO h s → PO h p → (∀ i', i ≤ i' → i' < 4 → h.2 (s + 6) (4 * k + i') = oI (f i')) → (∀ j, j < k → h.2 (p + 2) j = oI (g j)) →
    ∃ h', gX2_moveChange n 51 [.ref p, .ref s, .int (nI k), .int (nI lf), .int (nI i), uV] [] h = some (.inl none, h') ∧ h'.1 = h.1 ∧ (∀ a, a ≠ s + 6 → a ≠ s + 5 → h'.2 a = h.2 a) ∧
      (∀ y, h'.2 (s + 6) y = if 4 * lf + i ≤ y ∧ y < 4 * lf + 4 then oI ((f (y - 4 * lf)).bind g) else h.2 (s + 6) y) ∧ (∀ y, h'.2 (s + 5) y = if 16 * lf ≤ y ∧ y < 16 * lf + 16 then h.2 (s + 5) (y + 16 * (k - lf)) else h.2 (s + 5) y) := by
  intro t
  induction t with
  | zero =>
    intro i n h hi hn O M hf hg
    obtain ⟨n, rfl⟩ := sc hn
    obtain ⟨r1, -, -, -, -, ⟨r8, r9, r10⟩, -⟩ := id O
    have hi4 : i = 4 := by omega
    subst hi4
    rw [zX2_moveChange_51]
    by_cases hkl : k = lf
    · subst hkl
      refine ⟨h, ?_, rfl, fun _ _ _ => rfl, fun y => by rw [if_neg (by omega)], fun y => ?_⟩
      · simp (maxSteps := 3000000) (disch := omega) only [kX2_moveChange_51, ↓reduceIte, if_true, if_false, ite_not, not_true_eq_false, not_false_eq_true, ↓qqI_p, ↓qqR_p, ↓qqV_p, ↓qqIx_p, ↓qqRx_p, ↓qqVx_p, qqI_s, qqR_s, qqV_s, qqIx_s, qqRx_s, qqVx_s, qqIx_t, qqVx_t, ↓letH_s, inB_nI, nI_leI, nI_ltI, nI_eq, nI_eq0, nI_eqm, nI_eqn, nI_le0, nI_lt0, nI_0lt, nI_0le, nI_clamp, pk_mul, nI_add, pk_div, pk_sub, rem_n, z_add, add_z, m_cell, kmk, lmk, rmk, b2i_0, b2i_n1, bft, le_t, le_f, lt_t, lt_f, eq_t, eq_f, k1, k2, k3, k4, k5, k6, k7, k8, k9, k10, k11, k12, k13, k15, k16, k20, k24, k30, k60, k64, k99, k100, k200, k255, k256, k512, k2912, k3392, k3393, k3394, k3395, k3396, k3397, k3398]
      · rw [Nat.sub_self, Nat.mul_zero, Nat.add_zero]
        split <;> rfl
    · refine ⟨(h.1, cpI h.2 (s + 5) (s + 5) (k * 16) (lf * 16) 16), ?_, rfl, fun a x y => cpI_ne y, fun y => by dsimp only; rw [cpI_ne (by omega), if_neg (by omega)], fun y => ?_⟩
      · simp (maxSteps := 3000000) (disch := omega) only [kX2_moveChange_51, r1, r8, r9, r10, ↓reduceIte, if_true, if_false, ite_not, not_true_eq_false, not_false_eq_true, ↓qqI_p, ↓qqR_p, ↓qqV_p, ↓qqIx_p, ↓qqRx_p, ↓qqVx_p, qqI_s, qqR_s, qqV_s, qqIx_s, qqRx_s, qqVx_s, qqIx_t, qqVx_t, ↓letH_s, inB_nI, nI_leI, nI_ltI, nI_eq, nI_eq0, nI_eqm, nI_eqn, nI_le0, nI_lt0, nI_0lt, nI_0le, nI_clamp, pk_mul, nI_add, pk_div, pk_sub, rem_n, z_add, add_z, m_cell, kmk, lmk, rmk, b2i_0, b2i_n1, bft, le_t, le_f, lt_t, lt_f, eq_t, eq_f, k1, k2, k3, k4, k5, k6, k7, k8, k9, k10, k11, k12, k13, k15, k16, k20, k24, k30, k60, k64, k99, k100, k200, k255, k256, k512, k2912, k3392, k3393, k3394, k3395, k3396, k3397, k3398]
      · dsimp only
        rw [cpI_at]
        by_cases hy : 16 * lf ≤ y ∧ y < 16 * lf + 16
        · rw [if_pos (by omega), if_pos hy, show k * 16 + (y - lf * 16) = y + 16 * (k - lf) by omega]
        · rw [if_neg (by omega), if_neg hy]
  | succ t ih =>
    intro i n h hi hn O M hf hg
    obtain ⟨n, rfl⟩ := sc hn
    obtain ⟨r1, -, -, -, -, -, ⟨r8, r9, r10⟩, -⟩ := id O
    obtain ⟨M0, -, ⟨M1, M2, M3⟩, -⟩ := id M
    have hv := hf i (Nat.le_refl _) (by omega)
    obtain ⟨h', i1, i2, i3, i4, i5⟩ := ih (i + 1) n (h.1, upI h.2 (s + 6) (lf * 4 + i) (oI ((f i).bind g))) (by omega) (by omega) O.up M.up (fun i' h1 h2 => by
      dsimp only
      rw [upI_at, if_neg (by omega)]
      exact hf i' (by omega) h2) (fun j hj => by dsimp only; rw [upI_ne (by omega)]; exact hg j hj)
    refine ⟨h', ?_, i2, fun a x y => by rw [i3 a x y]; exact upI_ne x, fun y => ?_, fun y => ?_⟩
    · rw [zX2_moveChange_51, ← i1]
      obtain hfi | ⟨j, hfi⟩ : f i = none ∨ ∃ j, f i = some j := by cases f i with
        | none => exact Or.inl rfl
        | some j => exact Or.inr ⟨j, rfl⟩
      · rw [hfi] at hv
        have hv : h.2 (s + 6) (k * 4 + i) = -1 := by rw [show k * 4 + i = 4 * k + i by omega]; exact hv
        rw [hfi]
        simp (maxSteps := 3000000) (disch := omega) only [kX2_moveChange_51, r1, r8, r9, r10, ↓reduceIte, if_true, if_false, ite_not, not_true_eq_false, not_false_eq_true, ↓qqI_p, ↓qqR_p, ↓qqV_p, ↓qqIx_p, ↓qqRx_p, ↓qqVx_p, qqI_s, qqR_s, qqV_s, qqIx_s, qqRx_s, qqVx_s, qqIx_t, qqVx_t, ↓letH_s, inB_nI, nI_leI, nI_ltI, nI_eq, nI_eq0, nI_eqm, nI_eqn, nI_le0, nI_lt0, nI_0lt, nI_0le, nI_clamp, pk_mul, nI_add, pk_div, pk_sub, rem_n, z_add, add_z, m_cell, kmk, lmk, rmk, b2i_0, b2i_n1, bft, le_t, le_f, lt_t, lt_f, eq_t, eq_f, k1, k2, k3, k4, k5, k6, k7, k8, k9, k10, k11, k12, k13, k15, k16, k20, k24, k30, k60, k64, k99, k100, k200, k255, k256, k512, k2912, k3392, k3393, k3394, k3395, k3396, k3397, k3398, hv]
        rfl
      · have hj := f2 i (by omega) j hfi
        have hgj := hg j hj
        rw [hfi] at hv
        have hv : h.2 (s + 6) (k * 4 + i) = nI j := by rw [show k * 4 + i = 4 * k + i by omega]; exact hv
        rw [hfi, Option.bind_some]
        simp (maxSteps := 3000000) (disch := omega) only [kX2_moveChange_51, r1, r8, r9, r10, M0, M1, M2, M3, ↓reduceIte, if_true, if_false, ite_not, not_true_eq_false, not_false_eq_true, ↓qqI_p, ↓qqR_p, ↓qqV_p, ↓qqIx_p, ↓qqRx_p, ↓qqVx_p, qqI_s, qqR_s, qqV_s, qqIx_s, qqRx_s, qqVx_s, qqIx_t, qqVx_t, ↓letH_s, inB_nI, nI_leI, nI_ltI, nI_eq, nI_eq0, nI_eqm, nI_eqn, nI_le0, nI_lt0, nI_0lt, nI_0le, nI_clamp, pk_mul, nI_add, pk_div, pk_sub, rem_n, z_add, add_z, m_cell, kmk, lmk, rmk, b2i_0, b2i_n1, bft, le_t, le_f, lt_t, lt_f, eq_t, eq_f, k1, k2, k3, k4, k5, k6, k7, k8, k9, k10, k11, k12, k13, k15, k16, k20, k24, k30, k60, k64, k99, k100, k200, k255, k256, k512, k2912, k3392, k3393, k3394, k3395, k3396, k3397, k3398, hv, hgj]
    · rw [i4]
      dsimp only
      rw [upI_at]
      by_cases q : y = lf * 4 + i
      · rw [if_neg (by omega), if_pos q, if_pos (by omega), show y - 4 * lf = i by omega]
      · rw [if_neg (c := y = lf * 4 + i) q]
        by_cases q2 : 4 * lf + (i + 1) ≤ y ∧ y < 4 * lf + 4
        · rw [if_pos q2, if_pos (by omega)]
        · rw [if_neg q2, if_neg (by omega)]
    · rw [i5]
      dsimp only
      rw [upI_ne (by omega)]
theorem c_move {h : Hp} {k lf : Nat} (hk : k < 200) (hlf : lf ≤ k) (hps : p + 5 ≤ s ∨ s + 10 ≤ p) (O : SO h s) (M : PO h p) {f g : Nat → Option Nat} (f1 : ∀ i, i < 4 → h.2 (s + 6) (4 * k + i) = oI (f i)) (f2 : ∀ i, i < 4 → ∀ j, f i = some j → j < k) (hg : ∀ j, j < k → h.2 (p + 2) j = oI (g j)) (g2 : ∀ j, j < k → ∀ i, g j = some i → i < 200) :
    ∃ h', fX2_moveChange p s (nI k) (nI lf) h = some (.inl none, h') ∧ h'.1 = h.1 ∧ (∀ a, a < s + 2 ∨ s + 7 < a → h'.2 a = h.2 a) ∧
      (∀ y, h'.2 (s + 2) y = if y = lf then h.2 (s + 2) k else h.2 (s + 2) y) ∧ (∀ y, h'.2 (s + 3) y = if y = lf then h.2 (s + 3) k else h.2 (s + 3) y) ∧ (∀ y, h'.2 (s + 4) y = if y = lf then h.2 (s + 4) k else h.2 (s + 4) y) ∧ (∀ y, h'.2 (s + 7) y = if y = lf then h.2 (s + 7) k else h.2 (s + 7) y) ∧
      (∀ y, h'.2 (s + 6) y = if 4 * lf ≤ y ∧ y < 4 * lf + 4 then oI ((f (y - 4 * lf)).bind g) else h.2 (s + 6) y) ∧ (∀ y, h'.2 (s + 5) y = if 16 * lf ≤ y ∧ y < 16 * lf + 16 then h.2 (s + 5) (y + 16 * (k - lf)) else h.2 (s + 5) y) := by
  obtain ⟨r1, -, ⟨r2, r3, r4⟩, ⟨r5, r6, r7⟩, ⟨r8, r9, r10⟩, -, -, ⟨r11, r12, r13⟩, -⟩ := id O
  generalize hI : upI (upI (upI (upI h.2 (s + 2) lf (h.2 (s + 2) k)) (s + 3) lf (h.2 (s + 3) k)) (s + 4) lf (h.2 (s + 4) k)) (s + 7) lf (h.2 (s + 7) k) = I
  have hIo : ∀ a, a ≠ s + 2 → a ≠ s + 3 → a ≠ s + 4 → a ≠ s + 7 → I a = h.2 a := fun a x1 x2 x3 x4 => by rw [← hI, upI_ne x4, upI_ne x3, upI_ne x2, upI_ne x1]
  obtain ⟨h', i1, i2, i3, i4, i5⟩ := c_mvN hk hlf hps f2 g2 4 0 FF (h.1, I) rfl (by decide) O.up M.up (fun i' _ h2 => by dsimp only; rw [hIo _ (by omega) (by omega) (by omega) (by omega)]; exact f1 i' h2) (fun j hj => by dsimp only; rw [hIo _ (by omega) (by omega) (by omega) (by omega)]; exact hg j hj)
  dsimp only at i2 i3 i4 i5
  refine ⟨h', ?_, i2, fun a ha => by rw [i3 a (by omega) (by omega), hIo _ (by omega) (by omega) (by omega) (by omega)], fun y => ?_, fun y => ?_, fun y => ?_, fun y => ?_, fun y => ?_, fun y => ?_⟩
  · unfold fX2_moveChange
    have e3 : upI h.2 (s + 2) lf (h.2 (s + 2) k) (s + 3) = h.2 (s + 3) := upI_ne (by omega)
    have e4 : ∀ v, upI (upI h.2 (s + 2) lf (h.2 (s + 2) k)) (s + 3) lf v (s + 4) = h.2 (s + 4) := fun v => by rw [upI_ne (by omega), upI_ne (by omega)]
    have e7 : ∀ v w, upI (upI (upI h.2 (s + 2) lf (h.2 (s + 2) k)) (s + 3) lf v) (s + 4) lf w (s + 7) = h.2 (s + 7) := fun v w => by rw [upI_ne (by omega), upI_ne (by omega), upI_ne (by omega)]
    simp (maxSteps := 3000000) (disch := omega) only [kX2_moveChange_0, r1, r2, r3, r4, r5, r6, r7, r8, r9, r10, r11, r12, r13, ↓reduceIte, if_true, if_false, ite_not, not_true_eq_false, not_false_eq_true, ↓qqI_p, ↓qqR_p, ↓qqV_p, ↓qqIx_p, ↓qqRx_p, ↓qqVx_p, qqI_s, qqR_s, qqV_s, qqIx_s, qqRx_s, qqVx_s, qqIx_t, qqVx_t, ↓letH_s, inB_nI, nI_leI, nI_ltI, nI_eq, nI_eq0, nI_eqm, nI_eqn, nI_le0, nI_lt0, nI_0lt, nI_0le, nI_clamp, pk_mul, nI_add, pk_div, pk_sub, rem_n, z_add, add_z, m_cell, kmk, lmk, rmk, b2i_0, b2i_n1, bft, le_t, le_f, lt_t, lt_f, eq_t, eq_f, k1, k2, k3, k4, k5, k6, k7, k8, k9, k10, k11, k12, k13, k15, k16, k20, k24, k30, k60, k64, k99, k100, k200, k255, k256, k512, k2912, k3392, k3393, k3394, k3395, k3396, k3397, k3398, e3, e4, e7]
    rw [hI]
    exact i1
  · rw [i3 _ (by omega) (by omega), ← hI, upI_ne (by omega), upI_ne (by omega), upI_ne (by omega), upI_at]
  · rw [i3 _ (by omega) (by omega), ← hI, upI_ne (by omega), upI_ne (by omega), upI_at, upI_ne (by omega)]
  · rw [i3 _ (by omega) (by omega), ← hI, upI_ne (by omega), upI_at, upI_ne (by omega), upI_ne (by omega)]
  · rw [i3 _ (by omega) (by omega), ← hI, upI_at, upI_ne (by omega), upI_ne (by omega), upI_ne (by omega)]
  · rw [i4, Nat.add_zero, hIo _ (by omega) (by omega) (by omega) (by omega)]
  · rw [i5, hIo _ (by omega) (by omega) (by omega) (by omega)]
theorem c_close_go {b : Nat} (hps : p + 5 ≤ s ∨ s + 10 ≤ p) {I0 : Nat → Nat → Int32} (C0 : ∀ pre c l, sC S = pre ++ c :: l → Cst I0 s (sD S) pre c) (hB : Bd S) : ∀ (T P : List (Ch × Bool)) (n : Nat) (h : Hp), goes b (sC S) = P ++ T → T.length < n → SO h s → PO h p → Flc h p (goes b (sC S)) → h.2 s 2 = nI (sC S).length →
    (∀ j, j < P.length → h.2 (p + 2) j = oI (mvO (goes b (sC S)) j)) → (∀ y, P.length ≤ y → h.2 (s + 2) y = I0 (s + 2) y ∧ h.2 (s + 3) y = I0 (s + 3) y ∧ h.2 (s + 4) y = I0 (s + 4) y ∧ h.2 (s + 7) y = I0 (s + 7) y) → (∀ y, 16 * P.length ≤ y → h.2 (s + 5) y = I0 (s + 5) y) → (∀ y, 4 * P.length ≤ y → h.2 (s + 6) y = I0 (s + 6) y) →
    (∀ P1 q P2, P = P1 ++ q :: P2 → q.2 = false → Cmv h.2 s (sD S) P1 q.1) →
    ∃ h', gX2_closeRanks n 4 [.ref p, .ref s, .int (nI (held P).length), .int (nI P.length)] [] h = some (.inl none, h') ∧ h'.1 = h.1 ∧ (∀ a, a < s + 2 ∨ s + 7 < a → a ≠ s → a ≠ p + 2 → h'.2 a = h.2 a) ∧ (∀ j, j ≠ 2 → h'.2 s j = h.2 s j) ∧ h'.2 s 2 = nI (held (goes b (sC S))).length ∧
      (∀ j, j < (sC S).length → h'.2 (p + 2) j = oI (mvO (goes b (sC S)) j)) ∧ (∀ P1 q P2, goes b (sC S) = P1 ++ q :: P2 → q.2 = false → Cmv h'.2 s (sD S) P1 q.1) := by
  have hgl := goes_len b (sC S)
  have hB1 := hB.1
  intro T
  induction T with
  | nil =>
    intro P n h hg hn O M F hun hmv ho1 ho2 ho3 hC
    obtain ⟨n, rfl⟩ := sc hn
    have hP : P = goes b (sC S) := by rw [hg]; simp
    have hPl : P.length = (sC S).length := by rw [hP, hgl]
    refine ⟨(h.1, upI h.2 s 2 (nI (held P).length)), ?_, rfl, fun a _ x _ => upI_ne x, fun j hj => by dsimp only; rw [upI_at, if_neg hj], by dsimp only; rw [upI_at, if_pos rfl, hP], fun j hj => by dsimp only; rw [upI_ne (by omega)]; exact hmv j (by omega), fun P1 q P2 e hq => ?_⟩
    · rw [zX2_closeRanks_4]
      simp (maxSteps := 3000000) (disch := omega) only [kX2_closeRanks_4, O.1, ↓reduceIte, if_true, if_false, ite_not, not_true_eq_false, not_false_eq_true, ↓qqI_p, ↓qqR_p, ↓qqV_p, ↓qqIx_p, ↓qqRx_p, ↓qqVx_p, qqI_s, qqR_s, qqV_s, qqIx_s, qqRx_s, qqVx_s, qqIx_t, qqVx_t, ↓letH_s, inB_nI, nI_leI, nI_ltI, nI_eq, nI_eq0, nI_eqm, nI_eqn, nI_le0, nI_lt0, nI_0lt, nI_0le, nI_clamp, pk_mul, nI_add, pk_div, pk_sub, rem_n, z_add, add_z, m_cell, kmk, lmk, rmk, b2i_0, b2i_n1, bft, le_t, le_f, lt_t, lt_f, eq_t, eq_f, k1, k2, k3, k4, k5, k6, k7, k8, k9, k10, k11, k12, k13, k15, k16, k20, k24, k30, k60, k64, k99, k100, k200, k255, k256, k512, k2912, k3392, k3393, k3394, k3395, k3396, k3397, k3398, hun, hPl]
    · refine (hC P1 q P2 (by rw [hP]; exact e) hq).mv ?_ ?_ ?_ (fun i hi => ?_) (fun i hi => ?_) ?_ <;> dsimp only <;> rw [upI_ne (by omega)]
  | cons q T ih =>
    intro P n h hg hn O M F hun hmv ho1 ho2 ho3 hC
    obtain ⟨n, rfl⟩ := sc hn
    have hPl : P.length + 1 + T.length = (sC S).length := by rw [← hgl, hg]; simp; omega
    obtain ⟨M0, ⟨M1, M2, M3⟩, ⟨M4, M5, M6⟩, -⟩ := id M
    have hF := F P q T hg
    have e : sC S = P.map Prod.fst ++ q.1 :: T.map Prod.fst := by
      have := goes_fst b (sC S)
      rw [hg] at this
      rw [← this]
      simp
    have hmvq : mvO (goes b (sC S)) P.length = if q.2 then none else some (held P).length := by rw [hg]; exact mvO_at
    have hhl : (held P).length ≤ P.length := by unfold held; rw [List.length_map]; exact List.length_filter_le _ _
    have ihq := ih (P ++ [q]) n
    rw [len1, held_app, List.length_append] at ihq
    cases hq : q.2 with
    | true =>
      rw [hq] at hmvq hF
      have hh : (held [q]).length = 0 := by rw [held_cons, hq]; rfl
      rw [hh, Nat.add_zero] at ihq
      obtain ⟨h', i1, i2, i3, i4, i5, i6, i7⟩ := ihq (h.1, upI h.2 (p + 2) P.length (-1)) (by rw [hg]; simp) (by simp at hn; omega) O.up M.up (fun P' q' T' e' => by dsimp only; rw [upI_ne (by omega)]; exact F P' q' T' e') (by dsimp only; rw [upI_ne (by omega)]; exact hun) (fun j hj => by
        dsimp only
        rw [upI_at]
        by_cases w : j = P.length
        · rw [if_pos w, w, hmvq]; rfl
        · rw [if_neg w]; exact hmv j (by omega)) (fun y hy => by dsimp only; rw [upI_ne (by omega), upI_ne (by omega), upI_ne (by omega), upI_ne (by omega)]; exact ho1 y (by omega)) (fun y hy => by dsimp only; rw [upI_ne (by omega)]; exact ho2 y (by omega)) (fun y hy => by dsimp only; rw [upI_ne (by omega)]; exact ho3 y (by omega)) (fun P1 x P2 w wx => by
          rcases List.eq_nil_or_concat P2 with rfl | ⟨P2', y, rfl⟩
          · obtain ⟨w1, w2⟩ := List.append_inj' w rfl
            cases w2
            rw [hq] at wx
            cases wx
          · rw [List.concat_eq_append] at w
            have w3 : P ++ [q] = (P1 ++ x :: P2') ++ [y] := by rw [w]; simp
            obtain ⟨w1, -⟩ := List.append_inj' w3 rfl
            refine (hC P1 x P2' w1 wx).mv ?_ ?_ ?_ (fun i hi => ?_) (fun i hi => ?_) ?_ <;> dsimp only <;> rw [upI_ne (by omega)])
      refine ⟨h', ?_, i2, fun a x1 x2 x3 => by rw [i3 a x1 x2 x3]; exact upI_ne x3, fun j hj => by rw [i4 j hj]; dsimp only; rw [upI_ne (by omega)], i5, i6, i7⟩
      rw [zX2_closeRanks_4, ← i1]
      rw [b2i_t1] at hF
      simp (maxSteps := 3000000) (disch := omega) only [kX2_closeRanks_4, O.1, M0, M1, M2, M3, M4, M5, M6, ↓reduceIte, if_true, if_false, ite_not, not_true_eq_false, not_false_eq_true, ↓qqI_p, ↓qqR_p, ↓qqV_p, ↓qqIx_p, ↓qqRx_p, ↓qqVx_p, qqI_s, qqR_s, qqV_s, qqIx_s, qqRx_s, qqVx_s, qqIx_t, qqVx_t, ↓letH_s, inB_nI, nI_leI, nI_ltI, nI_eq, nI_eq0, nI_eqm, nI_eqn, nI_le0, nI_lt0, nI_0lt, nI_0le, nI_clamp, pk_mul, nI_add, pk_div, pk_sub, rem_n, z_add, add_z, m_cell, kmk, lmk, rmk, b2i_0, b2i_n1, bft, le_t, le_f, lt_t, lt_f, eq_t, eq_f, k1, k2, k3, k4, k5, k6, k7, k8, k9, k10, k11, k12, k13, k15, k16, k20, k24, k30, k60, k64, k99, k100, k200, k255, k256, k512, k2912, k3392, k3393, k3394, k3395, k3396, k3397, k3398, hun, hF]
      rfl
    | false =>
      rw [hq] at hmvq hF
      have hh : (held [q]).length = 1 := by rw [held_cons, hq]; rfl
      rw [hh] at ihq
      obtain ⟨a1, a2, a3, a4, ⟨f, f1, f2, f3⟩, a8, a9⟩ := C0 _ _ _ e
      rw [List.length_map] at a1 a2 a3 a8 f1 f2
      simp only [List.length_map] at a4
      have hpw : (P.map Prod.fst).Pairwise (fun a b => cI a < cI b) := by
        have := hB.2.2.2.2.2.2
        rw [e] at this
        exact (List.pairwise_append.mp this).1
      obtain ⟨n1, n2⟩ := nds_held (c := q.1) hpw f2 f3
      have hmv2 : ∀ j, j < P.length → mvO (goes b (sC S)) j = mvO P j := fun j hj => by rw [hg]; exact mvO_app hj
      obtain ⟨h1, b1, b2, b3, b4, b5, b6, b7, b8, b9⟩ := c_move (k := P.length) (lf := (held P).length) (by omega) hhl hps O M (f := f) (g := mvO P) (fun i hi => by rw [ho3 _ (by omega)]; exact f1 i hi) f2 (fun j hj => by rw [hmv j hj, hmv2 j hj]) (fun j hj i hi => by
        cases hz : P[j].2 with
        | true => rw [mvO_gone hj hz] at hi; cases hi
        | false => obtain ⟨z1, -, z3⟩ := held_at hj hz; rw [z1] at hi; cases hi; omega)
      obtain ⟨o1, o2, o3, o4⟩ := ho1 P.length (Nat.le_refl _)
      obtain ⟨h', i1, i2, i3, i4, i5, i6, i7⟩ := ihq (h1.1, upI h1.2 (p + 2) P.length (nI (held P).length)) (by rw [hg]; simp) (by simp at hn; omega) (SO.up (SO.eq b2 O)) (PO.up (PO.eq b2 M)) (fun P' q' T' e' => by dsimp only; rw [upI_ne (by omega), b3 _ (by omega)]; exact F P' q' T' e') (by dsimp only; rw [upI_ne (by omega), b3 _ (by omega)]; exact hun) (fun j hj => by
        dsimp only
        rw [upI_at]
        by_cases w : j = P.length
        · rw [if_pos w, w, hmvq]; rfl
        · rw [if_neg w, b3 _ (by omega)]; exact hmv j (by omega)) (fun y hy => by dsimp only; rw [upI_ne (by omega), upI_ne (by omega), upI_ne (by omega), upI_ne (by omega), b4, b5, b6, b7, if_neg (by omega), if_neg (by omega), if_neg (by omega), if_neg (by omega)]; exact ho1 y (by omega)) (fun y hy => by dsimp only; rw [upI_ne (by omega), b9, if_neg (by omega)]; exact ho2 y (by omega)) (fun y hy => by dsimp only; rw [upI_ne (by omega), b8, if_neg (by omega)]; exact ho3 y (by omega)) (fun P1 x P2 w wx => by
          rcases List.eq_nil_or_concat P2 with rfl | ⟨P2', y, rfl⟩
          · obtain ⟨w1, w2⟩ := List.append_inj' w rfl
            cases w2
            subst w1
            dsimp only
            refine ⟨?_, ?_, ?_, fun i hi hpp => ?_, ⟨fun i => (f i).bind (mvO P), fun i hi => ?_, n1, n2⟩, ?_, a9⟩
            · rw [upI_ne (by omega), b4, if_pos rfl, o1]; exact a1
            · rw [upI_ne (by omega), b5, if_pos rfl, o2]; exact a2
            · rw [upI_ne (by omega), b6, if_pos rfl, o3]; exact a3
            · rw [upI_ne (by omega), b9, if_pos (by omega), show 16 * (held P).length + i + 16 * (P.length - (held P).length) = 16 * P.length + i by omega, ho2 _ (by omega)]; exact a4 i hi hpp
            · rw [upI_ne (by omega), b8, if_pos (by omega), show 4 * (held P).length + i - 4 * (held P).length = i by omega]
            · rw [upI_ne (by omega), b7, if_pos rfl, o4]; exact a8
          · rw [List.concat_eq_append] at w
            have w3 : P ++ [q] = (P1 ++ x :: P2') ++ [y] := by rw [w]; simp
            obtain ⟨w1, -⟩ := List.append_inj' w3 rfl
            have hlt : (held P1).length < (held P).length := by
              rw [w1, held_app, held_cons, wx]
              simp
            refine (hC P1 x P2' w1 wx).mv ?_ ?_ ?_ (fun i hi => ?_) (fun i hi => ?_) ?_ <;> dsimp only <;> rw [upI_ne (by omega)]
            · rw [b4, if_neg (by omega)]
            · rw [b5, if_neg (by omega)]
            · rw [b6, if_neg (by omega)]
            · rw [b9, if_neg (by omega)]
            · rw [b8, if_neg (by omega)]
            · rw [b7, if_neg (by omega)])
      refine ⟨h', ?_, i2.trans b2, fun a x1 x2 x3 => by rw [i3 a x1 x2 x3]; dsimp only; rw [upI_ne x3]; exact b3 a (by omega), fun j hj => by rw [i4 j hj]; dsimp only; rw [upI_ne (by omega), b3 _ (by omega)], i5, i6, i7⟩
      rw [zX2_closeRanks_4, ← i1]
      rw [b2i_f] at hF
      have K1 : kH h1 p = 12 := (kh_eq b2 p).trans M0
      have K2 : rH h1 p 1 = p + 2 := (rh_eq b2 p 1).trans M4
      have K3 : kH h1 (p + 2) = 1 := (kh_eq b2 _).trans M5
      have K4 : lH h1 (p + 2) = 256 := (lh_eq b2 _).trans M6
      simp (maxSteps := 3000000) (disch := omega) only [kX2_closeRanks_4, O.1, M0, M1, M2, M3, ↓reduceIte, if_true, if_false, ite_not, not_true_eq_false, not_false_eq_true, ↓qqI_p, ↓qqR_p, ↓qqV_p, ↓qqIx_p, ↓qqRx_p, ↓qqVx_p, qqI_s, qqR_s, qqV_s, qqIx_s, qqRx_s, qqVx_s, qqIx_t, qqVx_t, ↓letH_s, inB_nI, nI_leI, nI_ltI, nI_eq, nI_eq0, nI_eqm, nI_eqn, nI_le0, nI_lt0, nI_0lt, nI_0le, nI_clamp, pk_mul, nI_add, pk_div, pk_sub, rem_n, z_add, add_z, m_cell, kmk, lmk, rmk, b2i_0, b2i_n1, bft, le_t, le_f, lt_t, lt_f, eq_t, eq_f, k1, k2, k3, k4, k5, k6, k7, k8, k9, k10, k11, k12, k13, k15, k16, k20, k24, k30, k60, k64, k99, k100, k200, k255, k256, k512, k2912, k3392, k3393, k3394, k3395, k3396, k3397, k3398, hun, hF, b1, K1, K2, K3, K4]
end C9
