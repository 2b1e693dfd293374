/-! ===== what a block waits for: the class ===== -/
def ndsL (c : Ch) : List Int := [c1 c, c2 c, c3 c, c4 c]
def nbP (pre : List Ch) (c : Ch) (b : Nat) : Bool := pre.any (fun d => cB d == b && ((ndsL c).any (fun n => (cI d : Int) == n) || allB c == some b))
def nbN (pre : List Ch) (c : Ch) : Nat := bitsOf (nbP pre c) 16
def seenN (pre : List Ch) : Nat := bitsOf (fun b => pre.any (fun d => cB d == b)) 16
def wv (b : Nat) : List Ch → List Ch → Nat → Nat
  | _, [], a => a
  | pre, c :: l, a => wv b (pre ++ [c]) l (if cB c = b then a ||| nbN pre c else a)
theorem wv_s (b : Nat) (pre : List Ch) (c : Ch) (l : List Ch) (a : Nat) : wv b pre (c :: l) a = wv b (pre ++ [c]) l (if cB c = b then a ||| nbN pre c else a) := rfl
def cBa (pre : List Ch) (j : Nat) : Nat := ((pre[j]?).map cB).getD 0
def o2 (pre : List Ch) (o : Option Nat) : Nat := match o with | none => 0 | some j => 2 ^ cBa pre j
def orF (pre : List Ch) (f : Nat → Option Nat) : Nat → Nat → Nat
  | _, 0 => 0
  | i, m + 1 => o2 pre (f i) ||| orF pre f (i + 1) m
theorem orF_bit (pre : List Ch) (f : Nat → Option Nat) (b : Nat) : ∀ (m i : Nat), (orF pre f i m).testBit b = true ↔ ∃ i', i ≤ i' ∧ i' < i + m ∧ ∃ j, f i' = some j ∧ cBa pre j = b := by
  intro m
  induction m with
  | zero =>
    intro i
    simp [orF]
    omega
  | succ m ih =>
    intro i
    show (o2 pre (f i) ||| orF pre f (i + 1) m).testBit b = true ↔ _
    rw [Nat.testBit_or, Bool.or_eq_true, ih (i + 1)]
    constructor
    · rintro (h | ⟨i', h1, h2, h3⟩)
      · cases hf : f i with
        | none => rw [hf] at h; simp [o2] at h
        | some j =>
          rw [hf] at h
          have h : (2 ^ cBa pre j).testBit b = true := h
          rw [Nat.testBit_two_pow, decide_eq_true_eq] at h
          exact ⟨i, Nat.le_refl _, by omega, j, hf, h⟩
      · exact ⟨i', by omega, by omega, h3⟩
    · rintro ⟨i', h1, h2, j, h3, h4⟩
      by_cases hi : i' = i
      · subst hi
        left
        rw [h3]
        show (2 ^ cBa pre j).testBit b = true
        rw [Nat.testBit_two_pow, decide_eq_true_eq]
        exact h4
      · exact Or.inr ⟨i', by omega, by omega, j, h3, h4⟩
theorem seen_s (pre : List Ch) (c : Ch) (hc : cB c < 16) : seenN pre ||| 2 ^ cB c = seenN (pre ++ [c]) := by
  apply Nat.eq_of_testBit_eq
  intro i
  unfold seenN
  rw [Nat.testBit_or, Nat.testBit_two_pow, bitsOf_bit, bitsOf_bit, List.any_append]
  by_cases h : cB c = i
  · subst h
    simp [hc]
  · have h' : (cB c == i) = false := beq_eq_false_iff_ne.mpr h
    simp [h, h']
theorem nb_split {S : St} (B : Bd S) {pre l : List Ch} {c : Ch} (e : sC S = pre ++ c :: l) {f : Nat → Option Nat} (f2 : ∀ i, i < 4 → ∀ j, f i = some j → j < pre.length) (f3 : (ndI pre f).Perm (prs pre c)) : nbN pre c = orF pre f 0 4 ||| (match allB c with | none => 0 | some b => seenN pre &&& 2 ^ b) := by
  have hin : ∀ d ∈ pre, d ∈ sC S := fun d hd => by rw [e]; exact List.mem_append_left _ hd
  have h16 : ∀ d ∈ pre, cB d < 16 := fun d hd => (B.2.2.2.2.1 d (hin d hd)).2.2.1
  apply Nat.eq_of_testBit_eq
  intro i
  have hA : (orF pre f 0 4).testBit i = true ↔ ∃ d ∈ pre, cB d = i ∧ (cI d : Int) ∈ ndsL c := by
    rw [orF_bit]
    constructor
    · rintro ⟨i', -, h2, j, h3, h4⟩
      have hj := f2 i' (by omega) j h3
      have hg : pre[j]? = some pre[j] := List.getElem?_eq_getElem hj
      refine ⟨pre[j], List.getElem_mem hj, ?_, ?_⟩
      · unfold cBa at h4
        rw [hg] at h4
        exact h4
      · have hm : ((cI pre[j] : Nat) : Int) ∈ ndI pre f := by
          unfold ndI
          refine List.mem_map.mpr ⟨j, List.mem_filterMap.mpr ⟨i', List.mem_range.mpr (by omega), h3⟩, ?_⟩
          rw [hg]
          rfl
        have := f3.mem_iff.mp hm
        unfold prs at this
        exact (List.mem_filter.mp this).1
    · rintro ⟨d, hd, h1, h2⟩
      have hm : (cI d : Int) ∈ prs pre c := by
        unfold prs
        exact List.mem_filter.mpr ⟨h2, List.any_eq_true.mpr ⟨d, hd, by simp⟩⟩
      have := f3.mem_iff.mpr hm
      unfold ndI at this
      obtain ⟨j, hj, hj2⟩ := List.mem_map.mp this
      obtain ⟨i', hi', hi2⟩ := List.mem_filterMap.mp hj
      have hi4 := List.mem_range.mp hi'
      have hjl := f2 i' hi4 j hi2
      have hg : pre[j]? = some pre[j] := List.getElem?_eq_getElem hjl
      rw [hg] at hj2
      have hj2 : ((cI pre[j] : Nat) : Int) = (cI d : Int) := hj2
      have hdd := go_ids B (hin _ (List.getElem_mem hjl)) (hin d hd) (by omega)
      refine ⟨i', Nat.zero_le _, by omega, j, hi2, ?_⟩
      unfold cBa
      rw [hg, hdd]
      exact h1
  have hL : (nbN pre c).testBit i = true ↔ ∃ d ∈ pre, cB d = i ∧ ((cI d : Int) ∈ ndsL c ∨ allB c = some i) := by
    unfold nbN
    rw [bitsOf_bit, Bool.and_eq_true, decide_eq_true_eq]
    unfold nbP
    rw [List.any_eq_true]
    constructor
    · rintro ⟨-, d, hd, h⟩
      rw [Bool.and_eq_true, Bool.or_eq_true] at h
      refine ⟨d, hd, by simpa using h.1, ?_⟩
      rcases h.2 with q | q
      · obtain ⟨n, hn, hq⟩ := List.any_eq_true.mp q
        left
        have : (cI d : Int) = n := by simpa using hq
        rw [this]
        exact hn
      · right
        simpa using q
    · rintro ⟨d, hd, h1, h2⟩
      refine ⟨by have := h16 d hd; omega, d, hd, ?_⟩
      rw [Bool.and_eq_true, Bool.or_eq_true]
      refine ⟨by simpa using h1, ?_⟩
      rcases h2 with q | q
      · exact Or.inl (List.any_eq_true.mpr ⟨_, q, by simp⟩)
      · exact Or.inr (by simpa using q)
  have hR : (match allB c with | none => 0 | some b => seenN pre &&& 2 ^ b).testBit i = true ↔ allB c = some i ∧ ∃ d ∈ pre, cB d = i := by
    cases hb : allB c with
    | none => simp
    | some b =>
      show (seenN pre &&& 2 ^ b).testBit i = true ↔ _
      unfold seenN
      rw [Nat.testBit_and, Nat.testBit_two_pow, bitsOf_bit, Bool.and_eq_true, Bool.and_eq_true, decide_eq_true_eq, decide_eq_true_eq, List.any_eq_true]
      constructor
      · rintro ⟨⟨-, d, hd, h1⟩, h2⟩
        exact ⟨by rw [h2], d, hd, by simpa using h1⟩
      · rintro ⟨h1, d, hd, h2⟩
        have h1 : b = i := Option.some.inj h1
        exact ⟨⟨by have := h16 d hd; omega, d, hd, by simpa using h2⟩, h1⟩
  have hiff : (nbN pre c).testBit i = true ↔ (orF pre f 0 4 ||| (match allB c with | none => 0 | some b => seenN pre &&& 2 ^ b)).testBit i = true := by
    rw [Nat.testBit_or, Bool.or_eq_true, hL, hA, hR]
    constructor
    · rintro ⟨d, hd, h1, h2 | h2⟩
      · exact Or.inl ⟨d, hd, h1, h2⟩
      · exact Or.inr ⟨h2, d, hd, h1⟩
    · rintro (⟨d, hd, h1, h2⟩ | ⟨h2, d, hd, h1⟩)
      · exact ⟨d, hd, h1, Or.inl h2⟩
      · exact ⟨d, hd, h1, Or.inr h2⟩
  exact Bool.eq_iff_iff.mpr hiff
