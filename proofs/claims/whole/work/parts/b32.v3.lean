/-! ===== what a block waits for: the reference ===== -/
def o1 (pre : List Ch) (n : Int) : Nat := bitsOf (fun i => pre.any (fun d => cB d == i && ((cI d : Int) == n || (decide (n < 0) && n.natAbs == i)))) 16
theorem o1_lt (pre : List Ch) (n : Int) : o1 pre n < 2 ^ 16 := bitsOf_lt _ 16
theorem o1_bit {S : St} (B : Bd S) {pre l : List Ch} (e : sC S = pre ++ l) (n : Int) (i : Nat) : (o1 pre n).testBit i = true ↔ ∃ d ∈ pre, cB d = i ∧ ((cI d : Int) = n ∨ (n < 0 ∧ n.natAbs = i)) := by
  have h16 : ∀ d ∈ pre, cB d < 16 := fun d hd => (B.2.2.2.2.1 d (by rw [e]; exact List.mem_append_left _ hd)).2.2.1
  unfold o1
  rw [bitsOf_bit, Bool.and_eq_true, decide_eq_true_eq, List.any_eq_true]
  constructor
  · rintro ⟨-, d, hd, h⟩
    rw [Bool.and_eq_true, Bool.or_eq_true, Bool.and_eq_true, decide_eq_true_eq] at h
    exact ⟨d, hd, by simpa using h.1, by simpa using h.2⟩
  · rintro ⟨d, hd, h1, h2⟩
    refine ⟨by have := h16 d hd; omega, d, hd, ?_⟩
    rw [Bool.and_eq_true, Bool.or_eq_true, Bool.and_eq_true, decide_eq_true_eq]
    exact ⟨by simpa using h1, by simpa using h2⟩
theorem o1_some {S : St} (B : Bd S) {pre l : List Ch} (e : sC S = pre ++ l) {d : Ch} (hd : d ∈ pre) : o1 pre (cI d : Int) = 2 ^ cB d := by
  apply Nat.eq_of_testBit_eq
  intro i
  refine Bool.eq_iff_iff.mpr ?_
  rw [o1_bit B e, Nat.testBit_two_pow, decide_eq_true_eq]
  have hin : ∀ d ∈ pre, d ∈ sC S := fun d hd => by rw [e]; exact List.mem_append_left _ hd
  constructor
  · rintro ⟨d', hd', h1, h2 | h2⟩
    · rw [go_ids B (hin d hd) (hin d' hd') (by omega)]; exact h1
    · omega
  · intro h
    exact ⟨d, hd, h, Or.inl rfl⟩
theorem o1_none {S : St} (B : Bd S) {pre l : List Ch} (e : sC S = pre ++ l) {n : Int} (h0 : 0 ≤ n) (hn : ∀ d ∈ pre, (cI d : Int) ≠ n) : o1 pre n = 0 := by
  apply Nat.eq_of_testBit_eq
  intro i
  refine Bool.eq_iff_iff.mpr ?_
  rw [o1_bit B e, Nat.zero_testBit]
  constructor
  · rintro ⟨d, hd, h1, h2 | h2⟩
    · exact absurd h2 (hn d hd)
    · omega
  · intro h; cases h
theorem o1_neg {S : St} (B : Bd S) {pre l : List Ch} (e : sC S = pre ++ l) {x : Nat} (hx : 0 < x) : o1 pre (-(x : Int)) = if (pre.filter (fun d => cB d == x)).length = 0 then 0 else 2 ^ x := by
  have hlen : (pre.filter (fun d => cB d == x)).length = 0 ↔ ∀ d ∈ pre, cB d ≠ x := by
    rw [List.length_eq_zero_iff, List.filter_eq_nil_iff]
    simp
  apply Nat.eq_of_testBit_eq
  intro i
  refine Bool.eq_iff_iff.mpr ?_
  rw [o1_bit B e]
  by_cases hz : (pre.filter (fun d => cB d == x)).length = 0
  · rw [if_pos hz, Nat.zero_testBit]
    constructor
    · rintro ⟨d, hd, h1, h2 | ⟨h2, h3⟩⟩
      · omega
      · exact absurd (by omega) (hlen.mp hz d hd)
    · intro h; cases h
  · rw [if_neg hz, Nat.testBit_two_pow, decide_eq_true_eq]
    constructor
    · rintro ⟨d, hd, h1, h2 | ⟨h2, h3⟩⟩
      · omega
      · omega
    · intro h
      have : ∃ d ∈ pre, cB d = x := by
        refine Classical.byContradiction (fun hne => hz (hlen.mpr (fun d hd hq => hne ⟨d, hd, hq⟩)))
      obtain ⟨d, hd, hq⟩ := this
      exact ⟨d, hd, by omega, Or.inr ⟨by omega, by omega⟩⟩
theorem nbN_sum {S : St} (B : Bd S) {pre l : List Ch} {c : Ch} (e : sC S = pre ++ c :: l) (hp : 0 ≤ c1 c ∧ 0 ≤ c3 c ∧ 0 ≤ c4 c) : nbN pre c = o1 pre (c1 c) ||| (o1 pre (c2 c) ||| (o1 pre (c3 c) ||| o1 pre (c4 c))) := by
  obtain ⟨h1, h3, h4⟩ := hp
  have h16 : ∀ d ∈ pre, cB d < 16 := fun d hd => (B.2.2.2.2.1 d (by rw [e]; exact List.mem_append_left _ hd)).2.2.1
  apply Nat.eq_of_testBit_eq
  intro i
  refine Bool.eq_iff_iff.mpr ?_
  rw [Nat.testBit_or, Nat.testBit_or, Nat.testBit_or, Bool.or_eq_true, Bool.or_eq_true, Bool.or_eq_true, o1_bit B e, o1_bit B e, o1_bit B e, o1_bit B e]
  unfold nbN
  rw [bitsOf_bit, Bool.and_eq_true, decide_eq_true_eq]
  unfold nbP
  rw [List.any_eq_true]
  have hall : ∀ i, allB c = some i ↔ (c2 c < 0 ∧ (c2 c).natAbs = i) := fun i => by
    unfold allB
    by_cases q : c2 c < 0
    · rw [if_pos q]; simp [q]
    · rw [if_neg q]; simp [q]
  constructor
  · rintro ⟨-, d, hd, h⟩
    rw [Bool.and_eq_true, Bool.or_eq_true] at h
    have hb : cB d = i := by simpa using h.1
    rcases h.2 with q | q
    · obtain ⟨n, hn, hq⟩ := List.any_eq_true.mp q
      have hq : (cI d : Int) = n := by simpa using hq
      unfold ndsL at hn
      simp only [List.mem_cons, List.not_mem_nil, or_false] at hn
      rcases hn with w | w | w | w
      · exact Or.inl ⟨d, hd, hb, Or.inl (by omega)⟩
      · exact Or.inr (Or.inl ⟨d, hd, hb, Or.inl (by omega)⟩)
      · exact Or.inr (Or.inr (Or.inl ⟨d, hd, hb, Or.inl (by omega)⟩))
      · exact Or.inr (Or.inr (Or.inr ⟨d, hd, hb, Or.inl (by omega)⟩))
    · have q : allB c = some i := by simpa using q
      exact Or.inr (Or.inl ⟨d, hd, hb, Or.inr ((hall i).mp q)⟩)
  · have mk1 : ∀ (n : Int), n ∈ ndsL c → (0 ≤ n ∨ n = c2 c) → (∃ d ∈ pre, cB d = i ∧ ((cI d : Int) = n ∨ (n < 0 ∧ n.natAbs = i))) → i < 16 ∧ ∃ d ∈ pre, (cB d == i && ((ndsL c).any (fun n => (cI d : Int) == n) || allB c == some i)) = true := fun n hn hc => by
      rintro ⟨d, hd, hb, h⟩
      refine ⟨by have := h16 d hd; omega, d, hd, ?_⟩
      rw [Bool.and_eq_true, Bool.or_eq_true]
      refine ⟨by simpa using hb, ?_⟩
      rcases h with q | ⟨q1, q2⟩
      · exact Or.inl (List.any_eq_true.mpr ⟨n, hn, by simpa using q⟩)
      · rcases hc with w | w
        · omega
        · rw [w] at q1 q2
          have := (hall i).mpr ⟨q1, q2⟩
          exact Or.inr (by simpa using this)
    rintro (h | h | h | h)
    · exact mk1 _ (by simp [ndsL]) (Or.inl h1) h
    · exact mk1 _ (by simp [ndsL]) (Or.inr rfl) h
    · exact mk1 _ (by simp [ndsL]) (Or.inl h3) h
    · exact mk1 _ (by simp [ndsL]) (Or.inl h4) h
