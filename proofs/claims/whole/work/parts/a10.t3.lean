/-! ===== the class: what is reached, by a row of bits that are open ===== -/
def lowB (x : Nat) : Nat := ((List.range 12).find? (fun i => x.testBit i)).getD 0
def ntzP (x0 : Int32) : Int32 :=
  if 0 < ((x0 ^^^ (-1)) &&& (x0 - 1)) then
    (let q : Int32 × Int32 := if ((x0 ^^^ (-1)) &&& (x0 - 1)) ≤ 65536 then (((x0 ^^^ (-1)) &&& (x0 - 1)), 1) else (ushr ((x0 ^^^ (-1)) &&& (x0 - 1)) 16, 1 + 16)
     let r : Int32 × Int32 := if q.1 ≤ 256 then q else (ushr q.1 8, q.2 + 8)
     if r.1 ≤ 16 then (if r.1 ≤ 4 then r.2 + ushr r.1 1 else (r.2 + 2) + ushr (ushr r.1 2) 1) else (if ushr r.1 4 ≤ 4 then (r.2 + 4) + ushr (ushr r.1 4) 1 else ((r.2 + 4) + 2) + ushr (ushr (ushr r.1 4) 2) 1))
  else (((x0 ^^^ (-1)) &&& (x0 - 1)) &&& 32)
theorem ntz_f (x : Int32) (h : Hp) : fJ6_numberOfTrailingZeros_0f7a4 x h = some (.inl (some (.int (ntzP x))), h) := by
  unfold fJ6_numberOfTrailingZeros_0f7a4 kJ6_numberOfTrailingZeros_0f7a4_0 ntzP
  generalize (x ^^^ (-1)) &&& (x - 1) = y
  have h49 : ∀ (a b : Int32), gJ6_numberOfTrailingZeros_0f7a4 (999998 + 1) 49 [.int a, .int b] [] h = some (.inl (some (.int (if a ≤ 16 then (if a ≤ 4 then b + ushr a 1 else (b + 2) + ushr (ushr a 2) 1) else (if ushr a 4 ≤ 4 then (b + 4) + ushr (ushr a 4) 1 else ((b + 4) + 2) + ushr (ushr (ushr a 4) 2) 1)))), h) := fun a b => by
    rw [zJ6_numberOfTrailingZeros_0f7a4_49]
    unfold kJ6_numberOfTrailingZeros_0f7a4_49
    split
    · split <;> rfl
    · split <;> rfl
  have h34 : ∀ (a b : Int32), gJ6_numberOfTrailingZeros_0f7a4 (999998 + 1 + 1) 34 [.int a, .int b] [] h = if a ≤ 256 then gJ6_numberOfTrailingZeros_0f7a4 (999998 + 1) 49 [.int a, .int b] [] h else gJ6_numberOfTrailingZeros_0f7a4 (999998 + 1) 49 [.int (ushr a 8), .int (b + 8)] [] h := fun a b => by
    rw [zJ6_numberOfTrailingZeros_0f7a4_34]
    rfl
  rw [show FF = 999998 + 1 + 1 from rfl]
  by_cases e1 : 0 < y
  · rw [if_pos e1, if_pos e1]
    by_cases e2 : y ≤ 65536
    · rw [if_pos e2, if_pos e2, h34]
      by_cases e3 : y ≤ 256
      · rw [if_pos e3, h49]
        simp only [if_pos e3]
      · rw [if_neg e3, h49]
        simp only [if_neg e3]
    · rw [if_neg e2, if_neg e2, h34]
      by_cases e3 : ushr y 16 ≤ 256
      · rw [if_pos e3, h49]
        simp only [if_pos e3]
      · rw [if_neg e3, h49]
        simp only [if_neg e3]
  · rw [if_neg e1, if_neg e1]
theorem ntz_all : (List.range 4096).all (fun x => x == 0 || decide (ntzP (nI x) = nI (lowB x))) = true := by decide +kernel
theorem low_all : (List.range 4096).all (fun x => x == 0 || (x.testBit (lowB x) && decide (lowB x < 12) && (List.range 12).all (fun i => (x &&& (x - 1)).testBit i == (x.testBit i && !(i == lowB x))))) = true := by decide +kernel
theorem ntz_low {x : Nat} (h0 : x ≠ 0) (hx : x < 4096) (h : Hp) : fJ6_numberOfTrailingZeros_0f7a4 (nI x) h = some (.inl (some (.int (nI (lowB x)))), h) := by
  have := List.all_eq_true.mp ntz_all x (List.mem_range.mpr hx)
  have h1 : (x == 0) = false := by simpa using h0
  rw [h1, Bool.false_or, decide_eq_true_eq] at this
  rw [ntz_f, this]
theorem low_bit {x : Nat} (h0 : x ≠ 0) (hx : x < 4096) : x.testBit (lowB x) = true ∧ lowB x < 12 ∧ ∀ i, i < 12 → (x &&& (x - 1)).testBit i = (x.testBit i && !(i == lowB x)) := by
  have := List.all_eq_true.mp low_all x (List.mem_range.mpr hx)
  have h1 : (x == 0) = false := by simpa using h0
  rw [h1, Bool.false_or, Bool.and_eq_true, Bool.and_eq_true, decide_eq_true_eq, List.all_eq_true] at this
  exact ⟨this.1.1, this.1.2, fun i hi => by simpa using this.2 i (List.mem_range.mpr hi)⟩
theorem cnt_up {p p' : Nat → Bool} {i : Nat} (hi : p i = false) (hi' : p' i = true) (ho : ∀ j, j ≠ i → p' j = p j) (l : List Nat) : l.countP p' = l.countP p + l.count i := by
  induction l with
  | nil => rfl
  | cons x l ih =>
    rw [List.countP_cons, List.countP_cons, List.count_cons, ih]
    by_cases e : x = i
    · subst e
      simp [hi, hi']
      omega
    · have e2 : (x == i) = false := by simpa using e
      rw [ho x e, e2]
      simp
      omega
theorem cnt12 : ∀ i : Fin 12, (List.range 12).count i.val = 1 := by decide
section T3
variable {h : Hp} {s w : Nat} {B : Nat → Nat}
theorem t_reached_go (R : CB h s w B) (W : Wf B) : ∀ (u k a o q : Nat), k + u = 12 → u < q → a < 2 ^ 12 → o < 2 ^ 12 → a.testBit 0 = true → (∀ i, o.testBit i = true → a.testBit i = true) → (∀ i, a.testBit i = true → Rch B i) → (∀ i j, a.testBit i = true → o.testBit i = false → Ed B i j → a.testBit j = true) → k ≤ (List.range 12).countP (fun i => a.testBit i && !o.testBit i) →
    gX8_reachedNodes q 7 [.ref s, .int (nI w), .int (nI a), .int (nI o), .int (nI k), uV, uV] [] h = some (.inl (some (.int (nI (rbits B)))), h) := by
  have hdone : ∀ a, a < 2 ^ 12 → a.testBit 0 = true → (∀ i, a.testBit i = true → Rch B i) → (∀ i j, a.testBit i = true → Ed B i j → a.testBit j = true) → a = rbits B := fun a ha h0 h1 h2 => by
    refine bitsOf_eq ha (fun k _ => ?_)
    rw [Bool.eq_iff_iff, isR_iff]
    exact ⟨h1 k, fun hr => hr (fun i => a.testBit i = true) h0 h2⟩
  intro u
  induction u with
  | zero =>
    intro k a o q hk hq ha ho h0 hoa hr hc hcnt
    obtain ⟨q, rfl⟩ := sc hq
    have hk : k = 12 := by omega
    subst hk
    have hle : (List.range 12).countP (fun i => a.testBit i && !o.testBit i) ≤ 12 := List.countP_le_length
    have heq : (List.range 12).countP (fun i => a.testBit i && !o.testBit i) = (List.range 12).length := by rw [List.length_range]; omega
    have hall := List.countP_eq_length.mp heq
    have hoz : ∀ i, o.testBit i = false := fun i => by
      by_cases hi : i < 12
      · have := hall i (List.mem_range.mpr hi)
        simp at this
        exact this.2
      · exact Nat.testBit_lt_two_pow (Nat.lt_of_lt_of_le ho (Nat.pow_le_pow_right (by decide) (by omega)))
    have := hdone a ha h0 hr (fun i j hi he => hc i j hi (hoz i) he)
    rw [zX8_reachedNodes_7]
    unfold kX8_reachedNodes_7
    rw [if_pos (by decide), this]
  | succ u ih =>
    intro k a o q hk hq ha ho h0 hoa hr hc hcnt
    obtain ⟨q, rfl⟩ := sc hq
    rw [zX8_reachedNodes_7]
    unfold kX8_reachedNodes_7
    rw [if_neg (by rw [k12, nI_leI (by decide) (by omega)]; omega)]
    by_cases e : o = 0
    · subst e
      have := hdone a ha h0 hr (fun i j hi he => hc i j hi (by simp) he)
      rw [if_pos nI_0, this]
    · obtain ⟨l1, l2, l3⟩ := low_bit e (by omega)
      have hal := hoa _ l1
      have hnn := t_namedNodes R W.1 l2 (fun hk => W.2.2 _ l2 (by unfold isK at hk; simp at hk; exact hk.2))
      rw [if_neg (by rw [nI_eq0 (by omega)]; exact e), ntz_low e (by omega), bI_s, hnn, bI_s]
      obtain ⟨m, hm⟩ : ∃ m, m = (if isK B (lowB o) 2 = true then orK B 0 (ents B (lowB o)) else 0) := ⟨_, rfl⟩
      rw [← hm]
      have hmlt : m < 2 ^ 12 := by
        rw [hm]
        split
        · next hk => exact orK_lt (W.2.2 _ l2 (by unfold isK at hk; simp at hk; exact hk.2)) (by decide)
        · decide
      have hmb : ∀ j, m.testBit j = true ↔ Ed B (lowB o) j := fun j => by
        rw [hm]
        by_cases hk : isK B (lowB o) 2 = true
        · rw [if_pos hk, orK_bit]
          have hk2 : fd B (lowB o) 1 = 2 := by unfold isK at hk; simp at hk; exact hk.2
          constructor
          · rintro (q | q)
            · simp at q
            · exact ⟨l2, hk2, q⟩
          · rintro ⟨-, -, q⟩
            exact Or.inr q
        · rw [if_neg hk]
          constructor
          · intro q; simp at q
          · rintro ⟨q1, q2, -⟩
            exfalso
            apply hk
            unfold isK
            have : fd B (lowB o) 0 ≠ 0 := fun q => by have := (W.2.1 _ l2).mp q; omega
            simp [q2]
            omega
      have hand := andnot_nI (a := m) (b := a) (by omega) (by omega)
      have hand : nI m &&& (nI a ^^^ (-1)) = nI (dif m a) := hand
      have hdl : dif m a < 2 ^ 12 := dif_lt hmlt
      have hor : nI a ||| nI (dif m a) = nI (a ||| dif m a) := or_nI (by omega) (by omega)
      have hol : o &&& (o - 1) < 2 ^ 12 := Nat.lt_of_le_of_lt Nat.and_le_left ho
      have hand2 : nI o &&& nI (o - 1) = nI (o &&& (o - 1)) := and_nI (by omega) (by omega)
      have hor2 : nI (o &&& (o - 1)) ||| nI (dif m a) = nI (o &&& (o - 1) ||| dif m a) := or_nI (by omega) (by omega)
      rw [hand, hor, k1, pk_sub (by omega), hand2, hor2, nI_add]
      have hob : ∀ i, (o &&& (o - 1) ||| dif m a).testBit i = ((o.testBit i && !(i == lowB o)) || (m.testBit i && !a.testBit i)) := fun i => by
        rw [Nat.testBit_or, dif_bit]
        by_cases hi : i < 12
        · rw [l3 i hi]
        · have h12 : o.testBit i = false := Nat.testBit_lt_two_pow (Nat.lt_of_lt_of_le ho (Nat.pow_le_pow_right (by decide) (by omega)))
          rw [Nat.testBit_and, h12]
          rfl
      have hab : ∀ i, (a ||| dif m a).testBit i = (a.testBit i || m.testBit i) := fun i => by
        rw [Nat.testBit_or, dif_bit]
        cases a.testBit i <;> cases m.testBit i <;> rfl
      refine ih (k + 1) (a ||| dif m a) (o &&& (o - 1) ||| dif m a) q (by omega) (by omega) (Nat.or_lt_two_pow ha hdl) (Nat.or_lt_two_pow hol hdl) (by rw [hab, h0]; rfl) (fun i hi => ?_) (fun i hi => ?_) (fun i j hi hoi he => ?_) ?_
      · rw [hob, Bool.or_eq_true, Bool.and_eq_true, Bool.and_eq_true] at hi
        rw [hab, Bool.or_eq_true]
        rcases hi with hi | hi
        · exact Or.inl (hoa i hi.1)
        · exact Or.inr hi.1
      · rw [hab, Bool.or_eq_true] at hi
        rcases hi with hi | hi
        · exact hr i hi
        · exact fun X x0 hX => hX (lowB o) i (hr _ hal X x0 hX) ((hmb i).mp hi)
      · rw [hab, Bool.or_eq_true] at hi
        rw [hab, Bool.or_eq_true]
        rw [hob, Bool.or_eq_false_iff] at hoi
        by_cases hil : i = lowB o
        · subst hil
          exact Or.inr ((hmb j).mpr he)
        · have hil2 : (i == lowB o) = false := by simpa using hil
          rw [hil2] at hoi
          have hai : a.testBit i = true := by
            rcases hi with hi | hi
            · exact hi
            · have := hoi.2
              rw [hi] at this
              simpa using this
          exact Or.inl (hc i j hai (by simpa using hoi.1) he)
      · have hup := cnt_up (p := fun i => a.testBit i && !o.testBit i) (p' := fun i => (a ||| dif m a).testBit i && !(o &&& (o - 1) ||| dif m a).testBit i) (i := lowB o) (by simp [l1]) (by
          rw [hab, hob, hal]
          simp) (fun j hj => by
          have hj2 : (j == lowB o) = false := by simpa using hj
          rw [hab, hob, hj2]
          cases a.testBit j <;> cases o.testBit j <;> cases m.testBit j <;> rfl) (List.range 12)
        rw [hup, cnt12 ⟨lowB o, l2⟩]
        omega
theorem t_reached (R : CB h s w B) (W : Wf B) : fX8_reachedNodes s (nI w) h = some (.inl (some (.int (nI (rbits B)))), h) := by
  have h1 : ∀ i, (1 : Nat).testBit i = true → i = 0 := fun i hi => by
    rw [show (1 : Nat) = 2 ^ 0 from rfl, Nat.testBit_two_pow] at hi
    have : 0 = i := by simpa using hi
    omega
  refine t_reached_go R W 12 0 1 1 FF rfl (by decide) (by decide) (by decide) (by decide) (fun i hi => hi) (fun i hi => ?_) (fun i j hi ho => ?_) (Nat.zero_le _)
  · rw [h1 i hi]
    exact fun X x0 _ => x0
  · rw [hi] at ho
    cases ho
end T3
