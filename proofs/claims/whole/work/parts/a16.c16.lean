/-! ===== the class takes a step ===== -/
def cop (k : Nat) : Nat := if k = 10 then 7 else if k < 7 then k else k + 1
/-- what a step of the class needs of the state -/
def RdC (S : St) (z k a : Nat) : Prop := Wf (mm S) ∧ Pg (mm S) ∧ (∀ n, n < 12 → fd (mm S) n 0 = 0 → fd (mm S) n 2 = 0) ∧ (∀ d, d < 12 → ∀ e, fent (mm S) d 0 = some e → ∀ b, fBlock (mm S) z = some b → e / 16 ≠ b) ∧ Lk S ∧ (k < 7 ∨ k = 10 → full S = false → Sl S 7 2 7) ∧ (k = 7 → Wc S z a) ∧ (k = 8 → Wcs S z (List.range' 0 z))
section C16
variable {h : Hp} {s t z : Nat} {S : St}
theorem rsc_ok {x : RS} {b : Bool} {S' : St} (a : RsC x (some (.int (b2i b))) h s S' z) : RsC (bI x fun z3 h2 => (if (z3 = 0 ∨ z3 = 1) then (some (.inl (some (.int z3)), h2)) else none)) (some (.int (b2i b))) h s S' z := by
  obtain ⟨h', a1, a2⟩ := a
  refine ⟨h', ?_, a2⟩
  rw [a1, bI_s, if_pos (by cases b <;> decide)]
theorem rsc_P {x : RS} {o : Option Value} {p : Nat} {S' : St} (a : RsC x o h s S' z) : ∃ h', x = some (.inl o, h') ∧ OwnP h h' p s ∧ Sta h' s S' z := by
  obtain ⟨h', a1, a2, a3⟩ := a
  exact ⟨h', a1, a2.toP, a3⟩
theorem c_take {k a b c : Nat} (R : Sta h s S z) (T : TO h t) (hts : t + 6 ≤ s ∨ s + 10 ≤ t) (ok : okS k a b c) (rd : RdC S z k a) :
    ∃ h', fX6_take t s (nI (cop k)) (nI a) (nI b) (nI c) h = some (.inl (some (.int (b2i (sDo S z k a b c).1))), h') ∧ OwnP h h' (t + 1) s ∧ Sta h' s (sDo S z k a b c).2 z := by
  obtain ⟨o1, o2, o3, o4, o5, o6, o7⟩ := ok
  obtain ⟨d1, d2, d3, d4, d5, d6, d7, d8⟩ := rd
  obtain ⟨T0, T1, T2⟩ := id T
  have hB := R.bd
  have hB1 := hB.1
  have hB2 := hB.2.1
  have hstart : (k < 7 ∨ k = 10) → full S = true → fX6_take t s (nI (cop k)) (nI a) (nI b) (nI c) h = some (.inl (some (.int 0)), h) := fun hk hf => by
    unfold fX6_take kX6_take_0
    rw [if_neg (by rw [k7, nI_ltI (by decide) (by unfold cop; split <;> (try split) <;> omega)]; unfold cop; split <;> (try split) <;> omega), if_pos R.so.1, R.un, R.wa]
    unfold full at hf
    rw [Bool.or_eq_true, decide_eq_true_eq, decide_eq_true_eq] at hf
    by_cases e : 60 ≤ (sC S).length
    · rw [if_pos (by rw [k60, nI_leI (by decide) (by omega)]; exact e)]
    · rw [if_neg (by rw [k60, nI_leI (by decide) (by omega)]; exact e), if_neg (by rw [k30, nI_ltI (by omega) (by decide)]; omega)]
  have hgo : ((k < 7 ∨ k = 10) → full S = false) → fX6_take t s (nI (cop k)) (nI a) (nI b) (nI c) h = kX6_take_26 (gX6_take 999999) t s (nI (cop k)) (nI a) (nI b) (nI c) h := fun hf => by
    unfold fX6_take kX6_take_0
    rw [show FF = 999999 + 1 from rfl, zX6_take_26]
    by_cases hk : k < 7 ∨ k = 10
    · have hf := hf hk
      unfold full at hf
      rw [Bool.or_eq_false_iff, decide_eq_false_iff_not, decide_eq_false_iff_not] at hf
      rw [if_neg (by rw [k7, nI_ltI (by decide) (by unfold cop; split <;> (try split) <;> omega)]; unfold cop; split <;> (try split) <;> omega), if_pos R.so.1, R.un, R.wa, if_neg (by rw [k60, nI_leI (by decide) (by omega)]; exact hf.1), if_pos (by rw [k30, nI_ltI (by omega) (by decide)]; omega)]
    · rw [if_pos (by rw [k7, nI_ltI (by decide) (by unfold cop; split <;> (try split) <;> omega)]; unfold cop; split <;> (try split) <;> omega)]
  unfold sDo
  by_cases hfl : (k < 7 ∨ k = 10) ∧ full S = true
  · rw [if_pos hfl]
    exact ⟨h, hstart hfl.1 hfl.2, OwnP.refl h, R⟩
  rw [if_neg hfl]
  have hff : (k < 7 ∨ k = 10) → full S = false := fun hk => by
    cases hf : full S with
    | false => rfl
    | true => exact absurd ⟨hk, hf⟩ hfl
  rw [hgo hff]
  have hsl : k < 7 ∨ k = 10 → Sl S 7 2 7 ∧ (sL S).length < 30 := fun hk => by
    have hf := hff hk
    refine ⟨d6 hk hf, ?_⟩
    unfold full at hf
    rw [Bool.or_eq_false_iff, decide_eq_false_iff_not, decide_eq_false_iff_not] at hf
    omega
  have hkc : k = 0 ∨ k = 1 ∨ k = 2 ∨ k = 3 ∨ k = 4 ∨ k = 5 ∨ k = 6 ∨ k = 7 ∨ k = 8 ∨ k = 9 ∨ k = 10 := by omega
  rcases hkc with rfl | rfl | rfl | rfl | rfl | rfl | rfl | rfl | rfl | rfl | rfl
  · obtain ⟨s1, s2⟩ := hsl (by decide)
    have := c_makeFile (t := t) R T0 d1 d2 (s1.le (by omega) (by omega) (by omega)) (o2 (by decide)) (o4 (by decide))
    refine rsc_P ?_
    unfold kX6_take_26
    rw [if_pos (by decide), if_pos T0, if_pos rfl]
    exact rsc_ok this
  · obtain ⟨s1, s2⟩ := hsl (by decide)
    have := c_makeDir (t := t) R T0 d1 d2 d3 (s1.le (by omega) (by omega) (by omega)) (o2 (by decide)) (o4 (by decide)) (d4 a (o2 (by decide)))
    refine rsc_P ?_
    unfold kX6_take_26
    rw [if_neg (by decide), if_pos (by decide), if_pos T0, if_neg (by decide), if_pos rfl]
    exact rsc_ok this
  · obtain ⟨s1, s2⟩ := hsl (by decide)
    have := c_linkFile (t := t) R T0 d1 d2 (s1.le (by omega) (by omega) (by omega)) (o2 (by decide)) (o4 (by decide)) (o5 rfl)
    refine rsc_P ?_
    unfold kX6_take_26
    rw [if_neg (by decide), if_neg (by decide), if_pos (by decide), if_pos T0, if_neg (by decide), if_neg (by decide), if_pos rfl]
    exact rsc_ok this
  · obtain ⟨s1, s2⟩ := hsl (by decide)
    have := c_grow (t := t) R T0 (s1.le (by omega) (by omega) (by omega)) (o2 (by decide)) (o6 rfl)
    refine rsc_P ?_
    unfold kX6_take_26
    rw [if_neg (by decide), if_neg (by decide), if_neg (by decide), if_pos (by decide), if_pos T0, if_neg (by decide), if_neg (by decide), if_neg (by decide), if_pos rfl]
    exact rsc_ok this
  · obtain ⟨s1, s2⟩ := hsl (by decide)
    have := c_putIn (t := t) R T0 d1.1 (s1.le (by omega) (by omega) (by omega)) (o2 (by decide)) (o7 rfl).1 (o7 rfl).2
    refine rsc_P ?_
    unfold kX6_take_26
    rw [if_neg (by decide), if_neg (by decide), if_neg (by decide), if_neg (by decide), if_pos (by decide), if_pos T0, if_neg (by decide), if_neg (by decide), if_neg (by decide), if_neg (by decide), if_pos rfl]
    exact rsc_ok this
  · obtain ⟨s1, s2⟩ := hsl (by decide)
    have := c_cut (t := t) R T0 d1.1 (s1.le (by omega) (by omega) (by omega)) (by omega) (o2 (by decide))
    refine rsc_P ?_
    unfold kX6_take_26
    rw [if_neg (by decide), if_neg (by decide), if_neg (by decide), if_neg (by decide), if_neg (by decide), if_pos (by decide), if_pos T0, if_neg (by decide), if_neg (by decide), if_neg (by decide), if_neg (by decide), if_neg (by decide), if_pos rfl]
    exact rsc_ok this
  · obtain ⟨s1, s2⟩ := hsl (by decide)
    have := c_drop (t := t) R d1 (s1.le (by omega) (by omega) (by omega)) (by omega) (o2 (by decide)) (o4 (by decide))
    refine rsc_P ?_
    unfold kX6_take_26
    rw [if_neg (by decide), if_neg (by decide), if_neg (by decide), if_neg (by decide), if_neg (by decide), if_neg (by decide), if_pos (by decide), if_pos T0, if_neg (by decide), if_neg (by decide), if_neg (by decide), if_neg (by decide), if_neg (by decide), if_neg (by decide), if_pos rfl]
    exact rsc_ok this
  · obtain ⟨h1, a1, a2, a3⟩ := c_write (p := t + 1) (by omega) (o3 rfl) R T2 (d7 rfl)
    refine ⟨h1, ?_, a2, a3⟩
    unfold kX6_take_26
    rw [if_neg (by decide), if_neg (by decide), if_neg (by decide), if_neg (by decide), if_neg (by decide), if_neg (by decide), if_neg (by decide), if_neg (by decide), if_pos (by decide), if_pos T0, T1, if_pos T2.1, a1, bI_s, if_pos (by cases dirt S a <;> decide)]
    rfl
  · obtain ⟨hz1, hz2⟩ := R.2.2.1
    obtain ⟨h1, a1, a2, a3⟩ := c_sync (p := t + 1) (by omega) R T2 (d8 rfl)
    refine ⟨h1, ?_, a2, a3⟩
    unfold kX6_take_26
    have hnl := nW_le (List.range' 0 z) S
    rw [List.length_range'] at hnl
    rw [if_neg (by decide), if_neg (by decide), if_neg (by decide), if_neg (by decide), if_neg (by decide), if_neg (by decide), if_neg (by decide), if_neg (by decide), if_neg (by decide), if_pos (by decide), if_pos T0, T1, if_pos T2.1, a1, bI_s]
    show _ = some (Sum.inl (some (Value.int (b2i (anyW S (List.range' 0 z))))), h1)
    rw [anyW_nW]
    by_cases e : nW S (List.range' 0 z) = 0
    · rw [if_pos (by rw [nI_le0 (by omega)]; exact e), e]
      rfl
    · rw [if_neg (by rw [nI_le0 (by omega)]; exact e), decide_eq_true (by omega)]
      rfl
  · have := c_crash R
    refine rsc_P ?_
    unfold kX6_take_26
    rw [if_neg (by decide), if_neg (by decide), if_neg (by decide), if_neg (by decide), if_neg (by decide), if_neg (by decide), if_neg (by decide), if_neg (by decide), if_neg (by decide), if_neg (by decide), if_pos (by decide), if_pos R.so.1]
    exact rsc_bV this (fun h1 O1 R1 => rsc_1 R1)
  · obtain ⟨s1, s2⟩ := hsl (by decide)
    have := c_sweepOne (t := t) R T0 d1 d5 ⟨s1.le (by omega) (by omega) (by omega), by omega⟩
    refine rsc_P ?_
    unfold kX6_take_26
    rw [if_neg (by decide), if_neg (by decide), if_neg (by decide), if_neg (by decide), if_neg (by decide), if_neg (by decide), if_neg (by decide), if_pos (by decide), if_pos T0]
    exact rsc_ok this
end C16
