/-! ===== the law ===== -/
section LOOP
variable {x m o B : Nat}
theorem l_end {L i : Nat} (hL : L ≤ 3584) (hi : i ≤ 4000) : nI L - 7 < nI i ↔ L < i + 7 := by
  by_cases q : 7 ≤ L
  · have e : nI L - 7 = nI (L - 7) := by
      have := nI_add (L - 7) 7
      rw [show L - 7 + 7 = L by omega] at this
      rw [← this]
      show nI (L - 7) + nI 7 - nI 7 = _
      exact Int32.add_sub_cancel _ _
    rw [e, nI_ltI (by omega) (by omega)]
    omega
  · have h1 : ∀ k : Fin 7, nI k.val - 7 < 0 := by decide
    have h2 := h1 ⟨L, by omega⟩
    exact ⟨fun _ => by omega, fun _ => Int32.lt_of_lt_of_le h2 (nI_pos' (by omega))⟩
theorem law_go (P : x = 8 ∧ m = 100 ∧ o = 252 ∧ B = 253) {L : Nat} {xs : Nat → Int32} (hL : L ≤ 3584) : ∀ (c i fl : Nat) (h : Hp), c ≤ 512 → L < i + 7 * (c + 1) → i ≤ 3600 → 4 * c + 1 < fl → LW x m o B h L xs c → ∃ h', gL_law fl 23 [.ref 1, .ref x, .ref m, .ref o, .int (nI i), uV, uV] [] h = some (.inl (some (.int 1)), h') ∧ nH h' ≤ 20000 ∧ zH h' ≤ 2000000 := by
  intro c
  induction c with
  | zero =>
    intro i fl h hc hi hi3 hfl W
    obtain ⟨hl, bl, S, z, T, n, ls, fp, rs, rf, hi', im, X⟩ := W
    obtain ⟨fl, rfl⟩ := sc (show 0 < fl by omega)
    have r1 := X.2.2.2.1
    have r2 := X.2.2.2.2
    refine ⟨h, ?_, by omega, by omega⟩
    rw [zL_law_23]
    unfold kL_law_23
    rw [hl.2.2.1, if_pos (show L.toInt32 - 7 < nI i from (l_end hL (by omega)).mpr (by omega))]
  | succ c ih =>
    intro i fl h hc hi hi3 hfl W
    by_cases qe : L < i + 7
    · obtain ⟨hl, bl, S, z, T, n, ls, fp, rs, rf, hi', im, X⟩ := W
      obtain ⟨fl, rfl⟩ := sc (show 0 < fl by omega)
      have r1 := X.2.2.2.1
      have r2 := X.2.2.2.2
      refine ⟨h, ?_, by omega, by omega⟩
      rw [zL_law_23]
      unfold kL_law_23
      rw [hl.2.2.1, if_pos (show L.toInt32 - 7 < nI i from (l_end hL (by omega)).mpr qe)]
    · have W0 := W
      obtain ⟨hl, bl, S, z, T, n, ls, fp, rs, rf, hi', im, X⟩ := W
      obtain ⟨fl, rfl⟩ : ∃ g, fl = g + 1 + 1 + 1 + 1 := ⟨fl - 4, by omega⟩
      have kx := X.1.1.1.k
      have go : ∀ (g : Nat) (h6 : Hp), 4 * c + 1 < g → LW x m o B h6 L xs c → ∃ h', gL_law g 23 [.ref 1, .ref x, .ref m, .ref o, .int (nI (i + 7)), uV, uV] [] h6 = some (.inl (some (.int 1)), h') ∧ nH h' ≤ 20000 ∧ zH h' ≤ 2000000 := fun g h6 hg W6 => ih (i + 7) g h6 (by omega) (by omega) (by omega) hg W6
      have hi7 : i + 7 ≤ L := by omega
      rw [zL_law_23]
      unfold kL_law_23
      rw [hl.2.2.1, if_neg (show ¬ L.toInt32 - 7 < nI i from fun w => qe ((l_end hL (by omega)).mp w)), if_pos (show inB (nI i) L = true from inB_nI (by omega) (by omega)), nI_clamp (by omega), hl.2.2.2.1]
      by_cases q0 : xs i &&& 63 = 0
      · rw [if_pos q0]
        obtain ⟨h6, e6, W6⟩ := L_feed (f := fl + 1) hl hi7 hL kx (a_feed P hl X (xs (i + 1)) (xs (i + 2)) (xs (i + 3)) (xs (i + 4)) (xs (i + 5)))
        exact (by rw [e6]; exact go _ h6 (by omega) W6)
      rw [if_neg q0]
      by_cases q1 : xs i &&& 63 = 1
      · rw [if_pos q1]
        obtain ⟨h6, e6, W6⟩ := L_store (f := fl) hl hi7 hL kx (a_store P hl X (by omega) (xs (i + 1)))
        exact (by rw [e6]; exact go _ h6 (by omega) W6)
      rw [if_neg q1]
      by_cases q2 : xs i &&& 63 = 2
      · rw [if_pos q2]
        obtain ⟨h6, e6, W6⟩ := L_work (f := fl) hl hi7 hL kx (a_work P hl X (by omega) (xs (i + 1)))
        exact (by rw [e6]; exact go _ h6 (by omega) W6)
      rw [if_neg q2]
      by_cases q3 : xs i &&& 63 = 3
      · rw [if_pos q3]
        obtain ⟨h6, e6, W6⟩ := L_book (f := fl) hl hi7 hL kx (a_book P hl X (by omega) (xs (i + 1)))
        exact (by rw [e6]; exact go _ h6 (by omega) W6)
      rw [if_neg q3]
      by_cases q4 : xs i &&& 63 = 4
      · rw [if_pos q4]
        obtain ⟨h6, e6, W6⟩ := L_fault (f := fl + 1) hl hi7 hL kx (a_fault P hl X (by omega))
        exact (by rw [e6]; exact go _ h6 (by omega) W6)
      rw [if_neg q4]
      by_cases q5 : xs i &&& 63 = 5
      · rw [if_pos q5]
        obtain ⟨h6, e6, W6⟩ := L_undo (f := fl + 1) hl hi7 hL kx (a_undo P hl X)
        exact (by rw [e6]; exact go _ h6 (by omega) W6)
      rw [if_neg q5]
      by_cases q6 : xs i &&& 63 = 6
      · rw [if_pos q6]
        obtain ⟨h6, e6, W6⟩ := L_told (f := fl) hl hi7 hL kx (a_told P hl X (by omega) (xs (i + 1)))
        exact (by rw [e6]; exact go _ h6 (by omega) W6)
      rw [if_neg q6]
      by_cases q7 : xs i &&& 63 = 7
      · rw [if_pos q7]
        obtain ⟨h6, e6, W6⟩ := L_peek (f := fl) hl hi7 hL kx (a_peek P hl X (by omega) (xs (i + 1)) (xs (i + 2)) (xs (i + 3)))
        exact (by rw [e6]; exact go _ h6 (by omega) W6)
      rw [if_neg q7]
      by_cases q8 : xs i &&& 63 = 8
      · rw [if_pos q8]
        obtain ⟨h6, e6, W6⟩ := L_node (f := fl) hl hi7 hL kx (a_node P hl X (by omega) (xs (i + 1)) (xs (i + 2)) (xs (i + 3)))
        exact (by rw [e6]; exact go _ h6 (by omega) W6)
      rw [if_neg q8]
      by_cases q9 : xs i &&& 63 = 9
      · rw [if_pos q9]
        obtain ⟨h6, e6, W6⟩ := L_find (f := fl) hl hi7 hL kx (a_find P hl X (by omega) (xs (i + 1)) (xs (i + 2)) (xs (i + 3)))
        exact (by rw [e6]; exact go _ h6 (by omega) W6)
      rw [if_neg q9]
      by_cases q10 : xs i &&& 63 = 10
      · rw [if_pos q10]
        obtain ⟨h6, e6, W6⟩ := L_used (f := fl) hl hi7 hL kx (a_used P hl X (by omega) (xs (i + 1)))
        exact (by rw [e6]; exact go _ h6 (by omega) W6)
      rw [if_neg q10]
      by_cases q11 : xs i &&& 63 = 11
      · rw [if_pos q11]
        obtain ⟨h6, e6, W6⟩ := L_leaks (f := fl) hl hi7 hL kx (a_leaks P hl X (by omega) (xs (i + 1)))
        exact (by rw [e6]; exact go _ h6 (by omega) W6)
      rw [if_neg q11]
      by_cases q12 : xs i &&& 63 = 12
      · rw [if_pos q12]
        obtain ⟨h6, e6, W6⟩ := L_lost (f := fl) hl hi7 hL kx (a_lost P hl X (by omega) (xs (i + 1)))
        exact (by rw [e6]; exact go _ h6 (by omega) W6)
      rw [if_neg q12]
      by_cases q13 : xs i &&& 63 = 13
      · rw [if_pos q13]
        obtain ⟨h6, e6, W6⟩ := L_broken (f := fl) hl hi7 hL kx (a_broken P hl X (by omega) (xs (i + 1)))
        exact (by rw [e6]; exact go _ h6 (by omega) W6)
      rw [if_neg q13]
      by_cases q14 : xs i &&& 63 = 14
      · rw [if_pos q14]
        obtain ⟨h6, e6, W6⟩ := L_under (f := fl) hl hi7 hL kx (a_under P hl X (by omega) (xs (i + 1)) (xs (i + 2)))
        exact (by rw [e6]; exact go _ h6 (by omega) W6)
      rw [if_neg q14]
      by_cases q15 : xs i &&& 63 = 15
      · rw [if_pos q15]
        obtain ⟨h6, e6, W6⟩ := L_deep (f := fl) hl hi7 hL kx (a_deep P hl X (by omega) (xs (i + 1)) (xs (i + 2)))
        exact (by rw [e6]; exact go _ h6 (by omega) W6)
      rw [if_neg q15]
      by_cases q16 : xs i &&& 63 = 16
      · rw [if_pos q16]
        obtain ⟨h6, e6, W6⟩ := L_change (f := fl) hl hi7 hL kx (a_change P hl X (by omega) (xs (i + 1)) (xs (i + 2)))
        exact (by rw [e6]; exact go _ h6 (by omega) W6)
      rw [if_neg q16]
      by_cases q17 : xs i &&& 63 = 17
      · rw [if_pos q17]
        obtain ⟨h6, e6, W6⟩ := L_held (f := fl) hl hi7 hL kx (a_held P hl X (by omega) (xs (i + 1)))
        exact (by rw [e6]; exact go _ h6 (by omega) W6)
      rw [if_neg q17]
      by_cases q18 : xs i &&& 63 = 18
      · rw [if_pos q18]
        obtain ⟨h6, e6, W6⟩ := L_copy (f := fl) hl hi7 hL kx (a_copy P hl X (by omega) (xs (i + 1)) (xs (i + 2)))
        exact (by rw [e6]; exact go _ h6 (by omega) W6)
      rw [if_neg q18]
      by_cases q19 : xs i &&& 63 = 19
      · rw [if_pos q19]
        obtain ⟨h6, e6, W6⟩ := L_waits (f := fl) hl hi7 hL kx (a_waits P hl X (by omega) (xs (i + 1)))
        exact (by rw [e6]; exact go _ h6 (by omega) W6)
      rw [if_neg q19]
      by_cases q20 : xs i &&& 63 = 20
      · rw [if_pos q20]
        obtain ⟨h6, e6, W6⟩ := L_rings (f := fl + 1) hl hi7 hL kx (a_rings P hl X (by omega))
        exact (by rw [e6]; exact go _ h6 (by omega) W6)
      rw [if_neg q20]
      by_cases q21 : xs i &&& 63 = 21
      · rw [if_pos q21]
        obtain ⟨h6, e6, W6⟩ := L_settle (f := fl + 1) hl hi7 hL kx (a_settle P hl X (by omega))
        exact (by rw [e6]; exact go _ h6 (by omega) W6)
      rw [if_neg q21]
      by_cases q22 : xs i &&& 63 = 22
      · rw [if_pos q22]
        obtain ⟨h6, e6, W6⟩ := L_spill (f := fl) hl hi7 hL kx (a_spill P hl X (by omega) (xs (i + 1)))
        exact (by rw [e6]; exact go _ h6 (by omega) W6)
      rw [if_neg q22]
      by_cases q23 : xs i &&& 63 = 23
      · rw [if_pos q23]
        obtain ⟨h6, e6, W6⟩ := L_fewest (f := fl + 1) hl hi7 hL kx (a_fewest P hl X (by omega))
        exact (by rw [e6]; exact go _ h6 (by omega) W6)
      rw [if_neg q23]
      by_cases q24 : xs i &&& 63 = 24
      · rw [if_pos q24]
        obtain ⟨h6, e6, W6⟩ := L_finds (f := fl + 1) hl hi7 hL kx (a_finds P hl X (by omega))
        exact (by rw [e6]; exact go _ h6 (by omega) W6)
      rw [if_neg q24]
      by_cases q25 : xs i &&& 63 = 25
      · rw [if_pos q25]
        obtain ⟨h6, e6, W6⟩ := L_sweeps (f := fl + 1) hl hi7 hL kx (a_sweeps P hl X (by omega))
        exact (by rw [e6]; exact go _ h6 (by omega) W6)
      rw [if_neg q25]
      by_cases q26 : xs i &&& 63 = 26
      · rw [if_pos q26]
        obtain ⟨h6, e6, W6⟩ := L_fits (f := fl + 1) hl hi7 hL kx (a_fits P hl X (by omega))
        exact (by rw [e6]; exact go _ h6 (by omega) W6)
      rw [if_neg q26]
      by_cases q27 : xs i &&& 63 = 27
      · rw [if_pos q27]
        obtain ⟨h6, e6, W6⟩ := L_look (f := fl) hl hi7 hL kx (a_look P hl X (by omega) (xs (i + 1)))
        exact (by rw [e6]; exact go _ h6 (by omega) W6)
      rw [if_neg q27]
      by_cases q28 : xs i &&& 63 = 28
      · rw [if_pos q28]
        obtain ⟨h6, e6, W6⟩ := L_room (f := fl) hl hi7 hL kx (a_room P hl X (by omega) (xs (i + 1)))
        exact (by rw [e6]; exact go _ h6 (by omega) W6)
      rw [if_neg q28]
      by_cases q29 : xs i &&& 63 = 29
      · rw [if_pos q29]
        obtain ⟨h6, e6, W6⟩ := L_owner (f := fl) hl hi7 hL kx (a_owner P hl X (by omega) (xs (i + 1)) (xs (i + 2)))
        exact (by rw [e6]; exact go _ h6 (by omega) W6)
      rw [if_neg q29]
      by_cases q30 : xs i &&& 63 = 30
      · rw [if_pos q30]
        obtain ⟨h6, e6, W6⟩ := L_unlike (f := fl) hl hi7 hL kx (a_unlike P hl X (by omega) (xs (i + 1)))
        exact (by rw [e6]; exact go _ h6 (by omega) W6)
      rw [if_neg q30]
      by_cases q31 : xs i &&& 63 = 31
      · rw [if_pos q31]
        obtain ⟨h6, e6, W6⟩ := L_storm (f := fl) hl hi7 hL kx (a_storm P hl X (by omega) (xs (i + 1)) (xs (i + 2)) (xs (i + 3)) (xs (i + 4)))
        exact (by rw [e6]; exact go _ h6 (by omega) W6)
      rw [if_neg q31]
      by_cases q32 : xs i &&& 63 = 32
      · rw [if_pos q32]
        obtain ⟨h6, e6, W6⟩ := L_span (f := fl) hl hi7 hL kx (a_span P hl X (by omega) (xs (i + 1)) (xs (i + 2)) (xs (i + 3)) (xs (i + 4)) (xs (i + 5)) (xs (i + 6)))
        exact (by rw [e6]; exact go _ h6 (by omega) W6)
      rw [if_neg q32]
      by_cases q33 : xs i &&& 63 = 33
      · rw [if_pos q33]
        obtain ⟨h6, e6, W6⟩ := L_image (f := fl + 1) hl hi7 hL kx (a_image P hl X)
        exact (by rw [e6]; exact go _ h6 (by omega) W6)
      rw [if_neg q33]
      by_cases q34 : xs i &&& 63 = 34
      · rw [if_pos q34]
        obtain ⟨h6, e6, W6⟩ := L_restore (f := fl + 1) hl hi7 hL kx (a_restore P hl X)
        exact (by rw [e6]; exact go _ h6 (by omega) W6)
      rw [if_neg q34]
      by_cases q35 : xs i &&& 63 = 35
      · rw [if_pos q35]
        obtain ⟨h6, e6, W6⟩ := L_status (f := fl + 1) hl hi7 hL kx (a_status P hl X (by omega) (xs (i + 1)))
        exact (by rw [e6]; exact go _ h6 (by omega) W6)
      rw [if_neg q35]
      by_cases q36 : xs i &&& 63 = 36
      · rw [if_pos q36]
        obtain ⟨h6, e6, W6⟩ := L_count (f := fl + 1) hl hi7 hL kx (a_count P hl X (by omega) (xs (i + 1)))
        exact (by rw [e6]; exact go _ h6 (by omega) W6)
      rw [if_neg q36]
      have W6 : LW x m o B h L xs c := ⟨hl, bl, S, z, T, n, ls, fp, rs, rf, hi', im, X.1, X.2.1, X.2.2.1.le (bud_le c), X.2.2.2.sm rfl⟩
      show ∃ h', gL_law (fl + 1 + 1 + 1) 2031 [.ref 1, .ref x, .ref m, .ref o, .int (nI i), uV, uV] [] h = _ ∧ _
      rw [zL_law_2031]
      unfold kL_law_2031
      rw [nI_7]
      exact go _ h (by omega) W6
end LOOP
