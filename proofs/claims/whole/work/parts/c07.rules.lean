theorem bL_law_0 {G : GG} {d : Nat} {h : Hp} {o : OU} {h' : Hp}  (hd : 1 ≤ d) (T : (∀ h1 : Hp, h1 = (nwH h 19 0 17) → (nH h) ≠ 0 ∧ ∃ h3, VM G mX9_init (d - 1) [.ref (nH h)] h1 (.inl none) h3 ∧ (∀ h6 : Hp, h6 = (nwH h3 18 0 38) → (nH h3) ≠ 0 ∧ ∃ h8, VM G mX10_init (d - 1) [.ref (nH h3)] h6 (.inl none) h8 ∧ (∀ h11 : Hp, h11 = (nwH h8 4 1 1) → V G mL_law d 23 [.ref 1, .ref (nH h), .ref (nH h3), .ref (nH h8), .int 0, uV, uV] [] h11 o h')))) : V G mL_law d 0 [.ref 1, uV, uV, uV, uV, uV, uV] [] h o h' := by
  have hdd : d - 1 + 1 ≤ d := by omega
  refine v_new (pc' := 3) 9 dL_law_0 rfl (by decide) kk_L_8 kb_X9 kn_X9 ?_
  show V G mL_law d 3 [.ref 1, uV, uV, uV, uV, uV, uV] [.ref (nH h)] (nwH h 19 0 17) o h'
  obtain ⟨h1, e2⟩ : ∃ z : Hp, z = (nwH h 19 0 17) := ⟨_, rfl⟩
  rw [← e2]
  have T := T h1 e2
  refine v_dup (pc' := 4) dL_law_3 rfl rfl ?_
  obtain ⟨q5, T⟩ := T
  obtain ⟨h3, k4, T⟩ := T
  refine v_callI (pc' := 7) (M1 := mX9_init) (as := []) (r := (nH h)) (rest := [.ref (nH h)]) dL_law_4 rfl rfl rfl ko_L_94 kc_X9_init ki_X9_init (by decide) hdd rfl rfl (le_l rfl) q5 k4 ?_
  refine v_astore_n (pc' := 8) (loc' := [.ref 1, .ref (nH h), uV, uV, uV, uV, uV]) dL_law_7 rfl (lt_l rfl) rfl ?_
  refine v_new (pc' := 11) 8 dL_law_8 rfl (by decide) kk_L_95 kb_X10 kn_X10 ?_
  show V G mL_law d 11 [.ref 1, .ref (nH h), uV, uV, uV, uV, uV] [.ref (nH h3)] (nwH h3 18 0 38) o h'
  obtain ⟨h6, e7⟩ : ∃ z : Hp, z = (nwH h3 18 0 38) := ⟨_, rfl⟩
  rw [← e7]
  have T := T h6 e7
  refine v_dup (pc' := 12) dL_law_11 rfl rfl ?_
  obtain ⟨q10, T⟩ := T
  obtain ⟨h8, k9, T⟩ := T
  refine v_callI (pc' := 15) (M1 := mX10_init) (as := []) (r := (nH h3)) (rest := [.ref (nH h3)]) dL_law_12 rfl rfl rfl ko_L_97 kc_X10_init ki_X10_init (by decide) hdd rfl rfl (le_l rfl) q10 k9 ?_
  refine v_astore_n (pc' := 16) (loc' := [.ref 1, .ref (nH h), .ref (nH h3), uV, uV, uV, uV]) dL_law_15 rfl (lt_l rfl) rfl ?_
  refine v_iconst (pc' := 17) (v := 1) dL_law_16 rfl kI_1 ?_
  refine v_newa (pc' := 19) 4 (N := 1) dL_law_17 rfl (by decide) rfl ka_long (by decide) (by decide) (by decide) ?_
  show V G mL_law d 19 [.ref 1, .ref (nH h), .ref (nH h3), uV, uV, uV, uV] [.ref (nH h8)] (nwH h8 4 1 1) o h'
  obtain ⟨h11, e12⟩ : ∃ z : Hp, z = (nwH h8 4 1 1) := ⟨_, rfl⟩
  rw [← e12]
  have T := T h11 e12
  refine v_astore_n (pc' := 20) (loc' := [.ref 1, .ref (nH h), .ref (nH h3), .ref (nH h8), uV, uV, uV]) dL_law_19 rfl (lt_l rfl) rfl ?_
  refine v_iconst (pc' := 21) (v := 0) dL_law_20 rfl kI_0 ?_
  refine v_istore (pc' := 23) (loc' := [.ref 1, .ref (nH h), .ref (nH h3), .ref (nH h8), .int 0, uV, uV]) dL_law_21 rfl (lt_l rfl) rfl ?_
  exact T
theorem bL_law_23 {G : GG} {d : Nat} {h : Hp} {o : OU} {h' : Hp} (r1 : Nat) (r2 : Nat) (r3 : Nat) (x4 : Int32) (T : (((((lH h 1).toInt32) - 7) < x4 → (o = .inl (some (.int 1)) ∧ h' = h)) ∧ (¬ (((lH h 1).toInt32) - 7) < x4 → vp_in x4 (lH h 1) ∧ ((((h.2 1 x4.toNatClampNeg) &&& 63) = 0 → V G mL_law d 204 [.ref 1, .ref r1, .ref r2, .ref r3, .int x4, uV, uV] [] h o h') ∧ (((h.2 1 x4.toNatClampNeg) &&& 63) = 1 → V G mL_law d 277 [.ref 1, .ref r1, .ref r2, .ref r3, .int x4, uV, uV] [] h o h') ∧ (((h.2 1 x4.toNatClampNeg) &&& 63) = 2 → V G mL_law d 333 [.ref 1, .ref r1, .ref r2, .ref r3, .int x4, uV, uV] [] h o h') ∧ (((h.2 1 x4.toNatClampNeg) &&& 63) = 3 → V G mL_law d 389 [.ref 1, .ref r1, .ref r2, .ref r3, .int x4, uV, uV] [] h o h') ∧ (((h.2 1 x4.toNatClampNeg) &&& 63) = 4 → V G mL_law d 445 [.ref 1, .ref r1, .ref r2, .ref r3, .int x4, uV, uV] [] h o h') ∧ (((h.2 1 x4.toNatClampNeg) &&& 63) = 5 → V G mL_law d 458 [.ref 1, .ref r1, .ref r2, .ref r3, .int x4, uV, uV] [] h o h') ∧ (((h.2 1 x4.toNatClampNeg) &&& 63) = 6 → V G mL_law d 471 [.ref 1, .ref r1, .ref r2, .ref r3, .int x4, uV, uV] [] h o h') ∧ (((h.2 1 x4.toNatClampNeg) &&& 63) = 7 → V G mL_law d 527 [.ref 1, .ref r1, .ref r2, .ref r3, .int x4, uV, uV] [] h o h') ∧ (((h.2 1 x4.toNatClampNeg) &&& 63) = 8 → V G mL_law d 607 [.ref 1, .ref r1, .ref r2, .ref r3, .int x4, uV, uV] [] h o h') ∧ (((h.2 1 x4.toNatClampNeg) &&& 63) = 9 → V G mL_law d 687 [.ref 1, .ref r1, .ref r2, .ref r3, .int x4, uV, uV] [] h o h') ∧ (((h.2 1 x4.toNatClampNeg) &&& 63) = 10 → V G mL_law d 767 [.ref 1, .ref r1, .ref r2, .ref r3, .int x4, uV, uV] [] h o h') ∧ (((h.2 1 x4.toNatClampNeg) &&& 63) = 11 → V G mL_law d 823 [.ref 1, .ref r1, .ref r2, .ref r3, .int x4, uV, uV] [] h o h') ∧ (((h.2 1 x4.toNatClampNeg) &&& 63) = 12 → V G mL_law d 879 [.ref 1, .ref r1, .ref r2, .ref r3, .int x4, uV, uV] [] h o h') ∧ (((h.2 1 x4.toNatClampNeg) &&& 63) = 13 → V G mL_law d 935 [.ref 1, .ref r1, .ref r2, .ref r3, .int x4, uV, uV] [] h o h') ∧ (((h.2 1 x4.toNatClampNeg) &&& 63) = 14 → V G mL_law d 991 [.ref 1, .ref r1, .ref r2, .ref r3, .int x4, uV, uV] [] h o h') ∧ (((h.2 1 x4.toNatClampNeg) &&& 63) = 15 → V G mL_law d 1059 [.ref 1, .ref r1, .ref r2, .ref r3, .int x4, uV, uV] [] h o h') ∧ (((h.2 1 x4.toNatClampNeg) &&& 63) = 16 → V G mL_law d 1127 [.ref 1, .ref r1, .ref r2, .ref r3, .int x4, uV, uV] [] h o h') ∧ (((h.2 1 x4.toNatClampNeg) &&& 63) = 17 → V G mL_law d 1195 [.ref 1, .ref r1, .ref r2, .ref r3, .int x4, uV, uV] [] h o h') ∧ (((h.2 1 x4.toNatClampNeg) &&& 63) = 18 → V G mL_law d 1251 [.ref 1, .ref r1, .ref r2, .ref r3, .int x4, uV, uV] [] h o h') ∧ (((h.2 1 x4.toNatClampNeg) &&& 63) = 19 → V G mL_law d 1319 [.ref 1, .ref r1, .ref r2, .ref r3, .int x4, uV, uV] [] h o h') ∧ (((h.2 1 x4.toNatClampNeg) &&& 63) = 20 → V G mL_law d 1375 [.ref 1, .ref r1, .ref r2, .ref r3, .int x4, uV, uV] [] h o h') ∧ (((h.2 1 x4.toNatClampNeg) &&& 63) = 21 → V G mL_law d 1388 [.ref 1, .ref r1, .ref r2, .ref r3, .int x4, uV, uV] [] h o h') ∧ (((h.2 1 x4.toNatClampNeg) &&& 63) = 22 → V G mL_law d 1401 [.ref 1, .ref r1, .ref r2, .ref r3, .int x4, uV, uV] [] h o h') ∧ (((h.2 1 x4.toNatClampNeg) &&& 63) = 23 → V G mL_law d 1457 [.ref 1, .ref r1, .ref r2, .ref r3, .int x4, uV, uV] [] h o h') ∧ (((h.2 1 x4.toNatClampNeg) &&& 63) = 24 → V G mL_law d 1470 [.ref 1, .ref r1, .ref r2, .ref r3, .int x4, uV, uV] [] h o h') ∧ (((h.2 1 x4.toNatClampNeg) &&& 63) = 25 → V G mL_law d 1483 [.ref 1, .ref r1, .ref r2, .ref r3, .int x4, uV, uV] [] h o h') ∧ (((h.2 1 x4.toNatClampNeg) &&& 63) = 26 → V G mL_law d 1496 [.ref 1, .ref r1, .ref r2, .ref r3, .int x4, uV, uV] [] h o h') ∧ (((h.2 1 x4.toNatClampNeg) &&& 63) = 27 → V G mL_law d 1509 [.ref 1, .ref r1, .ref r2, .ref r3, .int x4, uV, uV] [] h o h') ∧ (((h.2 1 x4.toNatClampNeg) &&& 63) = 28 → V G mL_law d 1565 [.ref 1, .ref r1, .ref r2, .ref r3, .int x4, uV, uV] [] h o h') ∧ (((h.2 1 x4.toNatClampNeg) &&& 63) = 29 → V G mL_law d 1621 [.ref 1, .ref r1, .ref r2, .ref r3, .int x4, uV, uV] [] h o h') ∧ (((h.2 1 x4.toNatClampNeg) &&& 63) = 30 → V G mL_law d 1689 [.ref 1, .ref r1, .ref r2, .ref r3, .int x4, uV, uV] [] h o h') ∧ (((h.2 1 x4.toNatClampNeg) &&& 63) = 31 → V G mL_law d 1745 [.ref 1, .ref r1, .ref r2, .ref r3, .int x4, uV, uV] [] h o h') ∧ (((h.2 1 x4.toNatClampNeg) &&& 63) = 32 → V G mL_law d 1837 [.ref 1, .ref r1, .ref r2, .ref r3, .int x4, uV, uV] [] h o h') ∧ (((h.2 1 x4.toNatClampNeg) &&& 63) = 33 → V G mL_law d 1955 [.ref 1, .ref r1, .ref r2, .ref r3, .int x4, uV, uV] [] h o h') ∧ (((h.2 1 x4.toNatClampNeg) &&& 63) = 34 → V G mL_law d 1968 [.ref 1, .ref r1, .ref r2, .ref r3, .int x4, uV, uV] [] h o h') ∧ (((h.2 1 x4.toNatClampNeg) &&& 63) = 35 → V G mL_law d 1981 [.ref 1, .ref r1, .ref r2, .ref r3, .int x4, uV, uV] [] h o h') ∧ (((h.2 1 x4.toNatClampNeg) &&& 63) = 36 → V G mL_law d 2006 [.ref 1, .ref r1, .ref r2, .ref r3, .int x4, uV, uV] [] h o h') ∧ (¬ ((h.2 1 x4.toNatClampNeg) &&& 63) = 0 → ¬ ((h.2 1 x4.toNatClampNeg) &&& 63) = 1 → ¬ ((h.2 1 x4.toNatClampNeg) &&& 63) = 2 → ¬ ((h.2 1 x4.toNatClampNeg) &&& 63) = 3 → ¬ ((h.2 1 x4.toNatClampNeg) &&& 63) = 4 → ¬ ((h.2 1 x4.toNatClampNeg) &&& 63) = 5 → ¬ ((h.2 1 x4.toNatClampNeg) &&& 63) = 6 → ¬ ((h.2 1 x4.toNatClampNeg) &&& 63) = 7 → ¬ ((h.2 1 x4.toNatClampNeg) &&& 63) = 8 → ¬ ((h.2 1 x4.toNatClampNeg) &&& 63) = 9 → ¬ ((h.2 1 x4.toNatClampNeg) &&& 63) = 10 → ¬ ((h.2 1 x4.toNatClampNeg) &&& 63) = 11 → ¬ ((h.2 1 x4.toNatClampNeg) &&& 63) = 12 → ¬ ((h.2 1 x4.toNatClampNeg) &&& 63) = 13 → ¬ ((h.2 1 x4.toNatClampNeg) &&& 63) = 14 → ¬ ((h.2 1 x4.toNatClampNeg) &&& 63) = 15 → ¬ ((h.2 1 x4.toNatClampNeg) &&& 63) = 16 → ¬ ((h.2 1 x4.toNatClampNeg) &&& 63) = 17 → ¬ ((h.2 1 x4.toNatClampNeg) &&& 63) = 18 → ¬ ((h.2 1 x4.toNatClampNeg) &&& 63) = 19 → ¬ ((h.2 1 x4.toNatClampNeg) &&& 63) = 20 → ¬ ((h.2 1 x4.toNatClampNeg) &&& 63) = 21 → ¬ ((h.2 1 x4.toNatClampNeg) &&& 63) = 22 → ¬ ((h.2 1 x4.toNatClampNeg) &&& 63) = 23 → ¬ ((h.2 1 x4.toNatClampNeg) &&& 63) = 24 → ¬ ((h.2 1 x4.toNatClampNeg) &&& 63) = 25 → ¬ ((h.2 1 x4.toNatClampNeg) &&& 63) = 26 → ¬ ((h.2 1 x4.toNatClampNeg) &&& 63) = 27 → ¬ ((h.2 1 x4.toNatClampNeg) &&& 63) = 28 → ¬ ((h.2 1 x4.toNatClampNeg) &&& 63) = 29 → ¬ ((h.2 1 x4.toNatClampNeg) &&& 63) = 30 → ¬ ((h.2 1 x4.toNatClampNeg) &&& 63) = 31 → ¬ ((h.2 1 x4.toNatClampNeg) &&& 63) = 32 → ¬ ((h.2 1 x4.toNatClampNeg) &&& 63) = 33 → ¬ ((h.2 1 x4.toNatClampNeg) &&& 63) = 34 → ¬ ((h.2 1 x4.toNatClampNeg) &&& 63) = 35 → ¬ ((h.2 1 x4.toNatClampNeg) &&& 63) = 36 → V G mL_law d 2031 [.ref 1, .ref r1, .ref r2, .ref r3, .int x4, uV, uV] [] h o h'))))) : V G mL_law d 23 [.ref 1, .ref r1, .ref r2, .ref r3, .int x4, uV, uV] [] h o h' := by
  refine v_iload (pc' := 25) dL_law_23 rfl rfl ?_
  refine v_aload_n (pc' := 26) dL_law_25 rfl rfl ?_
  refine v_slen (pc' := 27) dL_law_26 rfl rfl ?_
  refine v_bipush (pc' := 29) (v := 7) dL_law_27 rfl kB_7 ?_
  refine v_isub (pc' := 30) dL_law_29 rfl ?_
  refine v_icmp_gt (tgt := 2037) (pc' := 33) dL_law_30 (by decide) rfl ⟨fun c1 => ?_, fun c1 => ?_⟩
  · have T := T.1 c1
    refine v_iconst (pc' := 2038) (v := 1) dL_law_2037 rfl kI_1 ?_
    exact v_zret dL_law_2038 rfl (Or.inr rfl) T
  · have T := T.2 c1
    refine v_aload_n (pc' := 34) dL_law_33 rfl rfl ?_
    refine v_iload (pc' := 36) dL_law_34 rfl rfl ?_
    obtain ⟨q2, T⟩ := T
    refine v_sald (pc' := 37) dL_law_36 rfl rfl q2 ?_
    refine v_bipush (pc' := 39) (v := 63) dL_law_37 rfl kB_63 ?_
    refine v_iand (pc' := 40) dL_law_39 rfl ?_
    by_cases c3 : ((h.2 1 x4.toNatClampNeg) &&& 63) = 0
    · have T := T.1 c3
      refine v_switchIn (off := 164) (pc' := 204) dL_law_40 (by rw [c3]; decide) (by rw [c3]; decide) (by rw [c3]; rfl) (by decide) ?_
      exact T
    by_cases c4 : ((h.2 1 x4.toNatClampNeg) &&& 63) = 1
    · have T := T.2.1 c4
      refine v_switchIn (off := 237) (pc' := 277) dL_law_40 (by rw [c4]; decide) (by rw [c4]; decide) (by rw [c4]; rfl) (by decide) ?_
      exact T
    by_cases c5 : ((h.2 1 x4.toNatClampNeg) &&& 63) = 2
    · have T := T.2.2.1 c5
      refine v_switchIn (off := 293) (pc' := 333) dL_law_40 (by rw [c5]; decide) (by rw [c5]; decide) (by rw [c5]; rfl) (by decide) ?_
      exact T
    by_cases c6 : ((h.2 1 x4.toNatClampNeg) &&& 63) = 3
    · have T := T.2.2.2.1 c6
      refine v_switchIn (off := 349) (pc' := 389) dL_law_40 (by rw [c6]; decide) (by rw [c6]; decide) (by rw [c6]; rfl) (by decide) ?_
      exact T
    by_cases c7 : ((h.2 1 x4.toNatClampNeg) &&& 63) = 4
    · have T := T.2.2.2.2.1 c7
      refine v_switchIn (off := 405) (pc' := 445) dL_law_40 (by rw [c7]; decide) (by rw [c7]; decide) (by rw [c7]; rfl) (by decide) ?_
      exact T
    by_cases c8 : ((h.2 1 x4.toNatClampNeg) &&& 63) = 5
    · have T := T.2.2.2.2.2.1 c8
      refine v_switchIn (off := 418) (pc' := 458) dL_law_40 (by rw [c8]; decide) (by rw [c8]; decide) (by rw [c8]; rfl) (by decide) ?_
      exact T
    by_cases c9 : ((h.2 1 x4.toNatClampNeg) &&& 63) = 6
    · have T := T.2.2.2.2.2.2.1 c9
      refine v_switchIn (off := 431) (pc' := 471) dL_law_40 (by rw [c9]; decide) (by rw [c9]; decide) (by rw [c9]; rfl) (by decide) ?_
      exact T
    by_cases c10 : ((h.2 1 x4.toNatClampNeg) &&& 63) = 7
    · have T := T.2.2.2.2.2.2.2.1 c10
      refine v_switchIn (off := 487) (pc' := 527) dL_law_40 (by rw [c10]; decide) (by rw [c10]; decide) (by rw [c10]; rfl) (by decide) ?_
      exact T
    by_cases c11 : ((h.2 1 x4.toNatClampNeg) &&& 63) = 8
    · have T := T.2.2.2.2.2.2.2.2.1 c11
      refine v_switchIn (off := 567) (pc' := 607) dL_law_40 (by rw [c11]; decide) (by rw [c11]; decide) (by rw [c11]; rfl) (by decide) ?_
      exact T
    by_cases c12 : ((h.2 1 x4.toNatClampNeg) &&& 63) = 9
    · have T := T.2.2.2.2.2.2.2.2.2.1 c12
      refine v_switchIn (off := 647) (pc' := 687) dL_law_40 (by rw [c12]; decide) (by rw [c12]; decide) (by rw [c12]; rfl) (by decide) ?_
      exact T
    by_cases c13 : ((h.2 1 x4.toNatClampNeg) &&& 63) = 10
    · have T := T.2.2.2.2.2.2.2.2.2.2.1 c13
      refine v_switchIn (off := 727) (pc' := 767) dL_law_40 (by rw [c13]; decide) (by rw [c13]; decide) (by rw [c13]; rfl) (by decide) ?_
      exact T
    by_cases c14 : ((h.2 1 x4.toNatClampNeg) &&& 63) = 11
    · have T := T.2.2.2.2.2.2.2.2.2.2.2.1 c14
      refine v_switchIn (off := 783) (pc' := 823) dL_law_40 (by rw [c14]; decide) (by rw [c14]; decide) (by rw [c14]; rfl) (by decide) ?_
      exact T
    by_cases c15 : ((h.2 1 x4.toNatClampNeg) &&& 63) = 12
    · have T := T.2.2.2.2.2.2.2.2.2.2.2.2.1 c15
      refine v_switchIn (off := 839) (pc' := 879) dL_law_40 (by rw [c15]; decide) (by rw [c15]; decide) (by rw [c15]; rfl) (by decide) ?_
      exact T
    by_cases c16 : ((h.2 1 x4.toNatClampNeg) &&& 63) = 13
    · have T := T.2.2.2.2.2.2.2.2.2.2.2.2.2.1 c16
      refine v_switchIn (off := 895) (pc' := 935) dL_law_40 (by rw [c16]; decide) (by rw [c16]; decide) (by rw [c16]; rfl) (by decide) ?_
      exact T
    by_cases c17 : ((h.2 1 x4.toNatClampNeg) &&& 63) = 14
    · have T := T.2.2.2.2.2.2.2.2.2.2.2.2.2.2.1 c17
      refine v_switchIn (off := 951) (pc' := 991) dL_law_40 (by rw [c17]; decide) (by rw [c17]; decide) (by rw [c17]; rfl) (by decide) ?_
      exact T
    by_cases c18 : ((h.2 1 x4.toNatClampNeg) &&& 63) = 15
    · have T := T.2.2.2.2.2.2.2.2.2.2.2.2.2.2.2.1 c18
      refine v_switchIn (off := 1019) (pc' := 1059) dL_law_40 (by rw [c18]; decide) (by rw [c18]; decide) (by rw [c18]; rfl) (by decide) ?_
      exact T
    by_cases c19 : ((h.2 1 x4.toNatClampNeg) &&& 63) = 16
    · have T := T.2.2.2.2.2.2.2.2.2.2.2.2.2.2.2.2.1 c19
      refine v_switchIn (off := 1087) (pc' := 1127) dL_law_40 (by rw [c19]; decide) (by rw [c19]; decide) (by rw [c19]; rfl) (by decide) ?_
      exact T
    by_cases c20 : ((h.2 1 x4.toNatClampNeg) &&& 63) = 17
    · have T := T.2.2.2.2.2.2.2.2.2.2.2.2.2.2.2.2.2.1 c20
      refine v_switchIn (off := 1155) (pc' := 1195) dL_law_40 (by rw [c20]; decide) (by rw [c20]; decide) (by rw [c20]; rfl) (by decide) ?_
      exact T
    by_cases c21 : ((h.2 1 x4.toNatClampNeg) &&& 63) = 18
    · have T := T.2.2.2.2.2.2.2.2.2.2.2.2.2.2.2.2.2.2.1 c21
      refine v_switchIn (off := 1211) (pc' := 1251) dL_law_40 (by rw [c21]; decide) (by rw [c21]; decide) (by rw [c21]; rfl) (by decide) ?_
      exact T
    by_cases c22 : ((h.2 1 x4.toNatClampNeg) &&& 63) = 19
    · have T := T.2.2.2.2.2.2.2.2.2.2.2.2.2.2.2.2.2.2.2.1 c22
      refine v_switchIn (off := 1279) (pc' := 1319) dL_law_40 (by rw [c22]; decide) (by rw [c22]; decide) (by rw [c22]; rfl) (by decide) ?_
      exact T
    by_cases c23 : ((h.2 1 x4.toNatClampNeg) &&& 63) = 20
    · have T := T.2.2.2.2.2.2.2.2.2.2.2.2.2.2.2.2.2.2.2.2.1 c23
      refine v_switchIn (off := 1335) (pc' := 1375) dL_law_40 (by rw [c23]; decide) (by rw [c23]; decide) (by rw [c23]; rfl) (by decide) ?_
      exact T
    by_cases c24 : ((h.2 1 x4.toNatClampNeg) &&& 63) = 21
    · have T := T.2.2.2.2.2.2.2.2.2.2.2.2.2.2.2.2.2.2.2.2.2.1 c24
      refine v_switchIn (off := 1348) (pc' := 1388) dL_law_40 (by rw [c24]; decide) (by rw [c24]; decide) (by rw [c24]; rfl) (by decide) ?_
      exact T
    by_cases c25 : ((h.2 1 x4.toNatClampNeg) &&& 63) = 22
    · have T := T.2.2.2.2.2.2.2.2.2.2.2.2.2.2.2.2.2.2.2.2.2.2.1 c25
      refine v_switchIn (off := 1361) (pc' := 1401) dL_law_40 (by rw [c25]; decide) (by rw [c25]; decide) (by rw [c25]; rfl) (by decide) ?_
      exact T
    by_cases c26 : ((h.2 1 x4.toNatClampNeg) &&& 63) = 23
    · have T := T.2.2.2.2.2.2.2.2.2.2.2.2.2.2.2.2.2.2.2.2.2.2.2.1 c26
      refine v_switchIn (off := 1417) (pc' := 1457) dL_law_40 (by rw [c26]; decide) (by rw [c26]; decide) (by rw [c26]; rfl) (by decide) ?_
      exact T
    by_cases c27 : ((h.2 1 x4.toNatClampNeg) &&& 63) = 24
    · have T := T.2.2.2.2.2.2.2.2.2.2.2.2.2.2.2.2.2.2.2.2.2.2.2.2.1 c27
      refine v_switchIn (off := 1430) (pc' := 1470) dL_law_40 (by rw [c27]; decide) (by rw [c27]; decide) (by rw [c27]; rfl) (by decide) ?_
      exact T
    by_cases c28 : ((h.2 1 x4.toNatClampNeg) &&& 63) = 25
    · have T := T.2.2.2.2.2.2.2.2.2.2.2.2.2.2.2.2.2.2.2.2.2.2.2.2.2.1 c28
      refine v_switchIn (off := 1443) (pc' := 1483) dL_law_40 (by rw [c28]; decide) (by rw [c28]; decide) (by rw [c28]; rfl) (by decide) ?_
      exact T
    by_cases c29 : ((h.2 1 x4.toNatClampNeg) &&& 63) = 26
    · have T := T.2.2.2.2.2.2.2.2.2.2.2.2.2.2.2.2.2.2.2.2.2.2.2.2.2.2.1 c29
      refine v_switchIn (off := 1456) (pc' := 1496) dL_law_40 (by rw [c29]; decide) (by rw [c29]; decide) (by rw [c29]; rfl) (by decide) ?_
      exact T
    by_cases c30 : ((h.2 1 x4.toNatClampNeg) &&& 63) = 27
    · have T := T.2.2.2.2.2.2.2.2.2.2.2.2.2.2.2.2.2.2.2.2.2.2.2.2.2.2.2.1 c30
      refine v_switchIn (off := 1469) (pc' := 1509) dL_law_40 (by rw [c30]; decide) (by rw [c30]; decide) (by rw [c30]; rfl) (by decide) ?_
      exact T
    by_cases c31 : ((h.2 1 x4.toNatClampNeg) &&& 63) = 28
    · have T := T.2.2.2.2.2.2.2.2.2.2.2.2.2.2.2.2.2.2.2.2.2.2.2.2.2.2.2.2.1 c31
      refine v_switchIn (off := 1525) (pc' := 1565) dL_law_40 (by rw [c31]; decide) (by rw [c31]; decide) (by rw [c31]; rfl) (by decide) ?_
      exact T
    by_cases c32 : ((h.2 1 x4.toNatClampNeg) &&& 63) = 29
    · have T := T.2.2.2.2.2.2.2.2.2.2.2.2.2.2.2.2.2.2.2.2.2.2.2.2.2.2.2.2.2.1 c32
      refine v_switchIn (off := 1581) (pc' := 1621) dL_law_40 (by rw [c32]; decide) (by rw [c32]; decide) (by rw [c32]; rfl) (by decide) ?_
      exact T
    by_cases c33 : ((h.2 1 x4.toNatClampNeg) &&& 63) = 30
    · have T := T.2.2.2.2.2.2.2.2.2.2.2.2.2.2.2.2.2.2.2.2.2.2.2.2.2.2.2.2.2.2.1 c33
      refine v_switchIn (off := 1649) (pc' := 1689) dL_law_40 (by rw [c33]; decide) (by rw [c33]; decide) (by rw [c33]; rfl) (by decide) ?_
      exact T
    by_cases c34 : ((h.2 1 x4.toNatClampNeg) &&& 63) = 31
    · have T := T.2.2.2.2.2.2.2.2.2.2.2.2.2.2.2.2.2.2.2.2.2.2.2.2.2.2.2.2.2.2.2.1 c34
      refine v_switchIn (off := 1705) (pc' := 1745) dL_law_40 (by rw [c34]; decide) (by rw [c34]; decide) (by rw [c34]; rfl) (by decide) ?_
      exact T
    by_cases c35 : ((h.2 1 x4.toNatClampNeg) &&& 63) = 32
    · have T := T.2.2.2.2.2.2.2.2.2.2.2.2.2.2.2.2.2.2.2.2.2.2.2.2.2.2.2.2.2.2.2.2.1 c35
      refine v_switchIn (off := 1797) (pc' := 1837) dL_law_40 (by rw [c35]; decide) (by rw [c35]; decide) (by rw [c35]; rfl) (by decide) ?_
      exact T
    by_cases c36 : ((h.2 1 x4.toNatClampNeg) &&& 63) = 33
    · have T := T.2.2.2.2.2.2.2.2.2.2.2.2.2.2.2.2.2.2.2.2.2.2.2.2.2.2.2.2.2.2.2.2.2.1 c36
      refine v_switchIn (off := 1915) (pc' := 1955) dL_law_40 (by rw [c36]; decide) (by rw [c36]; decide) (by rw [c36]; rfl) (by decide) ?_
      exact T
    by_cases c37 : ((h.2 1 x4.toNatClampNeg) &&& 63) = 34
    · have T := T.2.2.2.2.2.2.2.2.2.2.2.2.2.2.2.2.2.2.2.2.2.2.2.2.2.2.2.2.2.2.2.2.2.2.1 c37
      refine v_switchIn (off := 1928) (pc' := 1968) dL_law_40 (by rw [c37]; decide) (by rw [c37]; decide) (by rw [c37]; rfl) (by decide) ?_
      exact T
    by_cases c38 : ((h.2 1 x4.toNatClampNeg) &&& 63) = 35
    · have T := T.2.2.2.2.2.2.2.2.2.2.2.2.2.2.2.2.2.2.2.2.2.2.2.2.2.2.2.2.2.2.2.2.2.2.2.1 c38
      refine v_switchIn (off := 1941) (pc' := 1981) dL_law_40 (by rw [c38]; decide) (by rw [c38]; decide) (by rw [c38]; rfl) (by decide) ?_
      exact T
    by_cases c39 : ((h.2 1 x4.toNatClampNeg) &&& 63) = 36
    · have T := T.2.2.2.2.2.2.2.2.2.2.2.2.2.2.2.2.2.2.2.2.2.2.2.2.2.2.2.2.2.2.2.2.2.2.2.2.1 c39
      refine v_switchIn (off := 1966) (pc' := 2006) dL_law_40 (by rw [c39]; decide) (by rw [c39]; decide) (by rw [c39]; rfl) (by decide) ?_
      exact T
    have T := T.2.2.2.2.2.2.2.2.2.2.2.2.2.2.2.2.2.2.2.2.2.2.2.2.2.2.2.2.2.2.2.2.2.2.2.2.2 c3 c4 c5 c6 c7 c8 c9 c10 c11 c12 c13 c14 c15 c16 c17 c18 c19 c20 c21 c22 c23 c24 c25 c26 c27 c28 c29 c30 c31 c32 c33 c34 c35 c36 c37 c38 c39
    refine v_switchOut (pc' := 2031) dL_law_40 (sw_out (n := 36) (by decide) (fun k hk => by rcases (show k = 0 ∨ k = 1 ∨ k = 2 ∨ k = 3 ∨ k = 4 ∨ k = 5 ∨ k = 6 ∨ k = 7 ∨ k = 8 ∨ k = 9 ∨ k = 10 ∨ k = 11 ∨ k = 12 ∨ k = 13 ∨ k = 14 ∨ k = 15 ∨ k = 16 ∨ k = 17 ∨ k = 18 ∨ k = 19 ∨ k = 20 ∨ k = 21 ∨ k = 22 ∨ k = 23 ∨ k = 24 ∨ k = 25 ∨ k = 26 ∨ k = 27 ∨ k = 28 ∨ k = 29 ∨ k = 30 ∨ k = 31 ∨ k = 32 ∨ k = 33 ∨ k = 34 ∨ k = 35 ∨ k = 36 by omega) with rfl | rfl | rfl | rfl | rfl | rfl | rfl | rfl | rfl | rfl | rfl | rfl | rfl | rfl | rfl | rfl | rfl | rfl | rfl | rfl | rfl | rfl | rfl | rfl | rfl | rfl | rfl | rfl | rfl | rfl | rfl | rfl | rfl | rfl | rfl | rfl | rfl <;> assumption)) (by decide) ?_
    exact T
theorem bL_law_204 {G : GG} {d : Nat} {h : Hp} {o : OU} {h' : Hp} (r1 : Nat) (r2 : Nat) (r3 : Nat) (x4 : Int32) (hd : 1 ≤ d) (T : vp_in (x4 + 1) (lH h 1) ∧ vp_in (x4 + 2) (lH h 1) ∧ vp_in (x4 + 3) (lH h 1) ∧ vp_in (x4 + 4) (lH h 1) ∧ vp_in (x4 + 5) (lH h 1) ∧ kH h r1 = 19 ∧ ∃ z7 h6, VM G mX9_feed (d - 1) [.ref r1, .int (h.2 1 (x4 + 1).toNatClampNeg), .int (h.2 1 (x4 + 2).toNatClampNeg), .int (h.2 1 (x4 + 3).toNatClampNeg), .int (h.2 1 (x4 + 4).toNatClampNeg), .int (h.2 1 (x4 + 5).toNatClampNeg)] h (.inl (some (.int z7))) h6 ∧ vp_in (x4 + 1) (lH h6 1) ∧ vp_in (x4 + 2) (lH h6 1) ∧ vp_in (x4 + 3) (lH h6 1) ∧ vp_in (x4 + 4) (lH h6 1) ∧ vp_in (x4 + 5) (lH h6 1) ∧ kH h6 r2 = 18 ∧ ∃ z16 h15, VM G mX10_feed (d - 1) [.ref r2, .int (h6.2 1 (x4 + 1).toNatClampNeg), .int (h6.2 1 (x4 + 2).toNatClampNeg), .int (h6.2 1 (x4 + 3).toNatClampNeg), .int (h6.2 1 (x4 + 4).toNatClampNeg), .int (h6.2 1 (x4 + 5).toNatClampNeg)] h6 (.inl (some (.int z16))) h15 ∧ ((z7 = z16 → V G mL_law d 2031 [.ref 1, .ref r1, .ref r2, .ref r3, .int x4, uV, uV] [] h15 o h') ∧ (¬ z7 = z16 → (o = .inl (some (.int 0)) ∧ h' = h15)))) : V G mL_law d 204 [.ref 1, .ref r1, .ref r2, .ref r3, .int x4, uV, uV] [] h o h' := by
  have hdd : d - 1 + 1 ≤ d := by omega
  refine v_aload_n (pc' := 205) dL_law_204 rfl rfl ?_
  refine v_aload_n (pc' := 206) dL_law_205 rfl rfl ?_
  refine v_iload (pc' := 208) dL_law_206 rfl rfl ?_
  refine v_iconst (pc' := 209) (v := 1) dL_law_208 rfl kI_1 ?_
  refine v_iadd (pc' := 210) dL_law_209 rfl ?_
  obtain ⟨q1, T⟩ := T
  refine v_sald (pc' := 211) dL_law_210 rfl rfl q1 ?_
  refine v_aload_n (pc' := 212) dL_law_211 rfl rfl ?_
  refine v_iload (pc' := 214) dL_law_212 rfl rfl ?_
  refine v_iconst (pc' := 215) (v := 2) dL_law_214 rfl kI_2 ?_
  refine v_iadd (pc' := 216) dL_law_215 rfl ?_
  obtain ⟨q2, T⟩ := T
  refine v_sald (pc' := 217) dL_law_216 rfl rfl q2 ?_
  refine v_aload_n (pc' := 218) dL_law_217 rfl rfl ?_
  refine v_iload (pc' := 220) dL_law_218 rfl rfl ?_
  refine v_iconst (pc' := 221) (v := 3) dL_law_220 rfl kI_3 ?_
  refine v_iadd (pc' := 222) dL_law_221 rfl ?_
  obtain ⟨q3, T⟩ := T
  refine v_sald (pc' := 223) dL_law_222 rfl rfl q3 ?_
  refine v_aload_n (pc' := 224) dL_law_223 rfl rfl ?_
  refine v_iload (pc' := 226) dL_law_224 rfl rfl ?_
  refine v_iconst (pc' := 227) (v := 4) dL_law_226 rfl kI_4 ?_
  refine v_iadd (pc' := 228) dL_law_227 rfl ?_
  obtain ⟨q4, T⟩ := T
  refine v_sald (pc' := 229) dL_law_228 rfl rfl q4 ?_
  refine v_aload_n (pc' := 230) dL_law_229 rfl rfl ?_
  refine v_iload (pc' := 232) dL_law_230 rfl rfl ?_
  refine v_iconst (pc' := 233) (v := 5) dL_law_232 rfl kI_5 ?_
  refine v_iadd (pc' := 234) dL_law_233 rfl ?_
  obtain ⟨q5, T⟩ := T
  refine v_sald (pc' := 235) dL_law_234 rfl rfl q5 ?_
  obtain ⟨q9, T⟩ := T
  obtain ⟨z7, h6, k8, T⟩ := T
  refine v_callV (pc' := 238) (M1 := mX9_feed) (as := [.int (h.2 1 (x4 + 1).toNatClampNeg), .int (h.2 1 (x4 + 2).toNatClampNeg), .int (h.2 1 (x4 + 3).toNatClampNeg), .int (h.2 1 (x4 + 4).toNatClampNeg), .int (h.2 1 (x4 + 5).toNatClampNeg)]) (r := r1) (rest := []) 9 dL_law_235 rfl ko_L_98 kc_X9_feed ki_X9_feed ks_X9_feed (by decide) (by decide) hdd rfl rfl (le_l rfl) q9 k8 ?_
  refine v_aload_n (pc' := 239) dL_law_238 rfl rfl ?_
  refine v_aload_n (pc' := 240) dL_law_239 rfl rfl ?_
  refine v_iload (pc' := 242) dL_law_240 rfl rfl ?_
  refine v_iconst (pc' := 243) (v := 1) dL_law_242 rfl kI_1 ?_
  refine v_iadd (pc' := 244) dL_law_243 rfl ?_
  obtain ⟨q10, T⟩ := T
  refine v_sald (pc' := 245) dL_law_244 rfl rfl q10 ?_
  refine v_aload_n (pc' := 246) dL_law_245 rfl rfl ?_
  refine v_iload (pc' := 248) dL_law_246 rfl rfl ?_
  refine v_iconst (pc' := 249) (v := 2) dL_law_248 rfl kI_2 ?_
  refine v_iadd (pc' := 250) dL_law_249 rfl ?_
  obtain ⟨q11, T⟩ := T
  refine v_sald (pc' := 251) dL_law_250 rfl rfl q11 ?_
  refine v_aload_n (pc' := 252) dL_law_251 rfl rfl ?_
  refine v_iload (pc' := 254) dL_law_252 rfl rfl ?_
  refine v_iconst (pc' := 255) (v := 3) dL_law_254 rfl kI_3 ?_
  refine v_iadd (pc' := 256) dL_law_255 rfl ?_
  obtain ⟨q12, T⟩ := T
  refine v_sald (pc' := 257) dL_law_256 rfl rfl q12 ?_
  refine v_aload_n (pc' := 258) dL_law_257 rfl rfl ?_
  refine v_iload (pc' := 260) dL_law_258 rfl rfl ?_
  refine v_iconst (pc' := 261) (v := 4) dL_law_260 rfl kI_4 ?_
  refine v_iadd (pc' := 262) dL_law_261 rfl ?_
  obtain ⟨q13, T⟩ := T
  refine v_sald (pc' := 263) dL_law_262 rfl rfl q13 ?_
  refine v_aload_n (pc' := 264) dL_law_263 rfl rfl ?_
  refine v_iload (pc' := 266) dL_law_264 rfl rfl ?_
  refine v_iconst (pc' := 267) (v := 5) dL_law_266 rfl kI_5 ?_
  refine v_iadd (pc' := 268) dL_law_267 rfl ?_
  obtain ⟨q14, T⟩ := T
  refine v_sald (pc' := 269) dL_law_268 rfl rfl q14 ?_
  obtain ⟨q18, T⟩ := T
  obtain ⟨z16, h15, k17, T⟩ := T
  refine v_callV (pc' := 272) (M1 := mX10_feed) (as := [.int (h6.2 1 (x4 + 1).toNatClampNeg), .int (h6.2 1 (x4 + 2).toNatClampNeg), .int (h6.2 1 (x4 + 3).toNatClampNeg), .int (h6.2 1 (x4 + 4).toNatClampNeg), .int (h6.2 1 (x4 + 5).toNatClampNeg)]) (r := r2) (rest := [.int z7]) 8 dL_law_269 rfl ko_L_102 kc_X10_feed ki_X10_feed ks_X10_feed (by decide) (by decide) hdd rfl rfl (le_l rfl) q18 k17 ?_
  refine v_icmp_eq (tgt := 2031) (pc' := 275) dL_law_272 (by decide) rfl ⟨fun c19 => ?_, fun c19 => ?_⟩
  · have T := T.1 c19
    exact T
  · have T := T.2 c19
    refine v_iconst (pc' := 276) (v := 0) dL_law_275 rfl kI_0 ?_
    exact v_zret dL_law_276 rfl (Or.inl rfl) T
theorem bL_law_277 {G : GG} {d : Nat} {h : Hp} {o : OU} {h' : Hp} (r1 : Nat) (r2 : Nat) (r3 : Nat) (x4 : Int32) (hd : 1 ≤ d) (T : vp_in (x4 + 1) (lH h 1) ∧ ∃ z3 h2, VMW G mL_store (d - 1) [.ref r1, .int (h.2 1 (x4 + 1).toNatClampNeg), .ref r3] h (.inl (some (.int z3))) h2 ∧ vp_in (x4 + 1) (lH h2 1) ∧ kH h2 r2 = 18 ∧ ∃ z7 h6, VM G mX10_store (d - 1) [.ref r2, .int (h2.2 1 (x4 + 1).toNatClampNeg)] h2 (.inl (some (.int z7))) h6 ∧ kH h6 r2 = 18 ∧ ∃ z11 h10, VM G mX10_thrown (d - 1) [.ref r2] h6 (.inl (some (.int z11))) h10 ∧ ((z11 = z3 → ((¬ z3 = 0 → V G mL_law d 330 [.ref 1, .ref r1, .ref r2, .ref r3, .int x4, uV, uV] [] h10 o h') ∧ (z3 = 0 → kH h10 r3 = 4 ∧ vp_in 0 (lH h10 r3) ∧ (((lg_cmp ((h10.2 r3 0).toInt64) z7.toInt64) = 0 → V G mL_law d 330 [.ref 1, .ref r1, .ref r2, .ref r3, .int x4, uV, uV] [] h10 o h') ∧ (¬ (lg_cmp ((h10.2 r3 0).toInt64) z7.toInt64) = 0 → (o = .inl (some (.int 0)) ∧ h' = h10)))))) ∧ (¬ z11 = z3 → (o = .inl (some (.int 0)) ∧ h' = h10)))) : V G mL_law d 277 [.ref 1, .ref r1, .ref r2, .ref r3, .int x4, uV, uV] [] h o h' := by
  have hdd : d - 1 + 1 ≤ d := by omega
  refine v_aload_n (pc' := 278) dL_law_277 rfl rfl ?_
  refine v_aload_n (pc' := 279) dL_law_278 rfl rfl ?_
  refine v_iload (pc' := 281) dL_law_279 rfl rfl ?_
  refine v_iconst (pc' := 282) (v := 1) dL_law_281 rfl kI_1 ?_
  refine v_iadd (pc' := 283) dL_law_282 rfl ?_
  obtain ⟨q1, T⟩ := T
  refine v_sald (pc' := 284) dL_law_283 rfl rfl q1 ?_
  refine v_aload_n (pc' := 285) dL_law_284 rfl rfl ?_
  obtain ⟨z3, h2, k4, T⟩ := T
  refine v_callSW (pc' := 288) (M1 := mL_store) (as := [.ref r1, .int (h.2 1 (x4 + 1).toNatClampNeg), .ref r3]) (rest := []) dL_law_285 rfl ko_L_103 kc_L_store kt_L_store (by decide) hdd rfl rfl (le_l rfl) k4 ?_
  refine v_istore (pc' := 290) (loc' := [.ref 1, .ref r1, .ref r2, .ref r3, .int x4, .int z3, uV]) dL_law_288 rfl (lt_l rfl) rfl ?_
  refine v_aload_n (pc' := 291) dL_law_290 rfl rfl ?_
  refine v_aload_n (pc' := 292) dL_law_291 rfl rfl ?_
  refine v_iload (pc' := 294) dL_law_292 rfl rfl ?_
  refine v_iconst (pc' := 295) (v := 1) dL_law_294 rfl kI_1 ?_
  refine v_iadd (pc' := 296) dL_law_295 rfl ?_
  obtain ⟨q5, T⟩ := T
  refine v_sald (pc' := 297) dL_law_296 rfl rfl q5 ?_
  obtain ⟨q9, T⟩ := T
  obtain ⟨z7, h6, k8, T⟩ := T
  refine v_callV (pc' := 300) (M1 := mX10_store) (as := [.int (h2.2 1 (x4 + 1).toNatClampNeg)]) (r := r2) (rest := []) 8 dL_law_297 rfl ko_L_108 kc_X10_store ki_X10_store ks_X10_store (by decide) (by decide) hdd rfl rfl (le_l rfl) q9 k8 ?_
  refine v_istore (pc' := 302) (loc' := [.ref 1, .ref r1, .ref r2, .ref r3, .int x4, .int z3, .int z7]) dL_law_300 rfl (lt_l rfl) rfl ?_
  refine v_aload_n (pc' := 303) dL_law_302 rfl rfl ?_
  obtain ⟨q13, T⟩ := T
  obtain ⟨z11, h10, k12, T⟩ := T
  refine v_callV (pc' := 306) (M1 := mX10_thrown) (as := []) (r := r2) (rest := []) 8 dL_law_303 rfl ko_L_109 kc_X10_thrown ki_X10_thrown ks_X10_thrown (by decide) (by decide) hdd rfl rfl (le_l rfl) q13 k12 ?_
  refine v_iload (pc' := 308) dL_law_306 rfl rfl ?_
  refine v_icmp_eq (tgt := 313) (pc' := 311) dL_law_308 (by decide) rfl ⟨fun c14 => ?_, fun c14 => ?_⟩
  · have T := T.1 c14
    refine v_iload (pc' := 315) dL_law_313 rfl rfl ?_
    refine v_if_ne (tgt := 330) (pc' := 318) dL_law_315 (by decide) rfl ⟨fun c15 => ?_, fun c15 => ?_⟩
    · have T := T.1 c15
      exact V.drop (llp_r (llp_r (llp_r (llp_r (llp_r (llp_u (llp_u llp_nil))))))) T
    · have T := T.2 c15
      refine v_aload_n (pc' := 319) dL_law_318 rfl rfl ?_
      refine v_iconst (pc' := 320) (v := 0) dL_law_319 rfl kI_0 ?_
      obtain ⟨q16, T⟩ := T
      obtain ⟨q17, T⟩ := T
      refine v_lald (pc' := 321) dL_law_320 rfl kN_0 q16 q17 ?_
      refine v_iload (pc' := 323) dL_law_321 rfl rfl ?_
      refine v_i2l (pc' := 324) dL_law_323 rfl ?_
      refine v_lcmp (pc' := 325) dL_law_324 rfl ?_
      refine v_if_eq (tgt := 330) (pc' := 328) dL_law_325 (by decide) rfl ⟨fun c18 => ?_, fun c18 => ?_⟩
      · have T := T.1 c18
        exact V.drop (llp_r (llp_r (llp_r (llp_r (llp_r (llp_u (llp_u llp_nil))))))) T
      · have T := T.2 c18
        refine v_iconst (pc' := 329) (v := 0) dL_law_328 rfl kI_0 ?_
        exact v_zret dL_law_329 rfl (Or.inl rfl) T
  · have T := T.2 c14
    refine v_iconst (pc' := 312) (v := 0) dL_law_311 rfl kI_0 ?_
    exact v_zret dL_law_312 rfl (Or.inl rfl) T
theorem bL_law_330 {G : GG} {d : Nat} {h : Hp} {o : OU} {h' : Hp} (r1 : Nat) (r2 : Nat) (r3 : Nat) (x4 : Int32) (T : V G mL_law d 2031 [.ref 1, .ref r1, .ref r2, .ref r3, .int x4, uV, uV] [] h o h') : V G mL_law d 330 [.ref 1, .ref r1, .ref r2, .ref r3, .int x4, uV, uV] [] h o h' := by
  refine v_goto (pc' := 2031) dL_law_330 (by decide) ?_
  exact T
theorem bL_law_333 {G : GG} {d : Nat} {h : Hp} {o : OU} {h' : Hp} (r1 : Nat) (r2 : Nat) (r3 : Nat) (x4 : Int32) (hd : 1 ≤ d) (T : vp_in (x4 + 1) (lH h 1) ∧ ∃ z3 h2, VMW G mL_work (d - 1) [.ref r1, .int (h.2 1 (x4 + 1).toNatClampNeg), .ref r3] h (.inl (some (.int z3))) h2 ∧ vp_in (x4 + 1) (lH h2 1) ∧ kH h2 r2 = 18 ∧ ∃ z7 h6, VM G mX10_work (d - 1) [.ref r2, .int (h2.2 1 (x4 + 1).toNatClampNeg)] h2 (.inl (some (.int z7))) h6 ∧ kH h6 r2 = 18 ∧ ∃ z11 h10, VM G mX10_thrown (d - 1) [.ref r2] h6 (.inl (some (.int z11))) h10 ∧ ((z11 = z3 → ((¬ z3 = 0 → V G mL_law d 386 [.ref 1, .ref r1, .ref r2, .ref r3, .int x4, uV, uV] [] h10 o h') ∧ (z3 = 0 → kH h10 r3 = 4 ∧ vp_in 0 (lH h10 r3) ∧ (((lg_cmp ((h10.2 r3 0).toInt64) z7.toInt64) = 0 → V G mL_law d 386 [.ref 1, .ref r1, .ref r2, .ref r3, .int x4, uV, uV] [] h10 o h') ∧ (¬ (lg_cmp ((h10.2 r3 0).toInt64) z7.toInt64) = 0 → (o = .inl (some (.int 0)) ∧ h' = h10)))))) ∧ (¬ z11 = z3 → (o = .inl (some (.int 0)) ∧ h' = h10)))) : V G mL_law d 333 [.ref 1, .ref r1, .ref r2, .ref r3, .int x4, uV, uV] [] h o h' := by
  have hdd : d - 1 + 1 ≤ d := by omega
  refine v_aload_n (pc' := 334) dL_law_333 rfl rfl ?_
  refine v_aload_n (pc' := 335) dL_law_334 rfl rfl ?_
  refine v_iload (pc' := 337) dL_law_335 rfl rfl ?_
  refine v_iconst (pc' := 338) (v := 1) dL_law_337 rfl kI_1 ?_
  refine v_iadd (pc' := 339) dL_law_338 rfl ?_
  obtain ⟨q1, T⟩ := T
  refine v_sald (pc' := 340) dL_law_339 rfl rfl q1 ?_
  refine v_aload_n (pc' := 341) dL_law_340 rfl rfl ?_
  obtain ⟨z3, h2, k4, T⟩ := T
  refine v_callSW (pc' := 344) (M1 := mL_work) (as := [.ref r1, .int (h.2 1 (x4 + 1).toNatClampNeg), .ref r3]) (rest := []) dL_law_341 rfl ko_L_113 kc_L_work kt_L_work (by decide) hdd rfl rfl (le_l rfl) k4 ?_
  refine v_istore (pc' := 346) (loc' := [.ref 1, .ref r1, .ref r2, .ref r3, .int x4, .int z3, uV]) dL_law_344 rfl (lt_l rfl) rfl ?_
  refine v_aload_n (pc' := 347) dL_law_346 rfl rfl ?_
  refine v_aload_n (pc' := 348) dL_law_347 rfl rfl ?_
  refine v_iload (pc' := 350) dL_law_348 rfl rfl ?_
  refine v_iconst (pc' := 351) (v := 1) dL_law_350 rfl kI_1 ?_
  refine v_iadd (pc' := 352) dL_law_351 rfl ?_
  obtain ⟨q5, T⟩ := T
  refine v_sald (pc' := 353) dL_law_352 rfl rfl q5 ?_
  obtain ⟨q9, T⟩ := T
  obtain ⟨z7, h6, k8, T⟩ := T
  refine v_callV (pc' := 356) (M1 := mX10_work) (as := [.int (h2.2 1 (x4 + 1).toNatClampNeg)]) (r := r2) (rest := []) 8 dL_law_353 rfl ko_L_115 kc_X10_work ki_X10_work ks_X10_work (by decide) (by decide) hdd rfl rfl (le_l rfl) q9 k8 ?_
  refine v_istore (pc' := 358) (loc' := [.ref 1, .ref r1, .ref r2, .ref r3, .int x4, .int z3, .int z7]) dL_law_356 rfl (lt_l rfl) rfl ?_
  refine v_aload_n (pc' := 359) dL_law_358 rfl rfl ?_
  obtain ⟨q13, T⟩ := T
  obtain ⟨z11, h10, k12, T⟩ := T
  refine v_callV (pc' := 362) (M1 := mX10_thrown) (as := []) (r := r2) (rest := []) 8 dL_law_359 rfl ko_L_109 kc_X10_thrown ki_X10_thrown ks_X10_thrown (by decide) (by decide) hdd rfl rfl (le_l rfl) q13 k12 ?_
  refine v_iload (pc' := 364) dL_law_362 rfl rfl ?_
  refine v_icmp_eq (tgt := 369) (pc' := 367) dL_law_364 (by decide) rfl ⟨fun c14 => ?_, fun c14 => ?_⟩
  · have T := T.1 c14
    refine v_iload (pc' := 371) dL_law_369 rfl rfl ?_
    refine v_if_ne (tgt := 386) (pc' := 374) dL_law_371 (by decide) rfl ⟨fun c15 => ?_, fun c15 => ?_⟩
    · have T := T.1 c15
      exact V.drop (llp_r (llp_r (llp_r (llp_r (llp_r (llp_u (llp_u llp_nil))))))) T
    · have T := T.2 c15
      refine v_aload_n (pc' := 375) dL_law_374 rfl rfl ?_
      refine v_iconst (pc' := 376) (v := 0) dL_law_375 rfl kI_0 ?_
      obtain ⟨q16, T⟩ := T
      obtain ⟨q17, T⟩ := T
      refine v_lald (pc' := 377) dL_law_376 rfl kN_0 q16 q17 ?_
      refine v_iload (pc' := 379) dL_law_377 rfl rfl ?_
      refine v_i2l (pc' := 380) dL_law_379 rfl ?_
      refine v_lcmp (pc' := 381) dL_law_380 rfl ?_
      refine v_if_eq (tgt := 386) (pc' := 384) dL_law_381 (by decide) rfl ⟨fun c18 => ?_, fun c18 => ?_⟩
      · have T := T.1 c18
        exact V.drop (llp_r (llp_r (llp_r (llp_r (llp_r (llp_u (llp_u llp_nil))))))) T
      · have T := T.2 c18
        refine v_iconst (pc' := 385) (v := 0) dL_law_384 rfl kI_0 ?_
        exact v_zret dL_law_385 rfl (Or.inl rfl) T
  · have T := T.2 c14
    refine v_iconst (pc' := 368) (v := 0) dL_law_367 rfl kI_0 ?_
    exact v_zret dL_law_368 rfl (Or.inl rfl) T
theorem bL_law_386 {G : GG} {d : Nat} {h : Hp} {o : OU} {h' : Hp} (r1 : Nat) (r2 : Nat) (r3 : Nat) (x4 : Int32) (T : V G mL_law d 2031 [.ref 1, .ref r1, .ref r2, .ref r3, .int x4, uV, uV] [] h o h') : V G mL_law d 386 [.ref 1, .ref r1, .ref r2, .ref r3, .int x4, uV, uV] [] h o h' := by
  refine v_goto (pc' := 2031) dL_law_386 (by decide) ?_
  exact T
theorem bL_law_389 {G : GG} {d : Nat} {h : Hp} {o : OU} {h' : Hp} (r1 : Nat) (r2 : Nat) (r3 : Nat) (x4 : Int32) (hd : 1 ≤ d) (T : vp_in (x4 + 1) (lH h 1) ∧ ∃ z3 h2, VMW G mL_book (d - 1) [.ref r1, .int (h.2 1 (x4 + 1).toNatClampNeg), .ref r3] h (.inl (some (.int z3))) h2 ∧ vp_in (x4 + 1) (lH h2 1) ∧ kH h2 r2 = 18 ∧ ∃ z7 h6, VM G mX10_book (d - 1) [.ref r2, .int (h2.2 1 (x4 + 1).toNatClampNeg)] h2 (.inl (some (.int z7))) h6 ∧ kH h6 r2 = 18 ∧ ∃ z11 h10, VM G mX10_thrown (d - 1) [.ref r2] h6 (.inl (some (.int z11))) h10 ∧ ((z11 = z3 → ((¬ z3 = 0 → V G mL_law d 442 [.ref 1, .ref r1, .ref r2, .ref r3, .int x4, uV, uV] [] h10 o h') ∧ (z3 = 0 → kH h10 r3 = 4 ∧ vp_in 0 (lH h10 r3) ∧ (((lg_cmp ((h10.2 r3 0).toInt64) z7.toInt64) = 0 → V G mL_law d 442 [.ref 1, .ref r1, .ref r2, .ref r3, .int x4, uV, uV] [] h10 o h') ∧ (¬ (lg_cmp ((h10.2 r3 0).toInt64) z7.toInt64) = 0 → (o = .inl (some (.int 0)) ∧ h' = h10)))))) ∧ (¬ z11 = z3 → (o = .inl (some (.int 0)) ∧ h' = h10)))) : V G mL_law d 389 [.ref 1, .ref r1, .ref r2, .ref r3, .int x4, uV, uV] [] h o h' := by
  have hdd : d - 1 + 1 ≤ d := by omega
  refine v_aload_n (pc' := 390) dL_law_389 rfl rfl ?_
  refine v_aload_n (pc' := 391) dL_law_390 rfl rfl ?_
  refine v_iload (pc' := 393) dL_law_391 rfl rfl ?_
  refine v_iconst (pc' := 394) (v := 1) dL_law_393 rfl kI_1 ?_
  refine v_iadd (pc' := 395) dL_law_394 rfl ?_
  obtain ⟨q1, T⟩ := T
  refine v_sald (pc' := 396) dL_law_395 rfl rfl q1 ?_
  refine v_aload_n (pc' := 397) dL_law_396 rfl rfl ?_
  obtain ⟨z3, h2, k4, T⟩ := T
  refine v_callSW (pc' := 400) (M1 := mL_book) (as := [.ref r1, .int (h.2 1 (x4 + 1).toNatClampNeg), .ref r3]) (rest := []) dL_law_397 rfl ko_L_116 kc_L_book kt_L_book (by decide) hdd rfl rfl (le_l rfl) k4 ?_
  refine v_istore (pc' := 402) (loc' := [.ref 1, .ref r1, .ref r2, .ref r3, .int x4, .int z3, uV]) dL_law_400 rfl (lt_l rfl) rfl ?_
  refine v_aload_n (pc' := 403) dL_law_402 rfl rfl ?_
  refine v_aload_n (pc' := 404) dL_law_403 rfl rfl ?_
  refine v_iload (pc' := 406) dL_law_404 rfl rfl ?_
  refine v_iconst (pc' := 407) (v := 1) dL_law_406 rfl kI_1 ?_
  refine v_iadd (pc' := 408) dL_law_407 rfl ?_
  obtain ⟨q5, T⟩ := T
  refine v_sald (pc' := 409) dL_law_408 rfl rfl q5 ?_
  obtain ⟨q9, T⟩ := T
  obtain ⟨z7, h6, k8, T⟩ := T
  refine v_callV (pc' := 412) (M1 := mX10_book) (as := [.int (h2.2 1 (x4 + 1).toNatClampNeg)]) (r := r2) (rest := []) 8 dL_law_409 rfl ko_L_118 kc_X10_book ki_X10_book ks_X10_book (by decide) (by decide) hdd rfl rfl (le_l rfl) q9 k8 ?_
  refine v_istore (pc' := 414) (loc' := [.ref 1, .ref r1, .ref r2, .ref r3, .int x4, .int z3, .int z7]) dL_law_412 rfl (lt_l rfl) rfl ?_
  refine v_aload_n (pc' := 415) dL_law_414 rfl rfl ?_
  obtain ⟨q13, T⟩ := T
  obtain ⟨z11, h10, k12, T⟩ := T
  refine v_callV (pc' := 418) (M1 := mX10_thrown) (as := []) (r := r2) (rest := []) 8 dL_law_415 rfl ko_L_109 kc_X10_thrown ki_X10_thrown ks_X10_thrown (by decide) (by decide) hdd rfl rfl (le_l rfl) q13 k12 ?_
  refine v_iload (pc' := 420) dL_law_418 rfl rfl ?_
  refine v_icmp_eq (tgt := 425) (pc' := 423) dL_law_420 (by decide) rfl ⟨fun c14 => ?_, fun c14 => ?_⟩
  · have T := T.1 c14
    refine v_iload (pc' := 427) dL_law_425 rfl rfl ?_
    refine v_if_ne (tgt := 442) (pc' := 430) dL_law_427 (by decide) rfl ⟨fun c15 => ?_, fun c15 => ?_⟩
    · have T := T.1 c15
      exact V.drop (llp_r (llp_r (llp_r (llp_r (llp_r (llp_u (llp_u llp_nil))))))) T
    · have T := T.2 c15
      refine v_aload_n (pc' := 431) dL_law_430 rfl rfl ?_
      refine v_iconst (pc' := 432) (v := 0) dL_law_431 rfl kI_0 ?_
      obtain ⟨q16, T⟩ := T
      obtain ⟨q17, T⟩ := T
      refine v_lald (pc' := 433) dL_law_432 rfl kN_0 q16 q17 ?_
      refine v_iload (pc' := 435) dL_law_433 rfl rfl ?_
      refine v_i2l (pc' := 436) dL_law_435 rfl ?_
      refine v_lcmp (pc' := 437) dL_law_436 rfl ?_
      refine v_if_eq (tgt := 442) (pc' := 440) dL_law_437 (by decide) rfl ⟨fun c18 => ?_, fun c18 => ?_⟩
      · have T := T.1 c18
        exact V.drop (llp_r (llp_r (llp_r (llp_r (llp_r (llp_u (llp_u llp_nil))))))) T
      · have T := T.2 c18
        refine v_iconst (pc' := 441) (v := 0) dL_law_440 rfl kI_0 ?_
        exact v_zret dL_law_441 rfl (Or.inl rfl) T
  · have T := T.2 c14
    refine v_iconst (pc' := 424) (v := 0) dL_law_423 rfl kI_0 ?_
    exact v_zret dL_law_424 rfl (Or.inl rfl) T
theorem bL_law_442 {G : GG} {d : Nat} {h : Hp} {o : OU} {h' : Hp} (r1 : Nat) (r2 : Nat) (r3 : Nat) (x4 : Int32) (T : V G mL_law d 2031 [.ref 1, .ref r1, .ref r2, .ref r3, .int x4, uV, uV] [] h o h') : V G mL_law d 442 [.ref 1, .ref r1, .ref r2, .ref r3, .int x4, uV, uV] [] h o h' := by
  refine v_goto (pc' := 2031) dL_law_442 (by decide) ?_
  exact T
theorem bL_law_445 {G : GG} {d : Nat} {h : Hp} {o : OU} {h' : Hp} (r1 : Nat) (r2 : Nat) (r3 : Nat) (x4 : Int32) (hd : 1 ≤ d) (T : kH h r1 = 19 ∧ ∃ z2 h1, VM G mX9_fault (d - 1) [.ref r1] h (.inl (some (.int z2))) h1 ∧ kH h1 r2 = 18 ∧ ∃ z6 h5, VM G mX10_fault (d - 1) [.ref r2] h1 (.inl (some (.int z6))) h5 ∧ ((z2 = z6 → V G mL_law d 2031 [.ref 1, .ref r1, .ref r2, .ref r3, .int x4, uV, uV] [] h5 o h') ∧ (¬ z2 = z6 → (o = .inl (some (.int 0)) ∧ h' = h5)))) : V G mL_law d 445 [.ref 1, .ref r1, .ref r2, .ref r3, .int x4, uV, uV] [] h o h' := by
  have hdd : d - 1 + 1 ≤ d := by omega
  refine v_aload_n (pc' := 446) dL_law_445 rfl rfl ?_
  obtain ⟨q4, T⟩ := T
  obtain ⟨z2, h1, k3, T⟩ := T
  refine v_callV (pc' := 449) (M1 := mX9_fault) (as := []) (r := r1) (rest := []) 9 dL_law_446 rfl ko_L_119 kc_X9_fault ki_X9_fault ks_X9_fault (by decide) (by decide) hdd rfl rfl (le_l rfl) q4 k3 ?_
  refine v_aload_n (pc' := 450) dL_law_449 rfl rfl ?_
  obtain ⟨q8, T⟩ := T
  obtain ⟨z6, h5, k7, T⟩ := T
  refine v_callV (pc' := 453) (M1 := mX10_fault) (as := []) (r := r2) (rest := [.int z2]) 8 dL_law_450 rfl ko_L_122 kc_X10_fault ki_X10_fault ks_X10_fault (by decide) (by decide) hdd rfl rfl (le_l rfl) q8 k7 ?_
  refine v_icmp_eq (tgt := 2031) (pc' := 456) dL_law_453 (by decide) rfl ⟨fun c9 => ?_, fun c9 => ?_⟩
  · have T := T.1 c9
    exact T
  · have T := T.2 c9
    refine v_iconst (pc' := 457) (v := 0) dL_law_456 rfl kI_0 ?_
    exact v_zret dL_law_457 rfl (Or.inl rfl) T
theorem bL_law_458 {G : GG} {d : Nat} {h : Hp} {o : OU} {h' : Hp} (r1 : Nat) (r2 : Nat) (r3 : Nat) (x4 : Int32) (hd : 1 ≤ d) (T : kH h r1 = 19 ∧ ∃ z2 h1, VM G mX9_undo (d - 1) [.ref r1] h (.inl (some (.int z2))) h1 ∧ kH h1 r2 = 18 ∧ ∃ z6 h5, VM G mX10_undo (d - 1) [.ref r2] h1 (.inl (some (.int z6))) h5 ∧ ((z2 = z6 → V G mL_law d 2031 [.ref 1, .ref r1, .ref r2, .ref r3, .int x4, uV, uV] [] h5 o h') ∧ (¬ z2 = z6 → (o = .inl (some (.int 0)) ∧ h' = h5)))) : V G mL_law d 458 [.ref 1, .ref r1, .ref r2, .ref r3, .int x4, uV, uV] [] h o h' := by
  have hdd : d - 1 + 1 ≤ d := by omega
  refine v_aload_n (pc' := 459) dL_law_458 rfl rfl ?_
  obtain ⟨q4, T⟩ := T
  obtain ⟨z2, h1, k3, T⟩ := T
  refine v_callV (pc' := 462) (M1 := mX9_undo) (as := []) (r := r1) (rest := []) 9 dL_law_459 rfl ko_L_123 kc_X9_undo ki_X9_undo ks_X9_undo (by decide) (by decide) hdd rfl rfl (le_l rfl) q4 k3 ?_
  refine v_aload_n (pc' := 463) dL_law_462 rfl rfl ?_
  obtain ⟨q8, T⟩ := T
  obtain ⟨z6, h5, k7, T⟩ := T
  refine v_callV (pc' := 466) (M1 := mX10_undo) (as := []) (r := r2) (rest := [.int z2]) 8 dL_law_463 rfl ko_L_126 kc_X10_undo ki_X10_undo ks_X10_undo (by decide) (by decide) hdd rfl rfl (le_l rfl) q8 k7 ?_
  refine v_icmp_eq (tgt := 2031) (pc' := 469) dL_law_466 (by decide) rfl ⟨fun c9 => ?_, fun c9 => ?_⟩
  · have T := T.1 c9
    exact T
  · have T := T.2 c9
    refine v_iconst (pc' := 470) (v := 0) dL_law_469 rfl kI_0 ?_
    exact v_zret dL_law_470 rfl (Or.inl rfl) T
theorem bL_law_471 {G : GG} {d : Nat} {h : Hp} {o : OU} {h' : Hp} (r1 : Nat) (r2 : Nat) (r3 : Nat) (x4 : Int32) (hd : 1 ≤ d) (T : vp_in (x4 + 1) (lH h 1) ∧ ∃ z3 h2, VMW G mL_told (d - 1) [.ref r1, .int (h.2 1 (x4 + 1).toNatClampNeg), .ref r3] h (.inl (some (.int z3))) h2 ∧ vp_in (x4 + 1) (lH h2 1) ∧ kH h2 r2 = 18 ∧ ∃ z7 h6, VM G mX10_told (d - 1) [.ref r2, .int (h2.2 1 (x4 + 1).toNatClampNeg)] h2 (.inl (some (.int z7))) h6 ∧ kH h6 r2 = 18 ∧ ∃ z11 h10, VM G mX10_thrown (d - 1) [.ref r2] h6 (.inl (some (.int z11))) h10 ∧ ((z11 = z3 → ((¬ z3 = 0 → V G mL_law d 524 [.ref 1, .ref r1, .ref r2, .ref r3, .int x4, uV, uV] [] h10 o h') ∧ (z3 = 0 → kH h10 r3 = 4 ∧ vp_in 0 (lH h10 r3) ∧ (((lg_cmp ((h10.2 r3 0).toInt64) z7.toInt64) = 0 → V G mL_law d 524 [.ref 1, .ref r1, .ref r2, .ref r3, .int x4, uV, uV] [] h10 o h') ∧ (¬ (lg_cmp ((h10.2 r3 0).toInt64) z7.toInt64) = 0 → (o = .inl (some (.int 0)) ∧ h' = h10)))))) ∧ (¬ z11 = z3 → (o = .inl (some (.int 0)) ∧ h' = h10)))) : V G mL_law d 471 [.ref 1, .ref r1, .ref r2, .ref r3, .int x4, uV, uV] [] h o h' := by
  have hdd : d - 1 + 1 ≤ d := by omega
  refine v_aload_n (pc' := 472) dL_law_471 rfl rfl ?_
  refine v_aload_n (pc' := 473) dL_law_472 rfl rfl ?_
  refine v_iload (pc' := 475) dL_law_473 rfl rfl ?_
  refine v_iconst (pc' := 476) (v := 1) dL_law_475 rfl kI_1 ?_
  refine v_iadd (pc' := 477) dL_law_476 rfl ?_
  obtain ⟨q1, T⟩ := T
  refine v_sald (pc' := 478) dL_law_477 rfl rfl q1 ?_
  refine v_aload_n (pc' := 479) dL_law_478 rfl rfl ?_
  obtain ⟨z3, h2, k4, T⟩ := T
  refine v_callSW (pc' := 482) (M1 := mL_told) (as := [.ref r1, .int (h.2 1 (x4 + 1).toNatClampNeg), .ref r3]) (rest := []) dL_law_479 rfl ko_L_127 kc_L_told kt_L_told (by decide) hdd rfl rfl (le_l rfl) k4 ?_
  refine v_istore (pc' := 484) (loc' := [.ref 1, .ref r1, .ref r2, .ref r3, .int x4, .int z3, uV]) dL_law_482 rfl (lt_l rfl) rfl ?_
  refine v_aload_n (pc' := 485) dL_law_484 rfl rfl ?_
  refine v_aload_n (pc' := 486) dL_law_485 rfl rfl ?_
  refine v_iload (pc' := 488) dL_law_486 rfl rfl ?_
  refine v_iconst (pc' := 489) (v := 1) dL_law_488 rfl kI_1 ?_
  refine v_iadd (pc' := 490) dL_law_489 rfl ?_
  obtain ⟨q5, T⟩ := T
  refine v_sald (pc' := 491) dL_law_490 rfl rfl q5 ?_
  obtain ⟨q9, T⟩ := T
  obtain ⟨z7, h6, k8, T⟩ := T
  refine v_callV (pc' := 494) (M1 := mX10_told) (as := [.int (h2.2 1 (x4 + 1).toNatClampNeg)]) (r := r2) (rest := []) 8 dL_law_491 rfl ko_L_129 kc_X10_told ki_X10_told ks_X10_told (by decide) (by decide) hdd rfl rfl (le_l rfl) q9 k8 ?_
  refine v_istore (pc' := 496) (loc' := [.ref 1, .ref r1, .ref r2, .ref r3, .int x4, .int z3, .int z7]) dL_law_494 rfl (lt_l rfl) rfl ?_
  refine v_aload_n (pc' := 497) dL_law_496 rfl rfl ?_
  obtain ⟨q13, T⟩ := T
  obtain ⟨z11, h10, k12, T⟩ := T
  refine v_callV (pc' := 500) (M1 := mX10_thrown) (as := []) (r := r2) (rest := []) 8 dL_law_497 rfl ko_L_109 kc_X10_thrown ki_X10_thrown ks_X10_thrown (by decide) (by decide) hdd rfl rfl (le_l rfl) q13 k12 ?_
  refine v_iload (pc' := 502) dL_law_500 rfl rfl ?_
  refine v_icmp_eq (tgt := 507) (pc' := 505) dL_law_502 (by decide) rfl ⟨fun c14 => ?_, fun c14 => ?_⟩
  · have T := T.1 c14
    refine v_iload (pc' := 509) dL_law_507 rfl rfl ?_
    refine v_if_ne (tgt := 524) (pc' := 512) dL_law_509 (by decide) rfl ⟨fun c15 => ?_, fun c15 => ?_⟩
    · have T := T.1 c15
      exact V.drop (llp_r (llp_r (llp_r (llp_r (llp_r (llp_u (llp_u llp_nil))))))) T
    · have T := T.2 c15
      refine v_aload_n (pc' := 513) dL_law_512 rfl rfl ?_
      refine v_iconst (pc' := 514) (v := 0) dL_law_513 rfl kI_0 ?_
      obtain ⟨q16, T⟩ := T
      obtain ⟨q17, T⟩ := T
      refine v_lald (pc' := 515) dL_law_514 rfl kN_0 q16 q17 ?_
      refine v_iload (pc' := 517) dL_law_515 rfl rfl ?_
      refine v_i2l (pc' := 518) dL_law_517 rfl ?_
      refine v_lcmp (pc' := 519) dL_law_518 rfl ?_
      refine v_if_eq (tgt := 524) (pc' := 522) dL_law_519 (by decide) rfl ⟨fun c18 => ?_, fun c18 => ?_⟩
      · have T := T.1 c18
        exact V.drop (llp_r (llp_r (llp_r (llp_r (llp_r (llp_u (llp_u llp_nil))))))) T
      · have T := T.2 c18
        refine v_iconst (pc' := 523) (v := 0) dL_law_522 rfl kI_0 ?_
        exact v_zret dL_law_523 rfl (Or.inl rfl) T
  · have T := T.2 c14
    refine v_iconst (pc' := 506) (v := 0) dL_law_505 rfl kI_0 ?_
    exact v_zret dL_law_506 rfl (Or.inl rfl) T
theorem bL_law_524 {G : GG} {d : Nat} {h : Hp} {o : OU} {h' : Hp} (r1 : Nat) (r2 : Nat) (r3 : Nat) (x4 : Int32) (T : V G mL_law d 2031 [.ref 1, .ref r1, .ref r2, .ref r3, .int x4, uV, uV] [] h o h') : V G mL_law d 524 [.ref 1, .ref r1, .ref r2, .ref r3, .int x4, uV, uV] [] h o h' := by
  refine v_goto (pc' := 2031) dL_law_524 (by decide) ?_
  exact T
theorem bL_law_527 {G : GG} {d : Nat} {h : Hp} {o : OU} {h' : Hp} (r1 : Nat) (r2 : Nat) (r3 : Nat) (x4 : Int32) (hd : 1 ≤ d) (T : vp_in (x4 + 1) (lH h 1) ∧ vp_in (x4 + 2) (lH h 1) ∧ vp_in (x4 + 3) (lH h 1) ∧ ∃ z5 h4, VMW G mL_peek (d - 1) [.ref r1, .int (h.2 1 (x4 + 1).toNatClampNeg), .int (h.2 1 (x4 + 2).toNatClampNeg), .int (h.2 1 (x4 + 3).toNatClampNeg), .ref r3] h (.inl (some (.int z5))) h4 ∧ vp_in (x4 + 1) (lH h4 1) ∧ vp_in (x4 + 2) (lH h4 1) ∧ vp_in (x4 + 3) (lH h4 1) ∧ kH h4 r2 = 18 ∧ ∃ z11 h10, VM G mX10_peek (d - 1) [.ref r2, .int (h4.2 1 (x4 + 1).toNatClampNeg), .int (h4.2 1 (x4 + 2).toNatClampNeg), .int (h4.2 1 (x4 + 3).toNatClampNeg)] h4 (.inl (some (.int z11))) h10 ∧ kH h10 r2 = 18 ∧ ∃ z15 h14, VM G mX10_thrown (d - 1) [.ref r2] h10 (.inl (some (.int z15))) h14 ∧ ((z15 = z5 → ((¬ z5 = 0 → V G mL_law d 604 [.ref 1, .ref r1, .ref r2, .ref r3, .int x4, uV, uV] [] h14 o h') ∧ (z5 = 0 → kH h14 r3 = 4 ∧ vp_in 0 (lH h14 r3) ∧ (((lg_cmp ((h14.2 r3 0).toInt64) z11.toInt64) = 0 → V G mL_law d 604 [.ref 1, .ref r1, .ref r2, .ref r3, .int x4, uV, uV] [] h14 o h') ∧ (¬ (lg_cmp ((h14.2 r3 0).toInt64) z11.toInt64) = 0 → (o = .inl (some (.int 0)) ∧ h' = h14)))))) ∧ (¬ z15 = z5 → (o = .inl (some (.int 0)) ∧ h' = h14)))) : V G mL_law d 527 [.ref 1, .ref r1, .ref r2, .ref r3, .int x4, uV, uV] [] h o h' := by
  have hdd : d - 1 + 1 ≤ d := by omega
  refine v_aload_n (pc' := 528) dL_law_527 rfl rfl ?_
  refine v_aload_n (pc' := 529) dL_law_528 rfl rfl ?_
  refine v_iload (pc' := 531) dL_law_529 rfl rfl ?_
  refine v_iconst (pc' := 532) (v := 1) dL_law_531 rfl kI_1 ?_
  refine v_iadd (pc' := 533) dL_law_532 rfl ?_
  obtain ⟨q1, T⟩ := T
  refine v_sald (pc' := 534) dL_law_533 rfl rfl q1 ?_
  refine v_aload_n (pc' := 535) dL_law_534 rfl rfl ?_
  refine v_iload (pc' := 537) dL_law_535 rfl rfl ?_
  refine v_iconst (pc' := 538) (v := 2) dL_law_537 rfl kI_2 ?_
  refine v_iadd (pc' := 539) dL_law_538 rfl ?_
  obtain ⟨q2, T⟩ := T
  refine v_sald (pc' := 540) dL_law_539 rfl rfl q2 ?_
  refine v_aload_n (pc' := 541) dL_law_540 rfl rfl ?_
  refine v_iload (pc' := 543) dL_law_541 rfl rfl ?_
  refine v_iconst (pc' := 544) (v := 3) dL_law_543 rfl kI_3 ?_
  refine v_iadd (pc' := 545) dL_law_544 rfl ?_
  obtain ⟨q3, T⟩ := T
  refine v_sald (pc' := 546) dL_law_545 rfl rfl q3 ?_
  refine v_aload_n (pc' := 547) dL_law_546 rfl rfl ?_
  obtain ⟨z5, h4, k6, T⟩ := T
  refine v_callSW (pc' := 550) (M1 := mL_peek) (as := [.ref r1, .int (h.2 1 (x4 + 1).toNatClampNeg), .int (h.2 1 (x4 + 2).toNatClampNeg), .int (h.2 1 (x4 + 3).toNatClampNeg), .ref r3]) (rest := []) dL_law_547 rfl ko_L_130 kc_L_peek kt_L_peek (by decide) hdd rfl rfl (le_l rfl) k6 ?_
  refine v_istore (pc' := 552) (loc' := [.ref 1, .ref r1, .ref r2, .ref r3, .int x4, .int z5, uV]) dL_law_550 rfl (lt_l rfl) rfl ?_
  refine v_aload_n (pc' := 553) dL_law_552 rfl rfl ?_
  refine v_aload_n (pc' := 554) dL_law_553 rfl rfl ?_
  refine v_iload (pc' := 556) dL_law_554 rfl rfl ?_
  refine v_iconst (pc' := 557) (v := 1) dL_law_556 rfl kI_1 ?_
  refine v_iadd (pc' := 558) dL_law_557 rfl ?_
  obtain ⟨q7, T⟩ := T
  refine v_sald (pc' := 559) dL_law_558 rfl rfl q7 ?_
  refine v_aload_n (pc' := 560) dL_law_559 rfl rfl ?_
  refine v_iload (pc' := 562) dL_law_560 rfl rfl ?_
  refine v_iconst (pc' := 563) (v := 2) dL_law_562 rfl kI_2 ?_
  refine v_iadd (pc' := 564) dL_law_563 rfl ?_
  obtain ⟨q8, T⟩ := T
  refine v_sald (pc' := 565) dL_law_564 rfl rfl q8 ?_
  refine v_aload_n (pc' := 566) dL_law_565 rfl rfl ?_
  refine v_iload (pc' := 568) dL_law_566 rfl rfl ?_
  refine v_iconst (pc' := 569) (v := 3) dL_law_568 rfl kI_3 ?_
  refine v_iadd (pc' := 570) dL_law_569 rfl ?_
  obtain ⟨q9, T⟩ := T
  refine v_sald (pc' := 571) dL_law_570 rfl rfl q9 ?_
  obtain ⟨q13, T⟩ := T
  obtain ⟨z11, h10, k12, T⟩ := T
  refine v_callV (pc' := 574) (M1 := mX10_peek) (as := [.int (h4.2 1 (x4 + 1).toNatClampNeg), .int (h4.2 1 (x4 + 2).toNatClampNeg), .int (h4.2 1 (x4 + 3).toNatClampNeg)]) (r := r2) (rest := []) 8 dL_law_571 rfl ko_L_133 kc_X10_peek ki_X10_peek ks_X10_peek (by decide) (by decide) hdd rfl rfl (le_l rfl) q13 k12 ?_
  refine v_istore (pc' := 576) (loc' := [.ref 1, .ref r1, .ref r2, .ref r3, .int x4, .int z5, .int z11]) dL_law_574 rfl (lt_l rfl) rfl ?_
  refine v_aload_n (pc' := 577) dL_law_576 rfl rfl ?_
  obtain ⟨q17, T⟩ := T
  obtain ⟨z15, h14, k16, T⟩ := T
  refine v_callV (pc' := 580) (M1 := mX10_thrown) (as := []) (r := r2) (rest := []) 8 dL_law_577 rfl ko_L_109 kc_X10_thrown ki_X10_thrown ks_X10_thrown (by decide) (by decide) hdd rfl rfl (le_l rfl) q17 k16 ?_
  refine v_iload (pc' := 582) dL_law_580 rfl rfl ?_
  refine v_icmp_eq (tgt := 587) (pc' := 585) dL_law_582 (by decide) rfl ⟨fun c18 => ?_, fun c18 => ?_⟩
  · have T := T.1 c18
    refine v_iload (pc' := 589) dL_law_587 rfl rfl ?_
    refine v_if_ne (tgt := 604) (pc' := 592) dL_law_589 (by decide) rfl ⟨fun c19 => ?_, fun c19 => ?_⟩
    · have T := T.1 c19
      exact V.drop (llp_r (llp_r (llp_r (llp_r (llp_r (llp_u (llp_u llp_nil))))))) T
    · have T := T.2 c19
      refine v_aload_n (pc' := 593) dL_law_592 rfl rfl ?_
      refine v_iconst (pc' := 594) (v := 0) dL_law_593 rfl kI_0 ?_
      obtain ⟨q20, T⟩ := T
      obtain ⟨q21, T⟩ := T
      refine v_lald (pc' := 595) dL_law_594 rfl kN_0 q20 q21 ?_
      refine v_iload (pc' := 597) dL_law_595 rfl rfl ?_
      refine v_i2l (pc' := 598) dL_law_597 rfl ?_
      refine v_lcmp (pc' := 599) dL_law_598 rfl ?_
      refine v_if_eq (tgt := 604) (pc' := 602) dL_law_599 (by decide) rfl ⟨fun c22 => ?_, fun c22 => ?_⟩
      · have T := T.1 c22
        exact V.drop (llp_r (llp_r (llp_r (llp_r (llp_r (llp_u (llp_u llp_nil))))))) T
      · have T := T.2 c22
        refine v_iconst (pc' := 603) (v := 0) dL_law_602 rfl kI_0 ?_
        exact v_zret dL_law_603 rfl (Or.inl rfl) T
  · have T := T.2 c18
    refine v_iconst (pc' := 586) (v := 0) dL_law_585 rfl kI_0 ?_
    exact v_zret dL_law_586 rfl (Or.inl rfl) T
theorem bL_law_604 {G : GG} {d : Nat} {h : Hp} {o : OU} {h' : Hp} (r1 : Nat) (r2 : Nat) (r3 : Nat) (x4 : Int32) (T : V G mL_law d 2031 [.ref 1, .ref r1, .ref r2, .ref r3, .int x4, uV, uV] [] h o h') : V G mL_law d 604 [.ref 1, .ref r1, .ref r2, .ref r3, .int x4, uV, uV] [] h o h' := by
  refine v_goto (pc' := 2031) dL_law_604 (by decide) ?_
  exact T
theorem bL_law_607 {G : GG} {d : Nat} {h : Hp} {o : OU} {h' : Hp} (r1 : Nat) (r2 : Nat) (r3 : Nat) (x4 : Int32) (hd : 1 ≤ d) (T : vp_in (x4 + 1) (lH h 1) ∧ vp_in (x4 + 2) (lH h 1) ∧ vp_in (x4 + 3) (lH h 1) ∧ ∃ z5 h4, VMW G mL_node (d - 1) [.ref r1, .int (h.2 1 (x4 + 1).toNatClampNeg), .int (h.2 1 (x4 + 2).toNatClampNeg), .int (h.2 1 (x4 + 3).toNatClampNeg), .ref r3] h (.inl (some (.int z5))) h4 ∧ vp_in (x4 + 1) (lH h4 1) ∧ vp_in (x4 + 2) (lH h4 1) ∧ vp_in (x4 + 3) (lH h4 1) ∧ kH h4 r2 = 18 ∧ ∃ z11 h10, VM G mX10_node (d - 1) [.ref r2, .int (h4.2 1 (x4 + 1).toNatClampNeg), .int (h4.2 1 (x4 + 2).toNatClampNeg), .int (h4.2 1 (x4 + 3).toNatClampNeg)] h4 (.inl (some (.int z11))) h10 ∧ kH h10 r2 = 18 ∧ ∃ z15 h14, VM G mX10_thrown (d - 1) [.ref r2] h10 (.inl (some (.int z15))) h14 ∧ ((z15 = z5 → ((¬ z5 = 0 → V G mL_law d 684 [.ref 1, .ref r1, .ref r2, .ref r3, .int x4, uV, uV] [] h14 o h') ∧ (z5 = 0 → kH h14 r3 = 4 ∧ vp_in 0 (lH h14 r3) ∧ (((lg_cmp ((h14.2 r3 0).toInt64) z11.toInt64) = 0 → V G mL_law d 684 [.ref 1, .ref r1, .ref r2, .ref r3, .int x4, uV, uV] [] h14 o h') ∧ (¬ (lg_cmp ((h14.2 r3 0).toInt64) z11.toInt64) = 0 → (o = .inl (some (.int 0)) ∧ h' = h14)))))) ∧ (¬ z15 = z5 → (o = .inl (some (.int 0)) ∧ h' = h14)))) : V G mL_law d 607 [.ref 1, .ref r1, .ref r2, .ref r3, .int x4, uV, uV] [] h o h' := by
  have hdd : d - 1 + 1 ≤ d := by omega
  refine v_aload_n (pc' := 608) dL_law_607 rfl rfl ?_
  refine v_aload_n (pc' := 609) dL_law_608 rfl rfl ?_
  refine v_iload (pc' := 611) dL_law_609 rfl rfl ?_
  refine v_iconst (pc' := 612) (v := 1) dL_law_611 rfl kI_1 ?_
  refine v_iadd (pc' := 613) dL_law_612 rfl ?_
  obtain ⟨q1, T⟩ := T
  refine v_sald (pc' := 614) dL_law_613 rfl rfl q1 ?_
  refine v_aload_n (pc' := 615) dL_law_614 rfl rfl ?_
  refine v_iload (pc' := 617) dL_law_615 rfl rfl ?_
  refine v_iconst (pc' := 618) (v := 2) dL_law_617 rfl kI_2 ?_
  refine v_iadd (pc' := 619) dL_law_618 rfl ?_
  obtain ⟨q2, T⟩ := T
  refine v_sald (pc' := 620) dL_law_619 rfl rfl q2 ?_
  refine v_aload_n (pc' := 621) dL_law_620 rfl rfl ?_
  refine v_iload (pc' := 623) dL_law_621 rfl rfl ?_
  refine v_iconst (pc' := 624) (v := 3) dL_law_623 rfl kI_3 ?_
  refine v_iadd (pc' := 625) dL_law_624 rfl ?_
  obtain ⟨q3, T⟩ := T
  refine v_sald (pc' := 626) dL_law_625 rfl rfl q3 ?_
  refine v_aload_n (pc' := 627) dL_law_626 rfl rfl ?_
  obtain ⟨z5, h4, k6, T⟩ := T
  refine v_callSW (pc' := 630) (M1 := mL_node) (as := [.ref r1, .int (h.2 1 (x4 + 1).toNatClampNeg), .int (h.2 1 (x4 + 2).toNatClampNeg), .int (h.2 1 (x4 + 3).toNatClampNeg), .ref r3]) (rest := []) dL_law_627 rfl ko_L_134 kc_L_node kt_L_node (by decide) hdd rfl rfl (le_l rfl) k6 ?_
  refine v_istore (pc' := 632) (loc' := [.ref 1, .ref r1, .ref r2, .ref r3, .int x4, .int z5, uV]) dL_law_630 rfl (lt_l rfl) rfl ?_
  refine v_aload_n (pc' := 633) dL_law_632 rfl rfl ?_
  refine v_aload_n (pc' := 634) dL_law_633 rfl rfl ?_
  refine v_iload (pc' := 636) dL_law_634 rfl rfl ?_
  refine v_iconst (pc' := 637) (v := 1) dL_law_636 rfl kI_1 ?_
  refine v_iadd (pc' := 638) dL_law_637 rfl ?_
  obtain ⟨q7, T⟩ := T
  refine v_sald (pc' := 639) dL_law_638 rfl rfl q7 ?_
  refine v_aload_n (pc' := 640) dL_law_639 rfl rfl ?_
  refine v_iload (pc' := 642) dL_law_640 rfl rfl ?_
  refine v_iconst (pc' := 643) (v := 2) dL_law_642 rfl kI_2 ?_
  refine v_iadd (pc' := 644) dL_law_643 rfl ?_
  obtain ⟨q8, T⟩ := T
  refine v_sald (pc' := 645) dL_law_644 rfl rfl q8 ?_
  refine v_aload_n (pc' := 646) dL_law_645 rfl rfl ?_
  refine v_iload (pc' := 648) dL_law_646 rfl rfl ?_
  refine v_iconst (pc' := 649) (v := 3) dL_law_648 rfl kI_3 ?_
  refine v_iadd (pc' := 650) dL_law_649 rfl ?_
  obtain ⟨q9, T⟩ := T
  refine v_sald (pc' := 651) dL_law_650 rfl rfl q9 ?_
  obtain ⟨q13, T⟩ := T
  obtain ⟨z11, h10, k12, T⟩ := T
  refine v_callV (pc' := 654) (M1 := mX10_node) (as := [.int (h4.2 1 (x4 + 1).toNatClampNeg), .int (h4.2 1 (x4 + 2).toNatClampNeg), .int (h4.2 1 (x4 + 3).toNatClampNeg)]) (r := r2) (rest := []) 8 dL_law_651 rfl ko_L_136 kc_X10_node ki_X10_node ks_X10_node (by decide) (by decide) hdd rfl rfl (le_l rfl) q13 k12 ?_
  refine v_istore (pc' := 656) (loc' := [.ref 1, .ref r1, .ref r2, .ref r3, .int x4, .int z5, .int z11]) dL_law_654 rfl (lt_l rfl) rfl ?_
  refine v_aload_n (pc' := 657) dL_law_656 rfl rfl ?_
  obtain ⟨q17, T⟩ := T
  obtain ⟨z15, h14, k16, T⟩ := T
  refine v_callV (pc' := 660) (M1 := mX10_thrown) (as := []) (r := r2) (rest := []) 8 dL_law_657 rfl ko_L_109 kc_X10_thrown ki_X10_thrown ks_X10_thrown (by decide) (by decide) hdd rfl rfl (le_l rfl) q17 k16 ?_
  refine v_iload (pc' := 662) dL_law_660 rfl rfl ?_
  refine v_icmp_eq (tgt := 667) (pc' := 665) dL_law_662 (by decide) rfl ⟨fun c18 => ?_, fun c18 => ?_⟩
  · have T := T.1 c18
    refine v_iload (pc' := 669) dL_law_667 rfl rfl ?_
    refine v_if_ne (tgt := 684) (pc' := 672) dL_law_669 (by decide) rfl ⟨fun c19 => ?_, fun c19 => ?_⟩
    · have T := T.1 c19
      exact V.drop (llp_r (llp_r (llp_r (llp_r (llp_r (llp_u (llp_u llp_nil))))))) T
    · have T := T.2 c19
      refine v_aload_n (pc' := 673) dL_law_672 rfl rfl ?_
      refine v_iconst (pc' := 674) (v := 0) dL_law_673 rfl kI_0 ?_
      obtain ⟨q20, T⟩ := T
      obtain ⟨q21, T⟩ := T
      refine v_lald (pc' := 675) dL_law_674 rfl kN_0 q20 q21 ?_
      refine v_iload (pc' := 677) dL_law_675 rfl rfl ?_
      refine v_i2l (pc' := 678) dL_law_677 rfl ?_
      refine v_lcmp (pc' := 679) dL_law_678 rfl ?_
      refine v_if_eq (tgt := 684) (pc' := 682) dL_law_679 (by decide) rfl ⟨fun c22 => ?_, fun c22 => ?_⟩
      · have T := T.1 c22
        exact V.drop (llp_r (llp_r (llp_r (llp_r (llp_r (llp_u (llp_u llp_nil))))))) T
      · have T := T.2 c22
        refine v_iconst (pc' := 683) (v := 0) dL_law_682 rfl kI_0 ?_
        exact v_zret dL_law_683 rfl (Or.inl rfl) T
  · have T := T.2 c18
    refine v_iconst (pc' := 666) (v := 0) dL_law_665 rfl kI_0 ?_
    exact v_zret dL_law_666 rfl (Or.inl rfl) T
theorem bL_law_684 {G : GG} {d : Nat} {h : Hp} {o : OU} {h' : Hp} (r1 : Nat) (r2 : Nat) (r3 : Nat) (x4 : Int32) (T : V G mL_law d 2031 [.ref 1, .ref r1, .ref r2, .ref r3, .int x4, uV, uV] [] h o h') : V G mL_law d 684 [.ref 1, .ref r1, .ref r2, .ref r3, .int x4, uV, uV] [] h o h' := by
  refine v_goto (pc' := 2031) dL_law_684 (by decide) ?_
  exact T
theorem bL_law_687 {G : GG} {d : Nat} {h : Hp} {o : OU} {h' : Hp} (r1 : Nat) (r2 : Nat) (r3 : Nat) (x4 : Int32) (hd : 1 ≤ d) (T : vp_in (x4 + 1) (lH h 1) ∧ vp_in (x4 + 2) (lH h 1) ∧ vp_in (x4 + 3) (lH h 1) ∧ ∃ z5 h4, VMW G mL_find (d - 1) [.ref r1, .int (h.2 1 (x4 + 1).toNatClampNeg), .int (h.2 1 (x4 + 2).toNatClampNeg), .int (h.2 1 (x4 + 3).toNatClampNeg), .ref r3] h (.inl (some (.int z5))) h4 ∧ vp_in (x4 + 1) (lH h4 1) ∧ vp_in (x4 + 2) (lH h4 1) ∧ vp_in (x4 + 3) (lH h4 1) ∧ kH h4 r2 = 18 ∧ ∃ z11 h10, VM G mX10_find (d - 1) [.ref r2, .int (h4.2 1 (x4 + 1).toNatClampNeg), .int (h4.2 1 (x4 + 2).toNatClampNeg), .int (h4.2 1 (x4 + 3).toNatClampNeg)] h4 (.inl (some (.int z11))) h10 ∧ kH h10 r2 = 18 ∧ ∃ z15 h14, VM G mX10_thrown (d - 1) [.ref r2] h10 (.inl (some (.int z15))) h14 ∧ ((z15 = z5 → ((¬ z5 = 0 → V G mL_law d 764 [.ref 1, .ref r1, .ref r2, .ref r3, .int x4, uV, uV] [] h14 o h') ∧ (z5 = 0 → kH h14 r3 = 4 ∧ vp_in 0 (lH h14 r3) ∧ (((lg_cmp ((h14.2 r3 0).toInt64) z11.toInt64) = 0 → V G mL_law d 764 [.ref 1, .ref r1, .ref r2, .ref r3, .int x4, uV, uV] [] h14 o h') ∧ (¬ (lg_cmp ((h14.2 r3 0).toInt64) z11.toInt64) = 0 → (o = .inl (some (.int 0)) ∧ h' = h14)))))) ∧ (¬ z15 = z5 → (o = .inl (some (.int 0)) ∧ h' = h14)))) : V G mL_law d 687 [.ref 1, .ref r1, .ref r2, .ref r3, .int x4, uV, uV] [] h o h' := by
  have hdd : d - 1 + 1 ≤ d := by omega
  refine v_aload_n (pc' := 688) dL_law_687 rfl rfl ?_
  refine v_aload_n (pc' := 689) dL_law_688 rfl rfl ?_
  refine v_iload (pc' := 691) dL_law_689 rfl rfl ?_
  refine v_iconst (pc' := 692) (v := 1) dL_law_691 rfl kI_1 ?_
  refine v_iadd (pc' := 693) dL_law_692 rfl ?_
  obtain ⟨q1, T⟩ := T
  refine v_sald (pc' := 694) dL_law_693 rfl rfl q1 ?_
  refine v_aload_n (pc' := 695) dL_law_694 rfl rfl ?_
  refine v_iload (pc' := 697) dL_law_695 rfl rfl ?_
  refine v_iconst (pc' := 698) (v := 2) dL_law_697 rfl kI_2 ?_
  refine v_iadd (pc' := 699) dL_law_698 rfl ?_
  obtain ⟨q2, T⟩ := T
  refine v_sald (pc' := 700) dL_law_699 rfl rfl q2 ?_
  refine v_aload_n (pc' := 701) dL_law_700 rfl rfl ?_
  refine v_iload (pc' := 703) dL_law_701 rfl rfl ?_
  refine v_iconst (pc' := 704) (v := 3) dL_law_703 rfl kI_3 ?_
  refine v_iadd (pc' := 705) dL_law_704 rfl ?_
  obtain ⟨q3, T⟩ := T
  refine v_sald (pc' := 706) dL_law_705 rfl rfl q3 ?_
  refine v_aload_n (pc' := 707) dL_law_706 rfl rfl ?_
  obtain ⟨z5, h4, k6, T⟩ := T
  refine v_callSW (pc' := 710) (M1 := mL_find) (as := [.ref r1, .int (h.2 1 (x4 + 1).toNatClampNeg), .int (h.2 1 (x4 + 2).toNatClampNeg), .int (h.2 1 (x4 + 3).toNatClampNeg), .ref r3]) (rest := []) dL_law_707 rfl ko_L_137 kc_L_find kt_L_find (by decide) hdd rfl rfl (le_l rfl) k6 ?_
  refine v_istore (pc' := 712) (loc' := [.ref 1, .ref r1, .ref r2, .ref r3, .int x4, .int z5, uV]) dL_law_710 rfl (lt_l rfl) rfl ?_
  refine v_aload_n (pc' := 713) dL_law_712 rfl rfl ?_
  refine v_aload_n (pc' := 714) dL_law_713 rfl rfl ?_
  refine v_iload (pc' := 716) dL_law_714 rfl rfl ?_
  refine v_iconst (pc' := 717) (v := 1) dL_law_716 rfl kI_1 ?_
  refine v_iadd (pc' := 718) dL_law_717 rfl ?_
  obtain ⟨q7, T⟩ := T
  refine v_sald (pc' := 719) dL_law_718 rfl rfl q7 ?_
  refine v_aload_n (pc' := 720) dL_law_719 rfl rfl ?_
  refine v_iload (pc' := 722) dL_law_720 rfl rfl ?_
  refine v_iconst (pc' := 723) (v := 2) dL_law_722 rfl kI_2 ?_
  refine v_iadd (pc' := 724) dL_law_723 rfl ?_
  obtain ⟨q8, T⟩ := T
  refine v_sald (pc' := 725) dL_law_724 rfl rfl q8 ?_
  refine v_aload_n (pc' := 726) dL_law_725 rfl rfl ?_
  refine v_iload (pc' := 728) dL_law_726 rfl rfl ?_
  refine v_iconst (pc' := 729) (v := 3) dL_law_728 rfl kI_3 ?_
  refine v_iadd (pc' := 730) dL_law_729 rfl ?_
  obtain ⟨q9, T⟩ := T
  refine v_sald (pc' := 731) dL_law_730 rfl rfl q9 ?_
  obtain ⟨q13, T⟩ := T
  obtain ⟨z11, h10, k12, T⟩ := T
  refine v_callV (pc' := 734) (M1 := mX10_find) (as := [.int (h4.2 1 (x4 + 1).toNatClampNeg), .int (h4.2 1 (x4 + 2).toNatClampNeg), .int (h4.2 1 (x4 + 3).toNatClampNeg)]) (r := r2) (rest := []) 8 dL_law_731 rfl ko_L_139 kc_X10_find ki_X10_find ks_X10_find (by decide) (by decide) hdd rfl rfl (le_l rfl) q13 k12 ?_
  refine v_istore (pc' := 736) (loc' := [.ref 1, .ref r1, .ref r2, .ref r3, .int x4, .int z5, .int z11]) dL_law_734 rfl (lt_l rfl) rfl ?_
  refine v_aload_n (pc' := 737) dL_law_736 rfl rfl ?_
  obtain ⟨q17, T⟩ := T
  obtain ⟨z15, h14, k16, T⟩ := T
  refine v_callV (pc' := 740) (M1 := mX10_thrown) (as := []) (r := r2) (rest := []) 8 dL_law_737 rfl ko_L_109 kc_X10_thrown ki_X10_thrown ks_X10_thrown (by decide) (by decide) hdd rfl rfl (le_l rfl) q17 k16 ?_
  refine v_iload (pc' := 742) dL_law_740 rfl rfl ?_
  refine v_icmp_eq (tgt := 747) (pc' := 745) dL_law_742 (by decide) rfl ⟨fun c18 => ?_, fun c18 => ?_⟩
  · have T := T.1 c18
    refine v_iload (pc' := 749) dL_law_747 rfl rfl ?_
    refine v_if_ne (tgt := 764) (pc' := 752) dL_law_749 (by decide) rfl ⟨fun c19 => ?_, fun c19 => ?_⟩
    · have T := T.1 c19
      exact V.drop (llp_r (llp_r (llp_r (llp_r (llp_r (llp_u (llp_u llp_nil))))))) T
    · have T := T.2 c19
      refine v_aload_n (pc' := 753) dL_law_752 rfl rfl ?_
      refine v_iconst (pc' := 754) (v := 0) dL_law_753 rfl kI_0 ?_
      obtain ⟨q20, T⟩ := T
      obtain ⟨q21, T⟩ := T
      refine v_lald (pc' := 755) dL_law_754 rfl kN_0 q20 q21 ?_
      refine v_iload (pc' := 757) dL_law_755 rfl rfl ?_
      refine v_i2l (pc' := 758) dL_law_757 rfl ?_
      refine v_lcmp (pc' := 759) dL_law_758 rfl ?_
      refine v_if_eq (tgt := 764) (pc' := 762) dL_law_759 (by decide) rfl ⟨fun c22 => ?_, fun c22 => ?_⟩
      · have T := T.1 c22
        exact V.drop (llp_r (llp_r (llp_r (llp_r (llp_r (llp_u (llp_u llp_nil))))))) T
      · have T := T.2 c22
        refine v_iconst (pc' := 763) (v := 0) dL_law_762 rfl kI_0 ?_
        exact v_zret dL_law_763 rfl (Or.inl rfl) T
  · have T := T.2 c18
    refine v_iconst (pc' := 746) (v := 0) dL_law_745 rfl kI_0 ?_
    exact v_zret dL_law_746 rfl (Or.inl rfl) T
theorem bL_law_764 {G : GG} {d : Nat} {h : Hp} {o : OU} {h' : Hp} (r1 : Nat) (r2 : Nat) (r3 : Nat) (x4 : Int32) (T : V G mL_law d 2031 [.ref 1, .ref r1, .ref r2, .ref r3, .int x4, uV, uV] [] h o h') : V G mL_law d 764 [.ref 1, .ref r1, .ref r2, .ref r3, .int x4, uV, uV] [] h o h' := by
  refine v_goto (pc' := 2031) dL_law_764 (by decide) ?_
  exact T
theorem bL_law_767 {G : GG} {d : Nat} {h : Hp} {o : OU} {h' : Hp} (r1 : Nat) (r2 : Nat) (r3 : Nat) (x4 : Int32) (hd : 1 ≤ d) (T : vp_in (x4 + 1) (lH h 1) ∧ ∃ z3 h2, VMW G mL_used (d - 1) [.ref r1, .int (h.2 1 (x4 + 1).toNatClampNeg), .ref r3] h (.inl (some (.int z3))) h2 ∧ vp_in (x4 + 1) (lH h2 1) ∧ kH h2 r2 = 18 ∧ ∃ z7 h6, VM G mX10_used (d - 1) [.ref r2, .int (h2.2 1 (x4 + 1).toNatClampNeg)] h2 (.inl (some (.int z7))) h6 ∧ kH h6 r2 = 18 ∧ ∃ z11 h10, VM G mX10_thrown (d - 1) [.ref r2] h6 (.inl (some (.int z11))) h10 ∧ ((z11 = z3 → ((¬ z3 = 0 → V G mL_law d 820 [.ref 1, .ref r1, .ref r2, .ref r3, .int x4, uV, uV] [] h10 o h') ∧ (z3 = 0 → kH h10 r3 = 4 ∧ vp_in 0 (lH h10 r3) ∧ (((lg_cmp ((h10.2 r3 0).toInt64) z7.toInt64) = 0 → V G mL_law d 820 [.ref 1, .ref r1, .ref r2, .ref r3, .int x4, uV, uV] [] h10 o h') ∧ (¬ (lg_cmp ((h10.2 r3 0).toInt64) z7.toInt64) = 0 → (o = .inl (some (.int 0)) ∧ h' = h10)))))) ∧ (¬ z11 = z3 → (o = .inl (some (.int 0)) ∧ h' = h10)))) : V G mL_law d 767 [.ref 1, .ref r1, .ref r2, .ref r3, .int x4, uV, uV] [] h o h' := by
  have hdd : d - 1 + 1 ≤ d := by omega
  refine v_aload_n (pc' := 768) dL_law_767 rfl rfl ?_
  refine v_aload_n (pc' := 769) dL_law_768 rfl rfl ?_
  refine v_iload (pc' := 771) dL_law_769 rfl rfl ?_
  refine v_iconst (pc' := 772) (v := 1) dL_law_771 rfl kI_1 ?_
  refine v_iadd (pc' := 773) dL_law_772 rfl ?_
  obtain ⟨q1, T⟩ := T
  refine v_sald (pc' := 774) dL_law_773 rfl rfl q1 ?_
  refine v_aload_n (pc' := 775) dL_law_774 rfl rfl ?_
  obtain ⟨z3, h2, k4, T⟩ := T
  refine v_callSW (pc' := 778) (M1 := mL_used) (as := [.ref r1, .int (h.2 1 (x4 + 1).toNatClampNeg), .ref r3]) (rest := []) dL_law_775 rfl ko_L_140 kc_L_used kt_L_used (by decide) hdd rfl rfl (le_l rfl) k4 ?_
  refine v_istore (pc' := 780) (loc' := [.ref 1, .ref r1, .ref r2, .ref r3, .int x4, .int z3, uV]) dL_law_778 rfl (lt_l rfl) rfl ?_
  refine v_aload_n (pc' := 781) dL_law_780 rfl rfl ?_
  refine v_aload_n (pc' := 782) dL_law_781 rfl rfl ?_
  refine v_iload (pc' := 784) dL_law_782 rfl rfl ?_
  refine v_iconst (pc' := 785) (v := 1) dL_law_784 rfl kI_1 ?_
  refine v_iadd (pc' := 786) dL_law_785 rfl ?_
  obtain ⟨q5, T⟩ := T
  refine v_sald (pc' := 787) dL_law_786 rfl rfl q5 ?_
  obtain ⟨q9, T⟩ := T
  obtain ⟨z7, h6, k8, T⟩ := T
  refine v_callV (pc' := 790) (M1 := mX10_used) (as := [.int (h2.2 1 (x4 + 1).toNatClampNeg)]) (r := r2) (rest := []) 8 dL_law_787 rfl ko_L_142 kc_X10_used ki_X10_used ks_X10_used (by decide) (by decide) hdd rfl rfl (le_l rfl) q9 k8 ?_
  refine v_istore (pc' := 792) (loc' := [.ref 1, .ref r1, .ref r2, .ref r3, .int x4, .int z3, .int z7]) dL_law_790 rfl (lt_l rfl) rfl ?_
  refine v_aload_n (pc' := 793) dL_law_792 rfl rfl ?_
  obtain ⟨q13, T⟩ := T
  obtain ⟨z11, h10, k12, T⟩ := T
  refine v_callV (pc' := 796) (M1 := mX10_thrown) (as := []) (r := r2) (rest := []) 8 dL_law_793 rfl ko_L_109 kc_X10_thrown ki_X10_thrown ks_X10_thrown (by decide) (by decide) hdd rfl rfl (le_l rfl) q13 k12 ?_
  refine v_iload (pc' := 798) dL_law_796 rfl rfl ?_
  refine v_icmp_eq (tgt := 803) (pc' := 801) dL_law_798 (by decide) rfl ⟨fun c14 => ?_, fun c14 => ?_⟩
  · have T := T.1 c14
    refine v_iload (pc' := 805) dL_law_803 rfl rfl ?_
    refine v_if_ne (tgt := 820) (pc' := 808) dL_law_805 (by decide) rfl ⟨fun c15 => ?_, fun c15 => ?_⟩
    · have T := T.1 c15
      exact V.drop (llp_r (llp_r (llp_r (llp_r (llp_r (llp_u (llp_u llp_nil))))))) T
    · have T := T.2 c15
      refine v_aload_n (pc' := 809) dL_law_808 rfl rfl ?_
      refine v_iconst (pc' := 810) (v := 0) dL_law_809 rfl kI_0 ?_
      obtain ⟨q16, T⟩ := T
      obtain ⟨q17, T⟩ := T
      refine v_lald (pc' := 811) dL_law_810 rfl kN_0 q16 q17 ?_
      refine v_iload (pc' := 813) dL_law_811 rfl rfl ?_
      refine v_i2l (pc' := 814) dL_law_813 rfl ?_
      refine v_lcmp (pc' := 815) dL_law_814 rfl ?_
      refine v_if_eq (tgt := 820) (pc' := 818) dL_law_815 (by decide) rfl ⟨fun c18 => ?_, fun c18 => ?_⟩
      · have T := T.1 c18
        exact V.drop (llp_r (llp_r (llp_r (llp_r (llp_r (llp_u (llp_u llp_nil))))))) T
      · have T := T.2 c18
        refine v_iconst (pc' := 819) (v := 0) dL_law_818 rfl kI_0 ?_
        exact v_zret dL_law_819 rfl (Or.inl rfl) T
  · have T := T.2 c14
    refine v_iconst (pc' := 802) (v := 0) dL_law_801 rfl kI_0 ?_
    exact v_zret dL_law_802 rfl (Or.inl rfl) T
theorem bL_law_820 {G : GG} {d : Nat} {h : Hp} {o : OU} {h' : Hp} (r1 : Nat) (r2 : Nat) (r3 : Nat) (x4 : Int32) (T : V G mL_law d 2031 [.ref 1, .ref r1, .ref r2, .ref r3, .int x4, uV, uV] [] h o h') : V G mL_law d 820 [.ref 1, .ref r1, .ref r2, .ref r3, .int x4, uV, uV] [] h o h' := by
  refine v_goto (pc' := 2031) dL_law_820 (by decide) ?_
  exact T
theorem bL_law_823 {G : GG} {d : Nat} {h : Hp} {o : OU} {h' : Hp} (r1 : Nat) (r2 : Nat) (r3 : Nat) (x4 : Int32) (hd : 1 ≤ d) (T : vp_in (x4 + 1) (lH h 1) ∧ ∃ z3 h2, VMW G mL_leaks (d - 1) [.ref r1, .int (h.2 1 (x4 + 1).toNatClampNeg), .ref r3] h (.inl (some (.int z3))) h2 ∧ vp_in (x4 + 1) (lH h2 1) ∧ kH h2 r2 = 18 ∧ ∃ z7 h6, VM G mX10_leaks (d - 1) [.ref r2, .int (h2.2 1 (x4 + 1).toNatClampNeg)] h2 (.inl (some (.int z7))) h6 ∧ kH h6 r2 = 18 ∧ ∃ z11 h10, VM G mX10_thrown (d - 1) [.ref r2] h6 (.inl (some (.int z11))) h10 ∧ ((z11 = z3 → ((¬ z3 = 0 → V G mL_law d 876 [.ref 1, .ref r1, .ref r2, .ref r3, .int x4, uV, uV] [] h10 o h') ∧ (z3 = 0 → kH h10 r3 = 4 ∧ vp_in 0 (lH h10 r3) ∧ (((lg_cmp ((h10.2 r3 0).toInt64) z7.toInt64) = 0 → V G mL_law d 876 [.ref 1, .ref r1, .ref r2, .ref r3, .int x4, uV, uV] [] h10 o h') ∧ (¬ (lg_cmp ((h10.2 r3 0).toInt64) z7.toInt64) = 0 → (o = .inl (some (.int 0)) ∧ h' = h10)))))) ∧ (¬ z11 = z3 → (o = .inl (some (.int 0)) ∧ h' = h10)))) : V G mL_law d 823 [.ref 1, .ref r1, .ref r2, .ref r3, .int x4, uV, uV] [] h o h' := by
  have hdd : d - 1 + 1 ≤ d := by omega
  refine v_aload_n (pc' := 824) dL_law_823 rfl rfl ?_
  refine v_aload_n (pc' := 825) dL_law_824 rfl rfl ?_
  refine v_iload (pc' := 827) dL_law_825 rfl rfl ?_
  refine v_iconst (pc' := 828) (v := 1) dL_law_827 rfl kI_1 ?_
  refine v_iadd (pc' := 829) dL_law_828 rfl ?_
  obtain ⟨q1, T⟩ := T
  refine v_sald (pc' := 830) dL_law_829 rfl rfl q1 ?_
  refine v_aload_n (pc' := 831) dL_law_830 rfl rfl ?_
  obtain ⟨z3, h2, k4, T⟩ := T
  refine v_callSW (pc' := 834) (M1 := mL_leaks) (as := [.ref r1, .int (h.2 1 (x4 + 1).toNatClampNeg), .ref r3]) (rest := []) dL_law_831 rfl ko_L_143 kc_L_leaks kt_L_leaks (by decide) hdd rfl rfl (le_l rfl) k4 ?_
  refine v_istore (pc' := 836) (loc' := [.ref 1, .ref r1, .ref r2, .ref r3, .int x4, .int z3, uV]) dL_law_834 rfl (lt_l rfl) rfl ?_
  refine v_aload_n (pc' := 837) dL_law_836 rfl rfl ?_
  refine v_aload_n (pc' := 838) dL_law_837 rfl rfl ?_
  refine v_iload (pc' := 840) dL_law_838 rfl rfl ?_
  refine v_iconst (pc' := 841) (v := 1) dL_law_840 rfl kI_1 ?_
  refine v_iadd (pc' := 842) dL_law_841 rfl ?_
  obtain ⟨q5, T⟩ := T
  refine v_sald (pc' := 843) dL_law_842 rfl rfl q5 ?_
  obtain ⟨q9, T⟩ := T
  obtain ⟨z7, h6, k8, T⟩ := T
  refine v_callV (pc' := 846) (M1 := mX10_leaks) (as := [.int (h2.2 1 (x4 + 1).toNatClampNeg)]) (r := r2) (rest := []) 8 dL_law_843 rfl ko_L_145 kc_X10_leaks ki_X10_leaks ks_X10_leaks (by decide) (by decide) hdd rfl rfl (le_l rfl) q9 k8 ?_
  refine v_istore (pc' := 848) (loc' := [.ref 1, .ref r1, .ref r2, .ref r3, .int x4, .int z3, .int z7]) dL_law_846 rfl (lt_l rfl) rfl ?_
  refine v_aload_n (pc' := 849) dL_law_848 rfl rfl ?_
  obtain ⟨q13, T⟩ := T
  obtain ⟨z11, h10, k12, T⟩ := T
  refine v_callV (pc' := 852) (M1 := mX10_thrown) (as := []) (r := r2) (rest := []) 8 dL_law_849 rfl ko_L_109 kc_X10_thrown ki_X10_thrown ks_X10_thrown (by decide) (by decide) hdd rfl rfl (le_l rfl) q13 k12 ?_
  refine v_iload (pc' := 854) dL_law_852 rfl rfl ?_
  refine v_icmp_eq (tgt := 859) (pc' := 857) dL_law_854 (by decide) rfl ⟨fun c14 => ?_, fun c14 => ?_⟩
  · have T := T.1 c14
    refine v_iload (pc' := 861) dL_law_859 rfl rfl ?_
    refine v_if_ne (tgt := 876) (pc' := 864) dL_law_861 (by decide) rfl ⟨fun c15 => ?_, fun c15 => ?_⟩
    · have T := T.1 c15
      exact V.drop (llp_r (llp_r (llp_r (llp_r (llp_r (llp_u (llp_u llp_nil))))))) T
    · have T := T.2 c15
      refine v_aload_n (pc' := 865) dL_law_864 rfl rfl ?_
      refine v_iconst (pc' := 866) (v := 0) dL_law_865 rfl kI_0 ?_
      obtain ⟨q16, T⟩ := T
      obtain ⟨q17, T⟩ := T
      refine v_lald (pc' := 867) dL_law_866 rfl kN_0 q16 q17 ?_
      refine v_iload (pc' := 869) dL_law_867 rfl rfl ?_
      refine v_i2l (pc' := 870) dL_law_869 rfl ?_
      refine v_lcmp (pc' := 871) dL_law_870 rfl ?_
      refine v_if_eq (tgt := 876) (pc' := 874) dL_law_871 (by decide) rfl ⟨fun c18 => ?_, fun c18 => ?_⟩
      · have T := T.1 c18
        exact V.drop (llp_r (llp_r (llp_r (llp_r (llp_r (llp_u (llp_u llp_nil))))))) T
      · have T := T.2 c18
        refine v_iconst (pc' := 875) (v := 0) dL_law_874 rfl kI_0 ?_
        exact v_zret dL_law_875 rfl (Or.inl rfl) T
  · have T := T.2 c14
    refine v_iconst (pc' := 858) (v := 0) dL_law_857 rfl kI_0 ?_
    exact v_zret dL_law_858 rfl (Or.inl rfl) T
theorem bL_law_876 {G : GG} {d : Nat} {h : Hp} {o : OU} {h' : Hp} (r1 : Nat) (r2 : Nat) (r3 : Nat) (x4 : Int32) (T : V G mL_law d 2031 [.ref 1, .ref r1, .ref r2, .ref r3, .int x4, uV, uV] [] h o h') : V G mL_law d 876 [.ref 1, .ref r1, .ref r2, .ref r3, .int x4, uV, uV] [] h o h' := by
  refine v_goto (pc' := 2031) dL_law_876 (by decide) ?_
  exact T
theorem bL_law_879 {G : GG} {d : Nat} {h : Hp} {o : OU} {h' : Hp} (r1 : Nat) (r2 : Nat) (r3 : Nat) (x4 : Int32) (hd : 1 ≤ d) (T : vp_in (x4 + 1) (lH h 1) ∧ ∃ z3 h2, VMW G mL_lost (d - 1) [.ref r1, .int (h.2 1 (x4 + 1).toNatClampNeg), .ref r3] h (.inl (some (.int z3))) h2 ∧ vp_in (x4 + 1) (lH h2 1) ∧ kH h2 r2 = 18 ∧ ∃ z7 h6, VM G mX10_lost (d - 1) [.ref r2, .int (h2.2 1 (x4 + 1).toNatClampNeg)] h2 (.inl (some (.int z7))) h6 ∧ kH h6 r2 = 18 ∧ ∃ z11 h10, VM G mX10_thrown (d - 1) [.ref r2] h6 (.inl (some (.int z11))) h10 ∧ ((z11 = z3 → ((¬ z3 = 0 → V G mL_law d 932 [.ref 1, .ref r1, .ref r2, .ref r3, .int x4, uV, uV] [] h10 o h') ∧ (z3 = 0 → kH h10 r3 = 4 ∧ vp_in 0 (lH h10 r3) ∧ (((lg_cmp ((h10.2 r3 0).toInt64) z7.toInt64) = 0 → V G mL_law d 932 [.ref 1, .ref r1, .ref r2, .ref r3, .int x4, uV, uV] [] h10 o h') ∧ (¬ (lg_cmp ((h10.2 r3 0).toInt64) z7.toInt64) = 0 → (o = .inl (some (.int 0)) ∧ h' = h10)))))) ∧ (¬ z11 = z3 → (o = .inl (some (.int 0)) ∧ h' = h10)))) : V G mL_law d 879 [.ref 1, .ref r1, .ref r2, .ref r3, .int x4, uV, uV] [] h o h' := by
  have hdd : d - 1 + 1 ≤ d := by omega
  refine v_aload_n (pc' := 880) dL_law_879 rfl rfl ?_
  refine v_aload_n (pc' := 881) dL_law_880 rfl rfl ?_
  refine v_iload (pc' := 883) dL_law_881 rfl rfl ?_
  refine v_iconst (pc' := 884) (v := 1) dL_law_883 rfl kI_1 ?_
  refine v_iadd (pc' := 885) dL_law_884 rfl ?_
  obtain ⟨q1, T⟩ := T
  refine v_sald (pc' := 886) dL_law_885 rfl rfl q1 ?_
  refine v_aload_n (pc' := 887) dL_law_886 rfl rfl ?_
  obtain ⟨z3, h2, k4, T⟩ := T
  refine v_callSW (pc' := 890) (M1 := mL_lost) (as := [.ref r1, .int (h.2 1 (x4 + 1).toNatClampNeg), .ref r3]) (rest := []) dL_law_887 rfl ko_L_146 kc_L_lost kt_L_lost (by decide) hdd rfl rfl (le_l rfl) k4 ?_
  refine v_istore (pc' := 892) (loc' := [.ref 1, .ref r1, .ref r2, .ref r3, .int x4, .int z3, uV]) dL_law_890 rfl (lt_l rfl) rfl ?_
  refine v_aload_n (pc' := 893) dL_law_892 rfl rfl ?_
  refine v_aload_n (pc' := 894) dL_law_893 rfl rfl ?_
  refine v_iload (pc' := 896) dL_law_894 rfl rfl ?_
  refine v_iconst (pc' := 897) (v := 1) dL_law_896 rfl kI_1 ?_
  refine v_iadd (pc' := 898) dL_law_897 rfl ?_
  obtain ⟨q5, T⟩ := T
  refine v_sald (pc' := 899) dL_law_898 rfl rfl q5 ?_
  obtain ⟨q9, T⟩ := T
  obtain ⟨z7, h6, k8, T⟩ := T
  refine v_callV (pc' := 902) (M1 := mX10_lost) (as := [.int (h2.2 1 (x4 + 1).toNatClampNeg)]) (r := r2) (rest := []) 8 dL_law_899 rfl ko_L_148 kc_X10_lost ki_X10_lost ks_X10_lost (by decide) (by decide) hdd rfl rfl (le_l rfl) q9 k8 ?_
  refine v_istore (pc' := 904) (loc' := [.ref 1, .ref r1, .ref r2, .ref r3, .int x4, .int z3, .int z7]) dL_law_902 rfl (lt_l rfl) rfl ?_
  refine v_aload_n (pc' := 905) dL_law_904 rfl rfl ?_
  obtain ⟨q13, T⟩ := T
  obtain ⟨z11, h10, k12, T⟩ := T
  refine v_callV (pc' := 908) (M1 := mX10_thrown) (as := []) (r := r2) (rest := []) 8 dL_law_905 rfl ko_L_109 kc_X10_thrown ki_X10_thrown ks_X10_thrown (by decide) (by decide) hdd rfl rfl (le_l rfl) q13 k12 ?_
  refine v_iload (pc' := 910) dL_law_908 rfl rfl ?_
  refine v_icmp_eq (tgt := 915) (pc' := 913) dL_law_910 (by decide) rfl ⟨fun c14 => ?_, fun c14 => ?_⟩
  · have T := T.1 c14
    refine v_iload (pc' := 917) dL_law_915 rfl rfl ?_
    refine v_if_ne (tgt := 932) (pc' := 920) dL_law_917 (by decide) rfl ⟨fun c15 => ?_, fun c15 => ?_⟩
    · have T := T.1 c15
      exact V.drop (llp_r (llp_r (llp_r (llp_r (llp_r (llp_u (llp_u llp_nil))))))) T
    · have T := T.2 c15
      refine v_aload_n (pc' := 921) dL_law_920 rfl rfl ?_
      refine v_iconst (pc' := 922) (v := 0) dL_law_921 rfl kI_0 ?_
      obtain ⟨q16, T⟩ := T
      obtain ⟨q17, T⟩ := T
      refine v_lald (pc' := 923) dL_law_922 rfl kN_0 q16 q17 ?_
      refine v_iload (pc' := 925) dL_law_923 rfl rfl ?_
      refine v_i2l (pc' := 926) dL_law_925 rfl ?_
      refine v_lcmp (pc' := 927) dL_law_926 rfl ?_
      refine v_if_eq (tgt := 932) (pc' := 930) dL_law_927 (by decide) rfl ⟨fun c18 => ?_, fun c18 => ?_⟩
      · have T := T.1 c18
        exact V.drop (llp_r (llp_r (llp_r (llp_r (llp_r (llp_u (llp_u llp_nil))))))) T
      · have T := T.2 c18
        refine v_iconst (pc' := 931) (v := 0) dL_law_930 rfl kI_0 ?_
        exact v_zret dL_law_931 rfl (Or.inl rfl) T
  · have T := T.2 c14
    refine v_iconst (pc' := 914) (v := 0) dL_law_913 rfl kI_0 ?_
    exact v_zret dL_law_914 rfl (Or.inl rfl) T
theorem bL_law_932 {G : GG} {d : Nat} {h : Hp} {o : OU} {h' : Hp} (r1 : Nat) (r2 : Nat) (r3 : Nat) (x4 : Int32) (T : V G mL_law d 2031 [.ref 1, .ref r1, .ref r2, .ref r3, .int x4, uV, uV] [] h o h') : V G mL_law d 932 [.ref 1, .ref r1, .ref r2, .ref r3, .int x4, uV, uV] [] h o h' := by
  refine v_goto (pc' := 2031) dL_law_932 (by decide) ?_
  exact T
theorem bL_law_935 {G : GG} {d : Nat} {h : Hp} {o : OU} {h' : Hp} (r1 : Nat) (r2 : Nat) (r3 : Nat) (x4 : Int32) (hd : 1 ≤ d) (T : vp_in (x4 + 1) (lH h 1) ∧ ∃ z3 h2, VMW G mL_broken (d - 1) [.ref r1, .int (h.2 1 (x4 + 1).toNatClampNeg), .ref r3] h (.inl (some (.int z3))) h2 ∧ vp_in (x4 + 1) (lH h2 1) ∧ kH h2 r2 = 18 ∧ ∃ z7 h6, VM G mX10_broken (d - 1) [.ref r2, .int (h2.2 1 (x4 + 1).toNatClampNeg)] h2 (.inl (some (.int z7))) h6 ∧ kH h6 r2 = 18 ∧ ∃ z11 h10, VM G mX10_thrown (d - 1) [.ref r2] h6 (.inl (some (.int z11))) h10 ∧ ((z11 = z3 → ((¬ z3 = 0 → V G mL_law d 988 [.ref 1, .ref r1, .ref r2, .ref r3, .int x4, uV, uV] [] h10 o h') ∧ (z3 = 0 → kH h10 r3 = 4 ∧ vp_in 0 (lH h10 r3) ∧ (((lg_cmp ((h10.2 r3 0).toInt64) z7.toInt64) = 0 → V G mL_law d 988 [.ref 1, .ref r1, .ref r2, .ref r3, .int x4, uV, uV] [] h10 o h') ∧ (¬ (lg_cmp ((h10.2 r3 0).toInt64) z7.toInt64) = 0 → (o = .inl (some (.int 0)) ∧ h' = h10)))))) ∧ (¬ z11 = z3 → (o = .inl (some (.int 0)) ∧ h' = h10)))) : V G mL_law d 935 [.ref 1, .ref r1, .ref r2, .ref r3, .int x4, uV, uV] [] h o h' := by
  have hdd : d - 1 + 1 ≤ d := by omega
  refine v_aload_n (pc' := 936) dL_law_935 rfl rfl ?_
  refine v_aload_n (pc' := 937) dL_law_936 rfl rfl ?_
  refine v_iload (pc' := 939) dL_law_937 rfl rfl ?_
  refine v_iconst (pc' := 940) (v := 1) dL_law_939 rfl kI_1 ?_
  refine v_iadd (pc' := 941) dL_law_940 rfl ?_
  obtain ⟨q1, T⟩ := T
  refine v_sald (pc' := 942) dL_law_941 rfl rfl q1 ?_
  refine v_aload_n (pc' := 943) dL_law_942 rfl rfl ?_
  obtain ⟨z3, h2, k4, T⟩ := T
  refine v_callSW (pc' := 946) (M1 := mL_broken) (as := [.ref r1, .int (h.2 1 (x4 + 1).toNatClampNeg), .ref r3]) (rest := []) dL_law_943 rfl ko_L_149 kc_L_broken kt_L_broken (by decide) hdd rfl rfl (le_l rfl) k4 ?_
  refine v_istore (pc' := 948) (loc' := [.ref 1, .ref r1, .ref r2, .ref r3, .int x4, .int z3, uV]) dL_law_946 rfl (lt_l rfl) rfl ?_
  refine v_aload_n (pc' := 949) dL_law_948 rfl rfl ?_
  refine v_aload_n (pc' := 950) dL_law_949 rfl rfl ?_
  refine v_iload (pc' := 952) dL_law_950 rfl rfl ?_
  refine v_iconst (pc' := 953) (v := 1) dL_law_952 rfl kI_1 ?_
  refine v_iadd (pc' := 954) dL_law_953 rfl ?_
  obtain ⟨q5, T⟩ := T
  refine v_sald (pc' := 955) dL_law_954 rfl rfl q5 ?_
  obtain ⟨q9, T⟩ := T
  obtain ⟨z7, h6, k8, T⟩ := T
  refine v_callV (pc' := 958) (M1 := mX10_broken) (as := [.int (h2.2 1 (x4 + 1).toNatClampNeg)]) (r := r2) (rest := []) 8 dL_law_955 rfl ko_L_151 kc_X10_broken ki_X10_broken ks_X10_broken (by decide) (by decide) hdd rfl rfl (le_l rfl) q9 k8 ?_
  refine v_istore (pc' := 960) (loc' := [.ref 1, .ref r1, .ref r2, .ref r3, .int x4, .int z3, .int z7]) dL_law_958 rfl (lt_l rfl) rfl ?_
  refine v_aload_n (pc' := 961) dL_law_960 rfl rfl ?_
  obtain ⟨q13, T⟩ := T
  obtain ⟨z11, h10, k12, T⟩ := T
  refine v_callV (pc' := 964) (M1 := mX10_thrown) (as := []) (r := r2) (rest := []) 8 dL_law_961 rfl ko_L_109 kc_X10_thrown ki_X10_thrown ks_X10_thrown (by decide) (by decide) hdd rfl rfl (le_l rfl) q13 k12 ?_
  refine v_iload (pc' := 966) dL_law_964 rfl rfl ?_
  refine v_icmp_eq (tgt := 971) (pc' := 969) dL_law_966 (by decide) rfl ⟨fun c14 => ?_, fun c14 => ?_⟩
  · have T := T.1 c14
    refine v_iload (pc' := 973) dL_law_971 rfl rfl ?_
    refine v_if_ne (tgt := 988) (pc' := 976) dL_law_973 (by decide) rfl ⟨fun c15 => ?_, fun c15 => ?_⟩
    · have T := T.1 c15
      exact V.drop (llp_r (llp_r (llp_r (llp_r (llp_r (llp_u (llp_u llp_nil))))))) T
    · have T := T.2 c15
      refine v_aload_n (pc' := 977) dL_law_976 rfl rfl ?_
      refine v_iconst (pc' := 978) (v := 0) dL_law_977 rfl kI_0 ?_
      obtain ⟨q16, T⟩ := T
      obtain ⟨q17, T⟩ := T
      refine v_lald (pc' := 979) dL_law_978 rfl kN_0 q16 q17 ?_
      refine v_iload (pc' := 981) dL_law_979 rfl rfl ?_
      refine v_i2l (pc' := 982) dL_law_981 rfl ?_
      refine v_lcmp (pc' := 983) dL_law_982 rfl ?_
      refine v_if_eq (tgt := 988) (pc' := 986) dL_law_983 (by decide) rfl ⟨fun c18 => ?_, fun c18 => ?_⟩
      · have T := T.1 c18
        exact V.drop (llp_r (llp_r (llp_r (llp_r (llp_r (llp_u (llp_u llp_nil))))))) T
      · have T := T.2 c18
        refine v_iconst (pc' := 987) (v := 0) dL_law_986 rfl kI_0 ?_
        exact v_zret dL_law_987 rfl (Or.inl rfl) T
  · have T := T.2 c14
    refine v_iconst (pc' := 970) (v := 0) dL_law_969 rfl kI_0 ?_
    exact v_zret dL_law_970 rfl (Or.inl rfl) T
theorem bL_law_988 {G : GG} {d : Nat} {h : Hp} {o : OU} {h' : Hp} (r1 : Nat) (r2 : Nat) (r3 : Nat) (x4 : Int32) (T : V G mL_law d 2031 [.ref 1, .ref r1, .ref r2, .ref r3, .int x4, uV, uV] [] h o h') : V G mL_law d 988 [.ref 1, .ref r1, .ref r2, .ref r3, .int x4, uV, uV] [] h o h' := by
  refine v_goto (pc' := 2031) dL_law_988 (by decide) ?_
  exact T
theorem bL_law_991 {G : GG} {d : Nat} {h : Hp} {o : OU} {h' : Hp} (r1 : Nat) (r2 : Nat) (r3 : Nat) (x4 : Int32) (hd : 1 ≤ d) (T : vp_in (x4 + 1) (lH h 1) ∧ vp_in (x4 + 2) (lH h 1) ∧ ∃ z4 h3, VMW G mL_under (d - 1) [.ref r1, .int (h.2 1 (x4 + 1).toNatClampNeg), .int (h.2 1 (x4 + 2).toNatClampNeg), .ref r3] h (.inl (some (.int z4))) h3 ∧ vp_in (x4 + 1) (lH h3 1) ∧ vp_in (x4 + 2) (lH h3 1) ∧ kH h3 r2 = 18 ∧ ∃ z9 h8, VM G mX10_under (d - 1) [.ref r2, .int (h3.2 1 (x4 + 1).toNatClampNeg), .int (h3.2 1 (x4 + 2).toNatClampNeg)] h3 (.inl (some (.int z9))) h8 ∧ kH h8 r2 = 18 ∧ ∃ z13 h12, VM G mX10_thrown (d - 1) [.ref r2] h8 (.inl (some (.int z13))) h12 ∧ ((z13 = z4 → ((¬ z4 = 0 → V G mL_law d 1056 [.ref 1, .ref r1, .ref r2, .ref r3, .int x4, uV, uV] [] h12 o h') ∧ (z4 = 0 → kH h12 r3 = 4 ∧ vp_in 0 (lH h12 r3) ∧ (((lg_cmp ((h12.2 r3 0).toInt64) z9.toInt64) = 0 → V G mL_law d 1056 [.ref 1, .ref r1, .ref r2, .ref r3, .int x4, uV, uV] [] h12 o h') ∧ (¬ (lg_cmp ((h12.2 r3 0).toInt64) z9.toInt64) = 0 → (o = .inl (some (.int 0)) ∧ h' = h12)))))) ∧ (¬ z13 = z4 → (o = .inl (some (.int 0)) ∧ h' = h12)))) : V G mL_law d 991 [.ref 1, .ref r1, .ref r2, .ref r3, .int x4, uV, uV] [] h o h' := by
  have hdd : d - 1 + 1 ≤ d := by omega
  refine v_aload_n (pc' := 992) dL_law_991 rfl rfl ?_
  refine v_aload_n (pc' := 993) dL_law_992 rfl rfl ?_
  refine v_iload (pc' := 995) dL_law_993 rfl rfl ?_
  refine v_iconst (pc' := 996) (v := 1) dL_law_995 rfl kI_1 ?_
  refine v_iadd (pc' := 997) dL_law_996 rfl ?_
  obtain ⟨q1, T⟩ := T
  refine v_sald (pc' := 998) dL_law_997 rfl rfl q1 ?_
  refine v_aload_n (pc' := 999) dL_law_998 rfl rfl ?_
  refine v_iload (pc' := 1001) dL_law_999 rfl rfl ?_
  refine v_iconst (pc' := 1002) (v := 2) dL_law_1001 rfl kI_2 ?_
  refine v_iadd (pc' := 1003) dL_law_1002 rfl ?_
  obtain ⟨q2, T⟩ := T
  refine v_sald (pc' := 1004) dL_law_1003 rfl rfl q2 ?_
  refine v_aload_n (pc' := 1005) dL_law_1004 rfl rfl ?_
  obtain ⟨z4, h3, k5, T⟩ := T
  refine v_callSW (pc' := 1008) (M1 := mL_under) (as := [.ref r1, .int (h.2 1 (x4 + 1).toNatClampNeg), .int (h.2 1 (x4 + 2).toNatClampNeg), .ref r3]) (rest := []) dL_law_1005 rfl ko_L_152 kc_L_under kt_L_under (by decide) hdd rfl rfl (le_l rfl) k5 ?_
  refine v_istore (pc' := 1010) (loc' := [.ref 1, .ref r1, .ref r2, .ref r3, .int x4, .int z4, uV]) dL_law_1008 rfl (lt_l rfl) rfl ?_
  refine v_aload_n (pc' := 1011) dL_law_1010 rfl rfl ?_
  refine v_aload_n (pc' := 1012) dL_law_1011 rfl rfl ?_
  refine v_iload (pc' := 1014) dL_law_1012 rfl rfl ?_
  refine v_iconst (pc' := 1015) (v := 1) dL_law_1014 rfl kI_1 ?_
  refine v_iadd (pc' := 1016) dL_law_1015 rfl ?_
  obtain ⟨q6, T⟩ := T
  refine v_sald (pc' := 1017) dL_law_1016 rfl rfl q6 ?_
  refine v_aload_n (pc' := 1018) dL_law_1017 rfl rfl ?_
  refine v_iload (pc' := 1020) dL_law_1018 rfl rfl ?_
  refine v_iconst (pc' := 1021) (v := 2) dL_law_1020 rfl kI_2 ?_
  refine v_iadd (pc' := 1022) dL_law_1021 rfl ?_
  obtain ⟨q7, T⟩ := T
  refine v_sald (pc' := 1023) dL_law_1022 rfl rfl q7 ?_
  obtain ⟨q11, T⟩ := T
  obtain ⟨z9, h8, k10, T⟩ := T
  refine v_callV (pc' := 1026) (M1 := mX10_under) (as := [.int (h3.2 1 (x4 + 1).toNatClampNeg), .int (h3.2 1 (x4 + 2).toNatClampNeg)]) (r := r2) (rest := []) 8 dL_law_1023 rfl ko_L_155 kc_X10_under ki_X10_under ks_X10_under (by decide) (by decide) hdd rfl rfl (le_l rfl) q11 k10 ?_
  refine v_istore (pc' := 1028) (loc' := [.ref 1, .ref r1, .ref r2, .ref r3, .int x4, .int z4, .int z9]) dL_law_1026 rfl (lt_l rfl) rfl ?_
  refine v_aload_n (pc' := 1029) dL_law_1028 rfl rfl ?_
  obtain ⟨q15, T⟩ := T
  obtain ⟨z13, h12, k14, T⟩ := T
  refine v_callV (pc' := 1032) (M1 := mX10_thrown) (as := []) (r := r2) (rest := []) 8 dL_law_1029 rfl ko_L_109 kc_X10_thrown ki_X10_thrown ks_X10_thrown (by decide) (by decide) hdd rfl rfl (le_l rfl) q15 k14 ?_
  refine v_iload (pc' := 1034) dL_law_1032 rfl rfl ?_
  refine v_icmp_eq (tgt := 1039) (pc' := 1037) dL_law_1034 (by decide) rfl ⟨fun c16 => ?_, fun c16 => ?_⟩
  · have T := T.1 c16
    refine v_iload (pc' := 1041) dL_law_1039 rfl rfl ?_
    refine v_if_ne (tgt := 1056) (pc' := 1044) dL_law_1041 (by decide) rfl ⟨fun c17 => ?_, fun c17 => ?_⟩
    · have T := T.1 c17
      exact V.drop (llp_r (llp_r (llp_r (llp_r (llp_r (llp_u (llp_u llp_nil))))))) T
    · have T := T.2 c17
      refine v_aload_n (pc' := 1045) dL_law_1044 rfl rfl ?_
      refine v_iconst (pc' := 1046) (v := 0) dL_law_1045 rfl kI_0 ?_
      obtain ⟨q18, T⟩ := T
      obtain ⟨q19, T⟩ := T
      refine v_lald (pc' := 1047) dL_law_1046 rfl kN_0 q18 q19 ?_
      refine v_iload (pc' := 1049) dL_law_1047 rfl rfl ?_
      refine v_i2l (pc' := 1050) dL_law_1049 rfl ?_
      refine v_lcmp (pc' := 1051) dL_law_1050 rfl ?_
      refine v_if_eq (tgt := 1056) (pc' := 1054) dL_law_1051 (by decide) rfl ⟨fun c20 => ?_, fun c20 => ?_⟩
      · have T := T.1 c20
        exact V.drop (llp_r (llp_r (llp_r (llp_r (llp_r (llp_u (llp_u llp_nil))))))) T
      · have T := T.2 c20
        refine v_iconst (pc' := 1055) (v := 0) dL_law_1054 rfl kI_0 ?_
        exact v_zret dL_law_1055 rfl (Or.inl rfl) T
  · have T := T.2 c16
    refine v_iconst (pc' := 1038) (v := 0) dL_law_1037 rfl kI_0 ?_
    exact v_zret dL_law_1038 rfl (Or.inl rfl) T
theorem bL_law_1056 {G : GG} {d : Nat} {h : Hp} {o : OU} {h' : Hp} (r1 : Nat) (r2 : Nat) (r3 : Nat) (x4 : Int32) (T : V G mL_law d 2031 [.ref 1, .ref r1, .ref r2, .ref r3, .int x4, uV, uV] [] h o h') : V G mL_law d 1056 [.ref 1, .ref r1, .ref r2, .ref r3, .int x4, uV, uV] [] h o h' := by
  refine v_goto (pc' := 2031) dL_law_1056 (by decide) ?_
  exact T
theorem bL_law_1059 {G : GG} {d : Nat} {h : Hp} {o : OU} {h' : Hp} (r1 : Nat) (r2 : Nat) (r3 : Nat) (x4 : Int32) (hd : 1 ≤ d) (T : vp_in (x4 + 1) (lH h 1) ∧ vp_in (x4 + 2) (lH h 1) ∧ ∃ z4 h3, VMW G mL_deep (d - 1) [.ref r1, .int (h.2 1 (x4 + 1).toNatClampNeg), .int (h.2 1 (x4 + 2).toNatClampNeg), .ref r3] h (.inl (some (.int z4))) h3 ∧ vp_in (x4 + 1) (lH h3 1) ∧ vp_in (x4 + 2) (lH h3 1) ∧ kH h3 r2 = 18 ∧ ∃ z9 h8, VM G mX10_deep (d - 1) [.ref r2, .int (h3.2 1 (x4 + 1).toNatClampNeg), .int (h3.2 1 (x4 + 2).toNatClampNeg)] h3 (.inl (some (.int z9))) h8 ∧ kH h8 r2 = 18 ∧ ∃ z13 h12, VM G mX10_thrown (d - 1) [.ref r2] h8 (.inl (some (.int z13))) h12 ∧ ((z13 = z4 → ((¬ z4 = 0 → V G mL_law d 1124 [.ref 1, .ref r1, .ref r2, .ref r3, .int x4, uV, uV] [] h12 o h') ∧ (z4 = 0 → kH h12 r3 = 4 ∧ vp_in 0 (lH h12 r3) ∧ (((lg_cmp ((h12.2 r3 0).toInt64) z9.toInt64) = 0 → V G mL_law d 1124 [.ref 1, .ref r1, .ref r2, .ref r3, .int x4, uV, uV] [] h12 o h') ∧ (¬ (lg_cmp ((h12.2 r3 0).toInt64) z9.toInt64) = 0 → (o = .inl (some (.int 0)) ∧ h' = h12)))))) ∧ (¬ z13 = z4 → (o = .inl (some (.int 0)) ∧ h' = h12)))) : V G mL_law d 1059 [.ref 1, .ref r1, .ref r2, .ref r3, .int x4, uV, uV] [] h o h' := by
  have hdd : d - 1 + 1 ≤ d := by omega
  refine v_aload_n (pc' := 1060) dL_law_1059 rfl rfl ?_
  refine v_aload_n (pc' := 1061) dL_law_1060 rfl rfl ?_
  refine v_iload (pc' := 1063) dL_law_1061 rfl rfl ?_
  refine v_iconst (pc' := 1064) (v := 1) dL_law_1063 rfl kI_1 ?_
  refine v_iadd (pc' := 1065) dL_law_1064 rfl ?_
  obtain ⟨q1, T⟩ := T
  refine v_sald (pc' := 1066) dL_law_1065 rfl rfl q1 ?_
  refine v_aload_n (pc' := 1067) dL_law_1066 rfl rfl ?_
  refine v_iload (pc' := 1069) dL_law_1067 rfl rfl ?_
  refine v_iconst (pc' := 1070) (v := 2) dL_law_1069 rfl kI_2 ?_
  refine v_iadd (pc' := 1071) dL_law_1070 rfl ?_
  obtain ⟨q2, T⟩ := T
  refine v_sald (pc' := 1072) dL_law_1071 rfl rfl q2 ?_
  refine v_aload_n (pc' := 1073) dL_law_1072 rfl rfl ?_
  obtain ⟨z4, h3, k5, T⟩ := T
  refine v_callSW (pc' := 1076) (M1 := mL_deep) (as := [.ref r1, .int (h.2 1 (x4 + 1).toNatClampNeg), .int (h.2 1 (x4 + 2).toNatClampNeg), .ref r3]) (rest := []) dL_law_1073 rfl ko_L_156 kc_L_deep kt_L_deep (by decide) hdd rfl rfl (le_l rfl) k5 ?_
  refine v_istore (pc' := 1078) (loc' := [.ref 1, .ref r1, .ref r2, .ref r3, .int x4, .int z4, uV]) dL_law_1076 rfl (lt_l rfl) rfl ?_
  refine v_aload_n (pc' := 1079) dL_law_1078 rfl rfl ?_
  refine v_aload_n (pc' := 1080) dL_law_1079 rfl rfl ?_
  refine v_iload (pc' := 1082) dL_law_1080 rfl rfl ?_
  refine v_iconst (pc' := 1083) (v := 1) dL_law_1082 rfl kI_1 ?_
  refine v_iadd (pc' := 1084) dL_law_1083 rfl ?_
  obtain ⟨q6, T⟩ := T
  refine v_sald (pc' := 1085) dL_law_1084 rfl rfl q6 ?_
  refine v_aload_n (pc' := 1086) dL_law_1085 rfl rfl ?_
  refine v_iload (pc' := 1088) dL_law_1086 rfl rfl ?_
  refine v_iconst (pc' := 1089) (v := 2) dL_law_1088 rfl kI_2 ?_
  refine v_iadd (pc' := 1090) dL_law_1089 rfl ?_
  obtain ⟨q7, T⟩ := T
  refine v_sald (pc' := 1091) dL_law_1090 rfl rfl q7 ?_
  obtain ⟨q11, T⟩ := T
  obtain ⟨z9, h8, k10, T⟩ := T
  refine v_callV (pc' := 1094) (M1 := mX10_deep) (as := [.int (h3.2 1 (x4 + 1).toNatClampNeg), .int (h3.2 1 (x4 + 2).toNatClampNeg)]) (r := r2) (rest := []) 8 dL_law_1091 rfl ko_L_158 kc_X10_deep ki_X10_deep ks_X10_deep (by decide) (by decide) hdd rfl rfl (le_l rfl) q11 k10 ?_
  refine v_istore (pc' := 1096) (loc' := [.ref 1, .ref r1, .ref r2, .ref r3, .int x4, .int z4, .int z9]) dL_law_1094 rfl (lt_l rfl) rfl ?_
  refine v_aload_n (pc' := 1097) dL_law_1096 rfl rfl ?_
  obtain ⟨q15, T⟩ := T
  obtain ⟨z13, h12, k14, T⟩ := T
  refine v_callV (pc' := 1100) (M1 := mX10_thrown) (as := []) (r := r2) (rest := []) 8 dL_law_1097 rfl ko_L_109 kc_X10_thrown ki_X10_thrown ks_X10_thrown (by decide) (by decide) hdd rfl rfl (le_l rfl) q15 k14 ?_
  refine v_iload (pc' := 1102) dL_law_1100 rfl rfl ?_
  refine v_icmp_eq (tgt := 1107) (pc' := 1105) dL_law_1102 (by decide) rfl ⟨fun c16 => ?_, fun c16 => ?_⟩
  · have T := T.1 c16
    refine v_iload (pc' := 1109) dL_law_1107 rfl rfl ?_
    refine v_if_ne (tgt := 1124) (pc' := 1112) dL_law_1109 (by decide) rfl ⟨fun c17 => ?_, fun c17 => ?_⟩
    · have T := T.1 c17
      exact V.drop (llp_r (llp_r (llp_r (llp_r (llp_r (llp_u (llp_u llp_nil))))))) T
    · have T := T.2 c17
      refine v_aload_n (pc' := 1113) dL_law_1112 rfl rfl ?_
      refine v_iconst (pc' := 1114) (v := 0) dL_law_1113 rfl kI_0 ?_
      obtain ⟨q18, T⟩ := T
      obtain ⟨q19, T⟩ := T
      refine v_lald (pc' := 1115) dL_law_1114 rfl kN_0 q18 q19 ?_
      refine v_iload (pc' := 1117) dL_law_1115 rfl rfl ?_
      refine v_i2l (pc' := 1118) dL_law_1117 rfl ?_
      refine v_lcmp (pc' := 1119) dL_law_1118 rfl ?_
      refine v_if_eq (tgt := 1124) (pc' := 1122) dL_law_1119 (by decide) rfl ⟨fun c20 => ?_, fun c20 => ?_⟩
      · have T := T.1 c20
        exact V.drop (llp_r (llp_r (llp_r (llp_r (llp_r (llp_u (llp_u llp_nil))))))) T
      · have T := T.2 c20
        refine v_iconst (pc' := 1123) (v := 0) dL_law_1122 rfl kI_0 ?_
        exact v_zret dL_law_1123 rfl (Or.inl rfl) T
  · have T := T.2 c16
    refine v_iconst (pc' := 1106) (v := 0) dL_law_1105 rfl kI_0 ?_
    exact v_zret dL_law_1106 rfl (Or.inl rfl) T
theorem bL_law_1124 {G : GG} {d : Nat} {h : Hp} {o : OU} {h' : Hp} (r1 : Nat) (r2 : Nat) (r3 : Nat) (x4 : Int32) (T : V G mL_law d 2031 [.ref 1, .ref r1, .ref r2, .ref r3, .int x4, uV, uV] [] h o h') : V G mL_law d 1124 [.ref 1, .ref r1, .ref r2, .ref r3, .int x4, uV, uV] [] h o h' := by
  refine v_goto (pc' := 2031) dL_law_1124 (by decide) ?_
  exact T
theorem bL_law_1127 {G : GG} {d : Nat} {h : Hp} {o : OU} {h' : Hp} (r1 : Nat) (r2 : Nat) (r3 : Nat) (x4 : Int32) (hd : 1 ≤ d) (T : vp_in (x4 + 1) (lH h 1) ∧ vp_in (x4 + 2) (lH h 1) ∧ ∃ z4 h3, VMW G mL_change (d - 1) [.ref r1, .int (h.2 1 (x4 + 1).toNatClampNeg), .int (h.2 1 (x4 + 2).toNatClampNeg), .ref r3] h (.inl (some (.int z4))) h3 ∧ vp_in (x4 + 1) (lH h3 1) ∧ vp_in (x4 + 2) (lH h3 1) ∧ kH h3 r2 = 18 ∧ ∃ z9 h8, VM G mX10_change (d - 1) [.ref r2, .int (h3.2 1 (x4 + 1).toNatClampNeg), .int (h3.2 1 (x4 + 2).toNatClampNeg)] h3 (.inl (some (.int z9))) h8 ∧ kH h8 r2 = 18 ∧ ∃ z13 h12, VM G mX10_thrown (d - 1) [.ref r2] h8 (.inl (some (.int z13))) h12 ∧ ((z13 = z4 → ((¬ z4 = 0 → V G mL_law d 1192 [.ref 1, .ref r1, .ref r2, .ref r3, .int x4, uV, uV] [] h12 o h') ∧ (z4 = 0 → kH h12 r3 = 4 ∧ vp_in 0 (lH h12 r3) ∧ (((lg_cmp ((h12.2 r3 0).toInt64) z9.toInt64) = 0 → V G mL_law d 1192 [.ref 1, .ref r1, .ref r2, .ref r3, .int x4, uV, uV] [] h12 o h') ∧ (¬ (lg_cmp ((h12.2 r3 0).toInt64) z9.toInt64) = 0 → (o = .inl (some (.int 0)) ∧ h' = h12)))))) ∧ (¬ z13 = z4 → (o = .inl (some (.int 0)) ∧ h' = h12)))) : V G mL_law d 1127 [.ref 1, .ref r1, .ref r2, .ref r3, .int x4, uV, uV] [] h o h' := by
  have hdd : d - 1 + 1 ≤ d := by omega
  refine v_aload_n (pc' := 1128) dL_law_1127 rfl rfl ?_
  refine v_aload_n (pc' := 1129) dL_law_1128 rfl rfl ?_
  refine v_iload (pc' := 1131) dL_law_1129 rfl rfl ?_
  refine v_iconst (pc' := 1132) (v := 1) dL_law_1131 rfl kI_1 ?_
  refine v_iadd (pc' := 1133) dL_law_1132 rfl ?_
  obtain ⟨q1, T⟩ := T
  refine v_sald (pc' := 1134) dL_law_1133 rfl rfl q1 ?_
  refine v_aload_n (pc' := 1135) dL_law_1134 rfl rfl ?_
  refine v_iload (pc' := 1137) dL_law_1135 rfl rfl ?_
  refine v_iconst (pc' := 1138) (v := 2) dL_law_1137 rfl kI_2 ?_
  refine v_iadd (pc' := 1139) dL_law_1138 rfl ?_
  obtain ⟨q2, T⟩ := T
  refine v_sald (pc' := 1140) dL_law_1139 rfl rfl q2 ?_
  refine v_aload_n (pc' := 1141) dL_law_1140 rfl rfl ?_
  obtain ⟨z4, h3, k5, T⟩ := T
  refine v_callSW (pc' := 1144) (M1 := mL_change) (as := [.ref r1, .int (h.2 1 (x4 + 1).toNatClampNeg), .int (h.2 1 (x4 + 2).toNatClampNeg), .ref r3]) (rest := []) dL_law_1141 rfl ko_L_159 kc_L_change kt_L_change (by decide) hdd rfl rfl (le_l rfl) k5 ?_
  refine v_istore (pc' := 1146) (loc' := [.ref 1, .ref r1, .ref r2, .ref r3, .int x4, .int z4, uV]) dL_law_1144 rfl (lt_l rfl) rfl ?_
  refine v_aload_n (pc' := 1147) dL_law_1146 rfl rfl ?_
  refine v_aload_n (pc' := 1148) dL_law_1147 rfl rfl ?_
  refine v_iload (pc' := 1150) dL_law_1148 rfl rfl ?_
  refine v_iconst (pc' := 1151) (v := 1) dL_law_1150 rfl kI_1 ?_
  refine v_iadd (pc' := 1152) dL_law_1151 rfl ?_
  obtain ⟨q6, T⟩ := T
  refine v_sald (pc' := 1153) dL_law_1152 rfl rfl q6 ?_
  refine v_aload_n (pc' := 1154) dL_law_1153 rfl rfl ?_
  refine v_iload (pc' := 1156) dL_law_1154 rfl rfl ?_
  refine v_iconst (pc' := 1157) (v := 2) dL_law_1156 rfl kI_2 ?_
  refine v_iadd (pc' := 1158) dL_law_1157 rfl ?_
  obtain ⟨q7, T⟩ := T
  refine v_sald (pc' := 1159) dL_law_1158 rfl rfl q7 ?_
  obtain ⟨q11, T⟩ := T
  obtain ⟨z9, h8, k10, T⟩ := T
  refine v_callV (pc' := 1162) (M1 := mX10_change) (as := [.int (h3.2 1 (x4 + 1).toNatClampNeg), .int (h3.2 1 (x4 + 2).toNatClampNeg)]) (r := r2) (rest := []) 8 dL_law_1159 rfl ko_L_161 kc_X10_change ki_X10_change ks_X10_change (by decide) (by decide) hdd rfl rfl (le_l rfl) q11 k10 ?_
  refine v_istore (pc' := 1164) (loc' := [.ref 1, .ref r1, .ref r2, .ref r3, .int x4, .int z4, .int z9]) dL_law_1162 rfl (lt_l rfl) rfl ?_
  refine v_aload_n (pc' := 1165) dL_law_1164 rfl rfl ?_
  obtain ⟨q15, T⟩ := T
  obtain ⟨z13, h12, k14, T⟩ := T
  refine v_callV (pc' := 1168) (M1 := mX10_thrown) (as := []) (r := r2) (rest := []) 8 dL_law_1165 rfl ko_L_109 kc_X10_thrown ki_X10_thrown ks_X10_thrown (by decide) (by decide) hdd rfl rfl (le_l rfl) q15 k14 ?_
  refine v_iload (pc' := 1170) dL_law_1168 rfl rfl ?_
  refine v_icmp_eq (tgt := 1175) (pc' := 1173) dL_law_1170 (by decide) rfl ⟨fun c16 => ?_, fun c16 => ?_⟩
  · have T := T.1 c16
    refine v_iload (pc' := 1177) dL_law_1175 rfl rfl ?_
    refine v_if_ne (tgt := 1192) (pc' := 1180) dL_law_1177 (by decide) rfl ⟨fun c17 => ?_, fun c17 => ?_⟩
    · have T := T.1 c17
      exact V.drop (llp_r (llp_r (llp_r (llp_r (llp_r (llp_u (llp_u llp_nil))))))) T
    · have T := T.2 c17
      refine v_aload_n (pc' := 1181) dL_law_1180 rfl rfl ?_
      refine v_iconst (pc' := 1182) (v := 0) dL_law_1181 rfl kI_0 ?_
      obtain ⟨q18, T⟩ := T
      obtain ⟨q19, T⟩ := T
      refine v_lald (pc' := 1183) dL_law_1182 rfl kN_0 q18 q19 ?_
      refine v_iload (pc' := 1185) dL_law_1183 rfl rfl ?_
      refine v_i2l (pc' := 1186) dL_law_1185 rfl ?_
      refine v_lcmp (pc' := 1187) dL_law_1186 rfl ?_
      refine v_if_eq (tgt := 1192) (pc' := 1190) dL_law_1187 (by decide) rfl ⟨fun c20 => ?_, fun c20 => ?_⟩
      · have T := T.1 c20
        exact V.drop (llp_r (llp_r (llp_r (llp_r (llp_r (llp_u (llp_u llp_nil))))))) T
      · have T := T.2 c20
        refine v_iconst (pc' := 1191) (v := 0) dL_law_1190 rfl kI_0 ?_
        exact v_zret dL_law_1191 rfl (Or.inl rfl) T
  · have T := T.2 c16
    refine v_iconst (pc' := 1174) (v := 0) dL_law_1173 rfl kI_0 ?_
    exact v_zret dL_law_1174 rfl (Or.inl rfl) T
theorem bL_law_1192 {G : GG} {d : Nat} {h : Hp} {o : OU} {h' : Hp} (r1 : Nat) (r2 : Nat) (r3 : Nat) (x4 : Int32) (T : V G mL_law d 2031 [.ref 1, .ref r1, .ref r2, .ref r3, .int x4, uV, uV] [] h o h') : V G mL_law d 1192 [.ref 1, .ref r1, .ref r2, .ref r3, .int x4, uV, uV] [] h o h' := by
  refine v_goto (pc' := 2031) dL_law_1192 (by decide) ?_
  exact T
theorem bL_law_1195 {G : GG} {d : Nat} {h : Hp} {o : OU} {h' : Hp} (r1 : Nat) (r2 : Nat) (r3 : Nat) (x4 : Int32) (hd : 1 ≤ d) (T : vp_in (x4 + 1) (lH h 1) ∧ ∃ z3 h2, VMW G mL_held (d - 1) [.ref r1, .int (h.2 1 (x4 + 1).toNatClampNeg), .ref r3] h (.inl (some (.int z3))) h2 ∧ vp_in (x4 + 1) (lH h2 1) ∧ kH h2 r2 = 18 ∧ ∃ z7 h6, VM G mX10_held (d - 1) [.ref r2, .int (h2.2 1 (x4 + 1).toNatClampNeg)] h2 (.inl (some (.int z7))) h6 ∧ kH h6 r2 = 18 ∧ ∃ z11 h10, VM G mX10_thrown (d - 1) [.ref r2] h6 (.inl (some (.int z11))) h10 ∧ ((z11 = z3 → ((¬ z3 = 0 → V G mL_law d 1248 [.ref 1, .ref r1, .ref r2, .ref r3, .int x4, uV, uV] [] h10 o h') ∧ (z3 = 0 → kH h10 r3 = 4 ∧ vp_in 0 (lH h10 r3) ∧ (((lg_cmp ((h10.2 r3 0).toInt64) z7.toInt64) = 0 → V G mL_law d 1248 [.ref 1, .ref r1, .ref r2, .ref r3, .int x4, uV, uV] [] h10 o h') ∧ (¬ (lg_cmp ((h10.2 r3 0).toInt64) z7.toInt64) = 0 → (o = .inl (some (.int 0)) ∧ h' = h10)))))) ∧ (¬ z11 = z3 → (o = .inl (some (.int 0)) ∧ h' = h10)))) : V G mL_law d 1195 [.ref 1, .ref r1, .ref r2, .ref r3, .int x4, uV, uV] [] h o h' := by
  have hdd : d - 1 + 1 ≤ d := by omega
  refine v_aload_n (pc' := 1196) dL_law_1195 rfl rfl ?_
  refine v_aload_n (pc' := 1197) dL_law_1196 rfl rfl ?_
  refine v_iload (pc' := 1199) dL_law_1197 rfl rfl ?_
  refine v_iconst (pc' := 1200) (v := 1) dL_law_1199 rfl kI_1 ?_
  refine v_iadd (pc' := 1201) dL_law_1200 rfl ?_
  obtain ⟨q1, T⟩ := T
  refine v_sald (pc' := 1202) dL_law_1201 rfl rfl q1 ?_
  refine v_aload_n (pc' := 1203) dL_law_1202 rfl rfl ?_
  obtain ⟨z3, h2, k4, T⟩ := T
  refine v_callSW (pc' := 1206) (M1 := mL_held) (as := [.ref r1, .int (h.2 1 (x4 + 1).toNatClampNeg), .ref r3]) (rest := []) dL_law_1203 rfl ko_L_162 kc_L_held kt_L_held (by decide) hdd rfl rfl (le_l rfl) k4 ?_
  refine v_istore (pc' := 1208) (loc' := [.ref 1, .ref r1, .ref r2, .ref r3, .int x4, .int z3, uV]) dL_law_1206 rfl (lt_l rfl) rfl ?_
  refine v_aload_n (pc' := 1209) dL_law_1208 rfl rfl ?_
  refine v_aload_n (pc' := 1210) dL_law_1209 rfl rfl ?_
  refine v_iload (pc' := 1212) dL_law_1210 rfl rfl ?_
  refine v_iconst (pc' := 1213) (v := 1) dL_law_1212 rfl kI_1 ?_
  refine v_iadd (pc' := 1214) dL_law_1213 rfl ?_
  obtain ⟨q5, T⟩ := T
  refine v_sald (pc' := 1215) dL_law_1214 rfl rfl q5 ?_
  obtain ⟨q9, T⟩ := T
  obtain ⟨z7, h6, k8, T⟩ := T
  refine v_callV (pc' := 1218) (M1 := mX10_held) (as := [.int (h2.2 1 (x4 + 1).toNatClampNeg)]) (r := r2) (rest := []) 8 dL_law_1215 rfl ko_L_164 kc_X10_held ki_X10_held ks_X10_held (by decide) (by decide) hdd rfl rfl (le_l rfl) q9 k8 ?_
  refine v_istore (pc' := 1220) (loc' := [.ref 1, .ref r1, .ref r2, .ref r3, .int x4, .int z3, .int z7]) dL_law_1218 rfl (lt_l rfl) rfl ?_
  refine v_aload_n (pc' := 1221) dL_law_1220 rfl rfl ?_
  obtain ⟨q13, T⟩ := T
  obtain ⟨z11, h10, k12, T⟩ := T
  refine v_callV (pc' := 1224) (M1 := mX10_thrown) (as := []) (r := r2) (rest := []) 8 dL_law_1221 rfl ko_L_109 kc_X10_thrown ki_X10_thrown ks_X10_thrown (by decide) (by decide) hdd rfl rfl (le_l rfl) q13 k12 ?_
  refine v_iload (pc' := 1226) dL_law_1224 rfl rfl ?_
  refine v_icmp_eq (tgt := 1231) (pc' := 1229) dL_law_1226 (by decide) rfl ⟨fun c14 => ?_, fun c14 => ?_⟩
  · have T := T.1 c14
    refine v_iload (pc' := 1233) dL_law_1231 rfl rfl ?_
    refine v_if_ne (tgt := 1248) (pc' := 1236) dL_law_1233 (by decide) rfl ⟨fun c15 => ?_, fun c15 => ?_⟩
    · have T := T.1 c15
      exact V.drop (llp_r (llp_r (llp_r (llp_r (llp_r (llp_u (llp_u llp_nil))))))) T
    · have T := T.2 c15
      refine v_aload_n (pc' := 1237) dL_law_1236 rfl rfl ?_
      refine v_iconst (pc' := 1238) (v := 0) dL_law_1237 rfl kI_0 ?_
      obtain ⟨q16, T⟩ := T
      obtain ⟨q17, T⟩ := T
      refine v_lald (pc' := 1239) dL_law_1238 rfl kN_0 q16 q17 ?_
      refine v_iload (pc' := 1241) dL_law_1239 rfl rfl ?_
      refine v_i2l (pc' := 1242) dL_law_1241 rfl ?_
      refine v_lcmp (pc' := 1243) dL_law_1242 rfl ?_
      refine v_if_eq (tgt := 1248) (pc' := 1246) dL_law_1243 (by decide) rfl ⟨fun c18 => ?_, fun c18 => ?_⟩
      · have T := T.1 c18
        exact V.drop (llp_r (llp_r (llp_r (llp_r (llp_r (llp_u (llp_u llp_nil))))))) T
      · have T := T.2 c18
        refine v_iconst (pc' := 1247) (v := 0) dL_law_1246 rfl kI_0 ?_
        exact v_zret dL_law_1247 rfl (Or.inl rfl) T
  · have T := T.2 c14
    refine v_iconst (pc' := 1230) (v := 0) dL_law_1229 rfl kI_0 ?_
    exact v_zret dL_law_1230 rfl (Or.inl rfl) T
theorem bL_law_1248 {G : GG} {d : Nat} {h : Hp} {o : OU} {h' : Hp} (r1 : Nat) (r2 : Nat) (r3 : Nat) (x4 : Int32) (T : V G mL_law d 2031 [.ref 1, .ref r1, .ref r2, .ref r3, .int x4, uV, uV] [] h o h') : V G mL_law d 1248 [.ref 1, .ref r1, .ref r2, .ref r3, .int x4, uV, uV] [] h o h' := by
  refine v_goto (pc' := 2031) dL_law_1248 (by decide) ?_
  exact T
theorem bL_law_1251 {G : GG} {d : Nat} {h : Hp} {o : OU} {h' : Hp} (r1 : Nat) (r2 : Nat) (r3 : Nat) (x4 : Int32) (hd : 1 ≤ d) (T : vp_in (x4 + 1) (lH h 1) ∧ vp_in (x4 + 2) (lH h 1) ∧ ∃ z4 h3, VMW G mL_copy (d - 1) [.ref r1, .int (h.2 1 (x4 + 1).toNatClampNeg), .int (h.2 1 (x4 + 2).toNatClampNeg), .ref r3] h (.inl (some (.int z4))) h3 ∧ vp_in (x4 + 1) (lH h3 1) ∧ vp_in (x4 + 2) (lH h3 1) ∧ kH h3 r2 = 18 ∧ ∃ z9 h8, VM G mX10_copy (d - 1) [.ref r2, .int (h3.2 1 (x4 + 1).toNatClampNeg), .int (h3.2 1 (x4 + 2).toNatClampNeg)] h3 (.inl (some (.int z9))) h8 ∧ kH h8 r2 = 18 ∧ ∃ z13 h12, VM G mX10_thrown (d - 1) [.ref r2] h8 (.inl (some (.int z13))) h12 ∧ ((z13 = z4 → ((¬ z4 = 0 → V G mL_law d 1316 [.ref 1, .ref r1, .ref r2, .ref r3, .int x4, uV, uV] [] h12 o h') ∧ (z4 = 0 → kH h12 r3 = 4 ∧ vp_in 0 (lH h12 r3) ∧ (((lg_cmp ((h12.2 r3 0).toInt64) z9.toInt64) = 0 → V G mL_law d 1316 [.ref 1, .ref r1, .ref r2, .ref r3, .int x4, uV, uV] [] h12 o h') ∧ (¬ (lg_cmp ((h12.2 r3 0).toInt64) z9.toInt64) = 0 → (o = .inl (some (.int 0)) ∧ h' = h12)))))) ∧ (¬ z13 = z4 → (o = .inl (some (.int 0)) ∧ h' = h12)))) : V G mL_law d 1251 [.ref 1, .ref r1, .ref r2, .ref r3, .int x4, uV, uV] [] h o h' := by
  have hdd : d - 1 + 1 ≤ d := by omega
  refine v_aload_n (pc' := 1252) dL_law_1251 rfl rfl ?_
  refine v_aload_n (pc' := 1253) dL_law_1252 rfl rfl ?_
  refine v_iload (pc' := 1255) dL_law_1253 rfl rfl ?_
  refine v_iconst (pc' := 1256) (v := 1) dL_law_1255 rfl kI_1 ?_
  refine v_iadd (pc' := 1257) dL_law_1256 rfl ?_
  obtain ⟨q1, T⟩ := T
  refine v_sald (pc' := 1258) dL_law_1257 rfl rfl q1 ?_
  refine v_aload_n (pc' := 1259) dL_law_1258 rfl rfl ?_
  refine v_iload (pc' := 1261) dL_law_1259 rfl rfl ?_
  refine v_iconst (pc' := 1262) (v := 2) dL_law_1261 rfl kI_2 ?_
  refine v_iadd (pc' := 1263) dL_law_1262 rfl ?_
  obtain ⟨q2, T⟩ := T
  refine v_sald (pc' := 1264) dL_law_1263 rfl rfl q2 ?_
  refine v_aload_n (pc' := 1265) dL_law_1264 rfl rfl ?_
  obtain ⟨z4, h3, k5, T⟩ := T
  refine v_callSW (pc' := 1268) (M1 := mL_copy) (as := [.ref r1, .int (h.2 1 (x4 + 1).toNatClampNeg), .int (h.2 1 (x4 + 2).toNatClampNeg), .ref r3]) (rest := []) dL_law_1265 rfl ko_L_165 kc_L_copy kt_L_copy (by decide) hdd rfl rfl (le_l rfl) k5 ?_
  refine v_istore (pc' := 1270) (loc' := [.ref 1, .ref r1, .ref r2, .ref r3, .int x4, .int z4, uV]) dL_law_1268 rfl (lt_l rfl) rfl ?_
  refine v_aload_n (pc' := 1271) dL_law_1270 rfl rfl ?_
  refine v_aload_n (pc' := 1272) dL_law_1271 rfl rfl ?_
  refine v_iload (pc' := 1274) dL_law_1272 rfl rfl ?_
  refine v_iconst (pc' := 1275) (v := 1) dL_law_1274 rfl kI_1 ?_
  refine v_iadd (pc' := 1276) dL_law_1275 rfl ?_
  obtain ⟨q6, T⟩ := T
  refine v_sald (pc' := 1277) dL_law_1276 rfl rfl q6 ?_
  refine v_aload_n (pc' := 1278) dL_law_1277 rfl rfl ?_
  refine v_iload (pc' := 1280) dL_law_1278 rfl rfl ?_
  refine v_iconst (pc' := 1281) (v := 2) dL_law_1280 rfl kI_2 ?_
  refine v_iadd (pc' := 1282) dL_law_1281 rfl ?_
  obtain ⟨q7, T⟩ := T
  refine v_sald (pc' := 1283) dL_law_1282 rfl rfl q7 ?_
  obtain ⟨q11, T⟩ := T
  obtain ⟨z9, h8, k10, T⟩ := T
  refine v_callV (pc' := 1286) (M1 := mX10_copy) (as := [.int (h3.2 1 (x4 + 1).toNatClampNeg), .int (h3.2 1 (x4 + 2).toNatClampNeg)]) (r := r2) (rest := []) 8 dL_law_1283 rfl ko_L_167 kc_X10_copy ki_X10_copy ks_X10_copy (by decide) (by decide) hdd rfl rfl (le_l rfl) q11 k10 ?_
  refine v_istore (pc' := 1288) (loc' := [.ref 1, .ref r1, .ref r2, .ref r3, .int x4, .int z4, .int z9]) dL_law_1286 rfl (lt_l rfl) rfl ?_
  refine v_aload_n (pc' := 1289) dL_law_1288 rfl rfl ?_
  obtain ⟨q15, T⟩ := T
  obtain ⟨z13, h12, k14, T⟩ := T
  refine v_callV (pc' := 1292) (M1 := mX10_thrown) (as := []) (r := r2) (rest := []) 8 dL_law_1289 rfl ko_L_109 kc_X10_thrown ki_X10_thrown ks_X10_thrown (by decide) (by decide) hdd rfl rfl (le_l rfl) q15 k14 ?_
  refine v_iload (pc' := 1294) dL_law_1292 rfl rfl ?_
  refine v_icmp_eq (tgt := 1299) (pc' := 1297) dL_law_1294 (by decide) rfl ⟨fun c16 => ?_, fun c16 => ?_⟩
  · have T := T.1 c16
    refine v_iload (pc' := 1301) dL_law_1299 rfl rfl ?_
    refine v_if_ne (tgt := 1316) (pc' := 1304) dL_law_1301 (by decide) rfl ⟨fun c17 => ?_, fun c17 => ?_⟩
    · have T := T.1 c17
      exact V.drop (llp_r (llp_r (llp_r (llp_r (llp_r (llp_u (llp_u llp_nil))))))) T
    · have T := T.2 c17
      refine v_aload_n (pc' := 1305) dL_law_1304 rfl rfl ?_
      refine v_iconst (pc' := 1306) (v := 0) dL_law_1305 rfl kI_0 ?_
      obtain ⟨q18, T⟩ := T
      obtain ⟨q19, T⟩ := T
      refine v_lald (pc' := 1307) dL_law_1306 rfl kN_0 q18 q19 ?_
      refine v_iload (pc' := 1309) dL_law_1307 rfl rfl ?_
      refine v_i2l (pc' := 1310) dL_law_1309 rfl ?_
      refine v_lcmp (pc' := 1311) dL_law_1310 rfl ?_
      refine v_if_eq (tgt := 1316) (pc' := 1314) dL_law_1311 (by decide) rfl ⟨fun c20 => ?_, fun c20 => ?_⟩
      · have T := T.1 c20
        exact V.drop (llp_r (llp_r (llp_r (llp_r (llp_r (llp_u (llp_u llp_nil))))))) T
      · have T := T.2 c20
        refine v_iconst (pc' := 1315) (v := 0) dL_law_1314 rfl kI_0 ?_
        exact v_zret dL_law_1315 rfl (Or.inl rfl) T
  · have T := T.2 c16
    refine v_iconst (pc' := 1298) (v := 0) dL_law_1297 rfl kI_0 ?_
    exact v_zret dL_law_1298 rfl (Or.inl rfl) T
theorem bL_law_1316 {G : GG} {d : Nat} {h : Hp} {o : OU} {h' : Hp} (r1 : Nat) (r2 : Nat) (r3 : Nat) (x4 : Int32) (T : V G mL_law d 2031 [.ref 1, .ref r1, .ref r2, .ref r3, .int x4, uV, uV] [] h o h') : V G mL_law d 1316 [.ref 1, .ref r1, .ref r2, .ref r3, .int x4, uV, uV] [] h o h' := by
  refine v_goto (pc' := 2031) dL_law_1316 (by decide) ?_
  exact T
theorem bL_law_1319 {G : GG} {d : Nat} {h : Hp} {o : OU} {h' : Hp} (r1 : Nat) (r2 : Nat) (r3 : Nat) (x4 : Int32) (hd : 1 ≤ d) (T : vp_in (x4 + 1) (lH h 1) ∧ ∃ z3 h2, VMW G mL_waits (d - 1) [.ref r1, .int (h.2 1 (x4 + 1).toNatClampNeg), .ref r3] h (.inl (some (.int z3))) h2 ∧ vp_in (x4 + 1) (lH h2 1) ∧ kH h2 r2 = 18 ∧ ∃ z7 h6, VM G mX10_waits (d - 1) [.ref r2, .int (h2.2 1 (x4 + 1).toNatClampNeg)] h2 (.inl (some (.int z7))) h6 ∧ kH h6 r2 = 18 ∧ ∃ z11 h10, VM G mX10_thrown (d - 1) [.ref r2] h6 (.inl (some (.int z11))) h10 ∧ ((z11 = z3 → ((¬ z3 = 0 → V G mL_law d 1372 [.ref 1, .ref r1, .ref r2, .ref r3, .int x4, uV, uV] [] h10 o h') ∧ (z3 = 0 → kH h10 r3 = 4 ∧ vp_in 0 (lH h10 r3) ∧ (((lg_cmp ((h10.2 r3 0).toInt64) z7.toInt64) = 0 → V G mL_law d 1372 [.ref 1, .ref r1, .ref r2, .ref r3, .int x4, uV, uV] [] h10 o h') ∧ (¬ (lg_cmp ((h10.2 r3 0).toInt64) z7.toInt64) = 0 → (o = .inl (some (.int 0)) ∧ h' = h10)))))) ∧ (¬ z11 = z3 → (o = .inl (some (.int 0)) ∧ h' = h10)))) : V G mL_law d 1319 [.ref 1, .ref r1, .ref r2, .ref r3, .int x4, uV, uV] [] h o h' := by
  have hdd : d - 1 + 1 ≤ d := by omega
  refine v_aload_n (pc' := 1320) dL_law_1319 rfl rfl ?_
  refine v_aload_n (pc' := 1321) dL_law_1320 rfl rfl ?_
  refine v_iload (pc' := 1323) dL_law_1321 rfl rfl ?_
  refine v_iconst (pc' := 1324) (v := 1) dL_law_1323 rfl kI_1 ?_
  refine v_iadd (pc' := 1325) dL_law_1324 rfl ?_
  obtain ⟨q1, T⟩ := T
  refine v_sald (pc' := 1326) dL_law_1325 rfl rfl q1 ?_
  refine v_aload_n (pc' := 1327) dL_law_1326 rfl rfl ?_
  obtain ⟨z3, h2, k4, T⟩ := T
  refine v_callSW (pc' := 1330) (M1 := mL_waits) (as := [.ref r1, .int (h.2 1 (x4 + 1).toNatClampNeg), .ref r3]) (rest := []) dL_law_1327 rfl ko_L_168 kc_L_waits kt_L_waits (by decide) hdd rfl rfl (le_l rfl) k4 ?_
  refine v_istore (pc' := 1332) (loc' := [.ref 1, .ref r1, .ref r2, .ref r3, .int x4, .int z3, uV]) dL_law_1330 rfl (lt_l rfl) rfl ?_
  refine v_aload_n (pc' := 1333) dL_law_1332 rfl rfl ?_
  refine v_aload_n (pc' := 1334) dL_law_1333 rfl rfl ?_
  refine v_iload (pc' := 1336) dL_law_1334 rfl rfl ?_
  refine v_iconst (pc' := 1337) (v := 1) dL_law_1336 rfl kI_1 ?_
  refine v_iadd (pc' := 1338) dL_law_1337 rfl ?_
  obtain ⟨q5, T⟩ := T
  refine v_sald (pc' := 1339) dL_law_1338 rfl rfl q5 ?_
  obtain ⟨q9, T⟩ := T
  obtain ⟨z7, h6, k8, T⟩ := T
  refine v_callV (pc' := 1342) (M1 := mX10_waits) (as := [.int (h2.2 1 (x4 + 1).toNatClampNeg)]) (r := r2) (rest := []) 8 dL_law_1339 rfl ko_L_170 kc_X10_waits ki_X10_waits ks_X10_waits (by decide) (by decide) hdd rfl rfl (le_l rfl) q9 k8 ?_
  refine v_istore (pc' := 1344) (loc' := [.ref 1, .ref r1, .ref r2, .ref r3, .int x4, .int z3, .int z7]) dL_law_1342 rfl (lt_l rfl) rfl ?_
  refine v_aload_n (pc' := 1345) dL_law_1344 rfl rfl ?_
  obtain ⟨q13, T⟩ := T
  obtain ⟨z11, h10, k12, T⟩ := T
  refine v_callV (pc' := 1348) (M1 := mX10_thrown) (as := []) (r := r2) (rest := []) 8 dL_law_1345 rfl ko_L_109 kc_X10_thrown ki_X10_thrown ks_X10_thrown (by decide) (by decide) hdd rfl rfl (le_l rfl) q13 k12 ?_
  refine v_iload (pc' := 1350) dL_law_1348 rfl rfl ?_
  refine v_icmp_eq (tgt := 1355) (pc' := 1353) dL_law_1350 (by decide) rfl ⟨fun c14 => ?_, fun c14 => ?_⟩
  · have T := T.1 c14
    refine v_iload (pc' := 1357) dL_law_1355 rfl rfl ?_
    refine v_if_ne (tgt := 1372) (pc' := 1360) dL_law_1357 (by decide) rfl ⟨fun c15 => ?_, fun c15 => ?_⟩
    · have T := T.1 c15
      exact V.drop (llp_r (llp_r (llp_r (llp_r (llp_r (llp_u (llp_u llp_nil))))))) T
    · have T := T.2 c15
      refine v_aload_n (pc' := 1361) dL_law_1360 rfl rfl ?_
      refine v_iconst (pc' := 1362) (v := 0) dL_law_1361 rfl kI_0 ?_
      obtain ⟨q16, T⟩ := T
      obtain ⟨q17, T⟩ := T
      refine v_lald (pc' := 1363) dL_law_1362 rfl kN_0 q16 q17 ?_
      refine v_iload (pc' := 1365) dL_law_1363 rfl rfl ?_
      refine v_i2l (pc' := 1366) dL_law_1365 rfl ?_
      refine v_lcmp (pc' := 1367) dL_law_1366 rfl ?_
      refine v_if_eq (tgt := 1372) (pc' := 1370) dL_law_1367 (by decide) rfl ⟨fun c18 => ?_, fun c18 => ?_⟩
      · have T := T.1 c18
        exact V.drop (llp_r (llp_r (llp_r (llp_r (llp_r (llp_u (llp_u llp_nil))))))) T
      · have T := T.2 c18
        refine v_iconst (pc' := 1371) (v := 0) dL_law_1370 rfl kI_0 ?_
        exact v_zret dL_law_1371 rfl (Or.inl rfl) T
  · have T := T.2 c14
    refine v_iconst (pc' := 1354) (v := 0) dL_law_1353 rfl kI_0 ?_
    exact v_zret dL_law_1354 rfl (Or.inl rfl) T
theorem bL_law_1372 {G : GG} {d : Nat} {h : Hp} {o : OU} {h' : Hp} (r1 : Nat) (r2 : Nat) (r3 : Nat) (x4 : Int32) (T : V G mL_law d 2031 [.ref 1, .ref r1, .ref r2, .ref r3, .int x4, uV, uV] [] h o h') : V G mL_law d 1372 [.ref 1, .ref r1, .ref r2, .ref r3, .int x4, uV, uV] [] h o h' := by
  refine v_goto (pc' := 2031) dL_law_1372 (by decide) ?_
  exact T
theorem bL_law_1375 {G : GG} {d : Nat} {h : Hp} {o : OU} {h' : Hp} (r1 : Nat) (r2 : Nat) (r3 : Nat) (x4 : Int32) (hd : 1 ≤ d) (T : kH h r1 = 19 ∧ ∃ z2 h1, VM G mX9_rings (d - 1) [.ref r1] h (.inl (some (.int z2))) h1 ∧ kH h1 r2 = 18 ∧ ∃ z6 h5, VM G mX10_rings (d - 1) [.ref r2] h1 (.inl (some (.int z6))) h5 ∧ ((z2 = z6 → V G mL_law d 2031 [.ref 1, .ref r1, .ref r2, .ref r3, .int x4, uV, uV] [] h5 o h') ∧ (¬ z2 = z6 → (o = .inl (some (.int 0)) ∧ h' = h5)))) : V G mL_law d 1375 [.ref 1, .ref r1, .ref r2, .ref r3, .int x4, uV, uV] [] h o h' := by
  have hdd : d - 1 + 1 ≤ d := by omega
  refine v_aload_n (pc' := 1376) dL_law_1375 rfl rfl ?_
  obtain ⟨q4, T⟩ := T
  obtain ⟨z2, h1, k3, T⟩ := T
  refine v_callV (pc' := 1379) (M1 := mX9_rings) (as := []) (r := r1) (rest := []) 9 dL_law_1376 rfl ko_L_171 kc_X9_rings ki_X9_rings ks_X9_rings (by decide) (by decide) hdd rfl rfl (le_l rfl) q4 k3 ?_
  refine v_aload_n (pc' := 1380) dL_law_1379 rfl rfl ?_
  obtain ⟨q8, T⟩ := T
  obtain ⟨z6, h5, k7, T⟩ := T
  refine v_callV (pc' := 1383) (M1 := mX10_rings) (as := []) (r := r2) (rest := [.int z2]) 8 dL_law_1380 rfl ko_L_174 kc_X10_rings ki_X10_rings ks_X10_rings (by decide) (by decide) hdd rfl rfl (le_l rfl) q8 k7 ?_
  refine v_icmp_eq (tgt := 2031) (pc' := 1386) dL_law_1383 (by decide) rfl ⟨fun c9 => ?_, fun c9 => ?_⟩
  · have T := T.1 c9
    exact T
  · have T := T.2 c9
    refine v_iconst (pc' := 1387) (v := 0) dL_law_1386 rfl kI_0 ?_
    exact v_zret dL_law_1387 rfl (Or.inl rfl) T
theorem bL_law_1388 {G : GG} {d : Nat} {h : Hp} {o : OU} {h' : Hp} (r1 : Nat) (r2 : Nat) (r3 : Nat) (x4 : Int32) (hd : 1 ≤ d) (T : kH h r1 = 19 ∧ ∃ z2 h1, VM G mX9_settle (d - 1) [.ref r1] h (.inl (some (.int z2))) h1 ∧ kH h1 r2 = 18 ∧ ∃ z6 h5, VM G mX10_settle (d - 1) [.ref r2] h1 (.inl (some (.int z6))) h5 ∧ ((z2 = z6 → V G mL_law d 2031 [.ref 1, .ref r1, .ref r2, .ref r3, .int x4, uV, uV] [] h5 o h') ∧ (¬ z2 = z6 → (o = .inl (some (.int 0)) ∧ h' = h5)))) : V G mL_law d 1388 [.ref 1, .ref r1, .ref r2, .ref r3, .int x4, uV, uV] [] h o h' := by
  have hdd : d - 1 + 1 ≤ d := by omega
  refine v_aload_n (pc' := 1389) dL_law_1388 rfl rfl ?_
  obtain ⟨q4, T⟩ := T
  obtain ⟨z2, h1, k3, T⟩ := T
  refine v_callV (pc' := 1392) (M1 := mX9_settle) (as := []) (r := r1) (rest := []) 9 dL_law_1389 rfl ko_L_175 kc_X9_settle ki_X9_settle ks_X9_settle (by decide) (by decide) hdd rfl rfl (le_l rfl) q4 k3 ?_
  refine v_aload_n (pc' := 1393) dL_law_1392 rfl rfl ?_
  obtain ⟨q8, T⟩ := T
  obtain ⟨z6, h5, k7, T⟩ := T
  refine v_callV (pc' := 1396) (M1 := mX10_settle) (as := []) (r := r2) (rest := [.int z2]) 8 dL_law_1393 rfl ko_L_178 kc_X10_settle ki_X10_settle ks_X10_settle (by decide) (by decide) hdd rfl rfl (le_l rfl) q8 k7 ?_
  refine v_icmp_eq (tgt := 2031) (pc' := 1399) dL_law_1396 (by decide) rfl ⟨fun c9 => ?_, fun c9 => ?_⟩
  · have T := T.1 c9
    exact T
  · have T := T.2 c9
    refine v_iconst (pc' := 1400) (v := 0) dL_law_1399 rfl kI_0 ?_
    exact v_zret dL_law_1400 rfl (Or.inl rfl) T
theorem bL_law_1401 {G : GG} {d : Nat} {h : Hp} {o : OU} {h' : Hp} (r1 : Nat) (r2 : Nat) (r3 : Nat) (x4 : Int32) (hd : 1 ≤ d) (T : vp_in (x4 + 1) (lH h 1) ∧ ∃ z3 h2, VMW G mL_spill (d - 1) [.ref r1, .int (h.2 1 (x4 + 1).toNatClampNeg), .ref r3] h (.inl (some (.int z3))) h2 ∧ vp_in (x4 + 1) (lH h2 1) ∧ kH h2 r2 = 18 ∧ ∃ z7 h6, VM G mX10_spill (d - 1) [.ref r2, .int (h2.2 1 (x4 + 1).toNatClampNeg)] h2 (.inl (some (.int z7))) h6 ∧ kH h6 r2 = 18 ∧ ∃ z11 h10, VM G mX10_thrown (d - 1) [.ref r2] h6 (.inl (some (.int z11))) h10 ∧ ((z11 = z3 → ((¬ z3 = 0 → V G mL_law d 1454 [.ref 1, .ref r1, .ref r2, .ref r3, .int x4, uV, uV] [] h10 o h') ∧ (z3 = 0 → kH h10 r3 = 4 ∧ vp_in 0 (lH h10 r3) ∧ (((lg_cmp ((h10.2 r3 0).toInt64) z7.toInt64) = 0 → V G mL_law d 1454 [.ref 1, .ref r1, .ref r2, .ref r3, .int x4, uV, uV] [] h10 o h') ∧ (¬ (lg_cmp ((h10.2 r3 0).toInt64) z7.toInt64) = 0 → (o = .inl (some (.int 0)) ∧ h' = h10)))))) ∧ (¬ z11 = z3 → (o = .inl (some (.int 0)) ∧ h' = h10)))) : V G mL_law d 1401 [.ref 1, .ref r1, .ref r2, .ref r3, .int x4, uV, uV] [] h o h' := by
  have hdd : d - 1 + 1 ≤ d := by omega
  refine v_aload_n (pc' := 1402) dL_law_1401 rfl rfl ?_
  refine v_aload_n (pc' := 1403) dL_law_1402 rfl rfl ?_
  refine v_iload (pc' := 1405) dL_law_1403 rfl rfl ?_
  refine v_iconst (pc' := 1406) (v := 1) dL_law_1405 rfl kI_1 ?_
  refine v_iadd (pc' := 1407) dL_law_1406 rfl ?_
  obtain ⟨q1, T⟩ := T
  refine v_sald (pc' := 1408) dL_law_1407 rfl rfl q1 ?_
  refine v_aload_n (pc' := 1409) dL_law_1408 rfl rfl ?_
  obtain ⟨z3, h2, k4, T⟩ := T
  refine v_callSW (pc' := 1412) (M1 := mL_spill) (as := [.ref r1, .int (h.2 1 (x4 + 1).toNatClampNeg), .ref r3]) (rest := []) dL_law_1409 rfl ko_L_179 kc_L_spill kt_L_spill (by decide) hdd rfl rfl (le_l rfl) k4 ?_
  refine v_istore (pc' := 1414) (loc' := [.ref 1, .ref r1, .ref r2, .ref r3, .int x4, .int z3, uV]) dL_law_1412 rfl (lt_l rfl) rfl ?_
  refine v_aload_n (pc' := 1415) dL_law_1414 rfl rfl ?_
  refine v_aload_n (pc' := 1416) dL_law_1415 rfl rfl ?_
  refine v_iload (pc' := 1418) dL_law_1416 rfl rfl ?_
  refine v_iconst (pc' := 1419) (v := 1) dL_law_1418 rfl kI_1 ?_
  refine v_iadd (pc' := 1420) dL_law_1419 rfl ?_
  obtain ⟨q5, T⟩ := T
  refine v_sald (pc' := 1421) dL_law_1420 rfl rfl q5 ?_
  obtain ⟨q9, T⟩ := T
  obtain ⟨z7, h6, k8, T⟩ := T
  refine v_callV (pc' := 1424) (M1 := mX10_spill) (as := [.int (h2.2 1 (x4 + 1).toNatClampNeg)]) (r := r2) (rest := []) 8 dL_law_1421 rfl ko_L_181 kc_X10_spill ki_X10_spill ks_X10_spill (by decide) (by decide) hdd rfl rfl (le_l rfl) q9 k8 ?_
  refine v_istore (pc' := 1426) (loc' := [.ref 1, .ref r1, .ref r2, .ref r3, .int x4, .int z3, .int z7]) dL_law_1424 rfl (lt_l rfl) rfl ?_
  refine v_aload_n (pc' := 1427) dL_law_1426 rfl rfl ?_
  obtain ⟨q13, T⟩ := T
  obtain ⟨z11, h10, k12, T⟩ := T
  refine v_callV (pc' := 1430) (M1 := mX10_thrown) (as := []) (r := r2) (rest := []) 8 dL_law_1427 rfl ko_L_109 kc_X10_thrown ki_X10_thrown ks_X10_thrown (by decide) (by decide) hdd rfl rfl (le_l rfl) q13 k12 ?_
  refine v_iload (pc' := 1432) dL_law_1430 rfl rfl ?_
  refine v_icmp_eq (tgt := 1437) (pc' := 1435) dL_law_1432 (by decide) rfl ⟨fun c14 => ?_, fun c14 => ?_⟩
  · have T := T.1 c14
    refine v_iload (pc' := 1439) dL_law_1437 rfl rfl ?_
    refine v_if_ne (tgt := 1454) (pc' := 1442) dL_law_1439 (by decide) rfl ⟨fun c15 => ?_, fun c15 => ?_⟩
    · have T := T.1 c15
      exact V.drop (llp_r (llp_r (llp_r (llp_r (llp_r (llp_u (llp_u llp_nil))))))) T
    · have T := T.2 c15
      refine v_aload_n (pc' := 1443) dL_law_1442 rfl rfl ?_
      refine v_iconst (pc' := 1444) (v := 0) dL_law_1443 rfl kI_0 ?_
      obtain ⟨q16, T⟩ := T
      obtain ⟨q17, T⟩ := T
      refine v_lald (pc' := 1445) dL_law_1444 rfl kN_0 q16 q17 ?_
      refine v_iload (pc' := 1447) dL_law_1445 rfl rfl ?_
      refine v_i2l (pc' := 1448) dL_law_1447 rfl ?_
      refine v_lcmp (pc' := 1449) dL_law_1448 rfl ?_
      refine v_if_eq (tgt := 1454) (pc' := 1452) dL_law_1449 (by decide) rfl ⟨fun c18 => ?_, fun c18 => ?_⟩
      · have T := T.1 c18
        exact V.drop (llp_r (llp_r (llp_r (llp_r (llp_r (llp_u (llp_u llp_nil))))))) T
      · have T := T.2 c18
        refine v_iconst (pc' := 1453) (v := 0) dL_law_1452 rfl kI_0 ?_
        exact v_zret dL_law_1453 rfl (Or.inl rfl) T
  · have T := T.2 c14
    refine v_iconst (pc' := 1436) (v := 0) dL_law_1435 rfl kI_0 ?_
    exact v_zret dL_law_1436 rfl (Or.inl rfl) T
theorem bL_law_1454 {G : GG} {d : Nat} {h : Hp} {o : OU} {h' : Hp} (r1 : Nat) (r2 : Nat) (r3 : Nat) (x4 : Int32) (T : V G mL_law d 2031 [.ref 1, .ref r1, .ref r2, .ref r3, .int x4, uV, uV] [] h o h') : V G mL_law d 1454 [.ref 1, .ref r1, .ref r2, .ref r3, .int x4, uV, uV] [] h o h' := by
  refine v_goto (pc' := 2031) dL_law_1454 (by decide) ?_
  exact T
theorem bL_law_1457 {G : GG} {d : Nat} {h : Hp} {o : OU} {h' : Hp} (r1 : Nat) (r2 : Nat) (r3 : Nat) (x4 : Int32) (hd : 1 ≤ d) (T : kH h r1 = 19 ∧ ∃ z2 h1, VM G mX9_fewest (d - 1) [.ref r1] h (.inl (some (.int z2))) h1 ∧ kH h1 r2 = 18 ∧ ∃ z6 h5, VM G mX10_fewest (d - 1) [.ref r2] h1 (.inl (some (.int z6))) h5 ∧ ((z2 = z6 → V G mL_law d 2031 [.ref 1, .ref r1, .ref r2, .ref r3, .int x4, uV, uV] [] h5 o h') ∧ (¬ z2 = z6 → (o = .inl (some (.int 0)) ∧ h' = h5)))) : V G mL_law d 1457 [.ref 1, .ref r1, .ref r2, .ref r3, .int x4, uV, uV] [] h o h' := by
  have hdd : d - 1 + 1 ≤ d := by omega
  refine v_aload_n (pc' := 1458) dL_law_1457 rfl rfl ?_
  obtain ⟨q4, T⟩ := T
  obtain ⟨z2, h1, k3, T⟩ := T
  refine v_callV (pc' := 1461) (M1 := mX9_fewest) (as := []) (r := r1) (rest := []) 9 dL_law_1458 rfl ko_L_182 kc_X9_fewest ki_X9_fewest ks_X9_fewest (by decide) (by decide) hdd rfl rfl (le_l rfl) q4 k3 ?_
  refine v_aload_n (pc' := 1462) dL_law_1461 rfl rfl ?_
  obtain ⟨q8, T⟩ := T
  obtain ⟨z6, h5, k7, T⟩ := T
  refine v_callV (pc' := 1465) (M1 := mX10_fewest) (as := []) (r := r2) (rest := [.int z2]) 8 dL_law_1462 rfl ko_L_185 kc_X10_fewest ki_X10_fewest ks_X10_fewest (by decide) (by decide) hdd rfl rfl (le_l rfl) q8 k7 ?_
  refine v_icmp_eq (tgt := 2031) (pc' := 1468) dL_law_1465 (by decide) rfl ⟨fun c9 => ?_, fun c9 => ?_⟩
  · have T := T.1 c9
    exact T
  · have T := T.2 c9
    refine v_iconst (pc' := 1469) (v := 0) dL_law_1468 rfl kI_0 ?_
    exact v_zret dL_law_1469 rfl (Or.inl rfl) T
theorem bL_law_1470 {G : GG} {d : Nat} {h : Hp} {o : OU} {h' : Hp} (r1 : Nat) (r2 : Nat) (r3 : Nat) (x4 : Int32) (hd : 1 ≤ d) (T : kH h r1 = 19 ∧ ∃ z2 h1, VM G mX9_finds (d - 1) [.ref r1] h (.inl (some (.int z2))) h1 ∧ kH h1 r2 = 18 ∧ ∃ z6 h5, VM G mX10_finds (d - 1) [.ref r2] h1 (.inl (some (.int z6))) h5 ∧ ((z2 = z6 → V G mL_law d 2031 [.ref 1, .ref r1, .ref r2, .ref r3, .int x4, uV, uV] [] h5 o h') ∧ (¬ z2 = z6 → (o = .inl (some (.int 0)) ∧ h' = h5)))) : V G mL_law d 1470 [.ref 1, .ref r1, .ref r2, .ref r3, .int x4, uV, uV] [] h o h' := by
  have hdd : d - 1 + 1 ≤ d := by omega
  refine v_aload_n (pc' := 1471) dL_law_1470 rfl rfl ?_
  obtain ⟨q4, T⟩ := T
  obtain ⟨z2, h1, k3, T⟩ := T
  refine v_callV (pc' := 1474) (M1 := mX9_finds) (as := []) (r := r1) (rest := []) 9 dL_law_1471 rfl ko_L_186 kc_X9_finds ki_X9_finds ks_X9_finds (by decide) (by decide) hdd rfl rfl (le_l rfl) q4 k3 ?_
  refine v_aload_n (pc' := 1475) dL_law_1474 rfl rfl ?_
  obtain ⟨q8, T⟩ := T
  obtain ⟨z6, h5, k7, T⟩ := T
  refine v_callV (pc' := 1478) (M1 := mX10_finds) (as := []) (r := r2) (rest := [.int z2]) 8 dL_law_1475 rfl ko_L_189 kc_X10_finds ki_X10_finds ks_X10_finds (by decide) (by decide) hdd rfl rfl (le_l rfl) q8 k7 ?_
  refine v_icmp_eq (tgt := 2031) (pc' := 1481) dL_law_1478 (by decide) rfl ⟨fun c9 => ?_, fun c9 => ?_⟩
  · have T := T.1 c9
    exact T
  · have T := T.2 c9
    refine v_iconst (pc' := 1482) (v := 0) dL_law_1481 rfl kI_0 ?_
    exact v_zret dL_law_1482 rfl (Or.inl rfl) T
theorem bL_law_1483 {G : GG} {d : Nat} {h : Hp} {o : OU} {h' : Hp} (r1 : Nat) (r2 : Nat) (r3 : Nat) (x4 : Int32) (hd : 1 ≤ d) (T : kH h r1 = 19 ∧ ∃ z2 h1, VM G mX9_sweeps (d - 1) [.ref r1] h (.inl (some (.int z2))) h1 ∧ kH h1 r2 = 18 ∧ ∃ z6 h5, VM G mX10_sweeps (d - 1) [.ref r2] h1 (.inl (some (.int z6))) h5 ∧ ((z2 = z6 → V G mL_law d 2031 [.ref 1, .ref r1, .ref r2, .ref r3, .int x4, uV, uV] [] h5 o h') ∧ (¬ z2 = z6 → (o = .inl (some (.int 0)) ∧ h' = h5)))) : V G mL_law d 1483 [.ref 1, .ref r1, .ref r2, .ref r3, .int x4, uV, uV] [] h o h' := by
  have hdd : d - 1 + 1 ≤ d := by omega
  refine v_aload_n (pc' := 1484) dL_law_1483 rfl rfl ?_
  obtain ⟨q4, T⟩ := T
  obtain ⟨z2, h1, k3, T⟩ := T
  refine v_callV (pc' := 1487) (M1 := mX9_sweeps) (as := []) (r := r1) (rest := []) 9 dL_law_1484 rfl ko_L_190 kc_X9_sweeps ki_X9_sweeps ks_X9_sweeps (by decide) (by decide) hdd rfl rfl (le_l rfl) q4 k3 ?_
  refine v_aload_n (pc' := 1488) dL_law_1487 rfl rfl ?_
  obtain ⟨q8, T⟩ := T
  obtain ⟨z6, h5, k7, T⟩ := T
  refine v_callV (pc' := 1491) (M1 := mX10_sweeps) (as := []) (r := r2) (rest := [.int z2]) 8 dL_law_1488 rfl ko_L_193 kc_X10_sweeps ki_X10_sweeps ks_X10_sweeps (by decide) (by decide) hdd rfl rfl (le_l rfl) q8 k7 ?_
  refine v_icmp_eq (tgt := 2031) (pc' := 1494) dL_law_1491 (by decide) rfl ⟨fun c9 => ?_, fun c9 => ?_⟩
  · have T := T.1 c9
    exact T
  · have T := T.2 c9
    refine v_iconst (pc' := 1495) (v := 0) dL_law_1494 rfl kI_0 ?_
    exact v_zret dL_law_1495 rfl (Or.inl rfl) T
theorem bL_law_1496 {G : GG} {d : Nat} {h : Hp} {o : OU} {h' : Hp} (r1 : Nat) (r2 : Nat) (r3 : Nat) (x4 : Int32) (hd : 1 ≤ d) (T : kH h r1 = 19 ∧ ∃ z2 h1, VM G mX9_fits (d - 1) [.ref r1] h (.inl (some (.int z2))) h1 ∧ kH h1 r2 = 18 ∧ ∃ z6 h5, VM G mX10_fits (d - 1) [.ref r2] h1 (.inl (some (.int z6))) h5 ∧ ((z2 = z6 → V G mL_law d 2031 [.ref 1, .ref r1, .ref r2, .ref r3, .int x4, uV, uV] [] h5 o h') ∧ (¬ z2 = z6 → (o = .inl (some (.int 0)) ∧ h' = h5)))) : V G mL_law d 1496 [.ref 1, .ref r1, .ref r2, .ref r3, .int x4, uV, uV] [] h o h' := by
  have hdd : d - 1 + 1 ≤ d := by omega
  refine v_aload_n (pc' := 1497) dL_law_1496 rfl rfl ?_
  obtain ⟨q4, T⟩ := T
  obtain ⟨z2, h1, k3, T⟩ := T
  refine v_callV (pc' := 1500) (M1 := mX9_fits) (as := []) (r := r1) (rest := []) 9 dL_law_1497 rfl ko_L_194 kc_X9_fits ki_X9_fits ks_X9_fits (by decide) (by decide) hdd rfl rfl (le_l rfl) q4 k3 ?_
  refine v_aload_n (pc' := 1501) dL_law_1500 rfl rfl ?_
  obtain ⟨q8, T⟩ := T
  obtain ⟨z6, h5, k7, T⟩ := T
  refine v_callV (pc' := 1504) (M1 := mX10_fits) (as := []) (r := r2) (rest := [.int z2]) 8 dL_law_1501 rfl ko_L_197 kc_X10_fits ki_X10_fits ks_X10_fits (by decide) (by decide) hdd rfl rfl (le_l rfl) q8 k7 ?_
  refine v_icmp_eq (tgt := 2031) (pc' := 1507) dL_law_1504 (by decide) rfl ⟨fun c9 => ?_, fun c9 => ?_⟩
  · have T := T.1 c9
    exact T
  · have T := T.2 c9
    refine v_iconst (pc' := 1508) (v := 0) dL_law_1507 rfl kI_0 ?_
    exact v_zret dL_law_1508 rfl (Or.inl rfl) T
theorem bL_law_1509 {G : GG} {d : Nat} {h : Hp} {o : OU} {h' : Hp} (r1 : Nat) (r2 : Nat) (r3 : Nat) (x4 : Int32) (hd : 1 ≤ d) (T : vp_in (x4 + 1) (lH h 1) ∧ ∃ z3 h2, VMW G mL_look (d - 1) [.ref r1, .int (h.2 1 (x4 + 1).toNatClampNeg), .ref r3] h (.inl (some (.int z3))) h2 ∧ vp_in (x4 + 1) (lH h2 1) ∧ kH h2 r2 = 18 ∧ ∃ z7 h6, VM G mX10_look (d - 1) [.ref r2, .int (h2.2 1 (x4 + 1).toNatClampNeg)] h2 (.inl (some (.int z7))) h6 ∧ kH h6 r2 = 18 ∧ ∃ z11 h10, VM G mX10_thrown (d - 1) [.ref r2] h6 (.inl (some (.int z11))) h10 ∧ ((z11 = z3 → ((¬ z3 = 0 → V G mL_law d 1562 [.ref 1, .ref r1, .ref r2, .ref r3, .int x4, uV, uV] [] h10 o h') ∧ (z3 = 0 → kH h10 r3 = 4 ∧ vp_in 0 (lH h10 r3) ∧ (((lg_cmp ((h10.2 r3 0).toInt64) z7.toInt64) = 0 → V G mL_law d 1562 [.ref 1, .ref r1, .ref r2, .ref r3, .int x4, uV, uV] [] h10 o h') ∧ (¬ (lg_cmp ((h10.2 r3 0).toInt64) z7.toInt64) = 0 → (o = .inl (some (.int 0)) ∧ h' = h10)))))) ∧ (¬ z11 = z3 → (o = .inl (some (.int 0)) ∧ h' = h10)))) : V G mL_law d 1509 [.ref 1, .ref r1, .ref r2, .ref r3, .int x4, uV, uV] [] h o h' := by
  have hdd : d - 1 + 1 ≤ d := by omega
  refine v_aload_n (pc' := 1510) dL_law_1509 rfl rfl ?_
  refine v_aload_n (pc' := 1511) dL_law_1510 rfl rfl ?_
  refine v_iload (pc' := 1513) dL_law_1511 rfl rfl ?_
  refine v_iconst (pc' := 1514) (v := 1) dL_law_1513 rfl kI_1 ?_
  refine v_iadd (pc' := 1515) dL_law_1514 rfl ?_
  obtain ⟨q1, T⟩ := T
  refine v_sald (pc' := 1516) dL_law_1515 rfl rfl q1 ?_
  refine v_aload_n (pc' := 1517) dL_law_1516 rfl rfl ?_
  obtain ⟨z3, h2, k4, T⟩ := T
  refine v_callSW (pc' := 1520) (M1 := mL_look) (as := [.ref r1, .int (h.2 1 (x4 + 1).toNatClampNeg), .ref r3]) (rest := []) dL_law_1517 rfl ko_L_198 kc_L_look kt_L_look (by decide) hdd rfl rfl (le_l rfl) k4 ?_
  refine v_istore (pc' := 1522) (loc' := [.ref 1, .ref r1, .ref r2, .ref r3, .int x4, .int z3, uV]) dL_law_1520 rfl (lt_l rfl) rfl ?_
  refine v_aload_n (pc' := 1523) dL_law_1522 rfl rfl ?_
  refine v_aload_n (pc' := 1524) dL_law_1523 rfl rfl ?_
  refine v_iload (pc' := 1526) dL_law_1524 rfl rfl ?_
  refine v_iconst (pc' := 1527) (v := 1) dL_law_1526 rfl kI_1 ?_
  refine v_iadd (pc' := 1528) dL_law_1527 rfl ?_
  obtain ⟨q5, T⟩ := T
  refine v_sald (pc' := 1529) dL_law_1528 rfl rfl q5 ?_
  obtain ⟨q9, T⟩ := T
  obtain ⟨z7, h6, k8, T⟩ := T
  refine v_callV (pc' := 1532) (M1 := mX10_look) (as := [.int (h2.2 1 (x4 + 1).toNatClampNeg)]) (r := r2) (rest := []) 8 dL_law_1529 rfl ko_L_200 kc_X10_look ki_X10_look ks_X10_look (by decide) (by decide) hdd rfl rfl (le_l rfl) q9 k8 ?_
  refine v_istore (pc' := 1534) (loc' := [.ref 1, .ref r1, .ref r2, .ref r3, .int x4, .int z3, .int z7]) dL_law_1532 rfl (lt_l rfl) rfl ?_
  refine v_aload_n (pc' := 1535) dL_law_1534 rfl rfl ?_
  obtain ⟨q13, T⟩ := T
  obtain ⟨z11, h10, k12, T⟩ := T
  refine v_callV (pc' := 1538) (M1 := mX10_thrown) (as := []) (r := r2) (rest := []) 8 dL_law_1535 rfl ko_L_109 kc_X10_thrown ki_X10_thrown ks_X10_thrown (by decide) (by decide) hdd rfl rfl (le_l rfl) q13 k12 ?_
  refine v_iload (pc' := 1540) dL_law_1538 rfl rfl ?_
  refine v_icmp_eq (tgt := 1545) (pc' := 1543) dL_law_1540 (by decide) rfl ⟨fun c14 => ?_, fun c14 => ?_⟩
  · have T := T.1 c14
    refine v_iload (pc' := 1547) dL_law_1545 rfl rfl ?_
    refine v_if_ne (tgt := 1562) (pc' := 1550) dL_law_1547 (by decide) rfl ⟨fun c15 => ?_, fun c15 => ?_⟩
    · have T := T.1 c15
      exact V.drop (llp_r (llp_r (llp_r (llp_r (llp_r (llp_u (llp_u llp_nil))))))) T
    · have T := T.2 c15
      refine v_aload_n (pc' := 1551) dL_law_1550 rfl rfl ?_
      refine v_iconst (pc' := 1552) (v := 0) dL_law_1551 rfl kI_0 ?_
      obtain ⟨q16, T⟩ := T
      obtain ⟨q17, T⟩ := T
      refine v_lald (pc' := 1553) dL_law_1552 rfl kN_0 q16 q17 ?_
      refine v_iload (pc' := 1555) dL_law_1553 rfl rfl ?_
      refine v_i2l (pc' := 1556) dL_law_1555 rfl ?_
      refine v_lcmp (pc' := 1557) dL_law_1556 rfl ?_
      refine v_if_eq (tgt := 1562) (pc' := 1560) dL_law_1557 (by decide) rfl ⟨fun c18 => ?_, fun c18 => ?_⟩
      · have T := T.1 c18
        exact V.drop (llp_r (llp_r (llp_r (llp_r (llp_r (llp_u (llp_u llp_nil))))))) T
      · have T := T.2 c18
        refine v_iconst (pc' := 1561) (v := 0) dL_law_1560 rfl kI_0 ?_
        exact v_zret dL_law_1561 rfl (Or.inl rfl) T
  · have T := T.2 c14
    refine v_iconst (pc' := 1544) (v := 0) dL_law_1543 rfl kI_0 ?_
    exact v_zret dL_law_1544 rfl (Or.inl rfl) T
theorem bL_law_1562 {G : GG} {d : Nat} {h : Hp} {o : OU} {h' : Hp} (r1 : Nat) (r2 : Nat) (r3 : Nat) (x4 : Int32) (T : V G mL_law d 2031 [.ref 1, .ref r1, .ref r2, .ref r3, .int x4, uV, uV] [] h o h') : V G mL_law d 1562 [.ref 1, .ref r1, .ref r2, .ref r3, .int x4, uV, uV] [] h o h' := by
  refine v_goto (pc' := 2031) dL_law_1562 (by decide) ?_
  exact T
theorem bL_law_1565 {G : GG} {d : Nat} {h : Hp} {o : OU} {h' : Hp} (r1 : Nat) (r2 : Nat) (r3 : Nat) (x4 : Int32) (hd : 1 ≤ d) (T : vp_in (x4 + 1) (lH h 1) ∧ ∃ z3 h2, VMW G mL_room (d - 1) [.ref r1, .int (h.2 1 (x4 + 1).toNatClampNeg), .ref r3] h (.inl (some (.int z3))) h2 ∧ vp_in (x4 + 1) (lH h2 1) ∧ kH h2 r2 = 18 ∧ ∃ z7 h6, VM G mX10_room (d - 1) [.ref r2, .int (h2.2 1 (x4 + 1).toNatClampNeg)] h2 (.inl (some (.int z7))) h6 ∧ kH h6 r2 = 18 ∧ ∃ z11 h10, VM G mX10_thrown (d - 1) [.ref r2] h6 (.inl (some (.int z11))) h10 ∧ ((z11 = z3 → ((¬ z3 = 0 → V G mL_law d 1618 [.ref 1, .ref r1, .ref r2, .ref r3, .int x4, uV, uV] [] h10 o h') ∧ (z3 = 0 → kH h10 r3 = 4 ∧ vp_in 0 (lH h10 r3) ∧ (((lg_cmp ((h10.2 r3 0).toInt64) z7.toInt64) = 0 → V G mL_law d 1618 [.ref 1, .ref r1, .ref r2, .ref r3, .int x4, uV, uV] [] h10 o h') ∧ (¬ (lg_cmp ((h10.2 r3 0).toInt64) z7.toInt64) = 0 → (o = .inl (some (.int 0)) ∧ h' = h10)))))) ∧ (¬ z11 = z3 → (o = .inl (some (.int 0)) ∧ h' = h10)))) : V G mL_law d 1565 [.ref 1, .ref r1, .ref r2, .ref r3, .int x4, uV, uV] [] h o h' := by
  have hdd : d - 1 + 1 ≤ d := by omega
  refine v_aload_n (pc' := 1566) dL_law_1565 rfl rfl ?_
  refine v_aload_n (pc' := 1567) dL_law_1566 rfl rfl ?_
  refine v_iload (pc' := 1569) dL_law_1567 rfl rfl ?_
  refine v_iconst (pc' := 1570) (v := 1) dL_law_1569 rfl kI_1 ?_
  refine v_iadd (pc' := 1571) dL_law_1570 rfl ?_
  obtain ⟨q1, T⟩ := T
  refine v_sald (pc' := 1572) dL_law_1571 rfl rfl q1 ?_
  refine v_aload_n (pc' := 1573) dL_law_1572 rfl rfl ?_
  obtain ⟨z3, h2, k4, T⟩ := T
  refine v_callSW (pc' := 1576) (M1 := mL_room) (as := [.ref r1, .int (h.2 1 (x4 + 1).toNatClampNeg), .ref r3]) (rest := []) dL_law_1573 rfl ko_L_201 kc_L_room kt_L_room (by decide) hdd rfl rfl (le_l rfl) k4 ?_
  refine v_istore (pc' := 1578) (loc' := [.ref 1, .ref r1, .ref r2, .ref r3, .int x4, .int z3, uV]) dL_law_1576 rfl (lt_l rfl) rfl ?_
  refine v_aload_n (pc' := 1579) dL_law_1578 rfl rfl ?_
  refine v_aload_n (pc' := 1580) dL_law_1579 rfl rfl ?_
  refine v_iload (pc' := 1582) dL_law_1580 rfl rfl ?_
  refine v_iconst (pc' := 1583) (v := 1) dL_law_1582 rfl kI_1 ?_
  refine v_iadd (pc' := 1584) dL_law_1583 rfl ?_
  obtain ⟨q5, T⟩ := T
  refine v_sald (pc' := 1585) dL_law_1584 rfl rfl q5 ?_
  obtain ⟨q9, T⟩ := T
  obtain ⟨z7, h6, k8, T⟩ := T
  refine v_callV (pc' := 1588) (M1 := mX10_room) (as := [.int (h2.2 1 (x4 + 1).toNatClampNeg)]) (r := r2) (rest := []) 8 dL_law_1585 rfl ko_L_203 kc_X10_room ki_X10_room ks_X10_room (by decide) (by decide) hdd rfl rfl (le_l rfl) q9 k8 ?_
  refine v_istore (pc' := 1590) (loc' := [.ref 1, .ref r1, .ref r2, .ref r3, .int x4, .int z3, .int z7]) dL_law_1588 rfl (lt_l rfl) rfl ?_
  refine v_aload_n (pc' := 1591) dL_law_1590 rfl rfl ?_
  obtain ⟨q13, T⟩ := T
  obtain ⟨z11, h10, k12, T⟩ := T
  refine v_callV (pc' := 1594) (M1 := mX10_thrown) (as := []) (r := r2) (rest := []) 8 dL_law_1591 rfl ko_L_109 kc_X10_thrown ki_X10_thrown ks_X10_thrown (by decide) (by decide) hdd rfl rfl (le_l rfl) q13 k12 ?_
  refine v_iload (pc' := 1596) dL_law_1594 rfl rfl ?_
  refine v_icmp_eq (tgt := 1601) (pc' := 1599) dL_law_1596 (by decide) rfl ⟨fun c14 => ?_, fun c14 => ?_⟩
  · have T := T.1 c14
    refine v_iload (pc' := 1603) dL_law_1601 rfl rfl ?_
    refine v_if_ne (tgt := 1618) (pc' := 1606) dL_law_1603 (by decide) rfl ⟨fun c15 => ?_, fun c15 => ?_⟩
    · have T := T.1 c15
      exact V.drop (llp_r (llp_r (llp_r (llp_r (llp_r (llp_u (llp_u llp_nil))))))) T
    · have T := T.2 c15
      refine v_aload_n (pc' := 1607) dL_law_1606 rfl rfl ?_
      refine v_iconst (pc' := 1608) (v := 0) dL_law_1607 rfl kI_0 ?_
      obtain ⟨q16, T⟩ := T
      obtain ⟨q17, T⟩ := T
      refine v_lald (pc' := 1609) dL_law_1608 rfl kN_0 q16 q17 ?_
      refine v_iload (pc' := 1611) dL_law_1609 rfl rfl ?_
      refine v_i2l (pc' := 1612) dL_law_1611 rfl ?_
      refine v_lcmp (pc' := 1613) dL_law_1612 rfl ?_
      refine v_if_eq (tgt := 1618) (pc' := 1616) dL_law_1613 (by decide) rfl ⟨fun c18 => ?_, fun c18 => ?_⟩
      · have T := T.1 c18
        exact V.drop (llp_r (llp_r (llp_r (llp_r (llp_r (llp_u (llp_u llp_nil))))))) T
      · have T := T.2 c18
        refine v_iconst (pc' := 1617) (v := 0) dL_law_1616 rfl kI_0 ?_
        exact v_zret dL_law_1617 rfl (Or.inl rfl) T
  · have T := T.2 c14
    refine v_iconst (pc' := 1600) (v := 0) dL_law_1599 rfl kI_0 ?_
    exact v_zret dL_law_1600 rfl (Or.inl rfl) T
theorem bL_law_1618 {G : GG} {d : Nat} {h : Hp} {o : OU} {h' : Hp} (r1 : Nat) (r2 : Nat) (r3 : Nat) (x4 : Int32) (T : V G mL_law d 2031 [.ref 1, .ref r1, .ref r2, .ref r3, .int x4, uV, uV] [] h o h') : V G mL_law d 1618 [.ref 1, .ref r1, .ref r2, .ref r3, .int x4, uV, uV] [] h o h' := by
  refine v_goto (pc' := 2031) dL_law_1618 (by decide) ?_
  exact T
theorem bL_law_1621 {G : GG} {d : Nat} {h : Hp} {o : OU} {h' : Hp} (r1 : Nat) (r2 : Nat) (r3 : Nat) (x4 : Int32) (hd : 1 ≤ d) (T : vp_in (x4 + 1) (lH h 1) ∧ vp_in (x4 + 2) (lH h 1) ∧ ∃ z4 h3, VMW G mL_owner (d - 1) [.ref r1, .int (h.2 1 (x4 + 1).toNatClampNeg), .int (h.2 1 (x4 + 2).toNatClampNeg), .ref r3] h (.inl (some (.int z4))) h3 ∧ vp_in (x4 + 1) (lH h3 1) ∧ vp_in (x4 + 2) (lH h3 1) ∧ kH h3 r2 = 18 ∧ ∃ z9 h8, VM G mX10_owner (d - 1) [.ref r2, .int (h3.2 1 (x4 + 1).toNatClampNeg), .int (h3.2 1 (x4 + 2).toNatClampNeg)] h3 (.inl (some (.int z9))) h8 ∧ kH h8 r2 = 18 ∧ ∃ z13 h12, VM G mX10_thrown (d - 1) [.ref r2] h8 (.inl (some (.int z13))) h12 ∧ ((z13 = z4 → ((¬ z4 = 0 → V G mL_law d 1686 [.ref 1, .ref r1, .ref r2, .ref r3, .int x4, uV, uV] [] h12 o h') ∧ (z4 = 0 → kH h12 r3 = 4 ∧ vp_in 0 (lH h12 r3) ∧ (((lg_cmp ((h12.2 r3 0).toInt64) z9.toInt64) = 0 → V G mL_law d 1686 [.ref 1, .ref r1, .ref r2, .ref r3, .int x4, uV, uV] [] h12 o h') ∧ (¬ (lg_cmp ((h12.2 r3 0).toInt64) z9.toInt64) = 0 → (o = .inl (some (.int 0)) ∧ h' = h12)))))) ∧ (¬ z13 = z4 → (o = .inl (some (.int 0)) ∧ h' = h12)))) : V G mL_law d 1621 [.ref 1, .ref r1, .ref r2, .ref r3, .int x4, uV, uV] [] h o h' := by
  have hdd : d - 1 + 1 ≤ d := by omega
  refine v_aload_n (pc' := 1622) dL_law_1621 rfl rfl ?_
  refine v_aload_n (pc' := 1623) dL_law_1622 rfl rfl ?_
  refine v_iload (pc' := 1625) dL_law_1623 rfl rfl ?_
  refine v_iconst (pc' := 1626) (v := 1) dL_law_1625 rfl kI_1 ?_
  refine v_iadd (pc' := 1627) dL_law_1626 rfl ?_
  obtain ⟨q1, T⟩ := T
  refine v_sald (pc' := 1628) dL_law_1627 rfl rfl q1 ?_
  refine v_aload_n (pc' := 1629) dL_law_1628 rfl rfl ?_
  refine v_iload (pc' := 1631) dL_law_1629 rfl rfl ?_
  refine v_iconst (pc' := 1632) (v := 2) dL_law_1631 rfl kI_2 ?_
  refine v_iadd (pc' := 1633) dL_law_1632 rfl ?_
  obtain ⟨q2, T⟩ := T
  refine v_sald (pc' := 1634) dL_law_1633 rfl rfl q2 ?_
  refine v_aload_n (pc' := 1635) dL_law_1634 rfl rfl ?_
  obtain ⟨z4, h3, k5, T⟩ := T
  refine v_callSW (pc' := 1638) (M1 := mL_owner) (as := [.ref r1, .int (h.2 1 (x4 + 1).toNatClampNeg), .int (h.2 1 (x4 + 2).toNatClampNeg), .ref r3]) (rest := []) dL_law_1635 rfl ko_L_204 kc_L_owner kt_L_owner (by decide) hdd rfl rfl (le_l rfl) k5 ?_
  refine v_istore (pc' := 1640) (loc' := [.ref 1, .ref r1, .ref r2, .ref r3, .int x4, .int z4, uV]) dL_law_1638 rfl (lt_l rfl) rfl ?_
  refine v_aload_n (pc' := 1641) dL_law_1640 rfl rfl ?_
  refine v_aload_n (pc' := 1642) dL_law_1641 rfl rfl ?_
  refine v_iload (pc' := 1644) dL_law_1642 rfl rfl ?_
  refine v_iconst (pc' := 1645) (v := 1) dL_law_1644 rfl kI_1 ?_
  refine v_iadd (pc' := 1646) dL_law_1645 rfl ?_
  obtain ⟨q6, T⟩ := T
  refine v_sald (pc' := 1647) dL_law_1646 rfl rfl q6 ?_
  refine v_aload_n (pc' := 1648) dL_law_1647 rfl rfl ?_
  refine v_iload (pc' := 1650) dL_law_1648 rfl rfl ?_
  refine v_iconst (pc' := 1651) (v := 2) dL_law_1650 rfl kI_2 ?_
  refine v_iadd (pc' := 1652) dL_law_1651 rfl ?_
  obtain ⟨q7, T⟩ := T
  refine v_sald (pc' := 1653) dL_law_1652 rfl rfl q7 ?_
  obtain ⟨q11, T⟩ := T
  obtain ⟨z9, h8, k10, T⟩ := T
  refine v_callV (pc' := 1656) (M1 := mX10_owner) (as := [.int (h3.2 1 (x4 + 1).toNatClampNeg), .int (h3.2 1 (x4 + 2).toNatClampNeg)]) (r := r2) (rest := []) 8 dL_law_1653 rfl ko_L_206 kc_X10_owner ki_X10_owner ks_X10_owner (by decide) (by decide) hdd rfl rfl (le_l rfl) q11 k10 ?_
  refine v_istore (pc' := 1658) (loc' := [.ref 1, .ref r1, .ref r2, .ref r3, .int x4, .int z4, .int z9]) dL_law_1656 rfl (lt_l rfl) rfl ?_
  refine v_aload_n (pc' := 1659) dL_law_1658 rfl rfl ?_
  obtain ⟨q15, T⟩ := T
  obtain ⟨z13, h12, k14, T⟩ := T
  refine v_callV (pc' := 1662) (M1 := mX10_thrown) (as := []) (r := r2) (rest := []) 8 dL_law_1659 rfl ko_L_109 kc_X10_thrown ki_X10_thrown ks_X10_thrown (by decide) (by decide) hdd rfl rfl (le_l rfl) q15 k14 ?_
  refine v_iload (pc' := 1664) dL_law_1662 rfl rfl ?_
  refine v_icmp_eq (tgt := 1669) (pc' := 1667) dL_law_1664 (by decide) rfl ⟨fun c16 => ?_, fun c16 => ?_⟩
  · have T := T.1 c16
    refine v_iload (pc' := 1671) dL_law_1669 rfl rfl ?_
    refine v_if_ne (tgt := 1686) (pc' := 1674) dL_law_1671 (by decide) rfl ⟨fun c17 => ?_, fun c17 => ?_⟩
    · have T := T.1 c17
      exact V.drop (llp_r (llp_r (llp_r (llp_r (llp_r (llp_u (llp_u llp_nil))))))) T
    · have T := T.2 c17
      refine v_aload_n (pc' := 1675) dL_law_1674 rfl rfl ?_
      refine v_iconst (pc' := 1676) (v := 0) dL_law_1675 rfl kI_0 ?_
      obtain ⟨q18, T⟩ := T
      obtain ⟨q19, T⟩ := T
      refine v_lald (pc' := 1677) dL_law_1676 rfl kN_0 q18 q19 ?_
      refine v_iload (pc' := 1679) dL_law_1677 rfl rfl ?_
      refine v_i2l (pc' := 1680) dL_law_1679 rfl ?_
      refine v_lcmp (pc' := 1681) dL_law_1680 rfl ?_
      refine v_if_eq (tgt := 1686) (pc' := 1684) dL_law_1681 (by decide) rfl ⟨fun c20 => ?_, fun c20 => ?_⟩
      · have T := T.1 c20
        exact V.drop (llp_r (llp_r (llp_r (llp_r (llp_r (llp_u (llp_u llp_nil))))))) T
      · have T := T.2 c20
        refine v_iconst (pc' := 1685) (v := 0) dL_law_1684 rfl kI_0 ?_
        exact v_zret dL_law_1685 rfl (Or.inl rfl) T
  · have T := T.2 c16
    refine v_iconst (pc' := 1668) (v := 0) dL_law_1667 rfl kI_0 ?_
    exact v_zret dL_law_1668 rfl (Or.inl rfl) T
theorem bL_law_1686 {G : GG} {d : Nat} {h : Hp} {o : OU} {h' : Hp} (r1 : Nat) (r2 : Nat) (r3 : Nat) (x4 : Int32) (T : V G mL_law d 2031 [.ref 1, .ref r1, .ref r2, .ref r3, .int x4, uV, uV] [] h o h') : V G mL_law d 1686 [.ref 1, .ref r1, .ref r2, .ref r3, .int x4, uV, uV] [] h o h' := by
  refine v_goto (pc' := 2031) dL_law_1686 (by decide) ?_
  exact T
theorem bL_law_1689 {G : GG} {d : Nat} {h : Hp} {o : OU} {h' : Hp} (r1 : Nat) (r2 : Nat) (r3 : Nat) (x4 : Int32) (hd : 1 ≤ d) (T : vp_in (x4 + 1) (lH h 1) ∧ ∃ z3 h2, VMW G mL_unlike (d - 1) [.ref r1, .int (h.2 1 (x4 + 1).toNatClampNeg), .ref r3] h (.inl (some (.int z3))) h2 ∧ vp_in (x4 + 1) (lH h2 1) ∧ kH h2 r2 = 18 ∧ ∃ z7 h6, VM G mX10_unlike (d - 1) [.ref r2, .int (h2.2 1 (x4 + 1).toNatClampNeg)] h2 (.inl (some (.int z7))) h6 ∧ kH h6 r2 = 18 ∧ ∃ z11 h10, VM G mX10_thrown (d - 1) [.ref r2] h6 (.inl (some (.int z11))) h10 ∧ ((z11 = z3 → ((¬ z3 = 0 → V G mL_law d 1742 [.ref 1, .ref r1, .ref r2, .ref r3, .int x4, uV, uV] [] h10 o h') ∧ (z3 = 0 → kH h10 r3 = 4 ∧ vp_in 0 (lH h10 r3) ∧ (((lg_cmp ((h10.2 r3 0).toInt64) z7.toInt64) = 0 → V G mL_law d 1742 [.ref 1, .ref r1, .ref r2, .ref r3, .int x4, uV, uV] [] h10 o h') ∧ (¬ (lg_cmp ((h10.2 r3 0).toInt64) z7.toInt64) = 0 → (o = .inl (some (.int 0)) ∧ h' = h10)))))) ∧ (¬ z11 = z3 → (o = .inl (some (.int 0)) ∧ h' = h10)))) : V G mL_law d 1689 [.ref 1, .ref r1, .ref r2, .ref r3, .int x4, uV, uV] [] h o h' := by
  have hdd : d - 1 + 1 ≤ d := by omega
  refine v_aload_n (pc' := 1690) dL_law_1689 rfl rfl ?_
  refine v_aload_n (pc' := 1691) dL_law_1690 rfl rfl ?_
  refine v_iload (pc' := 1693) dL_law_1691 rfl rfl ?_
  refine v_iconst (pc' := 1694) (v := 1) dL_law_1693 rfl kI_1 ?_
  refine v_iadd (pc' := 1695) dL_law_1694 rfl ?_
  obtain ⟨q1, T⟩ := T
  refine v_sald (pc' := 1696) dL_law_1695 rfl rfl q1 ?_
  refine v_aload_n (pc' := 1697) dL_law_1696 rfl rfl ?_
  obtain ⟨z3, h2, k4, T⟩ := T
  refine v_callSW (pc' := 1700) (M1 := mL_unlike) (as := [.ref r1, .int (h.2 1 (x4 + 1).toNatClampNeg), .ref r3]) (rest := []) dL_law_1697 rfl ko_L_207 kc_L_unlike kt_L_unlike (by decide) hdd rfl rfl (le_l rfl) k4 ?_
  refine v_istore (pc' := 1702) (loc' := [.ref 1, .ref r1, .ref r2, .ref r3, .int x4, .int z3, uV]) dL_law_1700 rfl (lt_l rfl) rfl ?_
  refine v_aload_n (pc' := 1703) dL_law_1702 rfl rfl ?_
  refine v_aload_n (pc' := 1704) dL_law_1703 rfl rfl ?_
  refine v_iload (pc' := 1706) dL_law_1704 rfl rfl ?_
  refine v_iconst (pc' := 1707) (v := 1) dL_law_1706 rfl kI_1 ?_
  refine v_iadd (pc' := 1708) dL_law_1707 rfl ?_
  obtain ⟨q5, T⟩ := T
  refine v_sald (pc' := 1709) dL_law_1708 rfl rfl q5 ?_
  obtain ⟨q9, T⟩ := T
  obtain ⟨z7, h6, k8, T⟩ := T
  refine v_callV (pc' := 1712) (M1 := mX10_unlike) (as := [.int (h2.2 1 (x4 + 1).toNatClampNeg)]) (r := r2) (rest := []) 8 dL_law_1709 rfl ko_L_209 kc_X10_unlike ki_X10_unlike ks_X10_unlike (by decide) (by decide) hdd rfl rfl (le_l rfl) q9 k8 ?_
  refine v_istore (pc' := 1714) (loc' := [.ref 1, .ref r1, .ref r2, .ref r3, .int x4, .int z3, .int z7]) dL_law_1712 rfl (lt_l rfl) rfl ?_
  refine v_aload_n (pc' := 1715) dL_law_1714 rfl rfl ?_
  obtain ⟨q13, T⟩ := T
  obtain ⟨z11, h10, k12, T⟩ := T
  refine v_callV (pc' := 1718) (M1 := mX10_thrown) (as := []) (r := r2) (rest := []) 8 dL_law_1715 rfl ko_L_109 kc_X10_thrown ki_X10_thrown ks_X10_thrown (by decide) (by decide) hdd rfl rfl (le_l rfl) q13 k12 ?_
  refine v_iload (pc' := 1720) dL_law_1718 rfl rfl ?_
  refine v_icmp_eq (tgt := 1725) (pc' := 1723) dL_law_1720 (by decide) rfl ⟨fun c14 => ?_, fun c14 => ?_⟩
  · have T := T.1 c14
    refine v_iload (pc' := 1727) dL_law_1725 rfl rfl ?_
    refine v_if_ne (tgt := 1742) (pc' := 1730) dL_law_1727 (by decide) rfl ⟨fun c15 => ?_, fun c15 => ?_⟩
    · have T := T.1 c15
      exact V.drop (llp_r (llp_r (llp_r (llp_r (llp_r (llp_u (llp_u llp_nil))))))) T
    · have T := T.2 c15
      refine v_aload_n (pc' := 1731) dL_law_1730 rfl rfl ?_
      refine v_iconst (pc' := 1732) (v := 0) dL_law_1731 rfl kI_0 ?_
      obtain ⟨q16, T⟩ := T
      obtain ⟨q17, T⟩ := T
      refine v_lald (pc' := 1733) dL_law_1732 rfl kN_0 q16 q17 ?_
      refine v_iload (pc' := 1735) dL_law_1733 rfl rfl ?_
      refine v_i2l (pc' := 1736) dL_law_1735 rfl ?_
      refine v_lcmp (pc' := 1737) dL_law_1736 rfl ?_
      refine v_if_eq (tgt := 1742) (pc' := 1740) dL_law_1737 (by decide) rfl ⟨fun c18 => ?_, fun c18 => ?_⟩
      · have T := T.1 c18
        exact V.drop (llp_r (llp_r (llp_r (llp_r (llp_r (llp_u (llp_u llp_nil))))))) T
      · have T := T.2 c18
        refine v_iconst (pc' := 1741) (v := 0) dL_law_1740 rfl kI_0 ?_
        exact v_zret dL_law_1741 rfl (Or.inl rfl) T
  · have T := T.2 c14
    refine v_iconst (pc' := 1724) (v := 0) dL_law_1723 rfl kI_0 ?_
    exact v_zret dL_law_1724 rfl (Or.inl rfl) T
theorem bL_law_1742 {G : GG} {d : Nat} {h : Hp} {o : OU} {h' : Hp} (r1 : Nat) (r2 : Nat) (r3 : Nat) (x4 : Int32) (T : V G mL_law d 2031 [.ref 1, .ref r1, .ref r2, .ref r3, .int x4, uV, uV] [] h o h') : V G mL_law d 1742 [.ref 1, .ref r1, .ref r2, .ref r3, .int x4, uV, uV] [] h o h' := by
  refine v_goto (pc' := 2031) dL_law_1742 (by decide) ?_
  exact T
theorem bL_law_1745 {G : GG} {d : Nat} {h : Hp} {o : OU} {h' : Hp} (r1 : Nat) (r2 : Nat) (r3 : Nat) (x4 : Int32) (hd : 1 ≤ d) (T : vp_in (x4 + 1) (lH h 1) ∧ vp_in (x4 + 2) (lH h 1) ∧ vp_in (x4 + 3) (lH h 1) ∧ vp_in (x4 + 4) (lH h 1) ∧ ∃ z6 h5, VMW G mL_storm (d - 1) [.ref r1, .int (h.2 1 (x4 + 1).toNatClampNeg), .int (h.2 1 (x4 + 2).toNatClampNeg), .int (h.2 1 (x4 + 3).toNatClampNeg), .int (h.2 1 (x4 + 4).toNatClampNeg), .ref r3] h (.inl (some (.int z6))) h5 ∧ vp_in (x4 + 1) (lH h5 1) ∧ vp_in (x4 + 2) (lH h5 1) ∧ vp_in (x4 + 3) (lH h5 1) ∧ vp_in (x4 + 4) (lH h5 1) ∧ kH h5 r2 = 18 ∧ ∃ z13 h12, VM G mX10_storm (d - 1) [.ref r2, .int (h5.2 1 (x4 + 1).toNatClampNeg), .int (h5.2 1 (x4 + 2).toNatClampNeg), .int (h5.2 1 (x4 + 3).toNatClampNeg), .int (h5.2 1 (x4 + 4).toNatClampNeg)] h5 (.inl (some (.int z13))) h12 ∧ kH h12 r2 = 18 ∧ ∃ z17 h16, VM G mX10_thrown (d - 1) [.ref r2] h12 (.inl (some (.int z17))) h16 ∧ ((z17 = z6 → ((¬ z6 = 0 → V G mL_law d 1834 [.ref 1, .ref r1, .ref r2, .ref r3, .int x4, uV, uV] [] h16 o h') ∧ (z6 = 0 → kH h16 r3 = 4 ∧ vp_in 0 (lH h16 r3) ∧ (((lg_cmp ((h16.2 r3 0).toInt64) z13.toInt64) = 0 → V G mL_law d 1834 [.ref 1, .ref r1, .ref r2, .ref r3, .int x4, uV, uV] [] h16 o h') ∧ (¬ (lg_cmp ((h16.2 r3 0).toInt64) z13.toInt64) = 0 → (o = .inl (some (.int 0)) ∧ h' = h16)))))) ∧ (¬ z17 = z6 → (o = .inl (some (.int 0)) ∧ h' = h16)))) : V G mL_law d 1745 [.ref 1, .ref r1, .ref r2, .ref r3, .int x4, uV, uV] [] h o h' := by
  have hdd : d - 1 + 1 ≤ d := by omega
  refine v_aload_n (pc' := 1746) dL_law_1745 rfl rfl ?_
  refine v_aload_n (pc' := 1747) dL_law_1746 rfl rfl ?_
  refine v_iload (pc' := 1749) dL_law_1747 rfl rfl ?_
  refine v_iconst (pc' := 1750) (v := 1) dL_law_1749 rfl kI_1 ?_
  refine v_iadd (pc' := 1751) dL_law_1750 rfl ?_
  obtain ⟨q1, T⟩ := T
  refine v_sald (pc' := 1752) dL_law_1751 rfl rfl q1 ?_
  refine v_aload_n (pc' := 1753) dL_law_1752 rfl rfl ?_
  refine v_iload (pc' := 1755) dL_law_1753 rfl rfl ?_
  refine v_iconst (pc' := 1756) (v := 2) dL_law_1755 rfl kI_2 ?_
  refine v_iadd (pc' := 1757) dL_law_1756 rfl ?_
  obtain ⟨q2, T⟩ := T
  refine v_sald (pc' := 1758) dL_law_1757 rfl rfl q2 ?_
  refine v_aload_n (pc' := 1759) dL_law_1758 rfl rfl ?_
  refine v_iload (pc' := 1761) dL_law_1759 rfl rfl ?_
  refine v_iconst (pc' := 1762) (v := 3) dL_law_1761 rfl kI_3 ?_
  refine v_iadd (pc' := 1763) dL_law_1762 rfl ?_
  obtain ⟨q3, T⟩ := T
  refine v_sald (pc' := 1764) dL_law_1763 rfl rfl q3 ?_
  refine v_aload_n (pc' := 1765) dL_law_1764 rfl rfl ?_
  refine v_iload (pc' := 1767) dL_law_1765 rfl rfl ?_
  refine v_iconst (pc' := 1768) (v := 4) dL_law_1767 rfl kI_4 ?_
  refine v_iadd (pc' := 1769) dL_law_1768 rfl ?_
  obtain ⟨q4, T⟩ := T
  refine v_sald (pc' := 1770) dL_law_1769 rfl rfl q4 ?_
  refine v_aload_n (pc' := 1771) dL_law_1770 rfl rfl ?_
  obtain ⟨z6, h5, k7, T⟩ := T
  refine v_callSW (pc' := 1774) (M1 := mL_storm) (as := [.ref r1, .int (h.2 1 (x4 + 1).toNatClampNeg), .int (h.2 1 (x4 + 2).toNatClampNeg), .int (h.2 1 (x4 + 3).toNatClampNeg), .int (h.2 1 (x4 + 4).toNatClampNeg), .ref r3]) (rest := []) dL_law_1771 rfl ko_L_210 kc_L_storm kt_L_storm (by decide) hdd rfl rfl (le_l rfl) k7 ?_
  refine v_istore (pc' := 1776) (loc' := [.ref 1, .ref r1, .ref r2, .ref r3, .int x4, .int z6, uV]) dL_law_1774 rfl (lt_l rfl) rfl ?_
  refine v_aload_n (pc' := 1777) dL_law_1776 rfl rfl ?_
  refine v_aload_n (pc' := 1778) dL_law_1777 rfl rfl ?_
  refine v_iload (pc' := 1780) dL_law_1778 rfl rfl ?_
  refine v_iconst (pc' := 1781) (v := 1) dL_law_1780 rfl kI_1 ?_
  refine v_iadd (pc' := 1782) dL_law_1781 rfl ?_
  obtain ⟨q8, T⟩ := T
  refine v_sald (pc' := 1783) dL_law_1782 rfl rfl q8 ?_
  refine v_aload_n (pc' := 1784) dL_law_1783 rfl rfl ?_
  refine v_iload (pc' := 1786) dL_law_1784 rfl rfl ?_
  refine v_iconst (pc' := 1787) (v := 2) dL_law_1786 rfl kI_2 ?_
  refine v_iadd (pc' := 1788) dL_law_1787 rfl ?_
  obtain ⟨q9, T⟩ := T
  refine v_sald (pc' := 1789) dL_law_1788 rfl rfl q9 ?_
  refine v_aload_n (pc' := 1790) dL_law_1789 rfl rfl ?_
  refine v_iload (pc' := 1792) dL_law_1790 rfl rfl ?_
  refine v_iconst (pc' := 1793) (v := 3) dL_law_1792 rfl kI_3 ?_
  refine v_iadd (pc' := 1794) dL_law_1793 rfl ?_
  obtain ⟨q10, T⟩ := T
  refine v_sald (pc' := 1795) dL_law_1794 rfl rfl q10 ?_
  refine v_aload_n (pc' := 1796) dL_law_1795 rfl rfl ?_
  refine v_iload (pc' := 1798) dL_law_1796 rfl rfl ?_
  refine v_iconst (pc' := 1799) (v := 4) dL_law_1798 rfl kI_4 ?_
  refine v_iadd (pc' := 1800) dL_law_1799 rfl ?_
  obtain ⟨q11, T⟩ := T
  refine v_sald (pc' := 1801) dL_law_1800 rfl rfl q11 ?_
  obtain ⟨q15, T⟩ := T
  obtain ⟨z13, h12, k14, T⟩ := T
  refine v_callV (pc' := 1804) (M1 := mX10_storm) (as := [.int (h5.2 1 (x4 + 1).toNatClampNeg), .int (h5.2 1 (x4 + 2).toNatClampNeg), .int (h5.2 1 (x4 + 3).toNatClampNeg), .int (h5.2 1 (x4 + 4).toNatClampNeg)]) (r := r2) (rest := []) 8 dL_law_1801 rfl ko_L_213 kc_X10_storm ki_X10_storm ks_X10_storm (by decide) (by decide) hdd rfl rfl (le_l rfl) q15 k14 ?_
  refine v_istore (pc' := 1806) (loc' := [.ref 1, .ref r1, .ref r2, .ref r3, .int x4, .int z6, .int z13]) dL_law_1804 rfl (lt_l rfl) rfl ?_
  refine v_aload_n (pc' := 1807) dL_law_1806 rfl rfl ?_
  obtain ⟨q19, T⟩ := T
  obtain ⟨z17, h16, k18, T⟩ := T
  refine v_callV (pc' := 1810) (M1 := mX10_thrown) (as := []) (r := r2) (rest := []) 8 dL_law_1807 rfl ko_L_109 kc_X10_thrown ki_X10_thrown ks_X10_thrown (by decide) (by decide) hdd rfl rfl (le_l rfl) q19 k18 ?_
  refine v_iload (pc' := 1812) dL_law_1810 rfl rfl ?_
  refine v_icmp_eq (tgt := 1817) (pc' := 1815) dL_law_1812 (by decide) rfl ⟨fun c20 => ?_, fun c20 => ?_⟩
  · have T := T.1 c20
    refine v_iload (pc' := 1819) dL_law_1817 rfl rfl ?_
    refine v_if_ne (tgt := 1834) (pc' := 1822) dL_law_1819 (by decide) rfl ⟨fun c21 => ?_, fun c21 => ?_⟩
    · have T := T.1 c21
      exact V.drop (llp_r (llp_r (llp_r (llp_r (llp_r (llp_u (llp_u llp_nil))))))) T
    · have T := T.2 c21
      refine v_aload_n (pc' := 1823) dL_law_1822 rfl rfl ?_
      refine v_iconst (pc' := 1824) (v := 0) dL_law_1823 rfl kI_0 ?_
      obtain ⟨q22, T⟩ := T
      obtain ⟨q23, T⟩ := T
      refine v_lald (pc' := 1825) dL_law_1824 rfl kN_0 q22 q23 ?_
      refine v_iload (pc' := 1827) dL_law_1825 rfl rfl ?_
      refine v_i2l (pc' := 1828) dL_law_1827 rfl ?_
      refine v_lcmp (pc' := 1829) dL_law_1828 rfl ?_
      refine v_if_eq (tgt := 1834) (pc' := 1832) dL_law_1829 (by decide) rfl ⟨fun c24 => ?_, fun c24 => ?_⟩
      · have T := T.1 c24
        exact V.drop (llp_r (llp_r (llp_r (llp_r (llp_r (llp_u (llp_u llp_nil))))))) T
      · have T := T.2 c24
        refine v_iconst (pc' := 1833) (v := 0) dL_law_1832 rfl kI_0 ?_
        exact v_zret dL_law_1833 rfl (Or.inl rfl) T
  · have T := T.2 c20
    refine v_iconst (pc' := 1816) (v := 0) dL_law_1815 rfl kI_0 ?_
    exact v_zret dL_law_1816 rfl (Or.inl rfl) T
theorem bL_law_1834 {G : GG} {d : Nat} {h : Hp} {o : OU} {h' : Hp} (r1 : Nat) (r2 : Nat) (r3 : Nat) (x4 : Int32) (T : V G mL_law d 2031 [.ref 1, .ref r1, .ref r2, .ref r3, .int x4, uV, uV] [] h o h') : V G mL_law d 1834 [.ref 1, .ref r1, .ref r2, .ref r3, .int x4, uV, uV] [] h o h' := by
  refine v_goto (pc' := 2031) dL_law_1834 (by decide) ?_
  exact T
theorem bL_law_1837 {G : GG} {d : Nat} {h : Hp} {o : OU} {h' : Hp} (r1 : Nat) (r2 : Nat) (r3 : Nat) (x4 : Int32) (hd : 1 ≤ d) (T : vp_in (x4 + 1) (lH h 1) ∧ vp_in (x4 + 2) (lH h 1) ∧ vp_in (x4 + 3) (lH h 1) ∧ vp_in (x4 + 4) (lH h 1) ∧ vp_in (x4 + 5) (lH h 1) ∧ vp_in (x4 + 6) (lH h 1) ∧ ∃ z8 h7, VMW G mL_span (d - 1) [.ref r1, .int (h.2 1 (x4 + 1).toNatClampNeg), .int (h.2 1 (x4 + 2).toNatClampNeg), .int (h.2 1 (x4 + 3).toNatClampNeg), .int (h.2 1 (x4 + 4).toNatClampNeg), .int (h.2 1 (x4 + 5).toNatClampNeg), .int (h.2 1 (x4 + 6).toNatClampNeg), .ref r3] h (.inl (some (.int z8))) h7 ∧ vp_in (x4 + 1) (lH h7 1) ∧ vp_in (x4 + 2) (lH h7 1) ∧ vp_in (x4 + 3) (lH h7 1) ∧ vp_in (x4 + 4) (lH h7 1) ∧ vp_in (x4 + 5) (lH h7 1) ∧ vp_in (x4 + 6) (lH h7 1) ∧ kH h7 r2 = 18 ∧ ∃ z17 h16, VM G mX10_span (d - 1) [.ref r2, .int (h7.2 1 (x4 + 1).toNatClampNeg), .int (h7.2 1 (x4 + 2).toNatClampNeg), .int (h7.2 1 (x4 + 3).toNatClampNeg), .int (h7.2 1 (x4 + 4).toNatClampNeg), .int (h7.2 1 (x4 + 5).toNatClampNeg), .int (h7.2 1 (x4 + 6).toNatClampNeg)] h7 (.inl (some (.int z17))) h16 ∧ kH h16 r2 = 18 ∧ ∃ z21 h20, VM G mX10_thrown (d - 1) [.ref r2] h16 (.inl (some (.int z21))) h20 ∧ ((z21 = z8 → ((¬ z8 = 0 → V G mL_law d 1952 [.ref 1, .ref r1, .ref r2, .ref r3, .int x4, uV, uV] [] h20 o h') ∧ (z8 = 0 → kH h20 r3 = 4 ∧ vp_in 0 (lH h20 r3) ∧ (((lg_cmp ((h20.2 r3 0).toInt64) z17.toInt64) = 0 → V G mL_law d 1952 [.ref 1, .ref r1, .ref r2, .ref r3, .int x4, uV, uV] [] h20 o h') ∧ (¬ (lg_cmp ((h20.2 r3 0).toInt64) z17.toInt64) = 0 → (o = .inl (some (.int 0)) ∧ h' = h20)))))) ∧ (¬ z21 = z8 → (o = .inl (some (.int 0)) ∧ h' = h20)))) : V G mL_law d 1837 [.ref 1, .ref r1, .ref r2, .ref r3, .int x4, uV, uV] [] h o h' := by
  have hdd : d - 1 + 1 ≤ d := by omega
  refine v_aload_n (pc' := 1838) dL_law_1837 rfl rfl ?_
  refine v_aload_n (pc' := 1839) dL_law_1838 rfl rfl ?_
  refine v_iload (pc' := 1841) dL_law_1839 rfl rfl ?_
  refine v_iconst (pc' := 1842) (v := 1) dL_law_1841 rfl kI_1 ?_
  refine v_iadd (pc' := 1843) dL_law_1842 rfl ?_
  obtain ⟨q1, T⟩ := T
  refine v_sald (pc' := 1844) dL_law_1843 rfl rfl q1 ?_
  refine v_aload_n (pc' := 1845) dL_law_1844 rfl rfl ?_
  refine v_iload (pc' := 1847) dL_law_1845 rfl rfl ?_
  refine v_iconst (pc' := 1848) (v := 2) dL_law_1847 rfl kI_2 ?_
  refine v_iadd (pc' := 1849) dL_law_1848 rfl ?_
  obtain ⟨q2, T⟩ := T
  refine v_sald (pc' := 1850) dL_law_1849 rfl rfl q2 ?_
  refine v_aload_n (pc' := 1851) dL_law_1850 rfl rfl ?_
  refine v_iload (pc' := 1853) dL_law_1851 rfl rfl ?_
  refine v_iconst (pc' := 1854) (v := 3) dL_law_1853 rfl kI_3 ?_
  refine v_iadd (pc' := 1855) dL_law_1854 rfl ?_
  obtain ⟨q3, T⟩ := T
  refine v_sald (pc' := 1856) dL_law_1855 rfl rfl q3 ?_
  refine v_aload_n (pc' := 1857) dL_law_1856 rfl rfl ?_
  refine v_iload (pc' := 1859) dL_law_1857 rfl rfl ?_
  refine v_iconst (pc' := 1860) (v := 4) dL_law_1859 rfl kI_4 ?_
  refine v_iadd (pc' := 1861) dL_law_1860 rfl ?_
  obtain ⟨q4, T⟩ := T
  refine v_sald (pc' := 1862) dL_law_1861 rfl rfl q4 ?_
  refine v_aload_n (pc' := 1863) dL_law_1862 rfl rfl ?_
  refine v_iload (pc' := 1865) dL_law_1863 rfl rfl ?_
  refine v_iconst (pc' := 1866) (v := 5) dL_law_1865 rfl kI_5 ?_
  refine v_iadd (pc' := 1867) dL_law_1866 rfl ?_
  obtain ⟨q5, T⟩ := T
  refine v_sald (pc' := 1868) dL_law_1867 rfl rfl q5 ?_
  refine v_aload_n (pc' := 1869) dL_law_1868 rfl rfl ?_
  refine v_iload (pc' := 1871) dL_law_1869 rfl rfl ?_
  refine v_bipush (pc' := 1873) (v := 6) dL_law_1871 rfl kB_6 ?_
  refine v_iadd (pc' := 1874) dL_law_1873 rfl ?_
  obtain ⟨q6, T⟩ := T
  refine v_sald (pc' := 1875) dL_law_1874 rfl rfl q6 ?_
  refine v_aload_n (pc' := 1876) dL_law_1875 rfl rfl ?_
  obtain ⟨z8, h7, k9, T⟩ := T
  refine v_callSW (pc' := 1879) (M1 := mL_span) (as := [.ref r1, .int (h.2 1 (x4 + 1).toNatClampNeg), .int (h.2 1 (x4 + 2).toNatClampNeg), .int (h.2 1 (x4 + 3).toNatClampNeg), .int (h.2 1 (x4 + 4).toNatClampNeg), .int (h.2 1 (x4 + 5).toNatClampNeg), .int (h.2 1 (x4 + 6).toNatClampNeg), .ref r3]) (rest := []) dL_law_1876 rfl ko_L_214 kc_L_span kt_L_span (by decide) hdd rfl rfl (le_l rfl) k9 ?_
  refine v_istore (pc' := 1881) (loc' := [.ref 1, .ref r1, .ref r2, .ref r3, .int x4, .int z8, uV]) dL_law_1879 rfl (lt_l rfl) rfl ?_
  refine v_aload_n (pc' := 1882) dL_law_1881 rfl rfl ?_
  refine v_aload_n (pc' := 1883) dL_law_1882 rfl rfl ?_
  refine v_iload (pc' := 1885) dL_law_1883 rfl rfl ?_
  refine v_iconst (pc' := 1886) (v := 1) dL_law_1885 rfl kI_1 ?_
  refine v_iadd (pc' := 1887) dL_law_1886 rfl ?_
  obtain ⟨q10, T⟩ := T
  refine v_sald (pc' := 1888) dL_law_1887 rfl rfl q10 ?_
  refine v_aload_n (pc' := 1889) dL_law_1888 rfl rfl ?_
  refine v_iload (pc' := 1891) dL_law_1889 rfl rfl ?_
  refine v_iconst (pc' := 1892) (v := 2) dL_law_1891 rfl kI_2 ?_
  refine v_iadd (pc' := 1893) dL_law_1892 rfl ?_
  obtain ⟨q11, T⟩ := T
  refine v_sald (pc' := 1894) dL_law_1893 rfl rfl q11 ?_
  refine v_aload_n (pc' := 1895) dL_law_1894 rfl rfl ?_
  refine v_iload (pc' := 1897) dL_law_1895 rfl rfl ?_
  refine v_iconst (pc' := 1898) (v := 3) dL_law_1897 rfl kI_3 ?_
  refine v_iadd (pc' := 1899) dL_law_1898 rfl ?_
  obtain ⟨q12, T⟩ := T
  refine v_sald (pc' := 1900) dL_law_1899 rfl rfl q12 ?_
  refine v_aload_n (pc' := 1901) dL_law_1900 rfl rfl ?_
  refine v_iload (pc' := 1903) dL_law_1901 rfl rfl ?_
  refine v_iconst (pc' := 1904) (v := 4) dL_law_1903 rfl kI_4 ?_
  refine v_iadd (pc' := 1905) dL_law_1904 rfl ?_
  obtain ⟨q13, T⟩ := T
  refine v_sald (pc' := 1906) dL_law_1905 rfl rfl q13 ?_
  refine v_aload_n (pc' := 1907) dL_law_1906 rfl rfl ?_
  refine v_iload (pc' := 1909) dL_law_1907 rfl rfl ?_
  refine v_iconst (pc' := 1910) (v := 5) dL_law_1909 rfl kI_5 ?_
  refine v_iadd (pc' := 1911) dL_law_1910 rfl ?_
  obtain ⟨q14, T⟩ := T
  refine v_sald (pc' := 1912) dL_law_1911 rfl rfl q14 ?_
  refine v_aload_n (pc' := 1913) dL_law_1912 rfl rfl ?_
  refine v_iload (pc' := 1915) dL_law_1913 rfl rfl ?_
  refine v_bipush (pc' := 1917) (v := 6) dL_law_1915 rfl kB_6 ?_
  refine v_iadd (pc' := 1918) dL_law_1917 rfl ?_
  obtain ⟨q15, T⟩ := T
  refine v_sald (pc' := 1919) dL_law_1918 rfl rfl q15 ?_
  obtain ⟨q19, T⟩ := T
  obtain ⟨z17, h16, k18, T⟩ := T
  refine v_callV (pc' := 1922) (M1 := mX10_span) (as := [.int (h7.2 1 (x4 + 1).toNatClampNeg), .int (h7.2 1 (x4 + 2).toNatClampNeg), .int (h7.2 1 (x4 + 3).toNatClampNeg), .int (h7.2 1 (x4 + 4).toNatClampNeg), .int (h7.2 1 (x4 + 5).toNatClampNeg), .int (h7.2 1 (x4 + 6).toNatClampNeg)]) (r := r2) (rest := []) 8 dL_law_1919 rfl ko_L_217 kc_X10_span ki_X10_span ks_X10_span (by decide) (by decide) hdd rfl rfl (le_l rfl) q19 k18 ?_
  refine v_istore (pc' := 1924) (loc' := [.ref 1, .ref r1, .ref r2, .ref r3, .int x4, .int z8, .int z17]) dL_law_1922 rfl (lt_l rfl) rfl ?_
  refine v_aload_n (pc' := 1925) dL_law_1924 rfl rfl ?_
  obtain ⟨q23, T⟩ := T
  obtain ⟨z21, h20, k22, T⟩ := T
  refine v_callV (pc' := 1928) (M1 := mX10_thrown) (as := []) (r := r2) (rest := []) 8 dL_law_1925 rfl ko_L_109 kc_X10_thrown ki_X10_thrown ks_X10_thrown (by decide) (by decide) hdd rfl rfl (le_l rfl) q23 k22 ?_
  refine v_iload (pc' := 1930) dL_law_1928 rfl rfl ?_
  refine v_icmp_eq (tgt := 1935) (pc' := 1933) dL_law_1930 (by decide) rfl ⟨fun c24 => ?_, fun c24 => ?_⟩
  · have T := T.1 c24
    refine v_iload (pc' := 1937) dL_law_1935 rfl rfl ?_
    refine v_if_ne (tgt := 1952) (pc' := 1940) dL_law_1937 (by decide) rfl ⟨fun c25 => ?_, fun c25 => ?_⟩
    · have T := T.1 c25
      exact V.drop (llp_r (llp_r (llp_r (llp_r (llp_r (llp_u (llp_u llp_nil))))))) T
    · have T := T.2 c25
      refine v_aload_n (pc' := 1941) dL_law_1940 rfl rfl ?_
      refine v_iconst (pc' := 1942) (v := 0) dL_law_1941 rfl kI_0 ?_
      obtain ⟨q26, T⟩ := T
      obtain ⟨q27, T⟩ := T
      refine v_lald (pc' := 1943) dL_law_1942 rfl kN_0 q26 q27 ?_
      refine v_iload (pc' := 1945) dL_law_1943 rfl rfl ?_
      refine v_i2l (pc' := 1946) dL_law_1945 rfl ?_
      refine v_lcmp (pc' := 1947) dL_law_1946 rfl ?_
      refine v_if_eq (tgt := 1952) (pc' := 1950) dL_law_1947 (by decide) rfl ⟨fun c28 => ?_, fun c28 => ?_⟩
      · have T := T.1 c28
        exact V.drop (llp_r (llp_r (llp_r (llp_r (llp_r (llp_u (llp_u llp_nil))))))) T
      · have T := T.2 c28
        refine v_iconst (pc' := 1951) (v := 0) dL_law_1950 rfl kI_0 ?_
        exact v_zret dL_law_1951 rfl (Or.inl rfl) T
  · have T := T.2 c24
    refine v_iconst (pc' := 1934) (v := 0) dL_law_1933 rfl kI_0 ?_
    exact v_zret dL_law_1934 rfl (Or.inl rfl) T
theorem bL_law_1952 {G : GG} {d : Nat} {h : Hp} {o : OU} {h' : Hp} (r1 : Nat) (r2 : Nat) (r3 : Nat) (x4 : Int32) (T : V G mL_law d 2031 [.ref 1, .ref r1, .ref r2, .ref r3, .int x4, uV, uV] [] h o h') : V G mL_law d 1952 [.ref 1, .ref r1, .ref r2, .ref r3, .int x4, uV, uV] [] h o h' := by
  refine v_goto (pc' := 2031) dL_law_1952 (by decide) ?_
  exact T
theorem bL_law_1955 {G : GG} {d : Nat} {h : Hp} {o : OU} {h' : Hp} (r1 : Nat) (r2 : Nat) (r3 : Nat) (x4 : Int32) (hd : 1 ≤ d) (T : kH h r1 = 19 ∧ ∃ z2 h1, VM G mX9_image (d - 1) [.ref r1] h (.inl (some (.int z2))) h1 ∧ kH h1 r2 = 18 ∧ ∃ z6 h5, VM G mX10_image (d - 1) [.ref r2] h1 (.inl (some (.int z6))) h5 ∧ ((z2 = z6 → V G mL_law d 2031 [.ref 1, .ref r1, .ref r2, .ref r3, .int x4, uV, uV] [] h5 o h') ∧ (¬ z2 = z6 → (o = .inl (some (.int 0)) ∧ h' = h5)))) : V G mL_law d 1955 [.ref 1, .ref r1, .ref r2, .ref r3, .int x4, uV, uV] [] h o h' := by
  have hdd : d - 1 + 1 ≤ d := by omega
  refine v_aload_n (pc' := 1956) dL_law_1955 rfl rfl ?_
  obtain ⟨q4, T⟩ := T
  obtain ⟨z2, h1, k3, T⟩ := T
  refine v_callV (pc' := 1959) (M1 := mX9_image) (as := []) (r := r1) (rest := []) 9 dL_law_1956 rfl ko_L_218 kc_X9_image ki_X9_image ks_X9_image (by decide) (by decide) hdd rfl rfl (le_l rfl) q4 k3 ?_
  refine v_aload_n (pc' := 1960) dL_law_1959 rfl rfl ?_
  obtain ⟨q8, T⟩ := T
  obtain ⟨z6, h5, k7, T⟩ := T
  refine v_callV (pc' := 1963) (M1 := mX10_image) (as := []) (r := r2) (rest := [.int z2]) 8 dL_law_1960 rfl ko_L_221 kc_X10_image ki_X10_image ks_X10_image (by decide) (by decide) hdd rfl rfl (le_l rfl) q8 k7 ?_
  refine v_icmp_eq (tgt := 2031) (pc' := 1966) dL_law_1963 (by decide) rfl ⟨fun c9 => ?_, fun c9 => ?_⟩
  · have T := T.1 c9
    exact T
  · have T := T.2 c9
    refine v_iconst (pc' := 1967) (v := 0) dL_law_1966 rfl kI_0 ?_
    exact v_zret dL_law_1967 rfl (Or.inl rfl) T
theorem bL_law_1968 {G : GG} {d : Nat} {h : Hp} {o : OU} {h' : Hp} (r1 : Nat) (r2 : Nat) (r3 : Nat) (x4 : Int32) (hd : 1 ≤ d) (T : kH h r1 = 19 ∧ ∃ z2 h1, VM G mX9_restore (d - 1) [.ref r1] h (.inl (some (.int z2))) h1 ∧ kH h1 r2 = 18 ∧ ∃ z6 h5, VM G mX10_restore (d - 1) [.ref r2] h1 (.inl (some (.int z6))) h5 ∧ ((z2 = z6 → V G mL_law d 2031 [.ref 1, .ref r1, .ref r2, .ref r3, .int x4, uV, uV] [] h5 o h') ∧ (¬ z2 = z6 → (o = .inl (some (.int 0)) ∧ h' = h5)))) : V G mL_law d 1968 [.ref 1, .ref r1, .ref r2, .ref r3, .int x4, uV, uV] [] h o h' := by
  have hdd : d - 1 + 1 ≤ d := by omega
  refine v_aload_n (pc' := 1969) dL_law_1968 rfl rfl ?_
  obtain ⟨q4, T⟩ := T
  obtain ⟨z2, h1, k3, T⟩ := T
  refine v_callV (pc' := 1972) (M1 := mX9_restore) (as := []) (r := r1) (rest := []) 9 dL_law_1969 rfl ko_L_222 kc_X9_restore ki_X9_restore ks_X9_restore (by decide) (by decide) hdd rfl rfl (le_l rfl) q4 k3 ?_
  refine v_aload_n (pc' := 1973) dL_law_1972 rfl rfl ?_
  obtain ⟨q8, T⟩ := T
  obtain ⟨z6, h5, k7, T⟩ := T
  refine v_callV (pc' := 1976) (M1 := mX10_restore) (as := []) (r := r2) (rest := [.int z2]) 8 dL_law_1973 rfl ko_L_225 kc_X10_restore ki_X10_restore ks_X10_restore (by decide) (by decide) hdd rfl rfl (le_l rfl) q8 k7 ?_
  refine v_icmp_eq (tgt := 2031) (pc' := 1979) dL_law_1976 (by decide) rfl ⟨fun c9 => ?_, fun c9 => ?_⟩
  · have T := T.1 c9
    exact T
  · have T := T.2 c9
    refine v_iconst (pc' := 1980) (v := 0) dL_law_1979 rfl kI_0 ?_
    exact v_zret dL_law_1980 rfl (Or.inl rfl) T
theorem bL_law_1981 {G : GG} {d : Nat} {h : Hp} {o : OU} {h' : Hp} (r1 : Nat) (r2 : Nat) (r3 : Nat) (x4 : Int32) (hd : 1 ≤ d) (T : vp_in (x4 + 1) (lH h 1) ∧ kH h r1 = 19 ∧ ∃ z3 h2, VM G mX9_status (d - 1) [.ref r1, .int (h.2 1 (x4 + 1).toNatClampNeg)] h (.inl (some (.int z3))) h2 ∧ vp_in (x4 + 1) (lH h2 1) ∧ kH h2 r2 = 18 ∧ ∃ z8 h7, VM G mX10_status (d - 1) [.ref r2, .int (h2.2 1 (x4 + 1).toNatClampNeg)] h2 (.inl (some (.int z8))) h7 ∧ ((z3 = z8 → V G mL_law d 2031 [.ref 1, .ref r1, .ref r2, .ref r3, .int x4, uV, uV] [] h7 o h') ∧ (¬ z3 = z8 → (o = .inl (some (.int 0)) ∧ h' = h7)))) : V G mL_law d 1981 [.ref 1, .ref r1, .ref r2, .ref r3, .int x4, uV, uV] [] h o h' := by
  have hdd : d - 1 + 1 ≤ d := by omega
  refine v_aload_n (pc' := 1982) dL_law_1981 rfl rfl ?_
  refine v_aload_n (pc' := 1983) dL_law_1982 rfl rfl ?_
  refine v_iload (pc' := 1985) dL_law_1983 rfl rfl ?_
  refine v_iconst (pc' := 1986) (v := 1) dL_law_1985 rfl kI_1 ?_
  refine v_iadd (pc' := 1987) dL_law_1986 rfl ?_
  obtain ⟨q1, T⟩ := T
  refine v_sald (pc' := 1988) dL_law_1987 rfl rfl q1 ?_
  obtain ⟨q5, T⟩ := T
  obtain ⟨z3, h2, k4, T⟩ := T
  refine v_callV (pc' := 1991) (M1 := mX9_status) (as := [.int (h.2 1 (x4 + 1).toNatClampNeg)]) (r := r1) (rest := []) 9 dL_law_1988 rfl ko_L_226 kc_X9_status ki_X9_status ks_X9_status (by decide) (by decide) hdd rfl rfl (le_l rfl) q5 k4 ?_
  refine v_aload_n (pc' := 1992) dL_law_1991 rfl rfl ?_
  refine v_aload_n (pc' := 1993) dL_law_1992 rfl rfl ?_
  refine v_iload (pc' := 1995) dL_law_1993 rfl rfl ?_
  refine v_iconst (pc' := 1996) (v := 1) dL_law_1995 rfl kI_1 ?_
  refine v_iadd (pc' := 1997) dL_law_1996 rfl ?_
  obtain ⟨q6, T⟩ := T
  refine v_sald (pc' := 1998) dL_law_1997 rfl rfl q6 ?_
  obtain ⟨q10, T⟩ := T
  obtain ⟨z8, h7, k9, T⟩ := T
  refine v_callV (pc' := 2001) (M1 := mX10_status) (as := [.int (h2.2 1 (x4 + 1).toNatClampNeg)]) (r := r2) (rest := [.int z3]) 8 dL_law_1998 rfl ko_L_229 kc_X10_status ki_X10_status ks_X10_status (by decide) (by decide) hdd rfl rfl (le_l rfl) q10 k9 ?_
  refine v_icmp_eq (tgt := 2031) (pc' := 2004) dL_law_2001 (by decide) rfl ⟨fun c11 => ?_, fun c11 => ?_⟩
  · have T := T.1 c11
    exact T
  · have T := T.2 c11
    refine v_iconst (pc' := 2005) (v := 0) dL_law_2004 rfl kI_0 ?_
    exact v_zret dL_law_2005 rfl (Or.inl rfl) T
theorem bL_law_2006 {G : GG} {d : Nat} {h : Hp} {o : OU} {h' : Hp} (r1 : Nat) (r2 : Nat) (r3 : Nat) (x4 : Int32) (hd : 1 ≤ d) (T : vp_in (x4 + 1) (lH h 1) ∧ kH h r1 = 19 ∧ ∃ z3 h2, VM G mX9_count (d - 1) [.ref r1, .int (h.2 1 (x4 + 1).toNatClampNeg)] h (.inl (some (.int z3))) h2 ∧ vp_in (x4 + 1) (lH h2 1) ∧ kH h2 r2 = 18 ∧ ∃ z8 h7, VM G mX10_count (d - 1) [.ref r2, .int (h2.2 1 (x4 + 1).toNatClampNeg)] h2 (.inl (some (.int z8))) h7 ∧ ((z3 = z8 → V G mL_law d 2031 [.ref 1, .ref r1, .ref r2, .ref r3, .int x4, uV, uV] [] h7 o h') ∧ (¬ z3 = z8 → (o = .inl (some (.int 0)) ∧ h' = h7)))) : V G mL_law d 2006 [.ref 1, .ref r1, .ref r2, .ref r3, .int x4, uV, uV] [] h o h' := by
  have hdd : d - 1 + 1 ≤ d := by omega
  refine v_aload_n (pc' := 2007) dL_law_2006 rfl rfl ?_
  refine v_aload_n (pc' := 2008) dL_law_2007 rfl rfl ?_
  refine v_iload (pc' := 2010) dL_law_2008 rfl rfl ?_
  refine v_iconst (pc' := 2011) (v := 1) dL_law_2010 rfl kI_1 ?_
  refine v_iadd (pc' := 2012) dL_law_2011 rfl ?_
  obtain ⟨q1, T⟩ := T
  refine v_sald (pc' := 2013) dL_law_2012 rfl rfl q1 ?_
  obtain ⟨q5, T⟩ := T
  obtain ⟨z3, h2, k4, T⟩ := T
  refine v_callV (pc' := 2016) (M1 := mX9_count) (as := [.int (h.2 1 (x4 + 1).toNatClampNeg)]) (r := r1) (rest := []) 9 dL_law_2013 rfl ko_L_230 kc_X9_count ki_X9_count ks_X9_count (by decide) (by decide) hdd rfl rfl (le_l rfl) q5 k4 ?_
  refine v_aload_n (pc' := 2017) dL_law_2016 rfl rfl ?_
  refine v_aload_n (pc' := 2018) dL_law_2017 rfl rfl ?_
  refine v_iload (pc' := 2020) dL_law_2018 rfl rfl ?_
  refine v_iconst (pc' := 2021) (v := 1) dL_law_2020 rfl kI_1 ?_
  refine v_iadd (pc' := 2022) dL_law_2021 rfl ?_
  obtain ⟨q6, T⟩ := T
  refine v_sald (pc' := 2023) dL_law_2022 rfl rfl q6 ?_
  obtain ⟨q10, T⟩ := T
  obtain ⟨z8, h7, k9, T⟩ := T
  refine v_callV (pc' := 2026) (M1 := mX10_count) (as := [.int (h2.2 1 (x4 + 1).toNatClampNeg)]) (r := r2) (rest := [.int z3]) 8 dL_law_2023 rfl ko_L_233 kc_X10_count ki_X10_count ks_X10_count (by decide) (by decide) hdd rfl rfl (le_l rfl) q10 k9 ?_
  refine v_icmp_eq (tgt := 2031) (pc' := 2029) dL_law_2026 (by decide) rfl ⟨fun c11 => ?_, fun c11 => ?_⟩
  · have T := T.1 c11
    exact T
  · have T := T.2 c11
    refine v_iconst (pc' := 2030) (v := 0) dL_law_2029 rfl kI_0 ?_
    exact v_zret dL_law_2030 rfl (Or.inl rfl) T
theorem bL_law_2031 {G : GG} {d : Nat} {h : Hp} {o : OU} {h' : Hp} (r1 : Nat) (r2 : Nat) (r3 : Nat) (x4 : Int32) (T : V G mL_law d 23 [.ref 1, .ref r1, .ref r2, .ref r3, .int (x4 + 7), uV, uV] [] h o h') : V G mL_law d 2031 [.ref 1, .ref r1, .ref r2, .ref r3, .int x4, uV, uV] [] h o h' := by
  refine v_iinc (pc' := 2034) (loc' := [.ref 1, .ref r1, .ref r2, .ref r3, .int (x4 + 7), uV, uV]) dL_law_2031 rfl rfl (kX_7 _) rfl ?_
  refine v_goto (pc' := 23) dL_law_2034 (by decide) ?_
  exact T
