/-! ===== the law's cases (by gen_d51.py) ===== -/
theorem cmp_self (a : Int64) : lg_cmp a a = 0 := by
  unfold lg_cmp
  simp
theorem thr_e {h : Hp} {m : Nat} (k : kH h m = 18) : fX10_thrown m h = some (.inl (some (.int (h.2 m 0))), h) := by
  unfold fX10_thrown kX10_thrown_0
  rw [if_pos k]
theorem nI_2 (a : Nat) : nI a + 2 = nI (a + 2) := nI_add a 2
theorem nI_3 (a : Nat) : nI a + 3 = nI (a + 3) := nI_add a 3
theorem nI_4 (a : Nat) : nI a + 4 = nI (a + 4) := nI_add a 4
theorem nI_5 (a : Nat) : nI a + 5 = nI (a + 5) := nI_add a 5
theorem nI_6 (a : Nat) : nI a + 6 = nI (a + 6) := nI_add a 6
theorem nI_7 (a : Nat) : nI a + 7 = nI (a + 7) := nI_add a 7
section LCS
variable {h h' : Hp} {x m o B L c z n i f : Nat} {xs : Nat → Int32} {bl : Nat → Nat} {S : St} {T : Nat → Nat} {ls : List (Nat × Nat)} {fp rs : Int32} {rf : Nat → Int32} {hi : List St} {im : List (St × List St)}
theorem L_feed (hl : Ls o B h L xs) (hi : i + 7 ≤ L) (hL : L ≤ 3584) (kx : kH h x = 19) (st : ∃ h2 h6 v, fX9_feed x (xs (i + 1)) (xs (i + 2)) (xs (i + 3)) (xs (i + 4)) (xs (i + 5)) h = some (.inl (some (.int v)), h2) ∧ Ls o B h2 L xs ∧ kH h2 m = 18 ∧ fX10_feed m (xs (i + 1)) (xs (i + 2)) (xs (i + 3)) (xs (i + 4)) (xs (i + 5)) h2 = some (.inl (some (.int v)), h6) ∧ LW x m o B h6 L xs c) : ∃ h', gL_law (f + 1 + 1) 204 [.ref 1, .ref x, .ref m, .ref o, .int (nI i), uV, uV] [] h = gL_law f 23 [.ref 1, .ref x, .ref m, .ref o, .int (nI (i + 7)), uV, uV] [] h' ∧ LW x m o B h' L xs c := by
  obtain ⟨h2, h6, v, e1, l2, k2, e2, W⟩ := st
  refine ⟨h6, ?_, W⟩
  rw [zL_law_204]
  unfold kL_law_204
  rw [nI_1, nI_2, nI_3, nI_4, nI_5, show (nI (i + 1)).toNatClampNeg = i + 1 from nI_clamp (by omega), show (nI (i + 2)).toNatClampNeg = i + 2 from nI_clamp (by omega), show (nI (i + 3)).toNatClampNeg = i + 3 from nI_clamp (by omega), show (nI (i + 4)).toNatClampNeg = i + 4 from nI_clamp (by omega), show (nI (i + 5)).toNatClampNeg = i + 5 from nI_clamp (by omega), hl.2.2.1, if_pos (show inB (nI (i + 1)) L = true from inB_nI (by omega) (by omega)), if_pos (show inB (nI (i + 2)) L = true from inB_nI (by omega) (by omega)), if_pos (show inB (nI (i + 3)) L = true from inB_nI (by omega) (by omega)), if_pos (show inB (nI (i + 4)) L = true from inB_nI (by omega) (by omega)), if_pos (show inB (nI (i + 5)) L = true from inB_nI (by omega) (by omega)), hl.2.2.2.1, if_pos kx, e1, bI_s, l2.2.2.1, if_pos (show inB (nI (i + 1)) L = true from inB_nI (by omega) (by omega)), if_pos (show inB (nI (i + 2)) L = true from inB_nI (by omega) (by omega)), if_pos (show inB (nI (i + 3)) L = true from inB_nI (by omega) (by omega)), if_pos (show inB (nI (i + 4)) L = true from inB_nI (by omega) (by omega)), if_pos (show inB (nI (i + 5)) L = true from inB_nI (by omega) (by omega)), l2.2.2.2.1, if_pos k2, e2, bI_s, if_pos rfl, zL_law_2031]
  unfold kL_law_2031
  rw [nI_7]
theorem L_store (hl : Ls o B h L xs) (hi : i + 7 ≤ L) (hL : L ≤ 3584) (kx : kH h x = 19) (st : ∃ h2 h6 cd v, wrp o (mp1 xIA) (fX9_store x (xs (i + 1)) h) = some (.inl (some (.int cd)), h2) ∧ Ls o B h2 L xs ∧ kH h2 m = 18 ∧ fX10_store m (xs (i + 1)) h2 = some (.inl (some (.int v)), h6) ∧ kH h6 m = 18 ∧ h6.2 m 0 = cd ∧ (cd = 0 → h6.2 o 0 = v) ∧ LW x m o B h6 L xs c) : ∃ h', gL_law (f + 1 + 1 + 1) 277 [.ref 1, .ref x, .ref m, .ref o, .int (nI i), uV, uV] [] h = gL_law f 23 [.ref 1, .ref x, .ref m, .ref o, .int (nI (i + 7)), uV, uV] [] h' ∧ LW x m o B h' L xs c := by
  obtain ⟨h2, h6, cd, v, e1, l2, k2, e2, k6, t6, o6, W⟩ := st
  refine ⟨h6, ?_, W⟩
  rw [zL_law_277]
  unfold kL_law_277
  rw [nI_1, show (nI (i + 1)).toNatClampNeg = i + 1 from nI_clamp (by omega), hl.2.2.1, if_pos (show inB (nI (i + 1)) L = true from inB_nI (by omega) (by omega)), hl.2.2.2.1, w_store kx, e1, bI_s, l2.2.2.1, if_pos (show inB (nI (i + 1)) L = true from inB_nI (by omega) (by omega)), l2.2.2.2.1, if_pos k2, e2, bI_s, if_pos k6, thr_e k6, bI_s, t6, if_pos rfl]
  by_cases q : cd = 0
  · rw [if_neg (show ¬ ¬ cd = 0 from fun w => w q), if_pos W.1.1, W.1.2.1, if_pos (show inB 0 1 = true by decide), o6 q, cmp_self, if_pos rfl, zL_law_330]
    unfold kL_law_330
    rw [zL_law_2031]
    unfold kL_law_2031
    rw [nI_7]
  · rw [if_pos (show ¬ cd = 0 from q), zL_law_330]
    unfold kL_law_330
    rw [zL_law_2031]
    unfold kL_law_2031
    rw [nI_7]
theorem L_work (hl : Ls o B h L xs) (hi : i + 7 ≤ L) (hL : L ≤ 3584) (kx : kH h x = 19) (st : ∃ h2 h6 cd v, wrp o (mp1 xIA) (fX9_work x (xs (i + 1)) h) = some (.inl (some (.int cd)), h2) ∧ Ls o B h2 L xs ∧ kH h2 m = 18 ∧ fX10_work m (xs (i + 1)) h2 = some (.inl (some (.int v)), h6) ∧ kH h6 m = 18 ∧ h6.2 m 0 = cd ∧ (cd = 0 → h6.2 o 0 = v) ∧ LW x m o B h6 L xs c) : ∃ h', gL_law (f + 1 + 1 + 1) 333 [.ref 1, .ref x, .ref m, .ref o, .int (nI i), uV, uV] [] h = gL_law f 23 [.ref 1, .ref x, .ref m, .ref o, .int (nI (i + 7)), uV, uV] [] h' ∧ LW x m o B h' L xs c := by
  obtain ⟨h2, h6, cd, v, e1, l2, k2, e2, k6, t6, o6, W⟩ := st
  refine ⟨h6, ?_, W⟩
  rw [zL_law_333]
  unfold kL_law_333
  rw [nI_1, show (nI (i + 1)).toNatClampNeg = i + 1 from nI_clamp (by omega), hl.2.2.1, if_pos (show inB (nI (i + 1)) L = true from inB_nI (by omega) (by omega)), hl.2.2.2.1, w_work kx, e1, bI_s, l2.2.2.1, if_pos (show inB (nI (i + 1)) L = true from inB_nI (by omega) (by omega)), l2.2.2.2.1, if_pos k2, e2, bI_s, if_pos k6, thr_e k6, bI_s, t6, if_pos rfl]
  by_cases q : cd = 0
  · rw [if_neg (show ¬ ¬ cd = 0 from fun w => w q), if_pos W.1.1, W.1.2.1, if_pos (show inB 0 1 = true by decide), o6 q, cmp_self, if_pos rfl, zL_law_386]
    unfold kL_law_386
    rw [zL_law_2031]
    unfold kL_law_2031
    rw [nI_7]
  · rw [if_pos (show ¬ cd = 0 from q), zL_law_386]
    unfold kL_law_386
    rw [zL_law_2031]
    unfold kL_law_2031
    rw [nI_7]
theorem L_book (hl : Ls o B h L xs) (hi : i + 7 ≤ L) (hL : L ≤ 3584) (kx : kH h x = 19) (st : ∃ h2 h6 cd v, wrp o (mp1 xIA) (fX9_book x (xs (i + 1)) h) = some (.inl (some (.int cd)), h2) ∧ Ls o B h2 L xs ∧ kH h2 m = 18 ∧ fX10_book m (xs (i + 1)) h2 = some (.inl (some (.int v)), h6) ∧ kH h6 m = 18 ∧ h6.2 m 0 = cd ∧ (cd = 0 → h6.2 o 0 = v) ∧ LW x m o B h6 L xs c) : ∃ h', gL_law (f + 1 + 1 + 1) 389 [.ref 1, .ref x, .ref m, .ref o, .int (nI i), uV, uV] [] h = gL_law f 23 [.ref 1, .ref x, .ref m, .ref o, .int (nI (i + 7)), uV, uV] [] h' ∧ LW x m o B h' L xs c := by
  obtain ⟨h2, h6, cd, v, e1, l2, k2, e2, k6, t6, o6, W⟩ := st
  refine ⟨h6, ?_, W⟩
  rw [zL_law_389]
  unfold kL_law_389
  rw [nI_1, show (nI (i + 1)).toNatClampNeg = i + 1 from nI_clamp (by omega), hl.2.2.1, if_pos (show inB (nI (i + 1)) L = true from inB_nI (by omega) (by omega)), hl.2.2.2.1, w_book kx, e1, bI_s, l2.2.2.1, if_pos (show inB (nI (i + 1)) L = true from inB_nI (by omega) (by omega)), l2.2.2.2.1, if_pos k2, e2, bI_s, if_pos k6, thr_e k6, bI_s, t6, if_pos rfl]
  by_cases q : cd = 0
  · rw [if_neg (show ¬ ¬ cd = 0 from fun w => w q), if_pos W.1.1, W.1.2.1, if_pos (show inB 0 1 = true by decide), o6 q, cmp_self, if_pos rfl, zL_law_442]
    unfold kL_law_442
    rw [zL_law_2031]
    unfold kL_law_2031
    rw [nI_7]
  · rw [if_pos (show ¬ cd = 0 from q), zL_law_442]
    unfold kL_law_442
    rw [zL_law_2031]
    unfold kL_law_2031
    rw [nI_7]
theorem L_fault (hl : Ls o B h L xs) (hi : i + 7 ≤ L) (hL : L ≤ 3584) (kx : kH h x = 19) (st : ∃ h2 h6 v, fX9_fault x h = some (.inl (some (.int v)), h2) ∧ Ls o B h2 L xs ∧ kH h2 m = 18 ∧ fX10_fault m h2 = some (.inl (some (.int v)), h6) ∧ LW x m o B h6 L xs c) : ∃ h', gL_law (f + 1 + 1) 445 [.ref 1, .ref x, .ref m, .ref o, .int (nI i), uV, uV] [] h = gL_law f 23 [.ref 1, .ref x, .ref m, .ref o, .int (nI (i + 7)), uV, uV] [] h' ∧ LW x m o B h' L xs c := by
  obtain ⟨h2, h6, v, e1, l2, k2, e2, W⟩ := st
  refine ⟨h6, ?_, W⟩
  rw [zL_law_445]
  unfold kL_law_445
  rw [if_pos kx, e1, bI_s, if_pos k2, e2, bI_s, if_pos rfl, zL_law_2031]
  unfold kL_law_2031
  rw [nI_7]
theorem L_undo (hl : Ls o B h L xs) (hi : i + 7 ≤ L) (hL : L ≤ 3584) (kx : kH h x = 19) (st : ∃ h2 h6 v, fX9_undo x h = some (.inl (some (.int v)), h2) ∧ Ls o B h2 L xs ∧ kH h2 m = 18 ∧ fX10_undo m h2 = some (.inl (some (.int v)), h6) ∧ LW x m o B h6 L xs c) : ∃ h', gL_law (f + 1 + 1) 458 [.ref 1, .ref x, .ref m, .ref o, .int (nI i), uV, uV] [] h = gL_law f 23 [.ref 1, .ref x, .ref m, .ref o, .int (nI (i + 7)), uV, uV] [] h' ∧ LW x m o B h' L xs c := by
  obtain ⟨h2, h6, v, e1, l2, k2, e2, W⟩ := st
  refine ⟨h6, ?_, W⟩
  rw [zL_law_458]
  unfold kL_law_458
  rw [if_pos kx, e1, bI_s, if_pos k2, e2, bI_s, if_pos rfl, zL_law_2031]
  unfold kL_law_2031
  rw [nI_7]
theorem L_told (hl : Ls o B h L xs) (hi : i + 7 ≤ L) (hL : L ≤ 3584) (kx : kH h x = 19) (st : ∃ h2 h6 cd v, wrp o (mp1 xIA) (fX9_told x (xs (i + 1)) h) = some (.inl (some (.int cd)), h2) ∧ Ls o B h2 L xs ∧ kH h2 m = 18 ∧ fX10_told m (xs (i + 1)) h2 = some (.inl (some (.int v)), h6) ∧ kH h6 m = 18 ∧ h6.2 m 0 = cd ∧ (cd = 0 → h6.2 o 0 = v) ∧ LW x m o B h6 L xs c) : ∃ h', gL_law (f + 1 + 1 + 1) 471 [.ref 1, .ref x, .ref m, .ref o, .int (nI i), uV, uV] [] h = gL_law f 23 [.ref 1, .ref x, .ref m, .ref o, .int (nI (i + 7)), uV, uV] [] h' ∧ LW x m o B h' L xs c := by
  obtain ⟨h2, h6, cd, v, e1, l2, k2, e2, k6, t6, o6, W⟩ := st
  refine ⟨h6, ?_, W⟩
  rw [zL_law_471]
  unfold kL_law_471
  rw [nI_1, show (nI (i + 1)).toNatClampNeg = i + 1 from nI_clamp (by omega), hl.2.2.1, if_pos (show inB (nI (i + 1)) L = true from inB_nI (by omega) (by omega)), hl.2.2.2.1, w_told kx, e1, bI_s, l2.2.2.1, if_pos (show inB (nI (i + 1)) L = true from inB_nI (by omega) (by omega)), l2.2.2.2.1, if_pos k2, e2, bI_s, if_pos k6, thr_e k6, bI_s, t6, if_pos rfl]
  by_cases q : cd = 0
  · rw [if_neg (show ¬ ¬ cd = 0 from fun w => w q), if_pos W.1.1, W.1.2.1, if_pos (show inB 0 1 = true by decide), o6 q, cmp_self, if_pos rfl, zL_law_524]
    unfold kL_law_524
    rw [zL_law_2031]
    unfold kL_law_2031
    rw [nI_7]
  · rw [if_pos (show ¬ cd = 0 from q), zL_law_524]
    unfold kL_law_524
    rw [zL_law_2031]
    unfold kL_law_2031
    rw [nI_7]
theorem L_peek (hl : Ls o B h L xs) (hi : i + 7 ≤ L) (hL : L ≤ 3584) (kx : kH h x = 19) (st : ∃ h2 h6 cd v, wrp o (mp2 xIA xIO) (fX9_peek x (xs (i + 1)) (xs (i + 2)) (xs (i + 3)) h) = some (.inl (some (.int cd)), h2) ∧ Ls o B h2 L xs ∧ kH h2 m = 18 ∧ fX10_peek m (xs (i + 1)) (xs (i + 2)) (xs (i + 3)) h2 = some (.inl (some (.int v)), h6) ∧ kH h6 m = 18 ∧ h6.2 m 0 = cd ∧ (cd = 0 → h6.2 o 0 = v) ∧ LW x m o B h6 L xs c) : ∃ h', gL_law (f + 1 + 1 + 1) 527 [.ref 1, .ref x, .ref m, .ref o, .int (nI i), uV, uV] [] h = gL_law f 23 [.ref 1, .ref x, .ref m, .ref o, .int (nI (i + 7)), uV, uV] [] h' ∧ LW x m o B h' L xs c := by
  obtain ⟨h2, h6, cd, v, e1, l2, k2, e2, k6, t6, o6, W⟩ := st
  refine ⟨h6, ?_, W⟩
  rw [zL_law_527]
  unfold kL_law_527
  rw [nI_1, nI_2, nI_3, show (nI (i + 1)).toNatClampNeg = i + 1 from nI_clamp (by omega), show (nI (i + 2)).toNatClampNeg = i + 2 from nI_clamp (by omega), show (nI (i + 3)).toNatClampNeg = i + 3 from nI_clamp (by omega), hl.2.2.1, if_pos (show inB (nI (i + 1)) L = true from inB_nI (by omega) (by omega)), if_pos (show inB (nI (i + 2)) L = true from inB_nI (by omega) (by omega)), if_pos (show inB (nI (i + 3)) L = true from inB_nI (by omega) (by omega)), hl.2.2.2.1, w_peek kx, e1, bI_s, l2.2.2.1, if_pos (show inB (nI (i + 1)) L = true from inB_nI (by omega) (by omega)), if_pos (show inB (nI (i + 2)) L = true from inB_nI (by omega) (by omega)), if_pos (show inB (nI (i + 3)) L = true from inB_nI (by omega) (by omega)), l2.2.2.2.1, if_pos k2, e2, bI_s, if_pos k6, thr_e k6, bI_s, t6, if_pos rfl]
  by_cases q : cd = 0
  · rw [if_neg (show ¬ ¬ cd = 0 from fun w => w q), if_pos W.1.1, W.1.2.1, if_pos (show inB 0 1 = true by decide), o6 q, cmp_self, if_pos rfl, zL_law_604]
    unfold kL_law_604
    rw [zL_law_2031]
    unfold kL_law_2031
    rw [nI_7]
  · rw [if_pos (show ¬ cd = 0 from q), zL_law_604]
    unfold kL_law_604
    rw [zL_law_2031]
    unfold kL_law_2031
    rw [nI_7]
theorem L_node (hl : Ls o B h L xs) (hi : i + 7 ≤ L) (hL : L ≤ 3584) (kx : kH h x = 19) (st : ∃ h2 h6 cd v, wrp o (mp2 xNS xIA) (fX9_node x (xs (i + 1)) (xs (i + 2)) (xs (i + 3)) h) = some (.inl (some (.int cd)), h2) ∧ Ls o B h2 L xs ∧ kH h2 m = 18 ∧ fX10_node m (xs (i + 1)) (xs (i + 2)) (xs (i + 3)) h2 = some (.inl (some (.int v)), h6) ∧ kH h6 m = 18 ∧ h6.2 m 0 = cd ∧ (cd = 0 → h6.2 o 0 = v) ∧ LW x m o B h6 L xs c) : ∃ h', gL_law (f + 1 + 1 + 1) 607 [.ref 1, .ref x, .ref m, .ref o, .int (nI i), uV, uV] [] h = gL_law f 23 [.ref 1, .ref x, .ref m, .ref o, .int (nI (i + 7)), uV, uV] [] h' ∧ LW x m o B h' L xs c := by
  obtain ⟨h2, h6, cd, v, e1, l2, k2, e2, k6, t6, o6, W⟩ := st
  refine ⟨h6, ?_, W⟩
  rw [zL_law_607]
  unfold kL_law_607
  rw [nI_1, nI_2, nI_3, show (nI (i + 1)).toNatClampNeg = i + 1 from nI_clamp (by omega), show (nI (i + 2)).toNatClampNeg = i + 2 from nI_clamp (by omega), show (nI (i + 3)).toNatClampNeg = i + 3 from nI_clamp (by omega), hl.2.2.1, if_pos (show inB (nI (i + 1)) L = true from inB_nI (by omega) (by omega)), if_pos (show inB (nI (i + 2)) L = true from inB_nI (by omega) (by omega)), if_pos (show inB (nI (i + 3)) L = true from inB_nI (by omega) (by omega)), hl.2.2.2.1, w_node kx, e1, bI_s, l2.2.2.1, if_pos (show inB (nI (i + 1)) L = true from inB_nI (by omega) (by omega)), if_pos (show inB (nI (i + 2)) L = true from inB_nI (by omega) (by omega)), if_pos (show inB (nI (i + 3)) L = true from inB_nI (by omega) (by omega)), l2.2.2.2.1, if_pos k2, e2, bI_s, if_pos k6, thr_e k6, bI_s, t6, if_pos rfl]
  by_cases q : cd = 0
  · rw [if_neg (show ¬ ¬ cd = 0 from fun w => w q), if_pos W.1.1, W.1.2.1, if_pos (show inB 0 1 = true by decide), o6 q, cmp_self, if_pos rfl, zL_law_684]
    unfold kL_law_684
    rw [zL_law_2031]
    unfold kL_law_2031
    rw [nI_7]
  · rw [if_pos (show ¬ cd = 0 from q), zL_law_684]
    unfold kL_law_684
    rw [zL_law_2031]
    unfold kL_law_2031
    rw [nI_7]
theorem L_find (hl : Ls o B h L xs) (hi : i + 7 ≤ L) (hL : L ≤ 3584) (kx : kH h x = 19) (st : ∃ h2 h6 cd v, wrp o (mp2 xNS xIA) (fX9_find x (xs (i + 1)) (xs (i + 2)) (xs (i + 3)) h) = some (.inl (some (.int cd)), h2) ∧ Ls o B h2 L xs ∧ kH h2 m = 18 ∧ fX10_find m (xs (i + 1)) (xs (i + 2)) (xs (i + 3)) h2 = some (.inl (some (.int v)), h6) ∧ kH h6 m = 18 ∧ h6.2 m 0 = cd ∧ (cd = 0 → h6.2 o 0 = v) ∧ LW x m o B h6 L xs c) : ∃ h', gL_law (f + 1 + 1 + 1) 687 [.ref 1, .ref x, .ref m, .ref o, .int (nI i), uV, uV] [] h = gL_law f 23 [.ref 1, .ref x, .ref m, .ref o, .int (nI (i + 7)), uV, uV] [] h' ∧ LW x m o B h' L xs c := by
  obtain ⟨h2, h6, cd, v, e1, l2, k2, e2, k6, t6, o6, W⟩ := st
  refine ⟨h6, ?_, W⟩
  rw [zL_law_687]
  unfold kL_law_687
  rw [nI_1, nI_2, nI_3, show (nI (i + 1)).toNatClampNeg = i + 1 from nI_clamp (by omega), show (nI (i + 2)).toNatClampNeg = i + 2 from nI_clamp (by omega), show (nI (i + 3)).toNatClampNeg = i + 3 from nI_clamp (by omega), hl.2.2.1, if_pos (show inB (nI (i + 1)) L = true from inB_nI (by omega) (by omega)), if_pos (show inB (nI (i + 2)) L = true from inB_nI (by omega) (by omega)), if_pos (show inB (nI (i + 3)) L = true from inB_nI (by omega) (by omega)), hl.2.2.2.1, w_find kx, e1, bI_s, l2.2.2.1, if_pos (show inB (nI (i + 1)) L = true from inB_nI (by omega) (by omega)), if_pos (show inB (nI (i + 2)) L = true from inB_nI (by omega) (by omega)), if_pos (show inB (nI (i + 3)) L = true from inB_nI (by omega) (by omega)), l2.2.2.2.1, if_pos k2, e2, bI_s, if_pos k6, thr_e k6, bI_s, t6, if_pos rfl]
  by_cases q : cd = 0
  · rw [if_neg (show ¬ ¬ cd = 0 from fun w => w q), if_pos W.1.1, W.1.2.1, if_pos (show inB 0 1 = true by decide), o6 q, cmp_self, if_pos rfl, zL_law_764]
    unfold kL_law_764
    rw [zL_law_2031]
    unfold kL_law_2031
    rw [nI_7]
  · rw [if_pos (show ¬ cd = 0 from q), zL_law_764]
    unfold kL_law_764
    rw [zL_law_2031]
    unfold kL_law_2031
    rw [nI_7]
theorem L_used (hl : Ls o B h L xs) (hi : i + 7 ≤ L) (hL : L ≤ 3584) (kx : kH h x = 19) (st : ∃ h2 h6 cd v, wrp o (mp1 xIA) (fX9_used x (xs (i + 1)) h) = some (.inl (some (.int cd)), h2) ∧ Ls o B h2 L xs ∧ kH h2 m = 18 ∧ fX10_used m (xs (i + 1)) h2 = some (.inl (some (.int v)), h6) ∧ kH h6 m = 18 ∧ h6.2 m 0 = cd ∧ (cd = 0 → h6.2 o 0 = v) ∧ LW x m o B h6 L xs c) : ∃ h', gL_law (f + 1 + 1 + 1) 767 [.ref 1, .ref x, .ref m, .ref o, .int (nI i), uV, uV] [] h = gL_law f 23 [.ref 1, .ref x, .ref m, .ref o, .int (nI (i + 7)), uV, uV] [] h' ∧ LW x m o B h' L xs c := by
  obtain ⟨h2, h6, cd, v, e1, l2, k2, e2, k6, t6, o6, W⟩ := st
  refine ⟨h6, ?_, W⟩
  rw [zL_law_767]
  unfold kL_law_767
  rw [nI_1, show (nI (i + 1)).toNatClampNeg = i + 1 from nI_clamp (by omega), hl.2.2.1, if_pos (show inB (nI (i + 1)) L = true from inB_nI (by omega) (by omega)), hl.2.2.2.1, w_used kx, e1, bI_s, l2.2.2.1, if_pos (show inB (nI (i + 1)) L = true from inB_nI (by omega) (by omega)), l2.2.2.2.1, if_pos k2, e2, bI_s, if_pos k6, thr_e k6, bI_s, t6, if_pos rfl]
  by_cases q : cd = 0
  · rw [if_neg (show ¬ ¬ cd = 0 from fun w => w q), if_pos W.1.1, W.1.2.1, if_pos (show inB 0 1 = true by decide), o6 q, cmp_self, if_pos rfl, zL_law_820]
    unfold kL_law_820
    rw [zL_law_2031]
    unfold kL_law_2031
    rw [nI_7]
  · rw [if_pos (show ¬ cd = 0 from q), zL_law_820]
    unfold kL_law_820
    rw [zL_law_2031]
    unfold kL_law_2031
    rw [nI_7]
theorem L_leaks (hl : Ls o B h L xs) (hi : i + 7 ≤ L) (hL : L ≤ 3584) (kx : kH h x = 19) (st : ∃ h2 h6 cd v, wrp o (mp1 xIA) (fX9_leaks x (xs (i + 1)) h) = some (.inl (some (.int cd)), h2) ∧ Ls o B h2 L xs ∧ kH h2 m = 18 ∧ fX10_leaks m (xs (i + 1)) h2 = some (.inl (some (.int v)), h6) ∧ kH h6 m = 18 ∧ h6.2 m 0 = cd ∧ (cd = 0 → h6.2 o 0 = v) ∧ LW x m o B h6 L xs c) : ∃ h', gL_law (f + 1 + 1 + 1) 823 [.ref 1, .ref x, .ref m, .ref o, .int (nI i), uV, uV] [] h = gL_law f 23 [.ref 1, .ref x, .ref m, .ref o, .int (nI (i + 7)), uV, uV] [] h' ∧ LW x m o B h' L xs c := by
  obtain ⟨h2, h6, cd, v, e1, l2, k2, e2, k6, t6, o6, W⟩ := st
  refine ⟨h6, ?_, W⟩
  rw [zL_law_823]
  unfold kL_law_823
  rw [nI_1, show (nI (i + 1)).toNatClampNeg = i + 1 from nI_clamp (by omega), hl.2.2.1, if_pos (show inB (nI (i + 1)) L = true from inB_nI (by omega) (by omega)), hl.2.2.2.1, w_leaks kx, e1, bI_s, l2.2.2.1, if_pos (show inB (nI (i + 1)) L = true from inB_nI (by omega) (by omega)), l2.2.2.2.1, if_pos k2, e2, bI_s, if_pos k6, thr_e k6, bI_s, t6, if_pos rfl]
  by_cases q : cd = 0
  · rw [if_neg (show ¬ ¬ cd = 0 from fun w => w q), if_pos W.1.1, W.1.2.1, if_pos (show inB 0 1 = true by decide), o6 q, cmp_self, if_pos rfl, zL_law_876]
    unfold kL_law_876
    rw [zL_law_2031]
    unfold kL_law_2031
    rw [nI_7]
  · rw [if_pos (show ¬ cd = 0 from q), zL_law_876]
    unfold kL_law_876
    rw [zL_law_2031]
    unfold kL_law_2031
    rw [nI_7]
theorem L_lost (hl : Ls o B h L xs) (hi : i + 7 ≤ L) (hL : L ≤ 3584) (kx : kH h x = 19) (st : ∃ h2 h6 cd v, wrp o (mp1 xIA) (fX9_lost x (xs (i + 1)) h) = some (.inl (some (.int cd)), h2) ∧ Ls o B h2 L xs ∧ kH h2 m = 18 ∧ fX10_lost m (xs (i + 1)) h2 = some (.inl (some (.int v)), h6) ∧ kH h6 m = 18 ∧ h6.2 m 0 = cd ∧ (cd = 0 → h6.2 o 0 = v) ∧ LW x m o B h6 L xs c) : ∃ h', gL_law (f + 1 + 1 + 1) 879 [.ref 1, .ref x, .ref m, .ref o, .int (nI i), uV, uV] [] h = gL_law f 23 [.ref 1, .ref x, .ref m, .ref o, .int (nI (i + 7)), uV, uV] [] h' ∧ LW x m o B h' L xs c := by
  obtain ⟨h2, h6, cd, v, e1, l2, k2, e2, k6, t6, o6, W⟩ := st
  refine ⟨h6, ?_, W⟩
  rw [zL_law_879]
  unfold kL_law_879
  rw [nI_1, show (nI (i + 1)).toNatClampNeg = i + 1 from nI_clamp (by omega), hl.2.2.1, if_pos (show inB (nI (i + 1)) L = true from inB_nI (by omega) (by omega)), hl.2.2.2.1, w_lost kx, e1, bI_s, l2.2.2.1, if_pos (show inB (nI (i + 1)) L = true from inB_nI (by omega) (by omega)), l2.2.2.2.1, if_pos k2, e2, bI_s, if_pos k6, thr_e k6, bI_s, t6, if_pos rfl]
  by_cases q : cd = 0
  · rw [if_neg (show ¬ ¬ cd = 0 from fun w => w q), if_pos W.1.1, W.1.2.1, if_pos (show inB 0 1 = true by decide), o6 q, cmp_self, if_pos rfl, zL_law_932]
    unfold kL_law_932
    rw [zL_law_2031]
    unfold kL_law_2031
    rw [nI_7]
  · rw [if_pos (show ¬ cd = 0 from q), zL_law_932]
    unfold kL_law_932
    rw [zL_law_2031]
    unfold kL_law_2031
    rw [nI_7]
theorem L_broken (hl : Ls o B h L xs) (hi : i + 7 ≤ L) (hL : L ≤ 3584) (kx : kH h x = 19) (st : ∃ h2 h6 cd v, wrp o (mp1 xIA) (fX9_broken x (xs (i + 1)) h) = some (.inl (some (.int cd)), h2) ∧ Ls o B h2 L xs ∧ kH h2 m = 18 ∧ fX10_broken m (xs (i + 1)) h2 = some (.inl (some (.int v)), h6) ∧ kH h6 m = 18 ∧ h6.2 m 0 = cd ∧ (cd = 0 → h6.2 o 0 = v) ∧ LW x m o B h6 L xs c) : ∃ h', gL_law (f + 1 + 1 + 1) 935 [.ref 1, .ref x, .ref m, .ref o, .int (nI i), uV, uV] [] h = gL_law f 23 [.ref 1, .ref x, .ref m, .ref o, .int (nI (i + 7)), uV, uV] [] h' ∧ LW x m o B h' L xs c := by
  obtain ⟨h2, h6, cd, v, e1, l2, k2, e2, k6, t6, o6, W⟩ := st
  refine ⟨h6, ?_, W⟩
  rw [zL_law_935]
  unfold kL_law_935
  rw [nI_1, show (nI (i + 1)).toNatClampNeg = i + 1 from nI_clamp (by omega), hl.2.2.1, if_pos (show inB (nI (i + 1)) L = true from inB_nI (by omega) (by omega)), hl.2.2.2.1, w_broken kx, e1, bI_s, l2.2.2.1, if_pos (show inB (nI (i + 1)) L = true from inB_nI (by omega) (by omega)), l2.2.2.2.1, if_pos k2, e2, bI_s, if_pos k6, thr_e k6, bI_s, t6, if_pos rfl]
  by_cases q : cd = 0
  · rw [if_neg (show ¬ ¬ cd = 0 from fun w => w q), if_pos W.1.1, W.1.2.1, if_pos (show inB 0 1 = true by decide), o6 q, cmp_self, if_pos rfl, zL_law_988]
    unfold kL_law_988
    rw [zL_law_2031]
    unfold kL_law_2031
    rw [nI_7]
  · rw [if_pos (show ¬ cd = 0 from q), zL_law_988]
    unfold kL_law_988
    rw [zL_law_2031]
    unfold kL_law_2031
    rw [nI_7]
theorem L_under (hl : Ls o B h L xs) (hi : i + 7 ≤ L) (hL : L ≤ 3584) (kx : kH h x = 19) (st : ∃ h2 h6 cd v, wrp o (mp2 xNS xIA) (fX9_under x (xs (i + 1)) (xs (i + 2)) h) = some (.inl (some (.int cd)), h2) ∧ Ls o B h2 L xs ∧ kH h2 m = 18 ∧ fX10_under m (xs (i + 1)) (xs (i + 2)) h2 = some (.inl (some (.int v)), h6) ∧ kH h6 m = 18 ∧ h6.2 m 0 = cd ∧ (cd = 0 → h6.2 o 0 = v) ∧ LW x m o B h6 L xs c) : ∃ h', gL_law (f + 1 + 1 + 1) 991 [.ref 1, .ref x, .ref m, .ref o, .int (nI i), uV, uV] [] h = gL_law f 23 [.ref 1, .ref x, .ref m, .ref o, .int (nI (i + 7)), uV, uV] [] h' ∧ LW x m o B h' L xs c := by
  obtain ⟨h2, h6, cd, v, e1, l2, k2, e2, k6, t6, o6, W⟩ := st
  refine ⟨h6, ?_, W⟩
  rw [zL_law_991]
  unfold kL_law_991
  rw [nI_1, nI_2, show (nI (i + 1)).toNatClampNeg = i + 1 from nI_clamp (by omega), show (nI (i + 2)).toNatClampNeg = i + 2 from nI_clamp (by omega), hl.2.2.1, if_pos (show inB (nI (i + 1)) L = true from inB_nI (by omega) (by omega)), if_pos (show inB (nI (i + 2)) L = true from inB_nI (by omega) (by omega)), hl.2.2.2.1, w_under kx, e1, bI_s, l2.2.2.1, if_pos (show inB (nI (i + 1)) L = true from inB_nI (by omega) (by omega)), if_pos (show inB (nI (i + 2)) L = true from inB_nI (by omega) (by omega)), l2.2.2.2.1, if_pos k2, e2, bI_s, if_pos k6, thr_e k6, bI_s, t6, if_pos rfl]
  by_cases q : cd = 0
  · rw [if_neg (show ¬ ¬ cd = 0 from fun w => w q), if_pos W.1.1, W.1.2.1, if_pos (show inB 0 1 = true by decide), o6 q, cmp_self, if_pos rfl, zL_law_1056]
    unfold kL_law_1056
    rw [zL_law_2031]
    unfold kL_law_2031
    rw [nI_7]
  · rw [if_pos (show ¬ cd = 0 from q), zL_law_1056]
    unfold kL_law_1056
    rw [zL_law_2031]
    unfold kL_law_2031
    rw [nI_7]
theorem L_deep (hl : Ls o B h L xs) (hi : i + 7 ≤ L) (hL : L ≤ 3584) (kx : kH h x = 19) (st : ∃ h2 h6 cd v, wrp o (mp2 xNS xIA) (fX9_deep x (xs (i + 1)) (xs (i + 2)) h) = some (.inl (some (.int cd)), h2) ∧ Ls o B h2 L xs ∧ kH h2 m = 18 ∧ fX10_deep m (xs (i + 1)) (xs (i + 2)) h2 = some (.inl (some (.int v)), h6) ∧ kH h6 m = 18 ∧ h6.2 m 0 = cd ∧ (cd = 0 → h6.2 o 0 = v) ∧ LW x m o B h6 L xs c) : ∃ h', gL_law (f + 1 + 1 + 1) 1059 [.ref 1, .ref x, .ref m, .ref o, .int (nI i), uV, uV] [] h = gL_law f 23 [.ref 1, .ref x, .ref m, .ref o, .int (nI (i + 7)), uV, uV] [] h' ∧ LW x m o B h' L xs c := by
  obtain ⟨h2, h6, cd, v, e1, l2, k2, e2, k6, t6, o6, W⟩ := st
  refine ⟨h6, ?_, W⟩
  rw [zL_law_1059]
  unfold kL_law_1059
  rw [nI_1, nI_2, show (nI (i + 1)).toNatClampNeg = i + 1 from nI_clamp (by omega), show (nI (i + 2)).toNatClampNeg = i + 2 from nI_clamp (by omega), hl.2.2.1, if_pos (show inB (nI (i + 1)) L = true from inB_nI (by omega) (by omega)), if_pos (show inB (nI (i + 2)) L = true from inB_nI (by omega) (by omega)), hl.2.2.2.1, w_deep kx, e1, bI_s, l2.2.2.1, if_pos (show inB (nI (i + 1)) L = true from inB_nI (by omega) (by omega)), if_pos (show inB (nI (i + 2)) L = true from inB_nI (by omega) (by omega)), l2.2.2.2.1, if_pos k2, e2, bI_s, if_pos k6, thr_e k6, bI_s, t6, if_pos rfl]
  by_cases q : cd = 0
  · rw [if_neg (show ¬ ¬ cd = 0 from fun w => w q), if_pos W.1.1, W.1.2.1, if_pos (show inB 0 1 = true by decide), o6 q, cmp_self, if_pos rfl, zL_law_1124]
    unfold kL_law_1124
    rw [zL_law_2031]
    unfold kL_law_2031
    rw [nI_7]
  · rw [if_pos (show ¬ cd = 0 from q), zL_law_1124]
    unfold kL_law_1124
    rw [zL_law_2031]
    unfold kL_law_2031
    rw [nI_7]
theorem L_change (hl : Ls o B h L xs) (hi : i + 7 ≤ L) (hL : L ≤ 3584) (kx : kH h x = 19) (st : ∃ h2 h6 cd v, wrp o (mp3 xIA xNP xIO) (fX9_change x (xs (i + 1)) (xs (i + 2)) h) = some (.inl (some (.int cd)), h2) ∧ Ls o B h2 L xs ∧ kH h2 m = 18 ∧ fX10_change m (xs (i + 1)) (xs (i + 2)) h2 = some (.inl (some (.int v)), h6) ∧ kH h6 m = 18 ∧ h6.2 m 0 = cd ∧ (cd = 0 → h6.2 o 0 = v) ∧ LW x m o B h6 L xs c) : ∃ h', gL_law (f + 1 + 1 + 1) 1127 [.ref 1, .ref x, .ref m, .ref o, .int (nI i), uV, uV] [] h = gL_law f 23 [.ref 1, .ref x, .ref m, .ref o, .int (nI (i + 7)), uV, uV] [] h' ∧ LW x m o B h' L xs c := by
  obtain ⟨h2, h6, cd, v, e1, l2, k2, e2, k6, t6, o6, W⟩ := st
  refine ⟨h6, ?_, W⟩
  rw [zL_law_1127]
  unfold kL_law_1127
  rw [nI_1, nI_2, show (nI (i + 1)).toNatClampNeg = i + 1 from nI_clamp (by omega), show (nI (i + 2)).toNatClampNeg = i + 2 from nI_clamp (by omega), hl.2.2.1, if_pos (show inB (nI (i + 1)) L = true from inB_nI (by omega) (by omega)), if_pos (show inB (nI (i + 2)) L = true from inB_nI (by omega) (by omega)), hl.2.2.2.1, w_change kx, e1, bI_s, l2.2.2.1, if_pos (show inB (nI (i + 1)) L = true from inB_nI (by omega) (by omega)), if_pos (show inB (nI (i + 2)) L = true from inB_nI (by omega) (by omega)), l2.2.2.2.1, if_pos k2, e2, bI_s, if_pos k6, thr_e k6, bI_s, t6, if_pos rfl]
  by_cases q : cd = 0
  · rw [if_neg (show ¬ ¬ cd = 0 from fun w => w q), if_pos W.1.1, W.1.2.1, if_pos (show inB 0 1 = true by decide), o6 q, cmp_self, if_pos rfl, zL_law_1192]
    unfold kL_law_1192
    rw [zL_law_2031]
    unfold kL_law_2031
    rw [nI_7]
  · rw [if_pos (show ¬ cd = 0 from q), zL_law_1192]
    unfold kL_law_1192
    rw [zL_law_2031]
    unfold kL_law_2031
    rw [nI_7]
theorem L_held (hl : Ls o B h L xs) (hi : i + 7 ≤ L) (hL : L ≤ 3584) (kx : kH h x = 19) (st : ∃ h2 h6 cd v, wrp o (mp1 xIO) (fX9_held x (xs (i + 1)) h) = some (.inl (some (.int cd)), h2) ∧ Ls o B h2 L xs ∧ kH h2 m = 18 ∧ fX10_held m (xs (i + 1)) h2 = some (.inl (some (.int v)), h6) ∧ kH h6 m = 18 ∧ h6.2 m 0 = cd ∧ (cd = 0 → h6.2 o 0 = v) ∧ LW x m o B h6 L xs c) : ∃ h', gL_law (f + 1 + 1 + 1) 1195 [.ref 1, .ref x, .ref m, .ref o, .int (nI i), uV, uV] [] h = gL_law f 23 [.ref 1, .ref x, .ref m, .ref o, .int (nI (i + 7)), uV, uV] [] h' ∧ LW x m o B h' L xs c := by
  obtain ⟨h2, h6, cd, v, e1, l2, k2, e2, k6, t6, o6, W⟩ := st
  refine ⟨h6, ?_, W⟩
  rw [zL_law_1195]
  unfold kL_law_1195
  rw [nI_1, show (nI (i + 1)).toNatClampNeg = i + 1 from nI_clamp (by omega), hl.2.2.1, if_pos (show inB (nI (i + 1)) L = true from inB_nI (by omega) (by omega)), hl.2.2.2.1, w_held kx, e1, bI_s, l2.2.2.1, if_pos (show inB (nI (i + 1)) L = true from inB_nI (by omega) (by omega)), l2.2.2.2.1, if_pos k2, e2, bI_s, if_pos k6, thr_e k6, bI_s, t6, if_pos rfl]
  by_cases q : cd = 0
  · rw [if_neg (show ¬ ¬ cd = 0 from fun w => w q), if_pos W.1.1, W.1.2.1, if_pos (show inB 0 1 = true by decide), o6 q, cmp_self, if_pos rfl, zL_law_1248]
    unfold kL_law_1248
    rw [zL_law_2031]
    unfold kL_law_2031
    rw [nI_7]
  · rw [if_pos (show ¬ cd = 0 from q), zL_law_1248]
    unfold kL_law_1248
    rw [zL_law_2031]
    unfold kL_law_2031
    rw [nI_7]
theorem L_copy (hl : Ls o B h L xs) (hi : i + 7 ≤ L) (hL : L ≤ 3584) (kx : kH h x = 19) (st : ∃ h2 h6 cd v, wrp o (mp1 xIO) (fX9_copy x (xs (i + 1)) (xs (i + 2)) h) = some (.inl (some (.int cd)), h2) ∧ Ls o B h2 L xs ∧ kH h2 m = 18 ∧ fX10_copy m (xs (i + 1)) (xs (i + 2)) h2 = some (.inl (some (.int v)), h6) ∧ kH h6 m = 18 ∧ h6.2 m 0 = cd ∧ (cd = 0 → h6.2 o 0 = v) ∧ LW x m o B h6 L xs c) : ∃ h', gL_law (f + 1 + 1 + 1) 1251 [.ref 1, .ref x, .ref m, .ref o, .int (nI i), uV, uV] [] h = gL_law f 23 [.ref 1, .ref x, .ref m, .ref o, .int (nI (i + 7)), uV, uV] [] h' ∧ LW x m o B h' L xs c := by
  obtain ⟨h2, h6, cd, v, e1, l2, k2, e2, k6, t6, o6, W⟩ := st
  refine ⟨h6, ?_, W⟩
  rw [zL_law_1251]
  unfold kL_law_1251
  rw [nI_1, nI_2, show (nI (i + 1)).toNatClampNeg = i + 1 from nI_clamp (by omega), show (nI (i + 2)).toNatClampNeg = i + 2 from nI_clamp (by omega), hl.2.2.1, if_pos (show inB (nI (i + 1)) L = true from inB_nI (by omega) (by omega)), if_pos (show inB (nI (i + 2)) L = true from inB_nI (by omega) (by omega)), hl.2.2.2.1, w_copy kx, e1, bI_s, l2.2.2.1, if_pos (show inB (nI (i + 1)) L = true from inB_nI (by omega) (by omega)), if_pos (show inB (nI (i + 2)) L = true from inB_nI (by omega) (by omega)), l2.2.2.2.1, if_pos k2, e2, bI_s, if_pos k6, thr_e k6, bI_s, t6, if_pos rfl]
  by_cases q : cd = 0
  · rw [if_neg (show ¬ ¬ cd = 0 from fun w => w q), if_pos W.1.1, W.1.2.1, if_pos (show inB 0 1 = true by decide), o6 q, cmp_self, if_pos rfl, zL_law_1316]
    unfold kL_law_1316
    rw [zL_law_2031]
    unfold kL_law_2031
    rw [nI_7]
  · rw [if_pos (show ¬ cd = 0 from q), zL_law_1316]
    unfold kL_law_1316
    rw [zL_law_2031]
    unfold kL_law_2031
    rw [nI_7]
theorem L_waits (hl : Ls o B h L xs) (hi : i + 7 ≤ L) (hL : L ≤ 3584) (kx : kH h x = 19) (st : ∃ h2 h6 cd v, wrp o (mp1 xIO) (fX9_waits x (xs (i + 1)) h) = some (.inl (some (.int cd)), h2) ∧ Ls o B h2 L xs ∧ kH h2 m = 18 ∧ fX10_waits m (xs (i + 1)) h2 = some (.inl (some (.int v)), h6) ∧ kH h6 m = 18 ∧ h6.2 m 0 = cd ∧ (cd = 0 → h6.2 o 0 = v) ∧ LW x m o B h6 L xs c) : ∃ h', gL_law (f + 1 + 1 + 1) 1319 [.ref 1, .ref x, .ref m, .ref o, .int (nI i), uV, uV] [] h = gL_law f 23 [.ref 1, .ref x, .ref m, .ref o, .int (nI (i + 7)), uV, uV] [] h' ∧ LW x m o B h' L xs c := by
  obtain ⟨h2, h6, cd, v, e1, l2, k2, e2, k6, t6, o6, W⟩ := st
  refine ⟨h6, ?_, W⟩
  rw [zL_law_1319]
  unfold kL_law_1319
  rw [nI_1, show (nI (i + 1)).toNatClampNeg = i + 1 from nI_clamp (by omega), hl.2.2.1, if_pos (show inB (nI (i + 1)) L = true from inB_nI (by omega) (by omega)), hl.2.2.2.1, w_waits kx, e1, bI_s, l2.2.2.1, if_pos (show inB (nI (i + 1)) L = true from inB_nI (by omega) (by omega)), l2.2.2.2.1, if_pos k2, e2, bI_s, if_pos k6, thr_e k6, bI_s, t6, if_pos rfl]
  by_cases q : cd = 0
  · rw [if_neg (show ¬ ¬ cd = 0 from fun w => w q), if_pos W.1.1, W.1.2.1, if_pos (show inB 0 1 = true by decide), o6 q, cmp_self, if_pos rfl, zL_law_1372]
    unfold kL_law_1372
    rw [zL_law_2031]
    unfold kL_law_2031
    rw [nI_7]
  · rw [if_pos (show ¬ cd = 0 from q), zL_law_1372]
    unfold kL_law_1372
    rw [zL_law_2031]
    unfold kL_law_2031
    rw [nI_7]
theorem L_rings (hl : Ls o B h L xs) (hi : i + 7 ≤ L) (hL : L ≤ 3584) (kx : kH h x = 19) (st : ∃ h2 h6 v, fX9_rings x h = some (.inl (some (.int v)), h2) ∧ Ls o B h2 L xs ∧ kH h2 m = 18 ∧ fX10_rings m h2 = some (.inl (some (.int v)), h6) ∧ LW x m o B h6 L xs c) : ∃ h', gL_law (f + 1 + 1) 1375 [.ref 1, .ref x, .ref m, .ref o, .int (nI i), uV, uV] [] h = gL_law f 23 [.ref 1, .ref x, .ref m, .ref o, .int (nI (i + 7)), uV, uV] [] h' ∧ LW x m o B h' L xs c := by
  obtain ⟨h2, h6, v, e1, l2, k2, e2, W⟩ := st
  refine ⟨h6, ?_, W⟩
  rw [zL_law_1375]
  unfold kL_law_1375
  rw [if_pos kx, e1, bI_s, if_pos k2, e2, bI_s, if_pos rfl, zL_law_2031]
  unfold kL_law_2031
  rw [nI_7]
theorem L_settle (hl : Ls o B h L xs) (hi : i + 7 ≤ L) (hL : L ≤ 3584) (kx : kH h x = 19) (st : ∃ h2 h6 v, fX9_settle x h = some (.inl (some (.int v)), h2) ∧ Ls o B h2 L xs ∧ kH h2 m = 18 ∧ fX10_settle m h2 = some (.inl (some (.int v)), h6) ∧ LW x m o B h6 L xs c) : ∃ h', gL_law (f + 1 + 1) 1388 [.ref 1, .ref x, .ref m, .ref o, .int (nI i), uV, uV] [] h = gL_law f 23 [.ref 1, .ref x, .ref m, .ref o, .int (nI (i + 7)), uV, uV] [] h' ∧ LW x m o B h' L xs c := by
  obtain ⟨h2, h6, v, e1, l2, k2, e2, W⟩ := st
  refine ⟨h6, ?_, W⟩
  rw [zL_law_1388]
  unfold kL_law_1388
  rw [if_pos kx, e1, bI_s, if_pos k2, e2, bI_s, if_pos rfl, zL_law_2031]
  unfold kL_law_2031
  rw [nI_7]
theorem L_spill (hl : Ls o B h L xs) (hi : i + 7 ≤ L) (hL : L ≤ 3584) (kx : kH h x = 19) (st : ∃ h2 h6 cd v, wrp o (mp1 xIA) (fX9_spill x (xs (i + 1)) h) = some (.inl (some (.int cd)), h2) ∧ Ls o B h2 L xs ∧ kH h2 m = 18 ∧ fX10_spill m (xs (i + 1)) h2 = some (.inl (some (.int v)), h6) ∧ kH h6 m = 18 ∧ h6.2 m 0 = cd ∧ (cd = 0 → h6.2 o 0 = v) ∧ LW x m o B h6 L xs c) : ∃ h', gL_law (f + 1 + 1 + 1) 1401 [.ref 1, .ref x, .ref m, .ref o, .int (nI i), uV, uV] [] h = gL_law f 23 [.ref 1, .ref x, .ref m, .ref o, .int (nI (i + 7)), uV, uV] [] h' ∧ LW x m o B h' L xs c := by
  obtain ⟨h2, h6, cd, v, e1, l2, k2, e2, k6, t6, o6, W⟩ := st
  refine ⟨h6, ?_, W⟩
  rw [zL_law_1401]
  unfold kL_law_1401
  rw [nI_1, show (nI (i + 1)).toNatClampNeg = i + 1 from nI_clamp (by omega), hl.2.2.1, if_pos (show inB (nI (i + 1)) L = true from inB_nI (by omega) (by omega)), hl.2.2.2.1, w_spill kx, e1, bI_s, l2.2.2.1, if_pos (show inB (nI (i + 1)) L = true from inB_nI (by omega) (by omega)), l2.2.2.2.1, if_pos k2, e2, bI_s, if_pos k6, thr_e k6, bI_s, t6, if_pos rfl]
  by_cases q : cd = 0
  · rw [if_neg (show ¬ ¬ cd = 0 from fun w => w q), if_pos W.1.1, W.1.2.1, if_pos (show inB 0 1 = true by decide), o6 q, cmp_self, if_pos rfl, zL_law_1454]
    unfold kL_law_1454
    rw [zL_law_2031]
    unfold kL_law_2031
    rw [nI_7]
  · rw [if_pos (show ¬ cd = 0 from q), zL_law_1454]
    unfold kL_law_1454
    rw [zL_law_2031]
    unfold kL_law_2031
    rw [nI_7]
theorem L_fewest (hl : Ls o B h L xs) (hi : i + 7 ≤ L) (hL : L ≤ 3584) (kx : kH h x = 19) (st : ∃ h2 h6 v, fX9_fewest x h = some (.inl (some (.int v)), h2) ∧ Ls o B h2 L xs ∧ kH h2 m = 18 ∧ fX10_fewest m h2 = some (.inl (some (.int v)), h6) ∧ LW x m o B h6 L xs c) : ∃ h', gL_law (f + 1 + 1) 1457 [.ref 1, .ref x, .ref m, .ref o, .int (nI i), uV, uV] [] h = gL_law f 23 [.ref 1, .ref x, .ref m, .ref o, .int (nI (i + 7)), uV, uV] [] h' ∧ LW x m o B h' L xs c := by
  obtain ⟨h2, h6, v, e1, l2, k2, e2, W⟩ := st
  refine ⟨h6, ?_, W⟩
  rw [zL_law_1457]
  unfold kL_law_1457
  rw [if_pos kx, e1, bI_s, if_pos k2, e2, bI_s, if_pos rfl, zL_law_2031]
  unfold kL_law_2031
  rw [nI_7]
theorem L_finds (hl : Ls o B h L xs) (hi : i + 7 ≤ L) (hL : L ≤ 3584) (kx : kH h x = 19) (st : ∃ h2 h6 v, fX9_finds x h = some (.inl (some (.int v)), h2) ∧ Ls o B h2 L xs ∧ kH h2 m = 18 ∧ fX10_finds m h2 = some (.inl (some (.int v)), h6) ∧ LW x m o B h6 L xs c) : ∃ h', gL_law (f + 1 + 1) 1470 [.ref 1, .ref x, .ref m, .ref o, .int (nI i), uV, uV] [] h = gL_law f 23 [.ref 1, .ref x, .ref m, .ref o, .int (nI (i + 7)), uV, uV] [] h' ∧ LW x m o B h' L xs c := by
  obtain ⟨h2, h6, v, e1, l2, k2, e2, W⟩ := st
  refine ⟨h6, ?_, W⟩
  rw [zL_law_1470]
  unfold kL_law_1470
  rw [if_pos kx, e1, bI_s, if_pos k2, e2, bI_s, if_pos rfl, zL_law_2031]
  unfold kL_law_2031
  rw [nI_7]
theorem L_sweeps (hl : Ls o B h L xs) (hi : i + 7 ≤ L) (hL : L ≤ 3584) (kx : kH h x = 19) (st : ∃ h2 h6 v, fX9_sweeps x h = some (.inl (some (.int v)), h2) ∧ Ls o B h2 L xs ∧ kH h2 m = 18 ∧ fX10_sweeps m h2 = some (.inl (some (.int v)), h6) ∧ LW x m o B h6 L xs c) : ∃ h', gL_law (f + 1 + 1) 1483 [.ref 1, .ref x, .ref m, .ref o, .int (nI i), uV, uV] [] h = gL_law f 23 [.ref 1, .ref x, .ref m, .ref o, .int (nI (i + 7)), uV, uV] [] h' ∧ LW x m o B h' L xs c := by
  obtain ⟨h2, h6, v, e1, l2, k2, e2, W⟩ := st
  refine ⟨h6, ?_, W⟩
  rw [zL_law_1483]
  unfold kL_law_1483
  rw [if_pos kx, e1, bI_s, if_pos k2, e2, bI_s, if_pos rfl, zL_law_2031]
  unfold kL_law_2031
  rw [nI_7]
theorem L_fits (hl : Ls o B h L xs) (hi : i + 7 ≤ L) (hL : L ≤ 3584) (kx : kH h x = 19) (st : ∃ h2 h6 v, fX9_fits x h = some (.inl (some (.int v)), h2) ∧ Ls o B h2 L xs ∧ kH h2 m = 18 ∧ fX10_fits m h2 = some (.inl (some (.int v)), h6) ∧ LW x m o B h6 L xs c) : ∃ h', gL_law (f + 1 + 1) 1496 [.ref 1, .ref x, .ref m, .ref o, .int (nI i), uV, uV] [] h = gL_law f 23 [.ref 1, .ref x, .ref m, .ref o, .int (nI (i + 7)), uV, uV] [] h' ∧ LW x m o B h' L xs c := by
  obtain ⟨h2, h6, v, e1, l2, k2, e2, W⟩ := st
  refine ⟨h6, ?_, W⟩
  rw [zL_law_1496]
  unfold kL_law_1496
  rw [if_pos kx, e1, bI_s, if_pos k2, e2, bI_s, if_pos rfl, zL_law_2031]
  unfold kL_law_2031
  rw [nI_7]
theorem L_look (hl : Ls o B h L xs) (hi : i + 7 ≤ L) (hL : L ≤ 3584) (kx : kH h x = 19) (st : ∃ h2 h6 cd v, wrp o (mp1 xIA) (fX9_look x (xs (i + 1)) h) = some (.inl (some (.int cd)), h2) ∧ Ls o B h2 L xs ∧ kH h2 m = 18 ∧ fX10_look m (xs (i + 1)) h2 = some (.inl (some (.int v)), h6) ∧ kH h6 m = 18 ∧ h6.2 m 0 = cd ∧ (cd = 0 → h6.2 o 0 = v) ∧ LW x m o B h6 L xs c) : ∃ h', gL_law (f + 1 + 1 + 1) 1509 [.ref 1, .ref x, .ref m, .ref o, .int (nI i), uV, uV] [] h = gL_law f 23 [.ref 1, .ref x, .ref m, .ref o, .int (nI (i + 7)), uV, uV] [] h' ∧ LW x m o B h' L xs c := by
  obtain ⟨h2, h6, cd, v, e1, l2, k2, e2, k6, t6, o6, W⟩ := st
  refine ⟨h6, ?_, W⟩
  rw [zL_law_1509]
  unfold kL_law_1509
  rw [nI_1, show (nI (i + 1)).toNatClampNeg = i + 1 from nI_clamp (by omega), hl.2.2.1, if_pos (show inB (nI (i + 1)) L = true from inB_nI (by omega) (by omega)), hl.2.2.2.1, w_look kx, e1, bI_s, l2.2.2.1, if_pos (show inB (nI (i + 1)) L = true from inB_nI (by omega) (by omega)), l2.2.2.2.1, if_pos k2, e2, bI_s, if_pos k6, thr_e k6, bI_s, t6, if_pos rfl]
  by_cases q : cd = 0
  · rw [if_neg (show ¬ ¬ cd = 0 from fun w => w q), if_pos W.1.1, W.1.2.1, if_pos (show inB 0 1 = true by decide), o6 q, cmp_self, if_pos rfl, zL_law_1562]
    unfold kL_law_1562
    rw [zL_law_2031]
    unfold kL_law_2031
    rw [nI_7]
  · rw [if_pos (show ¬ cd = 0 from q), zL_law_1562]
    unfold kL_law_1562
    rw [zL_law_2031]
    unfold kL_law_2031
    rw [nI_7]
theorem L_room (hl : Ls o B h L xs) (hi : i + 7 ≤ L) (hL : L ≤ 3584) (kx : kH h x = 19) (st : ∃ h2 h6 cd v, wrp o (mp1 xNS) (fX9_room x (xs (i + 1)) h) = some (.inl (some (.int cd)), h2) ∧ Ls o B h2 L xs ∧ kH h2 m = 18 ∧ fX10_room m (xs (i + 1)) h2 = some (.inl (some (.int v)), h6) ∧ kH h6 m = 18 ∧ h6.2 m 0 = cd ∧ (cd = 0 → h6.2 o 0 = v) ∧ LW x m o B h6 L xs c) : ∃ h', gL_law (f + 1 + 1 + 1) 1565 [.ref 1, .ref x, .ref m, .ref o, .int (nI i), uV, uV] [] h = gL_law f 23 [.ref 1, .ref x, .ref m, .ref o, .int (nI (i + 7)), uV, uV] [] h' ∧ LW x m o B h' L xs c := by
  obtain ⟨h2, h6, cd, v, e1, l2, k2, e2, k6, t6, o6, W⟩ := st
  refine ⟨h6, ?_, W⟩
  rw [zL_law_1565]
  unfold kL_law_1565
  rw [nI_1, show (nI (i + 1)).toNatClampNeg = i + 1 from nI_clamp (by omega), hl.2.2.1, if_pos (show inB (nI (i + 1)) L = true from inB_nI (by omega) (by omega)), hl.2.2.2.1, w_room kx, e1, bI_s, l2.2.2.1, if_pos (show inB (nI (i + 1)) L = true from inB_nI (by omega) (by omega)), l2.2.2.2.1, if_pos k2, e2, bI_s, if_pos k6, thr_e k6, bI_s, t6, if_pos rfl]
  by_cases q : cd = 0
  · rw [if_neg (show ¬ ¬ cd = 0 from fun w => w q), if_pos W.1.1, W.1.2.1, if_pos (show inB 0 1 = true by decide), o6 q, cmp_self, if_pos rfl, zL_law_1618]
    unfold kL_law_1618
    rw [zL_law_2031]
    unfold kL_law_2031
    rw [nI_7]
  · rw [if_pos (show ¬ cd = 0 from q), zL_law_1618]
    unfold kL_law_1618
    rw [zL_law_2031]
    unfold kL_law_2031
    rw [nI_7]
theorem L_owner (hl : Ls o B h L xs) (hi : i + 7 ≤ L) (hL : L ≤ 3584) (kx : kH h x = 19) (st : ∃ h2 h6 cd v, wrp o (mp2 xIA xIO) (fX9_owner x (xs (i + 1)) (xs (i + 2)) h) = some (.inl (some (.int cd)), h2) ∧ Ls o B h2 L xs ∧ kH h2 m = 18 ∧ fX10_owner m (xs (i + 1)) (xs (i + 2)) h2 = some (.inl (some (.int v)), h6) ∧ kH h6 m = 18 ∧ h6.2 m 0 = cd ∧ (cd = 0 → h6.2 o 0 = v) ∧ LW x m o B h6 L xs c) : ∃ h', gL_law (f + 1 + 1 + 1) 1621 [.ref 1, .ref x, .ref m, .ref o, .int (nI i), uV, uV] [] h = gL_law f 23 [.ref 1, .ref x, .ref m, .ref o, .int (nI (i + 7)), uV, uV] [] h' ∧ LW x m o B h' L xs c := by
  obtain ⟨h2, h6, cd, v, e1, l2, k2, e2, k6, t6, o6, W⟩ := st
  refine ⟨h6, ?_, W⟩
  rw [zL_law_1621]
  unfold kL_law_1621
  rw [nI_1, nI_2, show (nI (i + 1)).toNatClampNeg = i + 1 from nI_clamp (by omega), show (nI (i + 2)).toNatClampNeg = i + 2 from nI_clamp (by omega), hl.2.2.1, if_pos (show inB (nI (i + 1)) L = true from inB_nI (by omega) (by omega)), if_pos (show inB (nI (i + 2)) L = true from inB_nI (by omega) (by omega)), hl.2.2.2.1, w_owner kx, e1, bI_s, l2.2.2.1, if_pos (show inB (nI (i + 1)) L = true from inB_nI (by omega) (by omega)), if_pos (show inB (nI (i + 2)) L = true from inB_nI (by omega) (by omega)), l2.2.2.2.1, if_pos k2, e2, bI_s, if_pos k6, thr_e k6, bI_s, t6, if_pos rfl]
  by_cases q : cd = 0
  · rw [if_neg (show ¬ ¬ cd = 0 from fun w => w q), if_pos W.1.1, W.1.2.1, if_pos (show inB 0 1 = true by decide), o6 q, cmp_self, if_pos rfl, zL_law_1686]
    unfold kL_law_1686
    rw [zL_law_2031]
    unfold kL_law_2031
    rw [nI_7]
  · rw [if_pos (show ¬ cd = 0 from q), zL_law_1686]
    unfold kL_law_1686
    rw [zL_law_2031]
    unfold kL_law_2031
    rw [nI_7]
theorem L_unlike (hl : Ls o B h L xs) (hi : i + 7 ≤ L) (hL : L ≤ 3584) (kx : kH h x = 19) (st : ∃ h2 h6 cd v, wrp o (mp1 xIO) (fX9_unlike x (xs (i + 1)) h) = some (.inl (some (.int cd)), h2) ∧ Ls o B h2 L xs ∧ kH h2 m = 18 ∧ fX10_unlike m (xs (i + 1)) h2 = some (.inl (some (.int v)), h6) ∧ kH h6 m = 18 ∧ h6.2 m 0 = cd ∧ (cd = 0 → h6.2 o 0 = v) ∧ LW x m o B h6 L xs c) : ∃ h', gL_law (f + 1 + 1 + 1) 1689 [.ref 1, .ref x, .ref m, .ref o, .int (nI i), uV, uV] [] h = gL_law f 23 [.ref 1, .ref x, .ref m, .ref o, .int (nI (i + 7)), uV, uV] [] h' ∧ LW x m o B h' L xs c := by
  obtain ⟨h2, h6, cd, v, e1, l2, k2, e2, k6, t6, o6, W⟩ := st
  refine ⟨h6, ?_, W⟩
  rw [zL_law_1689]
  unfold kL_law_1689
  rw [nI_1, show (nI (i + 1)).toNatClampNeg = i + 1 from nI_clamp (by omega), hl.2.2.1, if_pos (show inB (nI (i + 1)) L = true from inB_nI (by omega) (by omega)), hl.2.2.2.1, w_unlike kx, e1, bI_s, l2.2.2.1, if_pos (show inB (nI (i + 1)) L = true from inB_nI (by omega) (by omega)), l2.2.2.2.1, if_pos k2, e2, bI_s, if_pos k6, thr_e k6, bI_s, t6, if_pos rfl]
  by_cases q : cd = 0
  · rw [if_neg (show ¬ ¬ cd = 0 from fun w => w q), if_pos W.1.1, W.1.2.1, if_pos (show inB 0 1 = true by decide), o6 q, cmp_self, if_pos rfl, zL_law_1742]
    unfold kL_law_1742
    rw [zL_law_2031]
    unfold kL_law_2031
    rw [nI_7]
  · rw [if_pos (show ¬ cd = 0 from q), zL_law_1742]
    unfold kL_law_1742
    rw [zL_law_2031]
    unfold kL_law_2031
    rw [nI_7]
theorem L_storm (hl : Ls o B h L xs) (hi : i + 7 ≤ L) (hL : L ≤ 3584) (kx : kH h x = 19) (st : ∃ h2 h6 cd v, wrp o (mp1 xIA) (fX9_storm x (xs (i + 1)) (xs (i + 2)) (xs (i + 3)) (xs (i + 4)) h) = some (.inl (some (.int cd)), h2) ∧ Ls o B h2 L xs ∧ kH h2 m = 18 ∧ fX10_storm m (xs (i + 1)) (xs (i + 2)) (xs (i + 3)) (xs (i + 4)) h2 = some (.inl (some (.int v)), h6) ∧ kH h6 m = 18 ∧ h6.2 m 0 = cd ∧ (cd = 0 → h6.2 o 0 = v) ∧ LW x m o B h6 L xs c) : ∃ h', gL_law (f + 1 + 1 + 1) 1745 [.ref 1, .ref x, .ref m, .ref o, .int (nI i), uV, uV] [] h = gL_law f 23 [.ref 1, .ref x, .ref m, .ref o, .int (nI (i + 7)), uV, uV] [] h' ∧ LW x m o B h' L xs c := by
  obtain ⟨h2, h6, cd, v, e1, l2, k2, e2, k6, t6, o6, W⟩ := st
  refine ⟨h6, ?_, W⟩
  rw [zL_law_1745]
  unfold kL_law_1745
  rw [nI_1, nI_2, nI_3, nI_4, show (nI (i + 1)).toNatClampNeg = i + 1 from nI_clamp (by omega), show (nI (i + 2)).toNatClampNeg = i + 2 from nI_clamp (by omega), show (nI (i + 3)).toNatClampNeg = i + 3 from nI_clamp (by omega), show (nI (i + 4)).toNatClampNeg = i + 4 from nI_clamp (by omega), hl.2.2.1, if_pos (show inB (nI (i + 1)) L = true from inB_nI (by omega) (by omega)), if_pos (show inB (nI (i + 2)) L = true from inB_nI (by omega) (by omega)), if_pos (show inB (nI (i + 3)) L = true from inB_nI (by omega) (by omega)), if_pos (show inB (nI (i + 4)) L = true from inB_nI (by omega) (by omega)), hl.2.2.2.1, w_storm kx, e1, bI_s, l2.2.2.1, if_pos (show inB (nI (i + 1)) L = true from inB_nI (by omega) (by omega)), if_pos (show inB (nI (i + 2)) L = true from inB_nI (by omega) (by omega)), if_pos (show inB (nI (i + 3)) L = true from inB_nI (by omega) (by omega)), if_pos (show inB (nI (i + 4)) L = true from inB_nI (by omega) (by omega)), l2.2.2.2.1, if_pos k2, e2, bI_s, if_pos k6, thr_e k6, bI_s, t6, if_pos rfl]
  by_cases q : cd = 0
  · rw [if_neg (show ¬ ¬ cd = 0 from fun w => w q), if_pos W.1.1, W.1.2.1, if_pos (show inB 0 1 = true by decide), o6 q, cmp_self, if_pos rfl, zL_law_1834]
    unfold kL_law_1834
    rw [zL_law_2031]
    unfold kL_law_2031
    rw [nI_7]
  · rw [if_pos (show ¬ cd = 0 from q), zL_law_1834]
    unfold kL_law_1834
    rw [zL_law_2031]
    unfold kL_law_2031
    rw [nI_7]
theorem L_span (hl : Ls o B h L xs) (hi : i + 7 ≤ L) (hL : L ≤ 3584) (kx : kH h x = 19) (st : ∃ h2 h6 cd v, wrp o (mp2 xNS xIA) (fX9_span x (xs (i + 1)) (xs (i + 2)) (xs (i + 3)) (xs (i + 4)) (xs (i + 5)) (xs (i + 6)) h) = some (.inl (some (.int cd)), h2) ∧ Ls o B h2 L xs ∧ kH h2 m = 18 ∧ fX10_span m (xs (i + 1)) (xs (i + 2)) (xs (i + 3)) (xs (i + 4)) (xs (i + 5)) (xs (i + 6)) h2 = some (.inl (some (.int v)), h6) ∧ kH h6 m = 18 ∧ h6.2 m 0 = cd ∧ (cd = 0 → h6.2 o 0 = v) ∧ LW x m o B h6 L xs c) : ∃ h', gL_law (f + 1 + 1 + 1) 1837 [.ref 1, .ref x, .ref m, .ref o, .int (nI i), uV, uV] [] h = gL_law f 23 [.ref 1, .ref x, .ref m, .ref o, .int (nI (i + 7)), uV, uV] [] h' ∧ LW x m o B h' L xs c := by
  obtain ⟨h2, h6, cd, v, e1, l2, k2, e2, k6, t6, o6, W⟩ := st
  refine ⟨h6, ?_, W⟩
  rw [zL_law_1837]
  unfold kL_law_1837
  rw [nI_1, nI_2, nI_3, nI_4, nI_5, nI_6, show (nI (i + 1)).toNatClampNeg = i + 1 from nI_clamp (by omega), show (nI (i + 2)).toNatClampNeg = i + 2 from nI_clamp (by omega), show (nI (i + 3)).toNatClampNeg = i + 3 from nI_clamp (by omega), show (nI (i + 4)).toNatClampNeg = i + 4 from nI_clamp (by omega), show (nI (i + 5)).toNatClampNeg = i + 5 from nI_clamp (by omega), show (nI (i + 6)).toNatClampNeg = i + 6 from nI_clamp (by omega), hl.2.2.1, if_pos (show inB (nI (i + 1)) L = true from inB_nI (by omega) (by omega)), if_pos (show inB (nI (i + 2)) L = true from inB_nI (by omega) (by omega)), if_pos (show inB (nI (i + 3)) L = true from inB_nI (by omega) (by omega)), if_pos (show inB (nI (i + 4)) L = true from inB_nI (by omega) (by omega)), if_pos (show inB (nI (i + 5)) L = true from inB_nI (by omega) (by omega)), if_pos (show inB (nI (i + 6)) L = true from inB_nI (by omega) (by omega)), hl.2.2.2.1, w_span kx, e1, bI_s, l2.2.2.1, if_pos (show inB (nI (i + 1)) L = true from inB_nI (by omega) (by omega)), if_pos (show inB (nI (i + 2)) L = true from inB_nI (by omega) (by omega)), if_pos (show inB (nI (i + 3)) L = true from inB_nI (by omega) (by omega)), if_pos (show inB (nI (i + 4)) L = true from inB_nI (by omega) (by omega)), if_pos (show inB (nI (i + 5)) L = true from inB_nI (by omega) (by omega)), if_pos (show inB (nI (i + 6)) L = true from inB_nI (by omega) (by omega)), l2.2.2.2.1, if_pos k2, e2, bI_s, if_pos k6, thr_e k6, bI_s, t6, if_pos rfl]
  by_cases q : cd = 0
  · rw [if_neg (show ¬ ¬ cd = 0 from fun w => w q), if_pos W.1.1, W.1.2.1, if_pos (show inB 0 1 = true by decide), o6 q, cmp_self, if_pos rfl, zL_law_1952]
    unfold kL_law_1952
    rw [zL_law_2031]
    unfold kL_law_2031
    rw [nI_7]
  · rw [if_pos (show ¬ cd = 0 from q), zL_law_1952]
    unfold kL_law_1952
    rw [zL_law_2031]
    unfold kL_law_2031
    rw [nI_7]
theorem L_image (hl : Ls o B h L xs) (hi : i + 7 ≤ L) (hL : L ≤ 3584) (kx : kH h x = 19) (st : ∃ h2 h6 v, fX9_image x h = some (.inl (some (.int v)), h2) ∧ Ls o B h2 L xs ∧ kH h2 m = 18 ∧ fX10_image m h2 = some (.inl (some (.int v)), h6) ∧ LW x m o B h6 L xs c) : ∃ h', gL_law (f + 1 + 1) 1955 [.ref 1, .ref x, .ref m, .ref o, .int (nI i), uV, uV] [] h = gL_law f 23 [.ref 1, .ref x, .ref m, .ref o, .int (nI (i + 7)), uV, uV] [] h' ∧ LW x m o B h' L xs c := by
  obtain ⟨h2, h6, v, e1, l2, k2, e2, W⟩ := st
  refine ⟨h6, ?_, W⟩
  rw [zL_law_1955]
  unfold kL_law_1955
  rw [if_pos kx, e1, bI_s, if_pos k2, e2, bI_s, if_pos rfl, zL_law_2031]
  unfold kL_law_2031
  rw [nI_7]
theorem L_restore (hl : Ls o B h L xs) (hi : i + 7 ≤ L) (hL : L ≤ 3584) (kx : kH h x = 19) (st : ∃ h2 h6 v, fX9_restore x h = some (.inl (some (.int v)), h2) ∧ Ls o B h2 L xs ∧ kH h2 m = 18 ∧ fX10_restore m h2 = some (.inl (some (.int v)), h6) ∧ LW x m o B h6 L xs c) : ∃ h', gL_law (f + 1 + 1) 1968 [.ref 1, .ref x, .ref m, .ref o, .int (nI i), uV, uV] [] h = gL_law f 23 [.ref 1, .ref x, .ref m, .ref o, .int (nI (i + 7)), uV, uV] [] h' ∧ LW x m o B h' L xs c := by
  obtain ⟨h2, h6, v, e1, l2, k2, e2, W⟩ := st
  refine ⟨h6, ?_, W⟩
  rw [zL_law_1968]
  unfold kL_law_1968
  rw [if_pos kx, e1, bI_s, if_pos k2, e2, bI_s, if_pos rfl, zL_law_2031]
  unfold kL_law_2031
  rw [nI_7]
theorem L_status (hl : Ls o B h L xs) (hi : i + 7 ≤ L) (hL : L ≤ 3584) (kx : kH h x = 19) (st : ∃ h2 h6 v, fX9_status x (xs (i + 1)) h = some (.inl (some (.int v)), h2) ∧ Ls o B h2 L xs ∧ kH h2 m = 18 ∧ fX10_status m (xs (i + 1)) h2 = some (.inl (some (.int v)), h6) ∧ LW x m o B h6 L xs c) : ∃ h', gL_law (f + 1 + 1) 1981 [.ref 1, .ref x, .ref m, .ref o, .int (nI i), uV, uV] [] h = gL_law f 23 [.ref 1, .ref x, .ref m, .ref o, .int (nI (i + 7)), uV, uV] [] h' ∧ LW x m o B h' L xs c := by
  obtain ⟨h2, h6, v, e1, l2, k2, e2, W⟩ := st
  refine ⟨h6, ?_, W⟩
  rw [zL_law_1981]
  unfold kL_law_1981
  rw [nI_1, show (nI (i + 1)).toNatClampNeg = i + 1 from nI_clamp (by omega), hl.2.2.1, if_pos (show inB (nI (i + 1)) L = true from inB_nI (by omega) (by omega)), hl.2.2.2.1, if_pos kx, e1, bI_s, l2.2.2.1, if_pos (show inB (nI (i + 1)) L = true from inB_nI (by omega) (by omega)), l2.2.2.2.1, if_pos k2, e2, bI_s, if_pos rfl, zL_law_2031]
  unfold kL_law_2031
  rw [nI_7]
theorem L_count (hl : Ls o B h L xs) (hi : i + 7 ≤ L) (hL : L ≤ 3584) (kx : kH h x = 19) (st : ∃ h2 h6 v, fX9_count x (xs (i + 1)) h = some (.inl (some (.int v)), h2) ∧ Ls o B h2 L xs ∧ kH h2 m = 18 ∧ fX10_count m (xs (i + 1)) h2 = some (.inl (some (.int v)), h6) ∧ LW x m o B h6 L xs c) : ∃ h', gL_law (f + 1 + 1) 2006 [.ref 1, .ref x, .ref m, .ref o, .int (nI i), uV, uV] [] h = gL_law f 23 [.ref 1, .ref x, .ref m, .ref o, .int (nI (i + 7)), uV, uV] [] h' ∧ LW x m o B h' L xs c := by
  obtain ⟨h2, h6, v, e1, l2, k2, e2, W⟩ := st
  refine ⟨h6, ?_, W⟩
  rw [zL_law_2006]
  unfold kL_law_2006
  rw [nI_1, show (nI (i + 1)).toNatClampNeg = i + 1 from nI_clamp (by omega), hl.2.2.1, if_pos (show inB (nI (i + 1)) L = true from inB_nI (by omega) (by omega)), hl.2.2.2.1, if_pos kx, e1, bI_s, l2.2.2.1, if_pos (show inB (nI (i + 1)) L = true from inB_nI (by omega) (by omega)), l2.2.2.2.1, if_pos k2, e2, bI_s, if_pos rfl, zL_law_2031]
  unfold kL_law_2031
  rw [nI_7]
end LCS
