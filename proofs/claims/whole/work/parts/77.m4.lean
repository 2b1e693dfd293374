/-! ===== the reference: which changes go ===== -/
/-- the reference's object and its rows -/
def MO (h : Hp) (m : Nat) : Prop := kH h m = 18 ∧ (rH h m 27 = m + 147 ∧ kH h (m + 147) = 3 ∧ lH h (m + 147) = 200) ∧ (rH h m 28 = m + 148 ∧ kH h (m + 148) = 1 ∧ lH h (m + 148) = 16) ∧ (rH h m 29 = m + 149 ∧ kH h (m + 149) = 1 ∧ lH h (m + 149) = 200)
theorem MO.eq {h h' : Hp} {m : Nat} (e : h'.1 = h.1) (M : MO h m) : MO h' m := by
  unfold MO
  simp only [kh_eq e, lh_eq e, rh_eq e]
  exact M
theorem nz_toInt {n : Int} (h0 : -16 < n) (h1 : n < 2 ^ 31) : (nz n).toInt = n := by
  unfold nz
  rw [Int32.toInt_ofInt_of_le (by omega) (by omega)]
theorem nz_le {n : Int} (h0 : -16 < n) (h1 : n < 2 ^ 31) : 0 ≤ nz n ↔ 0 ≤ n := by
  rw [Int32.le_iff_toInt_le, nz_toInt h0 h1]
  exact Iff.rfl
section M4
variable {h : Hp} {r m : Nat} {S : St}
theorem find_pre {pre l : List Ch} {c : Ch} {n : Nat} (hp : (pre ++ c :: l).Pairwise (fun a b => cI a < cI b)) (hn : n < cI c) : (pre ++ c :: l).findIdx? (fun e => cI e == n) = pre.findIdx? (fun e => cI e == n) := by
  rw [List.findIdx?_append]
  have h2 : (c :: l).findIdx? (fun e => cI e == n) = none := by
    rw [List.findIdx?_eq_none_iff]
    intro x hx
    obtain ⟨-, p2, -⟩ := List.pairwise_append.mp hp
    have : cI c ≤ cI x := by
      rcases List.mem_cons.mp hx with rfl | h3
      · exact Nat.le_refl _
      · exact Nat.le_of_lt ((List.pairwise_cons.mp p2).1 x h3)
    simp; omega
  rw [h2]
  simp
/-- which flags stand in the row of those that go -/
def Fl (h : Hp) (m : Nat) (fl : List (Ch × Bool)) : Prop := ∀ P q T, fl = P ++ q :: T → h.2 (m + 147) P.length = b2i q.2
theorem m_slot (R : Row h r S) (M : MO h m) {b : Nat} {pre l : List Ch} {c : Ch} (e : sC S = pre ++ c :: l) (F : Fl h m (goes b pre)) {i : Nat} (hi : i < 4) {n : Int} (hn : -16 < n ∧ n < cI c) (hs : h.2 r (512 + 12 * pre.length + (4 + i)) = nz n) (f : Nat) :
    gX10_mayGo (f + 2) 8 [.ref m, .ref r, .int (nI pre.length), .int (nI (512 + 12 * pre.length)), .int (nI (4 + i)), uV] [] h =
      if okN c (goes b pre) n = true then gX10_mayGo f 8 [.ref m, .ref r, .int (nI pre.length), .int (nI (512 + 12 * pre.length)), .int (nI (4 + i + 1)), uV] [] h else some (.inl (some (.int 0)), h) := by
  obtain ⟨hc, hl, hl2⟩ := R.ch e
  obtain ⟨g0, g1, g2, -⟩ := hc
  have g3 := R.bd.2.2.1
  obtain ⟨M0, ⟨M1, M2, M3⟩, -⟩ := M
  have hB := R.bd
  have hfst := goes_fst b pre
  have hge : ∀ q ∈ goes b pre, chB (sM S) q.1 := fun q hq => hB.2.2.2.2.1 _ (by rw [e]; exact List.mem_append_left _ (goes_mem hq))
  rw [show f + 2 = (f + 1) + 1 by omega, zX10_mayGo_8]
  by_cases hneg : n < 0
  · obtain ⟨q, rfl⟩ : ∃ q : Nat, n = -(q : Int) := ⟨n.natAbs, by omega⟩
    have hnn : - nz (-(q : Int)) = nI q := by rw [← nz_neg]; simp
    have hle : ¬ 0 ≤ nz (-(q : Int)) := by rw [nz_le (by omega) (by omega)]; omega
    have hle2 : nz (-(q : Int)) ≤ 0 := by rw [Int32.le_iff_toInt_le, nz_toInt (by omega) (by omega)]; show -(q : Int) ≤ 0; omega
    have hah := m_ahead R (b := q) (by omega) e
    have hw := m_which0 R hle2
    have hfl := List.length_filter_le (fun c => cB c == q) pre
    simp (maxSteps := 3000000) (disch := omega) only [kX10_mayGo_8, R.k, R.l, ↓reduceIte, if_true, if_false, ite_not, not_true_eq_false, not_false_eq_true, ↓qqI_p, ↓qqR_p, ↓qqV_p, ↓qqIx_p, ↓qqRx_p, ↓qqVx_p, qqI_s, qqR_s, qqV_s, qqIx_s, qqRx_s, qqVx_s, qqIx_t, qqVx_t, ↓letH_s, inB_nI, nI_leI, nI_ltI, nI_eq, nI_eq0, nI_eqm, nI_eqn, nI_le0, nI_lt0, nI_0lt, nI_0le, nI_clamp, pk_mul, nI_add, pk_div, pk_sub, rem_n, z_add, add_z, m_cell, kmk, lmk, rmk, b2i_0, b2i_n1, bft, le_t, le_f, lt_t, lt_f, eq_t, eq_f, k1, k2, k3, k4, k5, k6, k7, k8, k9, k10, k11, k12, k13, k15, k16, k20, k24, k30, k60, k64, k99, k100, k200, k255, k256, k512, k2912, k3392, k3393, k3394, k3395, k3396, k3397, k3398, hs, hle, hnn, hah, zX10_mayGo_41, kX10_mayGo_41, hw, Nat.le_zero]
    by_cases z : (pre.filter (fun c => cB c == q)).length = 0
    · rw [if_pos z, if_pos]
      refine List.all_eq_true.mpr (fun x hx => ?_)
      have h1 := hge x hx
      have h2 : ¬ cB x.1 = q := fun h3 => by
        have h4 : x.1 ∈ pre.filter (fun c => cB c == q) := List.mem_filter.mpr ⟨goes_mem hx, by simp [h3]⟩
        rw [List.length_eq_zero_iff] at z
        rw [z] at h4
        cases h4
      have h5 := h1.1
      simp only [Bool.and_eq_true, Bool.not_eq_true', Bool.and_eq_false_iff, decide_eq_false_iff_not]
      exact ⟨Or.inr (by omega), Or.inl (by omega)⟩
    · rw [if_neg z, if_neg]
      intro h1
      obtain ⟨x, hx⟩ := List.exists_mem_of_length_pos (Nat.pos_of_ne_zero z)
      obtain ⟨h2, h3⟩ := List.mem_filter.mp hx
      rw [← hfst] at h2
      obtain ⟨y, hy, rfl⟩ := List.mem_map.mp h2
      have h4 := List.all_eq_true.mp h1 y hy
      simp only [beq_iff_eq] at h3
      simp only [Bool.and_eq_true, Bool.not_eq_true', Bool.and_eq_false_iff, decide_eq_false_iff_not] at h4
      omega
  · obtain ⟨q, rfl⟩ : ∃ q : Nat, n = (q : Int) := ⟨n.natAbs, by omega⟩
    have hle : 0 ≤ nI q := nI_pos' (by omega)
    rw [nz_n] at hs
    by_cases hz : q = 0
    · subst hz
      have hw := m_which0 R (x := nI 0) (by decide)
      simp (maxSteps := 3000000) (disch := omega) only [kX10_mayGo_8, R.k, R.l, ↓reduceIte, if_true, if_false, ite_not, not_true_eq_false, not_false_eq_true, ↓qqI_p, ↓qqR_p, ↓qqV_p, ↓qqIx_p, ↓qqRx_p, ↓qqVx_p, qqI_s, qqR_s, qqV_s, qqIx_s, qqRx_s, qqVx_s, qqIx_t, qqVx_t, ↓letH_s, inB_nI, nI_leI, nI_ltI, nI_eq, nI_eq0, nI_eqm, nI_eqn, nI_le0, nI_lt0, nI_0lt, nI_0le, nI_clamp, pk_mul, nI_add, pk_div, pk_sub, rem_n, z_add, add_z, m_cell, kmk, lmk, rmk, b2i_0, b2i_n1, bft, le_t, le_f, lt_t, lt_f, eq_t, eq_f, k1, k2, k3, k4, k5, k6, k7, k8, k9, k10, k11, k12, k13, k15, k16, k20, k24, k30, k60, k64, k99, k100, k200, k255, k256, k512, k2912, k3392, k3393, k3394, k3395, k3396, k3397, k3398, hs, zX10_mayGo_41, kX10_mayGo_41, hw]
      rw [if_pos]
      refine List.all_eq_true.mpr (fun x hx => ?_)
      have h5 := (hge x hx).1
      simp only [Bool.and_eq_true, Bool.not_eq_true', Bool.and_eq_false_iff, decide_eq_false_iff_not]
      exact ⟨Or.inl (by omega), Or.inl (by omega)⟩
    · have hw := m_which R (x := q) (by omega) (by omega)
      rw [e, find_pre (by rw [← e]; exact hB.2.2.2.2.2.2) (by omega)] at hw
      simp (maxSteps := 3000000) (disch := omega) only [kX10_mayGo_8, R.k, R.l, ↓reduceIte, if_true, if_false, ite_not, not_true_eq_false, not_false_eq_true, ↓qqI_p, ↓qqR_p, ↓qqV_p, ↓qqIx_p, ↓qqRx_p, ↓qqVx_p, qqI_s, qqR_s, qqV_s, qqIx_s, qqRx_s, qqVx_s, qqIx_t, qqVx_t, ↓letH_s, inB_nI, nI_leI, nI_ltI, nI_eq, nI_eq0, nI_eqm, nI_eqn, nI_le0, nI_lt0, nI_0lt, nI_0le, nI_clamp, pk_mul, nI_add, pk_div, pk_sub, rem_n, z_add, add_z, m_cell, kmk, lmk, rmk, b2i_0, b2i_n1, bft, le_t, le_f, lt_t, lt_f, eq_t, eq_f, k1, k2, k3, k4, k5, k6, k7, k8, k9, k10, k11, k12, k13, k15, k16, k20, k24, k30, k60, k64, k99, k100, k200, k255, k256, k512, k2912, k3392, k3393, k3394, k3395, k3396, k3397, k3398, hs, zX10_mayGo_41, kX10_mayGo_41, hw]
      cases hf : pre.findIdx? (fun e => cI e == q) with
      | none =>
        have hok : okN c (goes b pre) (q : Int) = true := by
          refine List.all_eq_true.mpr (fun x hx => ?_)
          have h5 := List.findIdx?_eq_none_iff.mp hf x.1 (goes_mem hx)
          simp only [beq_eq_false_iff_ne] at h5
          simp only [Bool.and_eq_true, Bool.not_eq_true', Bool.and_eq_false_iff, decide_eq_false_iff_not]
          exact ⟨Or.inl (by omega), Or.inl (by omega)⟩
        rw [hok]
        rfl
      | some j =>
        obtain ⟨hj, hj1, hj2⟩ := List.findIdx?_eq_some_iff_getElem.mp hf
        have hsp : pre = pre.take j ++ pre[j] :: pre.drop (j + 1) := by rw [List.getElem_cons_drop, List.take_append_drop]
        have e3 : sC S = pre.take j ++ pre[j] :: (pre.drop (j + 1) ++ c :: l) := by
          rw [e, ← List.cons_append, ← List.append_assoc, ← hsp]
        obtain ⟨q0, q1, -⟩ := R.cel e3
        have hc3 := (R.ch e3).1
        obtain ⟨-, t1, -⟩ := R.cel e
        rw [List.length_take, Nat.min_eq_left (by omega)] at q0 q1
        have hgl := goes_len b pre
        have hgsp : goes b pre = (goes b pre).take j ++ (goes b pre)[j] :: (goes b pre).drop (j + 1) := by rw [List.getElem_cons_drop, List.take_append_drop]
        have hF := F _ _ _ hgsp
        rw [List.length_take, Nat.min_eq_left (by omega)] at hF
        have hfj : (goes b pre)[j].1 = pre[j] := by
          have h7 : ((goes b pre).map Prod.fst)[j]'(by rw [List.length_map]; omega) = pre[j] := by simp only [hfst]
          rw [List.getElem_map] at h7
          exact h7
        have hcB3 := hc3.2.2.1
        simp (maxSteps := 3000000) (disch := omega) only [↓reduceIte, if_true, if_false, ite_not, not_true_eq_false, not_false_eq_true, ↓qqI_p, ↓qqR_p, ↓qqV_p, ↓qqIx_p, ↓qqRx_p, ↓qqVx_p, qqI_s, qqR_s, qqV_s, qqIx_s, qqRx_s, qqVx_s, qqIx_t, qqVx_t, ↓letH_s, inB_nI, nI_leI, nI_ltI, nI_eq, nI_eq0, nI_eqm, nI_eqn, nI_le0, nI_lt0, nI_0lt, nI_0le, nI_clamp, pk_mul, nI_add, pk_div, pk_sub, rem_n, z_add, add_z, m_cell, kmk, lmk, rmk, b2i_0, b2i_n1, bft, le_t, le_f, lt_t, lt_f, eq_t, eq_f, k1, k2, k3, k4, k5, k6, k7, k8, k9, k10, k11, k12, k13, k15, k16, k20, k24, k30, k60, k64, k99, k100, k200, k255, k256, k512, k2912, k3392, k3393, k3394, k3395, k3396, k3397, k3398, q1, t1, R.k, R.l, M0, M1, M2, M3, hF]
        simp only [beq_iff_eq] at hj1
        have hok : okN c (goes b pre) (q : Int) = (cB pre[j] == cB c && (goes b pre)[j].2) := by
          have hpw := hB.2.2.2.2.2.2
          rw [e] at hpw
          have hpw2 := (List.pairwise_append.mp hpw).1
          cases hv : (cB pre[j] == cB c && (goes b pre)[j].2) with
          | true =>
            refine List.all_eq_true.mpr (fun x hx => ?_)
            simp only [Bool.and_eq_true, Bool.not_eq_true', Bool.and_eq_false_iff, decide_eq_false_iff_not, Bool.not_eq_false']
            refine ⟨Or.inl (by omega), ?_⟩
            by_cases hxi : cI x.1 = q
            · right
              obtain ⟨i2, hi2, rfl⟩ := List.getElem_of_mem hx
              have hx2 : (goes b pre)[i2].1 = pre[i2] := by
                have h7 : ((goes b pre).map Prod.fst)[i2]'(by rw [List.length_map]; omega) = pre[i2] := by simp only [hfst]
                rw [List.getElem_map] at h7
                exact h7
              have hij : i2 = j := by
                rw [hx2] at hxi
                rcases Nat.lt_trichotomy i2 j with h8 | h8 | h8
                · have := List.pairwise_iff_getElem.mp hpw2 i2 j (by omega) hj h8
                  omega
                · exact h8
                · have := List.pairwise_iff_getElem.mp hpw2 j i2 hj (by omega) h8
                  omega
              subst hij
              rw [hx2]
              simpa using hv
            · exact Or.inl (by omega)
          | false =>
            refine List.all_eq_false.mpr ⟨(goes b pre)[j], List.getElem_mem _, ?_⟩
            rw [hfj]
            simp only [hj1, decide_true, Bool.true_and, Bool.not_not, hv, Bool.and_false, Bool.false_eq_true, not_false_eq_true]
        rw [hok]
        by_cases h8 : cB pre[j] = cB c
        · simp only [h8, if_true, beq_self_eq_true, Bool.true_and]
          cases (goes b pre)[j].2 <;> simp [b2i]
        · have h9 : (cB pre[j] == cB c) = false := by simpa using h8
          simp [h8, h9]
theorem m_place (R : Row h r S) (M : MO h m) {b : Nat} {pre l : List Ch} {c : Ch} (e : sC S = pre ++ c :: l) (F : Fl h m (goes b pre)) : ∀ (T P : List (Ch × Bool)) (n : Nat), goes b pre = P ++ T → T.length < n →
    gX10_mayGo n 97 [.ref m, .ref r, .int (nI pre.length), .int (nI (512 + 12 * pre.length)), .int (nI P.length), uV] [] h = some (.inl (some (.int (b2i (T.all (fun e => !(cB e.1 == cB c) || e.2 || !(cP e.1 == 16 || cP c == 16 || cP c == cP e.1)))))), h) := by
  obtain ⟨hc, hl, hl2⟩ := R.ch e
  obtain ⟨-, t1, t2, -⟩ := R.cel e
  obtain ⟨M0, ⟨M1, M2, M3⟩, -⟩ := M
  obtain ⟨-, -, w1, w2, -⟩ := hc
  have hgl := goes_len b pre
  intro T
  induction T with
  | nil =>
    intro P n hP hn
    obtain ⟨n, rfl⟩ := sc hn
    have hPl : P.length = pre.length := by rw [← hgl, hP]; simp
    rw [zX10_mayGo_97]
    simp (maxSteps := 3000000) (disch := omega) only [kX10_mayGo_97, ↓reduceIte, if_true, if_false, ite_not, not_true_eq_false, not_false_eq_true, ↓qqI_p, ↓qqR_p, ↓qqV_p, ↓qqIx_p, ↓qqRx_p, ↓qqVx_p, qqI_s, qqR_s, qqV_s, qqIx_s, qqRx_s, qqVx_s, qqIx_t, qqVx_t, ↓letH_s, inB_nI, nI_leI, nI_ltI, nI_eq, nI_eq0, nI_eqm, nI_eqn, nI_le0, nI_lt0, nI_0lt, nI_0le, nI_clamp, pk_mul, nI_add, pk_div, pk_sub, rem_n, z_add, add_z, m_cell, kmk, lmk, rmk, b2i_0, b2i_n1, bft, le_t, le_f, lt_t, lt_f, eq_t, eq_f, k1, k2, k3, k4, k5, k6, k7, k8, k9, k10, k11, k12, k13, k15, k16, k20, k24, k30, k60, k64, k99, k100, k200, k255, k256, k512, k2912, k3392, k3393, k3394, k3395, k3396, k3397, k3398, hPl, List.all_nil, b2i_t1]
  | cons q T ih =>
    intro P n hP hn
    obtain ⟨n, rfl⟩ := sc hn
    have ih := ih (P ++ [q]) n (app1 hP) (by simp at hn ⊢; omega)
    rw [len1] at ih
    have hF := F _ _ _ hP
    have hPl : P.length + 1 + T.length = pre.length := by rw [← hgl, hP]; simp; omega
    have e3 : sC S = P.map Prod.fst ++ q.1 :: (T.map Prod.fst ++ c :: l) := by
      have := goes_fst b pre
      rw [hP] at this
      rw [e, ← this]
      simp
    obtain ⟨-, q1, q2, -⟩ := R.cel e3
    obtain ⟨⟨-, -, w3, w4, -⟩, -⟩ := R.ch e3
    rw [List.length_map] at q1 q2
    rw [zX10_mayGo_97]
    have hputs : fX10_puts r (nI (512 + 12 * pre.length)) (nI (cP q.1)) h = some (.inl (some (.int (b2i (cP c == 16 || cP c == cP q.1)))), h) := by
      unfold fX10_puts
      simp (maxSteps := 3000000) (disch := omega) only [kX10_puts_0, R.k, R.l, ↓reduceIte, if_true, if_false, ite_not, not_true_eq_false, not_false_eq_true, ↓qqI_p, ↓qqR_p, ↓qqV_p, ↓qqIx_p, ↓qqRx_p, ↓qqVx_p, qqI_s, qqR_s, qqV_s, qqIx_s, qqRx_s, qqVx_s, qqIx_t, qqVx_t, ↓letH_s, inB_nI, nI_leI, nI_ltI, nI_eq, nI_eq0, nI_eqm, nI_eqn, nI_le0, nI_lt0, nI_0lt, nI_0le, nI_clamp, pk_mul, nI_add, pk_div, pk_sub, rem_n, z_add, add_z, m_cell, kmk, lmk, rmk, b2i_0, b2i_n1, bft, le_t, le_f, lt_t, lt_f, eq_t, eq_f, k1, k2, k3, k4, k5, k6, k7, k8, k9, k10, k11, k12, k13, k15, k16, k20, k24, k30, k60, k64, k99, k100, k200, k255, k256, k512, k2912, k3392, k3393, k3394, k3395, k3396, k3397, k3398, t2]
      by_cases h1 : cP c = 16
      · simp [h1, b2i, ← k1]
      · by_cases h2 : cP c = cP q.1
        · simp [h2, b2i, ← k1]
        · have h3 : (cP c == 16) = false := by simpa using h1
          have h4 : (cP c == cP q.1) = false := by simpa using h2
          simp [h1, h2, h3, h4, b2i]
    simp (maxSteps := 3000000) (disch := omega) only [kX10_mayGo_97, R.k, R.l, M0, M1, M2, M3, ↓reduceIte, if_true, if_false, ite_not, not_true_eq_false, not_false_eq_true, ↓qqI_p, ↓qqR_p, ↓qqV_p, ↓qqIx_p, ↓qqRx_p, ↓qqVx_p, qqI_s, qqR_s, qqV_s, qqIx_s, qqRx_s, qqVx_s, qqIx_t, qqVx_t, ↓letH_s, inB_nI, nI_leI, nI_ltI, nI_eq, nI_eq0, nI_eqm, nI_eqn, nI_le0, nI_lt0, nI_0lt, nI_0le, nI_clamp, pk_mul, nI_add, pk_div, pk_sub, rem_n, z_add, add_z, m_cell, kmk, lmk, rmk, b2i_0, b2i_n1, bft, le_t, le_f, lt_t, lt_f, eq_t, eq_f, k1, k2, k3, k4, k5, k6, k7, k8, k9, k10, k11, k12, k13, k15, k16, k20, k24, k30, k60, k64, k99, k100, k200, k255, k256, k512, k2912, k3392, k3393, k3394, k3395, k3396, k3397, k3398, q1, q2, t1, hF, hputs, b2i_0, ih, List.all_cons]
    by_cases h1 : cB q.1 = cB c
    · cases h2 : q.2 with
      | true =>
        rw [show (!(cB q.1 == cB c) || true || !(cP q.1 == 16 || cP c == 16 || cP c == cP q.1)) = true by simp, Bool.true_and]
        simp [h1, b2i]
      | false =>
        by_cases h3 : cP q.1 = 16
        · simp [h1, h2, h3, b2i]
        · cases h4 : (cP c == 16 || cP c == cP q.1) with
          | true =>
            have h5 : (cP q.1 == 16 || cP c == 16 || cP c == cP q.1) = true := by rw [Bool.or_assoc, h4, Bool.or_true]
            simp [h1, h2, h3, h4, h5, b2i]
          | false =>
            have h6 : (cP q.1 == 16) = false := by simpa using h3
            have h5 : (cP q.1 == 16 || cP c == 16 || cP c == cP q.1) = false := by rw [Bool.or_assoc, h4, h6]; rfl
            rw [show (!(cB q.1 == cB c) || false || !(cP q.1 == 16 || cP c == 16 || cP c == cP q.1)) = true by rw [h5]; simp, Bool.true_and]
            simp [h1, h3, h4]
    · have h2 : (cB q.1 == cB c) = false := by simpa using h1
      simp [h1, h2]
theorem m_mayGo (R : Row h r S) (M : MO h m) {b : Nat} {pre l : List Ch} {c : Ch} (e : sC S = pre ++ c :: l) (F : Fl h m (goes b pre)) :
    fX10_mayGo m r (nI pre.length) h = some (.inl (some (.int (b2i (mayG c (goes b pre))))), h) := by
  obtain ⟨hc, hl, hl2⟩ := R.ch e
  obtain ⟨-, -, -, -, t4, t5, t6, t7, -⟩ := R.cel e
  have hneed := hc.2.2.2.2.2
  have hgl := goes_len b pre
  have s0 := m_slot R M e F (i := 0) (by decide) (hneed (c1 c) (by simp)) t4
  have s1 := m_slot R M e F (i := 1) (by decide) (hneed (c2 c) (by simp)) t5
  have s2 := m_slot R M e F (i := 2) (by decide) (hneed (c3 c) (by simp)) t6
  have s3 := m_slot R M e F (i := 3) (by decide) (hneed (c4 c) (by simp)) t7
  have sp := m_place R M e F (goes b pre) [] 999991 rfl (by omega)
  unfold fX10_mayGo kX10_mayGo_0
  rw [m_cell, bI_s, show (512 : Int32) + 12 * nI pre.length = nI (512 + 12 * pre.length) from nI_cell _, show FF = 999998 + 2 from rfl, show (4 : Int32) = nI (4 + 0) from rfl, s0]
  unfold mayG
  cases okN c (goes b pre) (c1 c) with
  | false => rfl
  | true =>
    rw [if_pos rfl, show (999998 : Nat) = 999996 + 2 from rfl, show 4 + 0 + 1 = 4 + 1 from rfl, s1]
    cases okN c (goes b pre) (c2 c) with
    | false => rfl
    | true =>
      rw [if_pos rfl, show (999996 : Nat) = 999994 + 2 from rfl, show 4 + 1 + 1 = 4 + 2 from rfl, s2]
      cases okN c (goes b pre) (c3 c) with
      | false => rfl
      | true =>
        rw [if_pos rfl, show (999994 : Nat) = 999992 + 2 from rfl, show 4 + 2 + 1 = 4 + 3 from rfl, s3]
        cases okN c (goes b pre) (c4 c) with
        | false => rfl
        | true =>
          rw [if_pos rfl, show (999992 : Nat) = 999991 + 1 from rfl, zX10_mayGo_8]
          simp (maxSteps := 3000000) (disch := omega) only [kX10_mayGo_8, ↓reduceIte, if_true, if_false, ite_not, not_true_eq_false, not_false_eq_true, ↓qqI_p, ↓qqR_p, ↓qqV_p, ↓qqIx_p, ↓qqRx_p, ↓qqVx_p, qqI_s, qqR_s, qqV_s, qqIx_s, qqRx_s, qqVx_s, qqIx_t, qqVx_t, ↓letH_s, inB_nI, nI_leI, nI_ltI, nI_eq, nI_eq0, nI_eqm, nI_eqn, nI_le0, nI_lt0, nI_0lt, nI_0le, nI_clamp, pk_mul, nI_add, pk_div, pk_sub, rem_n, z_add, add_z, m_cell, kmk, lmk, rmk, b2i_0, b2i_n1, bft, le_t, le_f, lt_t, lt_f, eq_t, eq_f, k1, k2, k3, k4, k5, k6, k7, k8, k9, k10, k11, k12, k13, k15, k16, k20, k24, k30, k60, k64, k99, k100, k200, k255, k256, k512, k2912, k3392, k3393, k3394, k3395, k3396, k3397, k3398]
          simp only [Bool.true_and]
          exact sp
end M4
