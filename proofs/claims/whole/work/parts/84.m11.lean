/-! ===== the reference does what was put off, whole ===== -/
def mkIf (G : List Ch) (e : La) : La := if isDue G e then mk1 e else e
def unm (e : La) : Bool := !(e.2.2 == 4294967295)
section M11
variable {r m : Nat} {S : St}
theorem m_late_go {G : List Ch} (hG : G.length ≤ 200) (hI : ∀ c ∈ G, cI c < 2 ^ 31) (hm : r ≠ m ∧ r ≠ m + 149) : ∀ (T P : List La) (n : Nat) (Y : St) (h : Hp), Row h r (pW (P ++ T) Y) → MO h m → Gn h m G → Pt Y → (∀ e ∈ T, e.2.2 < 2 ^ 31 ∧ (e.1 = 0 ∨ e.2.1 < 12)) →
    Sl (pW (P ++ T) Y) (co1 (T.filter (isDue G))) (co2 (T.filter (isDue G))) (co1 (T.filter (isDue G))) →
    ∃ h', gX10_doesLater (n + T.length + 1) 11 [.ref m, .ref r, .int (nI (P.length + T.length)), .int 0, .int (nI P.length), uV, uV] [] h = gX10_doesLater n 92 [uV, .ref r, uV, .int 0, .int 0, uV, uV] [] h' ∧ h'.1 = h.1 ∧ (∀ a, a ≠ r → h'.2 a = h.2 a) ∧
      Row h' r (pW (P ++ T.map (mkIf G)) ((T.filter (isDue G)).foldl dol Y)) := by
  intro T
  induction T with
  | nil =>
    intro P n Y h R M g Pp hT sl
    have hl : P.length + (sL Y).length ≤ 160 := by
      have : ((P ++ []) ++ sL Y).length ≤ 160 := R.bd.2.1
      simpa using this
    refine ⟨h, ?_, rfl, fun _ _ => rfl, R⟩
    rw [show n + ([] : List La).length + 1 = n + 1 from rfl, zX10_doesLater_11]
    simp (maxSteps := 3000000) (disch := omega) only [kX10_doesLater_11, ↓reduceIte, if_true, if_false, ite_not, not_true_eq_false, not_false_eq_true, ↓qqI_p, ↓qqR_p, ↓qqV_p, ↓qqIx_p, ↓qqRx_p, ↓qqVx_p, qqI_s, qqR_s, qqV_s, qqIx_s, qqRx_s, qqVx_s, qqIx_t, qqVx_t, ↓letH_s, inB_nI, nI_leI, nI_ltI, nI_eq, nI_eq0, nI_eqm, nI_eqn, nI_le0, nI_lt0, nI_0lt, nI_0le, nI_clamp, pk_mul, nI_add, pk_div, pk_sub, rem_n, z_add, add_z, m_cell, kmk, lmk, rmk, b2i_0, b2i_n1, bft, le_t, le_f, lt_t, lt_f, eq_t, eq_f, k1, k2, k3, k4, k5, k6, k7, k8, k9, k10, k11, k12, k13, k15, k16, k20, k24, k30, k60, k64, k99, k100, k200, k255, k256, k512, k2912, k3392, k3393, k3394, k3395, k3396, k3397, k3398, List.length_nil, Nat.add_zero]
  | cons e T ih =>
    intro P n Y h R M g Pp hT sl
    have hl : P.length + 1 + T.length + (sL Y).length ≤ 160 := by
      have : ((P ++ e :: T) ++ sL Y).length ≤ 160 := R.bd.2.1
      simp at this
      omega
    obtain ⟨M0, -, -, M4, M5, M6⟩ := id M
    obtain ⟨q0, q1, q2⟩ := R.lat (pre := P) (e := e) (l := T ++ sL Y) (by show (P ++ e :: T) ++ sL Y = _; simp)
    obtain ⟨u0, u1, u2, u3⟩ := R.bd.2.2.2.2.2.1 e (by show e ∈ (P ++ e :: T) ++ sL Y; simp)
    obtain ⟨v0, v1⟩ := hT e List.mem_cons_self
    have hgone := m_isGone M g hG hI (x := e.2.2) v0
    have hlen : P.length + (e :: T).length = (P ++ [mkIf G e]).length + T.length := by simp; omega
    rw [show n + (e :: T).length + 1 = (n + T.length + 1) + 1 by simp; omega, zX10_doesLater_11, List.map_cons, hlen]
    cases hd : isDue G e with
    | false =>
      have hd' : (G.any fun c => cI c == e.2.2) = false := hd
      rw [hd'] at hgone
      rw [List.filter_cons, hd] at sl ⊢
      have hmk : mkIf G e = e := by unfold mkIf; rw [hd]; rfl
      rw [hmk]
      obtain ⟨h', i1, i2, i3, i4⟩ := ih (P ++ [e]) n Y h (by rw [List.append_assoc]; exact R) M g Pp (fun z hz => hT z (List.mem_cons_of_mem _ hz)) (by rw [List.append_assoc]; exact sl)
      refine ⟨h', ?_, i2, i3, by rw [List.append_assoc] at i4; exact i4⟩
      rw [← i1, len1]
      simp (maxSteps := 3000000) (disch := omega) only [kX10_doesLater_11, R.k, R.l, M0, ↓reduceIte, if_true, if_false, ite_not, not_true_eq_false, not_false_eq_true, ↓qqI_p, ↓qqR_p, ↓qqV_p, ↓qqIx_p, ↓qqRx_p, ↓qqVx_p, qqI_s, qqR_s, qqV_s, qqIx_s, qqRx_s, qqVx_s, qqIx_t, qqVx_t, ↓letH_s, inB_nI, nI_leI, nI_ltI, nI_eq, nI_eq0, nI_eqm, nI_eqn, nI_le0, nI_lt0, nI_0lt, nI_0le, nI_clamp, pk_mul, nI_add, pk_div, pk_sub, rem_n, z_add, add_z, m_cell, kmk, lmk, rmk, b2i_0, b2i_n1, bft, le_t, le_f, lt_t, lt_f, eq_t, eq_f, k1, k2, k3, k4, k5, k6, k7, k8, k9, k10, k11, k12, k13, k15, k16, k20, k24, k30, k60, k64, k99, k100, k200, k255, k256, k512, k2912, k3392, k3393, k3394, k3395, k3396, k3397, k3398, q2, hgone]
    | true =>
      have hd' : (G.any fun c => cI c == e.2.2) = true := hd
      rw [hd'] at hgone
      rw [List.filter_cons, hd] at sl ⊢
      simp only [if_true] at sl ⊢
      rw [co1_cons, co2_cons, Nat.add_comm _ (co1 _), Nat.add_comm _ (co2 _)] at sl
      have hmk : mkIf G e = mk1 e := by unfold mkIf; rw [hd]; rfl
      rw [hmk, List.foldl_cons]
      have hdo : dol (pW (P ++ e :: T) Y) e = pW (P ++ e :: T) (dol Y e) := pW_dol _ _ _
      have hsl2 := sl_dol (S := pW (P ++ e :: T) Y) sl
      have hres : ∃ h1, (e.1 = 0 → fX10_bare r 0 (nI e.2.1) 0 h = some (.inl (some (.int (nI (mkI (pW (P ++ e :: T) Y) 0 e.2.1 0)))), h1)) ∧ (e.1 ≠ 0 → fX10_lessens r (nI e.2.1) h = some (.inl none, h1)) ∧ h1.1 = h.1 ∧ (∀ a, a ≠ r → h1.2 a = h.2 a) ∧ Row h1 r (pW (P ++ e :: T) (dol Y e)) := by
        by_cases he : e.1 = 0
        · simp only [he, if_true] at sl
          obtain ⟨h1, a1, a2, a3, a4⟩ := m_bare R (sl.le (by omega) (by omega) (by omega)) (b := 0) (p := e.2.1) (v := 0) (by decide) (by omega) (by decide)
          rw [← hdo]
          refine ⟨h1, fun _ => a1, fun q => absurd he q, a2, a3, ?_⟩
          unfold dol
          rw [if_pos he]
          exact a4
        · simp only [he, if_false] at sl
          obtain ⟨h1, a1, a2, a3, a4⟩ := m_lessens R (show Pt (pW (P ++ e :: T) Y) from Pp) (n := e.2.1) (by omega) sl
          rw [← hdo]
          refine ⟨h1, fun q => absurd q he, fun _ => a1, a2, a3, ?_⟩
          unfold dol
          rw [if_neg he]
          exact a4
      obtain ⟨h1, a0, a1, a2, a3, a4⟩ := hres
      have R2 := row_mark a4
      obtain ⟨h', i1, i2, i3, i4⟩ := ih (P ++ [mk1 e]) n (dol Y e) (h1.1, upI h1.2 r (2912 + 3 * P.length + 2) (-1)) (by rw [List.append_assoc]; exact R2) ((M.eq a2).up) (by
        refine ⟨by dsimp only; rw [upI_ne hm.1.symm, a3 _ hm.1.symm]; exact g.1, fun Q c Z e' => by dsimp only; rw [upI_ne hm.2.symm, a3 _ hm.2.symm]; exact g.2 Q c Z e'⟩) (pt_dol Pp v1 u1) (fun z hz => hT z (List.mem_cons_of_mem _ hz)) (by
        rw [hdo] at hsl2
        obtain ⟨s1, s2, s3⟩ := hsl2
        refine ⟨s1, ?_, s3⟩
        have s2 : ((P ++ e :: T) ++ sL (dol Y e)).length + co2 (T.filter (isDue G)) ≤ 160 := s2
        show (((P ++ [mk1 e]) ++ T) ++ sL (dol Y e)).length + co2 (T.filter (isDue G)) ≤ 160
        simp at s2 ⊢
        omega)
      refine ⟨h', ?_, i2.trans a2, fun a ha => by rw [i3 a ha]; dsimp only; rw [upI_ne ha, a3 a ha], by rw [List.append_assoc] at i4; exact i4⟩
      rw [← i1, len1]
      have hk1 := a4.k
      have hl1 := a4.l
      by_cases he : e.1 = 0
      · have a0 := a0 he
        simp (maxSteps := 3000000) (disch := omega) only [kX10_doesLater_11, R.k, R.l, M0, ↓reduceIte, if_true, if_false, ite_not, not_true_eq_false, not_false_eq_true, ↓qqI_p, ↓qqR_p, ↓qqV_p, ↓qqIx_p, ↓qqRx_p, ↓qqVx_p, qqI_s, qqR_s, qqV_s, qqIx_s, qqRx_s, qqVx_s, qqIx_t, qqVx_t, ↓letH_s, inB_nI, nI_leI, nI_ltI, nI_eq, nI_eq0, nI_eqm, nI_eqn, nI_le0, nI_lt0, nI_0lt, nI_0le, nI_clamp, pk_mul, nI_add, pk_div, pk_sub, rem_n, z_add, add_z, m_cell, kmk, lmk, rmk, b2i_0, b2i_n1, bft, le_t, le_f, lt_t, lt_f, eq_t, eq_f, k1, k2, k3, k4, k5, k6, k7, k8, k9, k10, k11, k12, k13, k15, k16, k20, k24, k30, k60, k64, k99, k100, k200, k255, k256, k512, k2912, k3392, k3393, k3394, k3395, k3396, k3397, k3398, q2, hgone, q0, q1, he, a0, hk1, hl1]
        rfl
      · have a1 := a1 he
        simp (maxSteps := 3000000) (disch := omega) only [kX10_doesLater_11, R.k, R.l, M0, ↓reduceIte, if_true, if_false, ite_not, not_true_eq_false, not_false_eq_true, ↓qqI_p, ↓qqR_p, ↓qqV_p, ↓qqIx_p, ↓qqRx_p, ↓qqVx_p, qqI_s, qqR_s, qqV_s, qqIx_s, qqRx_s, qqVx_s, qqIx_t, qqVx_t, ↓letH_s, inB_nI, nI_leI, nI_ltI, nI_eq, nI_eq0, nI_eqm, nI_eqn, nI_le0, nI_lt0, nI_0lt, nI_0le, nI_clamp, pk_mul, nI_add, pk_div, pk_sub, rem_n, z_add, add_z, m_cell, kmk, lmk, rmk, b2i_0, b2i_n1, bft, le_t, le_f, lt_t, lt_f, eq_t, eq_f, k1, k2, k3, k4, k5, k6, k7, k8, k9, k10, k11, k12, k13, k15, k16, k20, k24, k30, k60, k64, k99, k100, k200, k255, k256, k512, k2912, k3392, k3393, k3394, k3395, k3396, k3397, k3398, q2, hgone, q0, q1, he, a1, hk1, hl1]
        rfl
theorem m_lshift {k lf : Nat} (hk : k < 160) (hlf : lf ≤ k) : ∀ (t i n : Nat) (h : Hp), i + t = 3 → kH h r = 1 → lH h r = 3398 →
    ∃ h', gX10_doesLater (n + t + 1) 128 [uV, .ref r, uV, .int (nI lf), .int (nI k), .int (nI (2912 + 3 * k)), .int (nI i)] [] h = gX10_doesLater n 92 [uV, .ref r, uV, .int (nI (lf + 1)), .int (nI (k + 1)), uV, uV] [] h' ∧ h'.1 = h.1 ∧ (∀ a, a ≠ r → h'.2 a = h.2 a) ∧
      (∀ x, h'.2 r x = if 2912 + 3 * lf + i ≤ x ∧ x < 2912 + 3 * lf + 3 then h.2 r (x + 3 * (k - lf)) else h.2 r x) := by
  intro t
  induction t with
  | zero =>
    intro i n h hi hK hL
    refine ⟨h, ?_, rfl, fun _ _ => rfl, fun x => by rw [if_neg (by omega)]⟩
    rw [show n + 0 + 1 = n + 1 from rfl, zX10_doesLater_128]
    simp (maxSteps := 3000000) (disch := omega) only [kX10_doesLater_128, ↓reduceIte, if_true, if_false, ite_not, not_true_eq_false, not_false_eq_true, ↓qqI_p, ↓qqR_p, ↓qqV_p, ↓qqIx_p, ↓qqRx_p, ↓qqVx_p, qqI_s, qqR_s, qqV_s, qqIx_s, qqRx_s, qqVx_s, qqIx_t, qqVx_t, ↓letH_s, inB_nI, nI_leI, nI_ltI, nI_eq, nI_eq0, nI_eqm, nI_eqn, nI_le0, nI_lt0, nI_0lt, nI_0le, nI_clamp, pk_mul, nI_add, pk_div, pk_sub, rem_n, z_add, add_z, m_cell, kmk, lmk, rmk, b2i_0, b2i_n1, bft, le_t, le_f, lt_t, lt_f, eq_t, eq_f, k1, k2, k3, k4, k5, k6, k7, k8, k9, k10, k11, k12, k13, k15, k16, k20, k24, k30, k60, k64, k99, k100, k200, k255, k256, k512, k2912, k3392, k3393, k3394, k3395, k3396, k3397, k3398]
  | succ t ih =>
    intro i n h hi hK hL
    obtain ⟨h', i1, i2, i3, i4⟩ := ih (i + 1) n (h.1, upI h.2 r (2912 + 3 * lf + i) (h.2 r (2912 + 3 * k + i))) (by omega) hK hL
    refine ⟨h', ?_, i2, fun a ha => by rw [i3 a ha]; exact upI_ne ha, fun x => ?_⟩
    · rw [show n + (t + 1) + 1 = (n + t + 1) + 1 by omega, zX10_doesLater_128, ← i1]
      simp (maxSteps := 3000000) (disch := omega) only [kX10_doesLater_128, hK, hL, ↓reduceIte, if_true, if_false, ite_not, not_true_eq_false, not_false_eq_true, ↓qqI_p, ↓qqR_p, ↓qqV_p, ↓qqIx_p, ↓qqRx_p, ↓qqVx_p, qqI_s, qqR_s, qqV_s, qqIx_s, qqRx_s, qqVx_s, qqIx_t, qqVx_t, ↓letH_s, inB_nI, nI_leI, nI_ltI, nI_eq, nI_eq0, nI_eqm, nI_eqn, nI_le0, nI_lt0, nI_0lt, nI_0le, nI_clamp, pk_mul, nI_add, pk_div, pk_sub, rem_n, z_add, add_z, m_cell, kmk, lmk, rmk, b2i_0, b2i_n1, bft, le_t, le_f, lt_t, lt_f, eq_t, eq_f, k1, k2, k3, k4, k5, k6, k7, k8, k9, k10, k11, k12, k13, k15, k16, k20, k24, k30, k60, k64, k99, k100, k200, k255, k256, k512, k2912, k3392, k3393, k3394, k3395, k3396, k3397, k3398]
    · rw [i4]
      dsimp only
      rw [upI_at, upI_at]
      by_cases q : x = 2912 + 3 * lf + i
      · rw [if_neg (by omega), if_pos q, if_pos (by omega), q, show 2912 + 3 * lf + i + 3 * (k - lf) = 2912 + 3 * k + i by omega]
      · rw [if_neg (c := x = 2912 + 3 * lf + i) q]
        by_cases q2 : 2912 + 3 * lf + (i + 1) ≤ x ∧ x < 2912 + 3 * lf + 3
        · rw [if_pos q2, if_neg (c := x + 3 * (k - lf) = 2912 + 3 * lf + i) (by omega), if_pos (by omega)]
        · rw [if_neg q2, if_neg (by omega)]
def LaAt (A : Nat → Int32) (k : Nat) (e : La) : Prop := A (2912 + 3 * k) = nI e.1 ∧ A (2912 + 3 * k + 1) = nI e.2.1 ∧ A (2912 + 3 * k + 2) = nI e.2.2
theorem nI_m1 : nI 4294967295 = -1 := rfl
theorem until_m1 {M u : Nat} (hM : M < 2 ^ 31) (h : u ≤ M ∨ u = 4294967295) : nI u = -1 ↔ u = 4294967295 := by
  rcases h with h | h
  · rw [nI_eqm (by omega)]
    exact ⟨False.elim, fun q => by omega⟩
  · rw [h]
    exact ⟨fun _ => rfl, fun _ => rfl⟩
theorem m_comp_go {A0 : Nat → Int32} {L : List La} (hL : L.length ≤ 160) (h0 : A0 3393 = nI L.length) (hA : ∀ pre e l, L = pre ++ e :: l → LaAt A0 pre.length e) (hu : ∀ e ∈ L, nI e.2.2 = -1 ↔ e.2.2 = 4294967295) : ∀ (T P : List La) (n : Nat) (h : Hp), L = P ++ T → 5 * T.length < n → kH h r = 1 → lH h r = 3398 →
    (∀ x, x < 2912 ∨ 3392 ≤ x → h.2 r x = A0 x) → (∀ x, 2912 + 3 * P.length ≤ x → x < 3392 → h.2 r x = A0 x) → (∀ P1 e P2, P = P1 ++ e :: P2 → unm e = true → LaAt (h.2 r) (P1.filter unm).length e) →
    ∃ h', gX10_doesLater n 92 [uV, .ref r, uV, .int (nI (P.filter unm).length), .int (nI P.length), uV, uV] [] h = some (.inl none, h') ∧ h'.1 = h.1 ∧ (∀ a, a ≠ r → h'.2 a = h.2 a) ∧ (∀ x, x < 2912 ∨ 3392 ≤ x → x ≠ 3393 → h'.2 r x = A0 x) ∧ h'.2 r 3393 = nI (L.filter unm).length ∧
      (∀ P1 e P2, L = P1 ++ e :: P2 → unm e = true → LaAt (h'.2 r) (P1.filter unm).length e) := by
  intro T
  induction T with
  | nil =>
    intro P n h e hn hK hLn hx1 hx2 hc
    obtain ⟨n, rfl⟩ := sc hn
    have hP : L = P := by rw [e]; simp
    have hm : h.2 r 3393 = nI P.length := by rw [hx1 _ (by omega), h0, hP]
    have hPl : P.length ≤ 160 := by rw [← hP]; exact hL
    refine ⟨(h.1, upI h.2 r 3393 (nI (P.filter unm).length)), ?_, rfl, fun a ha => upI_ne ha, fun x q1 q2 => by dsimp only; rw [upI_at, if_neg q2]; exact hx1 x q1, by dsimp only; rw [upI_at, if_pos rfl, hP], fun P1 z P2 q1 q2 => ?_⟩
    · rw [zX10_doesLater_92]
      simp (maxSteps := 3000000) (disch := omega) only [kX10_doesLater_92, hK, hLn, hm, ↓reduceIte, if_true, if_false, ite_not, not_true_eq_false, not_false_eq_true, ↓qqI_p, ↓qqR_p, ↓qqV_p, ↓qqIx_p, ↓qqRx_p, ↓qqVx_p, qqI_s, qqR_s, qqV_s, qqIx_s, qqRx_s, qqVx_s, qqIx_t, qqVx_t, ↓letH_s, inB_nI, nI_leI, nI_ltI, nI_eq, nI_eq0, nI_eqm, nI_eqn, nI_le0, nI_lt0, nI_0lt, nI_0le, nI_clamp, pk_mul, nI_add, pk_div, pk_sub, rem_n, z_add, add_z, m_cell, kmk, lmk, rmk, b2i_0, b2i_n1, bft, le_t, le_f, lt_t, lt_f, eq_t, eq_f, k1, k2, k3, k4, k5, k6, k7, k8, k9, k10, k11, k12, k13, k15, k16, k20, k24, k30, k60, k64, k99, k100, k200, k255, k256, k512, k2912, k3392, k3393, k3394, k3395, k3396, k3397, k3398]
    · rw [hP] at q1
      obtain ⟨c0, c1, c2⟩ := hc P1 z P2 q1 q2
      have : (P1.filter unm).length ≤ P1.length := List.length_filter_le _ _
      have hlt : P1.length < P.length := by rw [q1]; simp
      dsimp only
      refine ⟨?_, ?_, ?_⟩
      · rw [upI_at, if_neg (by omega)]; exact c0
      · rw [upI_at, if_neg (by omega)]; exact c1
      · rw [upI_at, if_neg (by omega)]; exact c2
  | cons z T ih =>
    intro P n h e hn hK hLn hx1 hx2 hc
    have hPl : L.length = P.length + 1 + T.length := by rw [e]; simp; omega
    have hm : h.2 r 3393 = nI (P.length + 1 + T.length) := by rw [hx1 _ (by omega), h0, hPl]
    obtain ⟨c0, c1, c2⟩ := hA P z T e
    have hfl : (P.filter unm).length ≤ P.length := List.length_filter_le _ _
    have hq2 : h.2 r (2912 + 3 * P.length + 2) = nI z.2.2 := by rw [hx2 _ (by omega) (by omega)]; exact c2
    obtain ⟨n, rfl⟩ : ∃ n', n = n' + 5 := ⟨n - 5, by simp at hn; omega⟩
    have hn : 5 * T.length < n := by simp at hn; omega
    have hu := hu z (by rw [e]; simp)
    rw [show n + 5 = (n + 4) + 1 by omega, zX10_doesLater_92]
    by_cases hz : z.2.2 = 4294967295
    · have hun : unm z = false := by simp [unm, hz]
      have hf : (P ++ [z]).filter unm = P.filter unm := by simp [hun]
      obtain ⟨h', i1, i2⟩ := ih (P ++ [z]) (n + 4) h (app1 e) (by omega) hK hLn hx1 (fun x q1 q2 => hx2 x (by rw [len1] at q1; omega) q2) (fun P1 y P2 q1 q2 => by
        rcases List.eq_nil_or_concat P2 with rfl | ⟨T', w, rfl⟩
        · obtain ⟨_, q3⟩ := List.append_inj' q1 rfl
          cases q3
          rw [hun] at q2
          cases q2
        · rw [List.concat_eq_append] at q1
          have q3 : P ++ [z] = (P1 ++ y :: T') ++ [w] := by rw [q1]; simp
          exact hc P1 y T' (List.append_inj' q3 rfl).1 q2)
      refine ⟨h', ?_, i2⟩
      rw [hf, len1] at i1
      rw [← i1]
      have hzz : nI z.2.2 = -nI 1 ↔ True := ⟨fun _ => trivial, fun _ => hu.mpr hz⟩
      simp (maxSteps := 3000000) (disch := omega) only [kX10_doesLater_92, hK, hLn, hm, ↓reduceIte, if_true, if_false, ite_not, not_true_eq_false, not_false_eq_true, ↓qqI_p, ↓qqR_p, ↓qqV_p, ↓qqIx_p, ↓qqRx_p, ↓qqVx_p, qqI_s, qqR_s, qqV_s, qqIx_s, qqRx_s, qqVx_s, qqIx_t, qqVx_t, ↓letH_s, inB_nI, nI_leI, nI_ltI, nI_eq, nI_eq0, nI_eqm, nI_eqn, nI_le0, nI_lt0, nI_0lt, nI_0le, nI_clamp, pk_mul, nI_add, pk_div, pk_sub, rem_n, z_add, add_z, m_cell, kmk, lmk, rmk, b2i_0, b2i_n1, bft, le_t, le_f, lt_t, lt_f, eq_t, eq_f, k1, k2, k3, k4, k5, k6, k7, k8, k9, k10, k11, k12, k13, k15, k16, k20, k24, k30, k60, k64, k99, k100, k200, k255, k256, k512, k2912, k3392, k3393, k3394, k3395, k3396, k3397, k3398, hq2, hzz]
    · have hun : unm z = true := by simp [unm, hz]
      have hf : (P ++ [z]).filter unm = P.filter unm ++ [z] := by simp [hun]
      obtain ⟨h1, j1, j2, j3, j4⟩ := m_lshift (r := r) (k := P.length) (lf := (P.filter unm).length) (by omega) hfl 3 0 n h rfl hK hLn
      obtain ⟨h', i1, i2, i3, i4⟩ := ih (P ++ [z]) n h1 (app1 e) hn ((kh_eq j2 r).trans hK) ((lh_eq j2 r).trans hLn) (fun x q => by rw [j4, if_neg (by omega)]; exact hx1 x q) (fun x q1 q2 => by rw [len1] at q1; rw [j4, if_neg (by omega)]; exact hx2 x (by omega) q2) (fun P1 y P2 q1 q2 => by
        rcases List.eq_nil_or_concat P2 with rfl | ⟨T', w, rfl⟩
        · obtain ⟨q4, q3⟩ := List.append_inj' q1 rfl
          cases q3
          subst q4
          refine ⟨?_, ?_, ?_⟩
          · rw [j4, if_pos (by omega), show 2912 + 3 * (P.filter unm).length + 3 * (P.length - (P.filter unm).length) = 2912 + 3 * P.length by omega, hx2 _ (by omega) (by omega)]; exact c0
          · rw [j4, if_pos (by omega), show 2912 + 3 * (P.filter unm).length + 1 + 3 * (P.length - (P.filter unm).length) = 2912 + 3 * P.length + 1 by omega, hx2 _ (by omega) (by omega)]; exact c1
          · rw [j4, if_pos (by omega), show 2912 + 3 * (P.filter unm).length + 2 + 3 * (P.length - (P.filter unm).length) = 2912 + 3 * P.length + 2 by omega]; exact hq2
        · rw [List.concat_eq_append] at q1
          have q3 : P ++ [z] = (P1 ++ y :: T') ++ [w] := by rw [q1]; simp
          have q4 := (List.append_inj' q3 rfl).1
          obtain ⟨d0, d1, d2⟩ := hc P1 y T' q4 q2
          have hlt : (P1.filter unm).length < (P.filter unm).length := by rw [q4, List.filter_append, List.filter_cons, q2]; simp
          refine ⟨?_, ?_, ?_⟩
          · rw [j4, if_neg (by omega)]; exact d0
          · rw [j4, if_neg (by omega)]; exact d1
          · rw [j4, if_neg (by omega)]; exact d2)
      refine ⟨h', ?_, i2.trans j2, fun a ha => by rw [i3 a ha, j3 a ha], i4⟩
      rw [hf, len1, len1] at i1
      rw [← i1, ← j1]
      have hzz : nI z.2.2 = -nI 1 ↔ False := ⟨fun q => hz (hu.mp q), False.elim⟩
      simp (maxSteps := 3000000) (disch := omega) only [kX10_doesLater_92, hK, hLn, hm, ↓reduceIte, if_true, if_false, ite_not, not_true_eq_false, not_false_eq_true, ↓qqI_p, ↓qqR_p, ↓qqV_p, ↓qqIx_p, ↓qqRx_p, ↓qqVx_p, qqI_s, qqR_s, qqV_s, qqIx_s, qqRx_s, qqVx_s, qqIx_t, qqVx_t, ↓letH_s, inB_nI, nI_leI, nI_ltI, nI_eq, nI_eq0, nI_eqm, nI_eqn, nI_le0, nI_lt0, nI_0lt, nI_0le, nI_clamp, pk_mul, nI_add, pk_div, pk_sub, rem_n, z_add, add_z, m_cell, kmk, lmk, rmk, b2i_0, b2i_n1, bft, le_t, le_f, lt_t, lt_f, eq_t, eq_f, k1, k2, k3, k4, k5, k6, k7, k8, k9, k10, k11, k12, k13, k15, k16, k20, k24, k30, k60, k64, k99, k100, k200, k255, k256, k512, k2912, k3392, k3393, k3394, k3395, k3396, k3397, k3398, hq2, hzz]
      rfl
end M11
