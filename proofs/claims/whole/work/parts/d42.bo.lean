/-! ===== book, both sides ===== -/
section BO
variable {h h' : Hp} {x B z n m N Z : Nat} {bl : Nat → Nat} {S : St} {T : Nat → Nat} {ls : List (Nat × Nat)} {fp rs : Int32} {rf : Nat → Int32} {hi : List St} {im : List (St × List St)}
theorem cb_bad (A : CW h x B bl S z T n ls fp rs rf hi im) {a : Int32} (ha : ¬ (0 ≤ a ∧ a ≤ nI n ∧ a ≤ nI 60)) : fX9_book x a h = some (.inr xIA, thr h x 1) := by
  unfold fX9_book kX9_book_0
  rw [if_pos A.1.1.k, t_len A.1.1, A.2.1.1.1, if_neg (show ¬ (0 ≤ a ∧ a ≤ nI n ∧ a ≤ 60) from ha), bVx_t]
theorem cb_go (A : CW h x B bl S z T n ls fp rs rf hi im) {k : Nat} (h1 : k ≤ n) (h2 : k ≤ 60) : match bkP T k (k + 1) [] 0 with
    | .inr e => ∃ h', fX9_book x (nI k) h = some (.inl (some (.int (nI e.1 - 10))), h') ∧ h'.1 = h.1 ∧ CW h' x B bl S z T 0 ls (nI e.2) rs rf hi im ∧ KC h h' x B
    | .inl l => ∃ h', fX9_book x (nI k) h = some (.inl (some (.int (nI l.length))), h') ∧ h'.1 = h.1 ∧ CW h' x B bl S z T 0 l (-1) rs rf hi im ∧ KC h h' x B := by
  have C := A.1.1
  have b1 := A.2.2.1.1
  obtain ⟨m1, m2, m3, m4⟩ := A.2.1.1
  obtain ⟨h5, a1, a2, a3, a4⟩ := c_readBook (n := k) C (by omega) (fun i hi => m3 i (by omega)) (fun i hi => m4 i (by omega))
  have A5 := A.fre a2
  have C5 := A5.1.1
  have st : fX9_book x (nI k) h = (bI (fX3_readBook (x + 27) (x + 26) (nI k) h) fun z6 h5 => (if kH h5 x = 19 then (bV (fX9_textRead x z6 h5) fun h9 => (if z6 = 0 then (if kH h9 x = 19 then (if kH h9 (rH h9 x 7) = 13 then (if kH h9 (rH h9 (rH h9 x 7) 1) = 1 then (if kH h9 (rH h9 x 8) = 1 then (if 0 + 16 ≤ lH h9 (rH h9 (rH h9 x 7) 1) then (if 0 + 16 ≤ lH h9 (rH h9 x 8) then (letH (upI (cpI h9.2 (rH h9 (rH h9 x 7) 1) (rH h9 x 8) 0 0 16) x 13 ((cpI h9.2 (rH h9 (rH h9 x 7) 1) (rH h9 x 8) 0 0 16) (rH h9 x 7) 2)) fun (i19 : Nat → Nat → Int32) => (some (.inl (some (.int (i19 x 13))), (h9.1, i19)))) else none) else none) else none) else none) else none) else none) else (some (.inl (some (.int (z6 - 10))), h9)))) else none)) := by
    unfold fX9_book kX9_book_0
    rw [if_pos C.k, t_len C, m1, if_pos (show 0 ≤ nI k ∧ nI k ≤ nI n ∧ nI k ≤ 60 from ⟨nI_pos' (by omega), by rw [nI_leI (by omega) (by omega)]; exact h1, by rw [k60, nI_leI (by omega) (by decide)]; exact h2⟩), bVx_s, if_pos C.k, C.r7, if_pos C.rdr.1, C.tape.1]
  rw [st]
  cases e : bkP T k (k + 1) [] 0 with
  | inr er =>
    rw [e] at a1 a4
    obtain ⟨⟨⟨c1, c2⟩, c3, c4⟩, c5⟩ := a4
    have nz : ¬ nI er.1 = 0 := by rw [nI_eq0 (by omega)]; omega
    refine ⟨_, ?_, ?_, A5.t0 (nI er.2), ?_⟩
    · rw [a1, bI_s, if_pos C5.k, t_txt C5, if_neg nz, c4, bV_s, if_neg nz]
    · exact a2.1
    · exact (KC.of a2.1 (fun a q1 q2 => a2.2 a (by omega))).trans (kc_t0 h5 x B _)
  | inl l =>
    rw [e] at a1 a4
    obtain ⟨c1, ⟨c2, c3⟩, c4⟩ := a4
    have A9 := A5.t0 (-1)
    obtain ⟨h9, hh9⟩ : ∃ h9 : Hp, h9 = (h5.1, upI (upI h5.2 x 12 0) x 14 (-1)) := ⟨_, rfl⟩
    rw [← hh9] at A9
    have C9 := A9.1.1
    have e9 : ∀ a, a ≠ x → h9.2 a = h5.2 a := fun a q => by rw [hh9]; show upI _ _ _ _ a = _; rw [upI_ne q, upI_ne q]
    obtain ⟨l1, l2, l3⟩ : rH h9 (x + 27) 1 = x + 35 ∧ kH h9 (x + 35) = 1 ∧ lH h9 (x + 35) = 16 := C9.rdr.2.2.2.1
    obtain ⟨k1, k2, k3'⟩ := C9.book
    have c27 : cpI h9.2 (x + 35) (x + 38) 0 0 16 (x + 27) 2 = nI l.length := by rw [cpI_ne (by omega), e9 _ (by omega)]; exact c2
    obtain ⟨h', hh'⟩ : ∃ h' : Hp, h' = (h9.1, upI (cpI h9.2 (x + 35) (x + 38) 0 0 16) x 13 (nI l.length)) := ⟨_, rfl⟩
    have e' : h'.1 = h9.1 := by rw [hh']
    have i' : ∀ a, a ≠ x → a ≠ x + 38 → h'.2 a = h9.2 a := fun a q1 q2 => by rw [hh']; show upI _ _ _ _ a = _; rw [upI_ne q1, cpI_ne q2]
    have x' : ∀ j, j ≠ 13 → h'.2 x j = h9.2 x j := fun j q => by rw [hh']; show upI _ _ _ _ x j = _; rw [upI_at, if_neg q, cpI_ne (by omega)]
    refine ⟨h', ?_, ?_, ?_, ?_⟩
    · rw [a1, bI_s, if_pos C5.k, t_txt C5, if_pos rfl, bV_s, if_pos rfl, ← hh9, if_pos C9.k, C9.r7, if_pos C9.rdr.1, l1, if_pos l2, k1, if_pos k2, l3, if_pos (by decide), k3', if_pos (by decide), c27, letH_s, upI_at, if_pos rfl, hh']
    · rw [e', hh9]; exact a2.1
    · obtain ⟨⟨p1, p1', p1'', p1'''⟩, ⟨⟨p2, p3⟩, p4⟩, ⟨p5, p6⟩, p7⟩ := A9.2.1
      refine A9.re e' (Sta.eqs e' (fun a w1 w2 => i' a (by omega) (by omega)) A9.1.2) ⟨⟨by rw [x' 12 (by decide)]; exact p1, by omega, fun i hi => by omega, fun i hi => by omega⟩, ⟨⟨c4, fun p hp => ?_⟩, ?_⟩, ⟨by rw [x' 14 (by decide)]; exact p5, by rw [x' 15 (by decide)]; exact p6⟩, fun i hi => by rw [i' (x + 41) (by omega) (by omega)]; exact p7 i hi⟩ (fun a q => i' a (by omega) (by omega)) (x' 11 (by decide))
      · rw [hh']
        show upI _ _ _ _ (x + 38) p = _
        rw [upI_ne (by omega), cpI_at, if_pos (by omega), e9 _ (by omega), show 0 + (p - 0) = p by omega]
        exact c3 p hp
      · rw [hh']
        show upI _ _ _ _ x 13 = _
        rw [upI_at, if_pos rfl]
    · exact ((KC.of a2.1 (fun a q1 q2 => a2.2 a (by omega))).trans (by rw [hh9]; exact kc_t0 h5 x B _)).trans (KC.of e' (fun a q1 q2 => i' a (by omega) (by omega)))
/-! the reference -/
theorem MS.lnr (M : MS h m) {k : Nat} (hk : k < 16) : rH h m 20 = m + 20 ∧ kH h (m + 20) = 7 ∧ lH h (m + 20) = 16 ∧ rH h (m + 20) k = m + 21 + k ∧ kH h (m + 21 + k) = 1 ∧ lH h (m + 21 + k) = 2 := by
  have r := M.rdl.2 k hk
  have er : m + 20 + 1 + k = m + 21 + k := by omega
  rw [er] at r
  exact ⟨M.rdl.1.1, M.rdl.1.2.1, M.rdl.1.2.2, r.1, r.2.1, r.2.2⟩
theorem m_bk_1 {k i f : Nat} (M : MS h m) (hk : k < 16) (hi : i < 2) (len : Int32) : gX10_book (f + 1) 201 [.ref m, uV, .int len, uV, .int (nI k), .int (nI i), uV] [] h = gX10_book f 201 [.ref m, uV, .int len, uV, .int (nI k), .int (nI (i + 1)), uV] [] (h.1, upI h.2 (m + 4 + k) i (h.2 (m + 21 + k) i)) := by
  obtain ⟨a1, a2, a3, a4, a5, a6⟩ := M.row hk
  obtain ⟨b1, b2, b3, b4, b5, b6⟩ := M.lnr hk
  rw [zX10_book_201]
  unfold kX10_book_201
  rw [if_neg (show ¬ (2 : Int32) ≤ nI i by rw [k2, nI_leI (by decide) (by omega)]; omega), if_pos M.k, a1, if_pos a2, a3, if_pos (inB_nI hk (by decide)), b1, if_pos b2, b3, if_pos (inB_nI hk (by decide)), nI_clamp (by omega), b4, if_pos b5, b6, if_pos (inB_nI hi (by decide)), a4, if_pos a5, a6, if_pos (inB_nI hi (by decide)), nI_clamp (by omega), letH_s, nI_1]
theorem m_bk_cp {len : Nat} (hl : len ≤ 16) : ∀ (c k fl : Nat) (h : Hp), k + c = len → 4 * c < fl → MS h m → ∃ h', gX10_book fl 192 [.ref m, uV, .int (nI len), uV, .int (nI k), uV, uV] [] h = some (.inl (some (.int (nI len))), h') ∧ h'.1 = h.1 ∧ (∀ a, a < m + 4 + k ∨ m + 20 ≤ a → h'.2 a = h.2 a) ∧ ∀ j i, k ≤ j → j < len → i < 2 → h'.2 (m + 4 + j) i = h.2 (m + 21 + j) i := by
  intro c
  induction c with
  | zero =>
    intro k fl h hk hfl M
    obtain ⟨fl, rfl⟩ := sc (show 0 < fl by omega)
    refine ⟨h, ?_, rfl, fun _ _ => rfl, fun j i q1 q2 _ => by omega⟩
    rw [zX10_book_192]
    unfold kX10_book_192
    rw [if_pos (by rw [nI_leI (by omega) (by omega)]; omega)]
  | succ c ih =>
    intro k fl h hk hfl M
    obtain ⟨fl, rfl⟩ : ∃ g, fl = g + 1 + 1 + 1 + 1 := ⟨fl - 4, by omega⟩
    let g1 : Hp := (h.1, upI h.2 (m + 4 + k) 0 (h.2 (m + 21 + k) 0))
    let g2 : Hp := (g1.1, upI g1.2 (m + 4 + k) 1 (g1.2 (m + 21 + k) 1))
    have e1 : gX10_book (fl + 1 + 1 + 1) 201 [.ref m, uV, .int (nI len), uV, .int (nI k), .int (nI 0), uV] [] h = gX10_book (fl + 1) 201 [.ref m, uV, .int (nI len), uV, .int (nI k), .int (nI 2), uV] [] g2 := by
      rw [m_bk_1 M (by omega) (by decide), m_bk_1 (h := g1) (M.eq rfl) (by omega) (by decide)]
    obtain ⟨h', i1, i2, i3, i4⟩ := ih (k + 1) fl g2 (by omega) (by omega) (M.eq rfl)
    have g2n : ∀ a, a ≠ m + 4 + k → g2.2 a = h.2 a := fun a q => by
      show upI _ _ _ _ a = _
      rw [upI_ne q]
      exact upI_ne q
    refine ⟨h', ?_, i2, fun a q => ?_, fun j i q1 q2 q3 => ?_⟩
    · rw [zX10_book_192]
      unfold kX10_book_192
      rw [if_neg (by rw [nI_leI (by omega) (by omega)]; omega)]
      show gX10_book (fl + 1 + 1 + 1) 201 [.ref m, uV, .int (nI len), uV, .int (nI k), .int (nI 0), uV] [] h = _
      rw [e1, zX10_book_201]
      unfold kX10_book_201
      rw [if_pos (show (2 : Int32) ≤ nI 2 by decide), nI_1]
      exact i1
    · rw [i3 a (by omega), g2n a (by omega)]
    · by_cases ej : j = k
      · rw [ej, i3 _ (by omega)]
        show upI g1.2 _ _ _ (m + 4 + k) i = _
        rw [upI_at]
        by_cases ei : i = 1
        · rw [if_pos ei, ei]
          show upI _ _ _ _ (m + 21 + k) 1 = _
          rw [upI_ne (by omega)]
        · rw [if_neg ei]
          show upI _ _ _ _ (m + 4 + k) i = _
          rw [upI_at, if_pos (by omega), show i = 0 by omega]
      · rw [i4 j i (by omega) q2 q3, g2n _ (by omega)]
theorem mb_bad (A : RW h m S z T n ls fp rs rf hi im) {a : Int32} (ha : ¬ (0 ≤ a ∧ a ≤ nI n ∧ a ≤ nI 60)) : fX10_book m a h = some (.inl (some (.int 0)), bdM h m 1 1) := by
  have M := A.1.1
  have e1 : (upI h.2 m 0 0) m 1 = nI n := by rw [upI_at, if_neg (by decide)]; exact A.2.1.1.1
  have bd := m_badT M (w := 1) (by decide) (i := 1) (by decide)
  have bd : fX10_bad m 1 1 1 (h.1, upI h.2 m 0 0) = _ := bd
  unfold fX10_book kX10_book_0
  rw [if_pos M.k, e1, m_in, bI_s]
  by_cases h1 : 0 ≤ a ∧ a ≤ nI n
  · rw [decide_eq_true h1, if_neg (show ¬ b2i true = 0 by decide), if_neg (show ¬ a ≤ 60 from fun q => ha ⟨h1.1, h1.2, q⟩), if_pos M.k, bd, bI_s, if_neg (by decide)]
  · rw [decide_eq_false h1, if_pos (show b2i false = 0 by decide), if_pos M.k, bd, bI_s, if_neg (by decide)]
theorem mb_go (A : RW h m S z T n ls fp rs rf hi im) {p : Nat} (h1 : p ≤ n) (h2 : p ≤ 60) : match bkP T p (p + 1) [] 0 with
    | .inr e => ∃ h', fX10_book m (nI p) h = some (.inl (some (.int (nI e.1 - 10))), h') ∧ Gm h h' m ∧ h'.2 m 0 = 0 ∧ RW h' m S z T 0 ls (nI e.2) rs rf hi im
    | .inl l => ∃ h', fX10_book m (nI p) h = some (.inl (some (.int (nI l.length))), h') ∧ Gm h h' m ∧ h'.2 m 0 = 0 ∧ RW h' m S z T 0 l (-1) rs rf hi im := by
  have A0 := A.th0
  have M := A.1.1
  have M0 := A0.1.1
  obtain ⟨⟨a1, a2, a3, a4⟩, a5, ⟨a6, a7⟩, a8⟩ := A0.2.1
  obtain ⟨h20, s1, s2, s3, s4, s5, s6, s7, s8⟩ := m_starts (n := p) M0 (by omega) (fun i hi => a3 i (by omega)) (fun i hi => a4 i (by omega))
  obtain ⟨h', w1, w2, w3⟩ := m_bk_go (T := T) (n := p) (m := m) (p + 1) 0 FF [] h20 s5 (Nat.zero_le _) (fun k q hq => by simp at hq) ⟨by decide, by simp, by simp⟩ (by omega) (show 2 * (p + 1) + 1002 < 1000000 by omega)
  have st : fX10_book m (nI p) h = gX10_book FF 48 [.ref m, uV, .int (nI ([] : List (Nat × Nat)).length), .int (nI (bm [])), uV, uV, uV] [] h20 := by
    have e1 : (upI h.2 m 0 0) m 1 = nI n := a1
    have bd : fX10_bad m 0 1 1 (h.1, upI h.2 m 0 0) = _ := m_bad0 (h := th0 h m) M.k (th0_0 h m) 1 1
    have s1 : fX10_starts m (nI p) (h.1, upI h.2 m 0 0) = _ := s1
    unfold fX10_book kX10_book_0
    rw [if_pos M.k, e1, m_in, bI_s, decide_eq_true ⟨nI_pos' (by omega), by rw [nI_leI (by omega) (by omega)]; exact h1⟩, if_neg (show ¬ b2i true = 0 by decide), if_pos (show nI p ≤ 60 by rw [k60, nI_leI (by omega) (by decide)]; exact h2), if_pos M.k, bd, bI_s, if_pos rfl, if_pos M.k, s1, bV_s]
    rfl
  rw [← st] at w3
  have f1 : h'.1 = h.1 := w1.1.trans s2
  have f2 : ∀ a, a ≠ m → a < m + 21 ∨ m + 37 ≤ a → h'.2 a = (th0 h m).2 a := fun a q1 q2 => by rw [w1.2.1 a q1 q2, s3 a q1]
  have f3 : ∀ j, j ≠ 1 → j ≠ 2 → j ≠ 4 → j ≠ 5 → j ≠ 6 → j ≠ 7 → j ≠ 8 → h'.2 m j = (th0 h m).2 m j := fun j q1 q2 q4 q5 q6 q7 q8 => by rw [w1.2.2 j q4 q5 q6, s4 j q1 q2 q4 q5 q6 q7 q8]
  have t1 : h'.2 m 1 = nI 0 := by rw [w1.2.2 1 (by decide) (by decide) (by decide), s6]; rfl
  have t0 : h'.2 m 0 = 0 := by rw [f3 0 (by decide) (by decide) (by decide) (by decide) (by decide) (by decide) (by decide)]; exact th0_0 h m
  have A' : RW h' m S z T 0 ls fp rs rf hi im := A0.fl f1 (fun a q1 q2 q3 => by
      unfold perM at q1
      exact f2 a (by omega) (by omega)) (fun j q => f3 j (by omega) (by omega) (by omega) (by omega) (by omega) (by omega) (by omega)) t1 (Nat.zero_le _) (by rw [f3 3 (by decide) (by decide) (by decide) (by decide) (by decide) (by decide) (by decide)]; exact a6)
  have Gf : Gm h h' m := ⟨f1, fun a q => by rw [f2 a (by omega) (by omega)]; exact upI_ne (by omega)⟩
  cases e : bkP T p (p + 1) [] 0 with
  | inr er =>
    rw [e] at w3
    obtain ⟨x1, x2, x3⟩ := w3
    refine ⟨(h'.1, upI h'.2 m 3 (nI er.2)), x1, Gf.trans ⟨rfl, fun a q => upI_ne (by omega)⟩, ?_, A'.fl rfl (fun a q1 q2 q3 => upI_ne (by unfold perM at q1; omega)) (fun j q => ?_) ?_ (Nat.le_refl _) ?_⟩
    · show upI _ _ _ _ m 0 = _
      rw [upI_at, if_neg (by decide)]
      exact t0
    · show upI _ _ _ _ m j = _
      rw [upI_at, if_neg (by omega)]
    · show upI _ _ _ _ m 1 = _
      rw [upI_at, if_neg (by decide)]
      exact t1
    · show upI _ _ _ _ m 3 = _
      rw [upI_at, if_pos rfl]
  | inl l =>
    rw [e] at w3
    obtain ⟨⟨g, x1⟩, x2, x3⟩ := w3
    obtain ⟨q, hq⟩ : ∃ q : Hp, q = (h'.1, upI (upI h'.2 m 3 (-1)) m 13 (nI l.length)) := ⟨_, rfl⟩
    rw [← hq] at x1
    have l16 := x3.1
    obtain ⟨h8, c1, c2, c3, c4⟩ := m_bk_cp (m := m) l16 l.length 0 (g + 1000) q (by omega) (by omega) (A'.1.1.eq (by rw [hq]))
    have e8 : h8.1 = h'.1 := by rw [c2, hq]
    have n8 : ∀ a, a ≠ m → a < m + 4 ∨ m + 20 ≤ a → h8.2 a = h'.2 a := fun a w1 w2 => by rw [c3 a (by omega), hq]; show upI _ _ _ _ a = _; rw [upI_ne w1, upI_ne w1]
    have m8 : ∀ j, j ≠ 3 → j ≠ 13 → h8.2 m j = h'.2 m j := fun j w1 w2 => by rw [c3 m (by omega), hq]; show upI _ _ _ _ m j = _; rw [upI_at, if_neg w2, upI_at, if_neg w1]
    obtain ⟨⟨M9, R9, Z9⟩, ⟨⟨a1', a2', a3', a4'⟩, a5', ⟨a6', a7'⟩, a8'⟩, ⟨b1', b2', b3'⟩, c1'', c2'', c3''⟩ := A'
    refine ⟨h8, ?_, Gf.trans ⟨e8, fun a w => n8 a (by omega) (by omega)⟩, by rw [m8 0 (by decide) (by decide)]; exact t0, ⟨M9.eq e8, R9.eq e8 (n8 _ (by omega) (by omega)), by rw [m8 11 (by decide) (by decide)]; exact Z9⟩, ⟨⟨by rw [m8 1 (by decide) (by decide)]; exact t1, by omega, fun i hi => by omega, fun i hi => by omega⟩, ⟨x3, ?_, fun k w hw => ?_⟩, ⟨?_, by rw [m8 15 (by decide) (by decide)]; exact a7'⟩, fun i hi => by rw [n8 (m + 2) (by omega) (by omega)]; exact a8' i hi⟩, ⟨by rw [m8 14 (by decide) (by decide)]; exact b1', b2', fun i S' hS => ?_⟩, by rw [m8 16 (by decide) (by decide)]; exact c1'', c2'', fun g v' hv => ?_⟩
    · rw [x1]
      exact c1
    · rw [c3 m (by omega), hq]; show upI _ _ _ _ m 13 = _; rw [upI_at, if_pos rfl]
    · have hk : k < l.length := (List.getElem?_eq_some_iff.mp hw).1
      have q21 : q.2 (m + 21 + k) = h'.2 (m + 21 + k) := by rw [hq]; show upI _ _ _ _ (m + 21 + k) = _; rw [upI_ne (by omega), upI_ne (by omega)]
      rw [c4 k 0 (by omega) hk (by decide), c4 k 1 (by omega) hk (by decide), q21]
      exact x2 k w hw
    · rw [c3 m (by omega), hq]; show upI _ _ _ _ m 3 = _; rw [upI_at, if_neg (by decide), upI_at, if_pos rfl]
    · have hk : i < hi.length := (List.getElem?_eq_some_iff.mp hS).1
      exact (b3' i S' hS).eq e8 (n8 _ (by omega) (by omega))
    · have hk : g < im.length := (List.getElem?_eq_some_iff.mp hv).1
      rw [n8 (m + 138 + g) (by omega) (by omega)]
      exact c3'' g v' hv
end BO
