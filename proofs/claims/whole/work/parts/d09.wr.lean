/-! ===== words, by the reference ===== -/
theorem cod_lt : ∀ (l : List Nat) (v j : Nat), (∀ x ∈ l, 97 ≤ x ∧ x ≤ 122) → v + 1 ≤ 27 ^ j → cod v l + 1 ≤ 27 ^ (j + l.length) := by
  intro l
  induction l with
  | nil => intro v j _ h; exact h
  | cons d l ih =>
    intro v j hl h
    have hd := hl d (by simp)
    have h1 : 27 * v + (d - 96) + 1 ≤ 27 ^ (j + 1) := by
      rw [Nat.pow_succ]
      omega
    have := ih (27 * v + (d - 96)) (j + 1) (fun x hx => hl x (List.mem_cons_of_mem _ hx)) h1
    rw [List.length_cons, show j + (l.length + 1) = j + 1 + l.length by omega]
    exact this
theorem p27 {j : Nat} (hj : j ≤ 6) : 27 ^ j ≤ 387420489 := Nat.le_trans (Nat.pow_le_pow_right (by decide) hj) (by decide)
theorem p27' {j : Nat} (hj : j ≤ 5) : 27 ^ j ≤ 14348907 := Nat.le_trans (Nat.pow_le_pow_right (by decide) hj) (by decide)
section WR
variable {h h' : Hp} {m n p : Nat} {T : Nat → Nat}
def wco (l : List Nat) : Int32 := if l.length ≤ 6 then nI (cod 0 l) else -1
theorem m_word_go (X : RP h m T n p) : ∀ (c j v f : Nat), n - (p + j) ≤ c → c < f → p + j ≤ n → (j ≤ 6 → v + 1 ≤ 27 ^ j) → gX10_wordHere f 8 [.ref m, .int (nI v), .int (nI j)] [] h = some (.inl (some (.int (if j + (ltr T n c (p + j)).length ≤ 6 then nI (cod v (ltr T n c (p + j))) else -1))), h) := by
  have hn := X.1.2.2.1
  intro c
  induction c with
  | zero =>
    intro j v f hc hf hj hv
    obtain ⟨f, rfl⟩ := sc hf
    have hs : smB T n (p + j) = false := decide_eq_false (by omega)
    rw [zX10_wordHere_8]
    unfold kX10_wordHere_8
    rw [if_pos X.k, X.2.1, nI_add, m_byteAt X.1 (by omega), bI_s, m_isSmall X.1, bI_s, hs, if_pos (show b2i false = 0 by decide)]
    show (if nI j ≤ 6 then _ else _) = some (Sum.inl (some (Value.int (if j + 0 ≤ 6 then nI v else -1))), h)
    by_cases e : j ≤ 6
    · rw [if_pos (by rw [k6, nI_leI (by omega) (by decide)]; exact e), if_pos (by omega)]
    · rw [if_neg (by rw [k6, nI_leI (by omega) (by decide)]; exact e), if_neg (by omega)]
  | succ c ih =>
    intro j v f hc hf hj hv
    obtain ⟨f, rfl⟩ := sc hf
    rw [zX10_wordHere_8]
    unfold kX10_wordHere_8
    rw [if_pos X.k, X.2.1, nI_add, m_byteAt X.1 (by omega), bI_s, m_isSmall X.1, bI_s]
    unfold ltr
    cases hs : smB T n (p + j) with
    | false =>
      rw [if_pos (show b2i false = 0 by decide), if_neg (show ¬ false = true by decide)]
      show (if nI j ≤ 6 then _ else _) = some (Sum.inl (some (Value.int (if j + 0 ≤ 6 then nI v else -1))), h)
      by_cases e : j ≤ 6
      · rw [if_pos (by rw [k6, nI_leI (by omega) (by decide)]; exact e), if_pos (by omega)]
      · rw [if_neg (by rw [k6, nI_leI (by omega) (by decide)]; exact e), if_neg (by omega)]
    | true =>
      have hss := of_decide_eq_true hs
      have ht := X.1.2.2.2.2 (p + j) hss.1
      have eB : byN T n (p + j) = nI (T (p + j)) := by unfold byN; rw [if_pos hss.1]
      rw [if_neg (show ¬ b2i true = 0 by decide), if_pos rfl, List.length_cons]
      by_cases e : 6 ≤ j
      · rw [if_pos (by rw [k6, nI_leI (by decide) (by omega)]; exact e), nI_1, ih (j + 1) v f (by omega) (by omega) (by omega) (fun q => by omega)]
        rw [if_neg (by omega), if_neg (by omega)]
      · have hv5 := hv (by omega)
        have h5 := p27' (j := j) (by omega)
        have h1 : 27 * v + (T (p + j) - 96) + 1 ≤ 27 ^ (j + 1) := by rw [Nat.pow_succ]; omega
        have eV : 27 * nI v + nI (T (p + j)) - 97 + 1 = nI (27 * v + (T (p + j) - 96)) := by
          rw [show (27 : Int32) = nI 27 from rfl, show (97 : Int32) = nI 97 from rfl, pk_mul, nI_add, pk_sub (by omega), nI_1, show 27 * v + T (p + j) - 97 + 1 = 27 * v + (T (p + j) - 96) by omega]
        rw [if_neg (by rw [k6, nI_leI (by decide) (by omega)]; exact e), if_pos X.k, X.2.1, nI_add, m_byteAt X.1 (by omega), bI_s, eB, eV, nI_1, ih (j + 1) _ f (by omega) (by omega) (by omega) (fun _ => h1)]
        rw [show p + (j + 1) = p + j + 1 by omega, show j + 1 + (ltr T n c (p + j + 1)).length = j + ((ltr T n c (p + j + 1)).length + 1) by omega]
        rfl
theorem m_wordHere (X : RP h m T n p) : ∃ h', fX10_wordHere m h = some (.inl (some (.int (wco (lts T n (bk T n p))))), h') ∧ Frx h h' m ∧ RP h' m T n (bk T n p) := by
  obtain ⟨h1, a1, a2, a3⟩ := m_blanks X
  have hn := X.1.2.2.1
  obtain ⟨b1, b2⟩ := bk_le (T := T) X.2.2.2
  refine ⟨h1, ?_, a2, a3⟩
  have g := m_word_go a3 (n - bk T n p) 0 0 FF (by omega) (by show _ < 1000000; omega) (by omega) (fun _ => by decide)
  rw [Nat.zero_add, Nat.add_zero, show nI 0 = (0 : Int32) from rfl] at g
  unfold fX10_wordHere kX10_wordHere_0
  rw [if_pos X.k, a1, bV_s, g]
  rfl
theorem wco_eq {l W : List Nat} (hl : ∀ v ∈ l, 97 ≤ v ∧ v ≤ 122) (hW : ∀ v ∈ W, 97 ≤ v ∧ v ≤ 122) (hw : W.length ≤ 6) : wco l = nI (cod 0 W) ↔ l = W := by
  have c2 := cod_lt W 0 0 hW (by decide)
  have q2 := p27 hw
  rw [Nat.zero_add] at c2
  unfold wco
  by_cases e : l.length ≤ 6
  · have c1 := cod_lt l 0 0 hl (by decide)
    have q1 := p27 e
    rw [Nat.zero_add] at c1
    rw [if_pos e, nI_eq (by omega) (by omega)]
    exact ⟨cod_inj l W hl hW, fun q => by rw [q]⟩
  · rw [if_neg e]
    constructor
    · intro q
      exact ((nI_eqm (a := cod 0 W) (by omega)).mp q.symm).elim
    · intro q
      rw [q] at e
      exact absurd hw e
theorem m_isWord (X : RP h m T n p) (W : List Nat) (hW : ∀ v ∈ W, 97 ≤ v ∧ v ≤ 122) (hw : W.length ≤ 6) {a b c d e f : Int32} (hs : ∀ g : Hp, fX10_six a b c d e f g = some (.inl (some (.int (nI (cod 0 W)))), g)) : ∃ h', fX10_isWord m a b c d e f h = some (.inl (some (.int (b2i (decide (lts T n (bk T n p) = W))))), h') ∧ Frx h h' m ∧ RP h' m T n (bk T n p) := by
  obtain ⟨h1, a1, a2, a3⟩ := m_wordHere X
  refine ⟨h1, ?_, a2, a3⟩
  unfold fX10_isWord kX10_isWord_0
  rw [if_pos X.k, if_neg (fun q => q X.2.2.1), a1, bI_s, hs, bI_s]
  have ev := wco_eq (l := lts T n (bk T n p)) (ltr_sm _ _) hW hw
  by_cases q : lts T n (bk T n p) = W
  · rw [if_neg (fun w => w (ev.mpr q)), decide_eq_true q]
    rfl
  · rw [if_pos (show ¬ wco (lts T n (bk T n p)) = nI (cod 0 W) from fun w => q (ev.mp w)), decide_eq_false q]
    rfl
theorem kwd_12 {l : List Nat} (hl : ∀ w, w < 12 → ¬ l = Wd.getD w []) : kwd l = if l = Wd.getD 12 [] then some 12 else none := by
  have hf : ∀ w, w < 12 → decide (l = Wd.getD w []) = false := fun w hw => decide_eq_false (hl w hw)
  unfold kwd
  rw [show List.range 13 = [0, 1, 2, 3, 4, 5, 6, 7, 8, 9, 10, 11, 12] from rfl]
  simp only [List.find?_cons, hf 0 (by decide), hf 1 (by decide), hf 2 (by decide), hf 3 (by decide), hf 4 (by decide), hf 5 (by decide), hf 6 (by decide), hf 7 (by decide), hf 8 (by decide), hf 9 (by decide), hf 10 (by decide), hf 11 (by decide)]
  by_cases e : l = Wd.getD 12 []
  · rw [decide_eq_true e, if_pos e]
  · rw [decide_eq_false e, if_neg e]
    rfl
theorem kwr_no {l : List Nat} (hl : ∀ w, w < 12 → ¬ l = Wd.getD w []) : kwr l = -1 := by
  unfold kwr
  rw [kwd_12 hl]
  by_cases e : l = Wd.getD 12 []
  · rw [if_pos e]
    rfl
  · rw [if_neg e]
theorem ls_bb : lts T n (bk T n (bk T n p)) = lts T n (bk T n p) := by rw [bk_bk]
theorem m_stepHere (X : RP h m T n p) : ∃ h', fX10_stepHere m h = some (.inl (some (.int (kwr (lts T n (bk T n p))))), h') ∧ Frx h h' m ∧ RP h' m T n (bk T n p) := by
  unfold fX10_stepHere kX10_stepHere_0
  obtain ⟨h1, a1, f1, X1⟩ := m_isWord X (Wd.getD 0 []) (by decide) (by decide) (a := 13) (b := 1) (c := 11) (d := 5) (e := 0) (f := 0) (fun _ => rfl)
  have g1 := f1
  rw [if_pos X.k, a1, bI_s]
  by_cases e1 : lts T n (bk T n p) = Wd.getD 0 []
  · rw [decide_eq_true e1, if_neg (show ¬ b2i true = 0 by decide)]
    refine ⟨h1, ?_, g1, X1⟩
    rw [e1]
    rfl
  rw [decide_eq_false e1, if_pos (show b2i false = 0 by decide)]
  obtain ⟨h2, a2, f2, X2⟩ := m_isWord X1 (Wd.getD 1 []) (by decide) (by decide) (a := 4) (b := 9) (c := 18) (d := 0) (e := 0) (f := 0) (fun _ => rfl)
  rw [ls_bb] at a2
  rw [bk_bk] at X2
  have g2 := g1.trans f2
  rw [if_pos X1.k, a2, bI_s]
  by_cases e2 : lts T n (bk T n p) = Wd.getD 1 []
  · rw [decide_eq_true e2, if_neg (show ¬ b2i true = 0 by decide)]
    refine ⟨h2, ?_, g2, X2⟩
    rw [e2]
    rfl
  rw [decide_eq_false e2, if_pos (show b2i false = 0 by decide)]
  obtain ⟨h3, a3, f3, X3⟩ := m_isWord X2 (Wd.getD 2 []) (by decide) (by decide) (a := 12) (b := 9) (c := 14) (d := 11) (e := 0) (f := 0) (fun _ => rfl)
  rw [ls_bb] at a3
  rw [bk_bk] at X3
  have g3 := g2.trans f3
  rw [if_pos X2.k, a3, bI_s]
  by_cases e3 : lts T n (bk T n p) = Wd.getD 2 []
  · rw [decide_eq_true e3, if_neg (show ¬ b2i true = 0 by decide)]
    refine ⟨h3, ?_, g3, X3⟩
    rw [e3]
    rfl
  rw [decide_eq_false e3, if_pos (show b2i false = 0 by decide)]
  obtain ⟨h4, a4, f4, X4⟩ := m_isWord X3 (Wd.getD 3 []) (by decide) (by decide) (a := 7) (b := 18) (c := 15) (d := 23) (e := 0) (f := 0) (fun _ => rfl)
  rw [ls_bb] at a4
  rw [bk_bk] at X4
  have g4 := g3.trans f4
  rw [if_pos X3.k, a4, bI_s]
  by_cases e4 : lts T n (bk T n p) = Wd.getD 3 []
  · rw [decide_eq_true e4, if_neg (show ¬ b2i true = 0 by decide)]
    refine ⟨h4, ?_, g4, X4⟩
    rw [e4]
    rfl
  rw [decide_eq_false e4, if_pos (show b2i false = 0 by decide)]
  obtain ⟨h5, a5, f5, X5⟩ := m_isWord X4 (Wd.getD 4 []) (by decide) (by decide) (a := 16) (b := 21) (c := 20) (d := 0) (e := 0) (f := 0) (fun _ => rfl)
  rw [ls_bb] at a5
  rw [bk_bk] at X5
  have g5 := g4.trans f5
  rw [if_pos X4.k, a5, bI_s]
  by_cases e5 : lts T n (bk T n p) = Wd.getD 4 []
  · rw [decide_eq_true e5, if_neg (show ¬ b2i true = 0 by decide)]
    refine ⟨h5, ?_, g5, X5⟩
    rw [e5]
    rfl
  rw [decide_eq_false e5, if_pos (show b2i false = 0 by decide)]
  obtain ⟨h6, a6, f6, X6⟩ := m_isWord X5 (Wd.getD 5 []) (by decide) (by decide) (a := 3) (b := 21) (c := 20) (d := 0) (e := 0) (f := 0) (fun _ => rfl)
  rw [ls_bb] at a6
  rw [bk_bk] at X6
  have g6 := g5.trans f6
  rw [if_pos X5.k, a6, bI_s]
  by_cases e6 : lts T n (bk T n p) = Wd.getD 5 []
  · rw [decide_eq_true e6, if_neg (show ¬ b2i true = 0 by decide)]
    refine ⟨h6, ?_, g6, X6⟩
    rw [e6]
    rfl
  rw [decide_eq_false e6, if_pos (show b2i false = 0 by decide)]
  obtain ⟨h7, a7, f7, X7⟩ := m_isWord X6 (Wd.getD 6 []) (by decide) (by decide) (a := 4) (b := 18) (c := 15) (d := 16) (e := 0) (f := 0) (fun _ => rfl)
  rw [ls_bb] at a7
  rw [bk_bk] at X7
  have g7 := g6.trans f7
  rw [if_pos X6.k, a7, bI_s]
  by_cases e7 : lts T n (bk T n p) = Wd.getD 6 []
  · rw [decide_eq_true e7, if_neg (show ¬ b2i true = 0 by decide)]
    refine ⟨h7, ?_, g7, X7⟩
    rw [e7]
    rfl
  rw [decide_eq_false e7, if_pos (show b2i false = 0 by decide)]
  obtain ⟨h8, a8, f8, X8⟩ := m_isWord X7 (Wd.getD 8 []) (by decide) (by decide) (a := 23) (b := 18) (c := 9) (d := 20) (e := 5) (f := 0) (fun _ => rfl)
  rw [ls_bb] at a8
  rw [bk_bk] at X8
  have g8 := g7.trans f8
  rw [if_pos X7.k, a8, bI_s]
  by_cases e8 : lts T n (bk T n p) = Wd.getD 8 []
  · rw [decide_eq_true e8, if_neg (show ¬ b2i true = 0 by decide)]
    refine ⟨h8, ?_, g8, X8⟩
    rw [e8]
    rfl
  rw [decide_eq_false e8, if_pos (show b2i false = 0 by decide)]
  obtain ⟨h9, a9, f9, X9⟩ := m_isWord X8 (Wd.getD 9 []) (by decide) (by decide) (a := 19) (b := 25) (c := 14) (d := 3) (e := 0) (f := 0) (fun _ => rfl)
  rw [ls_bb] at a9
  rw [bk_bk] at X9
  have g9 := g8.trans f9
  rw [if_pos X8.k, a9, bI_s]
  by_cases e9 : lts T n (bk T n p) = Wd.getD 9 []
  · rw [decide_eq_true e9, if_neg (show ¬ b2i true = 0 by decide)]
    refine ⟨h9, ?_, g9, X9⟩
    rw [e9]
    rfl
  rw [decide_eq_false e9, if_pos (show b2i false = 0 by decide)]
  obtain ⟨h10, a10, f10, X10⟩ := m_isWord X9 (Wd.getD 10 []) (by decide) (by decide) (a := 3) (b := 18) (c := 1) (d := 19) (e := 8) (f := 0) (fun _ => rfl)
  rw [ls_bb] at a10
  rw [bk_bk] at X10
  have g10 := g9.trans f10
  rw [if_pos X9.k, a10, bI_s]
  by_cases e10 : lts T n (bk T n p) = Wd.getD 10 []
  · rw [decide_eq_true e10, if_neg (show ¬ b2i true = 0 by decide)]
    refine ⟨h10, ?_, g10, X10⟩
    rw [e10]
    rfl
  rw [decide_eq_false e10, if_pos (show b2i false = 0 by decide)]
  obtain ⟨h11, a11, f11, X11⟩ := m_isWord X10 (Wd.getD 7 []) (by decide) (by decide) (a := 19) (b := 23) (c := 5) (d := 5) (e := 16) (f := 0) (fun _ => rfl)
  rw [ls_bb] at a11
  rw [bk_bk] at X11
  have g11 := g10.trans f11
  rw [if_pos X10.k, a11, bI_s]
  by_cases e11 : lts T n (bk T n p) = Wd.getD 7 []
  · rw [decide_eq_true e11, if_neg (show ¬ b2i true = 0 by decide)]
    refine ⟨h11, ?_, g11, X11⟩
    rw [e11]
    rfl
  rw [decide_eq_false e11, if_pos (show b2i false = 0 by decide)]
  obtain ⟨h12, a12, f12, X12⟩ := m_isWord X11 (Wd.getD 11 []) (by decide) (by decide) (a := 1) (b := 7) (c := 1) (d := 9) (e := 14) (f := 0) (fun _ => rfl)
  rw [ls_bb] at a12
  rw [bk_bk] at X12
  have g12 := g11.trans f12
  rw [if_pos X11.k, a12, bI_s]
  by_cases e12 : lts T n (bk T n p) = Wd.getD 11 []
  · rw [decide_eq_true e12, if_neg (show ¬ b2i true = 0 by decide), show FF = 999999 + 1 from rfl, zX10_stepHere_225]
    refine ⟨h12, ?_, g12, X12⟩
    rw [e12]
    rfl
  rw [decide_eq_false e12, if_pos (show b2i false = 0 by decide), show FF = 999999 + 1 from rfl, zX10_stepHere_225]
  refine ⟨h12, ?_, g12, X12⟩
  rw [kwr_no (fun w hw => ?_)]
  · rfl
  · intro q
    have hx : w = 0 ∨ w = 1 ∨ w = 2 ∨ w = 3 ∨ w = 4 ∨ w = 5 ∨ w = 6 ∨ w = 7 ∨ w = 8 ∨ w = 9 ∨ w = 10 ∨ w = 11 := by omega
    rcases hx with rfl | rfl | rfl | rfl | rfl | rfl | rfl | rfl | rfl | rfl | rfl | rfl
    · exact e1 q
    · exact e2 q
    · exact e3 q
    · exact e4 q
    · exact e5 q
    · exact e6 q
    · exact e7 q
    · exact e11 q
    · exact e8 q
    · exact e9 q
    · exact e10 q
    · exact e12 q
theorem m_isSize (X : RP h m T n p) : ∃ h', fX10_isWord m 19 9 26 5 0 0 h = some (.inl (some (.int (b2i (decide (lts T n (bk T n p) = Wd.getD 12 []))))), h') ∧ Frx h h' m ∧ RP h' m T n (bk T n p) :=
  m_isWord X (Wd.getD 12 []) (by decide) (by decide) (fun _ => rfl)
theorem RE.word {e : Ft} (E : RE h m e) (hk : kH h m = 18) (a b c d x y : Int32) : fX10_isWord m a b c d x y h = some (.inl (some (.int 0)), h) := by
  unfold fX10_isWord kX10_isWord_0
  rw [if_pos hk, if_pos E.nz]
theorem m_skip_go : ∀ (c p f : Nat) (h : Hp), n - p ≤ c → c < f → RP h m T n p → ∃ h', gX10_skipWord f 0 [.ref m] [] h = some (.inl none, h') ∧ Frx h h' m ∧ RP h' m T n (p + (ltr T n c p).length) := by
  intro c
  induction c with
  | zero =>
    intro p f h hp hf X
    obtain ⟨f, rfl⟩ := sc hf
    have hpn := X.2.2.2
    have := X.1.2.2.1
    have hs : smB T n p = false := decide_eq_false (by omega)
    refine ⟨h, ?_, Frx.refl h m, X⟩
    rw [zX10_skipWord_0]
    unfold kX10_skipWord_0
    rw [if_pos X.k, X.2.1, m_byteAt X.1 (by omega), bI_s, m_isSmall X.1, bI_s, hs, if_pos (show b2i false = 0 by decide)]
  | succ c ih =>
    intro p f h hp hf X
    obtain ⟨f, rfl⟩ := sc hf
    have hpn := X.2.2.2
    have := X.1.2.2.1
    rw [zX10_skipWord_0]
    unfold kX10_skipWord_0
    rw [if_pos X.k, X.2.1, m_byteAt X.1 (by omega), bI_s, m_isSmall X.1, bI_s]
    unfold ltr
    cases hs : smB T n p with
    | false =>
      rw [if_pos (show b2i false = 0 by decide)]
      exact ⟨h, rfl, Frx.refl h m, X⟩
    | true =>
      have hss := of_decide_eq_true hs
      obtain ⟨h', i1, i2, i3⟩ := ih (p + 1) f _ (by omega) (by omega) (X.to (q := p + 1) (by omega))
      refine ⟨h', ?_, (fr_4 h m _).trans i2, ?_⟩
      · rw [← i1, if_neg (show ¬ b2i true = 0 by decide), if_pos X.k, X.2.1, nI_1]
      · rw [if_pos rfl, List.length_cons, show p + ((ltr T n c (p + 1)).length + 1) = p + 1 + (ltr T n c (p + 1)).length by omega]
        exact i3
theorem m_skipWord (X : RP h m T n p) : ∃ h', fX10_skipWord m h = some (.inl none, h') ∧ Frx h h' m ∧ RP h' m T n (p + (lts T n p).length) := by
  have := X.1.2.2.1
  exact m_skip_go (n - p) p FF h (Nat.le_refl _) (by show _ < 1000000; omega) X
end WR
