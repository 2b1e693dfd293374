/-! ===== the book: the reference reads it; both sides' book ===== -/
def bm (ls : List (Nat × Nat)) : Nat := ls.foldl (fun v q => v ||| 2 ^ q.1) 0
theorem bm_tb (p : Nat) : ∀ (ls : List (Nat × Nat)) (v : Nat), (ls.foldl (fun v q => v ||| 2 ^ q.1) v).testBit p = (v.testBit p || (bkF ls p).isSome) := by
  intro ls
  induction ls with
  | nil => intro v; show v.testBit p = (v.testBit p || false); rw [Bool.or_false]
  | cons a l ih =>
    intro v
    rw [List.foldl_cons, ih, Nat.testBit_or, Nat.testBit_two_pow]
    unfold bkF
    rw [List.find?_cons]
    by_cases e : a.1 = p
    · rw [show (a.1 == p) = true from beq_iff_eq.mpr e, decide_eq_true e]
      simp
    · rw [show (a.1 == p) = false from beq_false_of_ne e, decide_eq_false e, Bool.or_false]
theorem bm_lt : ∀ (ls : List (Nat × Nat)) (v : Nat), v < 2 ^ 16 → (∀ q ∈ ls, q.1 < 16) → ls.foldl (fun v q => v ||| 2 ^ q.1) v < 2 ^ 16 := by
  intro ls
  induction ls with
  | nil => intro v h _; exact h
  | cons a l ih =>
    intro v hv h
    rw [List.foldl_cons]
    exact ih _ (Nat.or_lt_two_pow hv (Nat.pow_lt_pow_right (by decide) (h a (List.mem_cons_self)))) (fun q hq => h q (List.mem_cons_of_mem _ hq))
theorem bm_app (ls : List (Nat × Nat)) (q : Nat × Nat) : bm (ls ++ [q]) = bm ls ||| 2 ^ q.1 := by
  unfold bm
  rw [List.foldl_append]
  rfl
section BR
variable {h h' : Hp} {m n : Nat} {T : Nat → Nat} {ls : List (Nat × Nat)}
/-- the reference's lines as they are read -/
def RLn (h : Hp) (m : Nat) (ls : List (Nat × Nat)) : Prop := ∀ k q, ls[k]? = some q → h.2 (m + 21 + k) 0 = nI q.1 ∧ h.2 (m + 21 + k) 1 = nI q.2
def Frl (h h' : Hp) (m : Nat) : Prop := h'.1 = h.1 ∧ (∀ a, a ≠ m → a < m + 21 ∨ m + 37 ≤ a → h'.2 a = h.2 a) ∧ ∀ j, j ≠ 4 → j ≠ 5 → j ≠ 6 → h'.2 m j = h.2 m j
theorem Frl.trans {h h1 h2 : Hp} {m : Nat} (a : Frl h h1 m) (b : Frl h1 h2 m) : Frl h h2 m := ⟨b.1.trans a.1, fun y q1 q2 => by rw [b.2.1 y q1 q2, a.2.1 y q1 q2], fun j q1 q2 q3 => by rw [b.2.2 j q1 q2 q3, a.2.2 j q1 q2 q3]⟩
theorem Frx.l {h h' : Hp} {m : Nat} (f : Frx h h' m) : Frl h h' m := ⟨f.1, fun a q _ => f.2.1 a q, f.2.2⟩
theorem RLn.fr (A : RLn h m ls) (f : Frx h h' m) : RLn h' m ls := fun k q hq => by rw [f.2.1 (m + 21 + k) (by omega)]; exact A k q hq
theorem RSt.blk {s : Rd} (X : RSt h m T n s) : ∃ h', fX10_blanks m h = some (.inl none, h') ∧ Frx h h' m ∧ match s with
    | .inl p => RP h' m T n (bk T n p)
    | .inr e => RX h' m T n ∧ RE h' m e ∧ e.2 ≤ n := by
  cases s with
  | inl p => exact m_blanks X
  | inr e =>
    obtain ⟨a1, a2, a3⟩ : RX h m T n ∧ RE h m e ∧ e.2 ≤ n := X
    obtain ⟨h', b1, b2, b3⟩ := a2.blanks a1
    exact ⟨h', b1, b2, a1.fr b2, b3, a3⟩
/-- what the reference's loop comes to -/
def outK (h h' : Hp) (m : Nat) (T : Nat → Nat) (n : Nat) (fl : Nat) (X : RS) (o : List (Nat × Nat) ⊕ Ft) : Prop := Frl h h' m ∧ RX h' m T n ∧ match o with
  | .inl l => (∃ g, X = gX10_book (g + 1000) 192 [.ref m, uV, .int (nI l.length), uV, .int 0, uV, uV] [] (h'.1, upI (upI h'.2 m 3 (-1)) m 13 (nI l.length))) ∧ RLn h' m l ∧ Bk l
  | .inr e => X = some (.inl (some (.int (nI e.1 - 10))), (h'.1, upI h'.2 m 3 (nI e.2))) ∧ RE h' m e ∧ e.2 ≤ n
theorem m_bk_er {e : Ft} (X : RX h m T n) (E : RE h m e) (f : Nat) (a b : Int32) : gX10_book (f + 1) 48 [.ref m, uV, .int a, .int b, uV, uV, uV] [] h = some (.inl (some (.int (nI e.1 - 10))), (h.1, upI h.2 m 3 (nI e.2))) := by
  rw [zX10_book_48]
  unfold kX10_book_48
  rw [if_pos X.1.k, if_pos E.nz, if_neg E.nz]
  unfold fX10_ends kX10_ends_0
  rw [if_pos X.1.k, upI_at, if_neg (by decide), E.2.1, E.2.2.1, bI_s]
theorem m_bk_go : ∀ (f p fl : Nat) (ls : List (Nat × Nat)) (h : Hp), RP h m T n (bk T n p) → p ≤ n → RLn h m ls → Bk ls → n - p < f → 2 * f + 1002 < fl →
    ∃ h', outK h h' m T n fl (gX10_book fl 48 [.ref m, uV, .int (nI ls.length), .int (nI (bm ls)), uV, uV, uV] [] h) (bkP T n f ls p) := by
  intro f
  induction f with
  | zero => intro p fl ls h _ _ _ _ h0 _; omega
  | succ f ih =>
    intro p fl ls h X hp A B hf hfl
    have hn := X.1.2.2.1
    obtain ⟨b1, b2⟩ := bk_le (T := T) hp
    obtain ⟨fl, rfl⟩ : ∃ g, fl = g + 1 + 1 := ⟨fl - 2, by omega⟩
    unfold bkP
    rw [zX10_book_48]
    unfold kX10_book_48
    rw [if_pos X.k, if_neg (show ¬ ¬ h.2 m 5 = 0 from fun q => q X.2.2.1), X.1.2.1, X.2.1]
    by_cases e0 : n ≤ bk T n p
    · rw [if_pos (by rw [nI_leI (by omega) (by omega)]; exact e0), if_pos X.2.2.1, if_pos e0]
      exact ⟨h, ⟨rfl, fun _ _ _ => rfl, fun _ _ _ _ => rfl⟩, X.1, ⟨fl + 1 - 1000, by rw [show fl + 1 - 1000 + 1000 = fl + 1 by omega]⟩, A, B⟩
    · rw [if_neg (by rw [nI_leI (by omega) (by omega)]; exact e0), if_neg e0]
      obtain ⟨h12, a1, a2, a3⟩ := m_blanks X
      rw [bk_bk] at a3
      obtain ⟨q, hq⟩ : ∃ q, q = bk T n p := ⟨_, rfl⟩
      rw [← hq] at a3 e0 b1 b2 ⊢
      have A12 := A.fr a2
      obtain ⟨z16, h15, c1, c2, c3, c4⟩ := ms_num (s := .inl q) (show RSt h12 m T n (.inl q) from a3) (lo := 0) (hi := 15) (by decide) (by decide)
      have c1 : fX10_number m 0 15 h12 = _ := c1
      have A15 := A12.fr c2
      obtain ⟨a, ha⟩ : ∃ a, a = (pS T n 0 15 (.inl q)).1 := ⟨_, rfl⟩
      have X15 := c3.rx
      have bml : bm ls < 2 ^ 16 := bm_lt ls 0 (by decide) (fun q hq => (B.2.2 q hq).1)
      rw [a1, bV_s, if_pos a3.k, c1, bI_s, if_pos X15.1.k]
      -- from 108 on
      have tail : ∀ h24, Frx h15 h24 m → RSt h24 m T n (lnB T n ls q) → ∃ h', outK h15 h' m T n fl (gX10_book (fl + 1) 108 [.ref m, uV, .int (nI ls.length), .int (nI (bm ls)), uV, .int z16, uV] [] h24) (match gS T n 59 (pS T n 0 99 (lnB T n ls q)).2 with
            | .inr e => (.inr e : List (Nat × Nat) ⊕ Ft)
            | .inl q' => bkP T n f (ls ++ [((pS T n 0 15 (.inl q)).1, (pS T n 0 99 (lnB T n ls q)).1)]) q') := by
        intro h24 f24 S24
        obtain ⟨z2, h1, d1, d2, d3, d4⟩ := ms_num S24 (lo := 0) (hi := 99) (by decide) (by decide)
        have d1 : fX10_number m 0 99 h24 = _ := d1
        obtain ⟨h5, e1, e2, e3⟩ := ms_sign d3 (c := 59) (by decide)
        have e1 : fX10_sign m 59 h1 = _ := e1
        have f5 := f24.trans (d2.trans e2)
        rw [zX10_book_108]
        unfold kX10_book_108
        rw [if_pos S24.rx.1.k, d1, bI_s, if_pos d3.rx.1.k, e1, bV_s, if_pos e3.rx.1.k]
        cases e4 : gS T n 59 (pS T n 0 99 (lnB T n ls q)).2 with
        | inr er =>
          rw [e4] at e3
          obtain ⟨f1, f2, f3⟩ : RX h5 m T n ∧ RE h5 m er ∧ er.2 ≤ n := e3
          obtain ⟨h10, g1, g2, g3⟩ := f2.blanks f1
          obtain ⟨fl, rfl⟩ : ∃ g, fl = g + 1 := ⟨fl - 1, by omega⟩
          refine ⟨h10, (f5.trans g2).l, f1.fr g2, ?_, g3, f3⟩
          rw [if_pos f2.nz, g1, bV_s, m_bk_er (f1.fr g2) g3]
        | inl q' =>
          rw [e4] at e3
          have e3 : RP h5 m T n q' := e3
          simp only
          obtain ⟨p1, g1, g2, g3⟩ := gS_adv (pS_le (lnB_le b2)) e4
          obtain ⟨p0, g4, g5, g6, g7, g8⟩ := pS_adv (lnB_le b2) g1
          obtain ⟨k1, k2, k3, k4, k5⟩ := lnB_ok b2 g4
          have z16v : z16 = nI a := by rw [ha]; exact c4 ⟨p0, k1⟩
          have z2v := d4 ⟨p1, g1⟩
          obtain ⟨v, hv⟩ : ∃ v, v = (pS T n 0 99 (lnB T n ls q)).1 := ⟨_, rfl⟩
          rw [← hv] at g7 g8 z2v ⊢
          rw [← ha] at k2 k3 ⊢
          have B' := B.app (v := v) k2 (by omega) (by omega)
          have l16 : ls.length < 16 := by
            have := B'.1
            rw [List.length_append, List.length_singleton] at this
            omega
          have rr := e3.1.1.rdl
          have r2 := rr.2 ls.length l16
          have er : m + 20 + 1 + ls.length = m + 21 + ls.length := by omega
          rw [er] at r2
          let g : Hp := (h5.1, upI (upI h5.2 (m + 21 + ls.length) 0 z16) (m + 21 + ls.length) 1 z2)
          have gn : ∀ y, y ≠ m + 21 + ls.length → g.2 y = h5.2 y := fun y w => by show upI _ _ _ _ y = _; rw [upI_ne w, upI_ne w]
          have Xg : RP g m T n q' := by
            obtain ⟨⟨y1, y2, y3, y4, y5⟩, y6, y7, y8⟩ := e3
            exact ⟨⟨y1.eq rfl, by rw [gn m (by omega)]; exact y2, y3, fun i hi => by rw [gn (m + 1) (by omega)]; exact y4 i hi, y5⟩, by rw [gn m (by omega)]; exact y6, by rw [gn m (by omega)]; exact y7, y8⟩
          obtain ⟨h17, i1, i2, i3⟩ := m_blanks Xg
          have Ag : RLn g m (ls ++ [(a, v)]) := fun k w hw => by
            by_cases e : k = ls.length
            · rw [e, List.getElem?_append_right (Nat.le_refl _), Nat.sub_self] at hw
              injection hw with hw
              rw [e, ← hw]
              refine ⟨?_, ?_⟩
              · show upI _ _ _ _ (m + 21 + ls.length) 0 = _
                rw [upI_at, if_neg (by decide), upI_at, if_pos rfl]
                exact z16v
              · show upI _ _ _ _ (m + 21 + ls.length) 1 = _
                rw [upI_at, if_pos rfl]
                exact z2v
            · have hk : k < (ls ++ [(a, v)]).length := (List.getElem?_eq_some_iff.mp hw).1
              rw [List.length_append, List.length_singleton] at hk
              rw [List.getElem?_append_left (by omega)] at hw
              rw [gn (m + 21 + k) (by omega)]
              exact A15.fr f5 k w hw
          obtain ⟨h', j1, j2, j3⟩ := ih q' fl (ls ++ [(a, v)]) h17 i3 (by omega) (Ag.fr i2) B' (by omega) (by omega)
          refine ⟨h', (f5.l.trans (show Frl h5 g m from ⟨rfl, fun y w1 w2 => gn y (by omega), fun j _ _ _ => by rw [gn m (by omega)]⟩)).trans (i2.l.trans j1), j2, ?_⟩
          have ex : (x2 : Int32) → x2 = nI (2 ^ a) → nI (bm ls) ||| x2 = nI (bm (ls ++ [(a, v)])) := fun x2 hx => by
            rw [hx, bm_app, or_nI31 (by omega) (Nat.lt_of_lt_of_le (Nat.pow_lt_pow_right (by decide) (show a < 16 by omega)) (by decide))]
          have sh : (1 : Int32) <<< (z16 &&& 31) = nI (2 ^ a) := by rw [z16v]; exact one_shl (by omega)
          rw [if_neg (show ¬ ¬ h5.2 m 5 = 0 from fun q => q e3.2.2.1), rr.1.1, if_pos rr.1.2.1, rr.1.2.2, if_pos (inB_nI l16 (by decide)), nI_clamp (by omega), r2.1, if_pos r2.2.1, r2.2.2, if_pos (by decide), if_pos (by decide), i1, bV_s, nI_1, ex _ sh, show ls.length + 1 = (ls ++ [(a, v)]).length by rw [List.length_append, List.length_singleton]]
          exact j3
      have fin : ∀ h24, Frx h15 h24 m → RSt h24 m T n (lnB T n ls q) → ∀ Y, Y = gX10_book (fl + 1) 108 [.ref m, uV, .int (nI ls.length), .int (nI (bm ls)), uV, .int z16, uV] [] h24 → ∃ h', outK h h' m T n (fl + 1 + 1) Y (match gS T n 59 (pS T n 0 99 (lnB T n ls q)).2 with
            | .inr e => (.inr e : List (Nat × Nat) ⊕ Ft)
            | .inl q' => bkP T n f (ls ++ [((pS T n 0 15 (.inl q)).1, (pS T n 0 99 (lnB T n ls q)).1)]) q') := by
        intro h24 f24 S24 Y hY
        obtain ⟨h', t1, t2, t3⟩ := tail h24 f24 S24
        rw [hY]
        exact ⟨h', (a2.trans c2).l.trans t1, t2, t3⟩
      cases e : (pS T n 0 15 (.inl q)).2 with
      | inr er =>
        rw [e] at c3
        obtain ⟨f1, f2, f3⟩ : RX h15 m T n ∧ RE h15 m er ∧ er.2 ≤ n := c3
        have el : lnB T n ls q = .inr er := by unfold lnB; rw [e]
        rw [if_pos f2.nz]
        exact fin h15 (Frx.refl h15 m) (by rw [el]; exact ⟨f1, f2, f3⟩) _ rfl
      | inl p1 =>
        rw [e] at c3
        have c3 : RP h15 m T n p1 := c3
        have z16v : z16 = nI a := by rw [ha]; exact c4 ⟨p1, e⟩
        have ha15 : a ≤ 15 := by
          obtain ⟨p0, y1, y2, y3, y4, y5⟩ := pS_adv (fun p hp => by injection hp with hp; omega) e
          rw [ha]; exact y5
        have hb := m_has (a := bm ls) (k := a) (by omega) (by omega) h15
        have tb : (bm ls).testBit a = (bkF ls a).isSome := by
          unfold bm
          rw [bm_tb a ls 0, Nat.zero_testBit, Bool.false_or]
        rw [if_neg (show ¬ ¬ h15.2 m 5 = 0 from fun q => q c3.2.2.1), z16v, hb, bI_s, tb]
        cases dup : (bkF ls a).isSome with
        | false =>
          have el : lnB T n ls q = .inl p1 := by unfold lnB; rw [e, ← ha]; simp only; rw [if_neg (by rw [dup]; decide)]
          rw [if_pos (by decide), ← z16v]
          exact fin h15 (Frx.refl h15 m) (by rw [el]; exact c3) _ rfl
        | true =>
          have el : lnB T n ls q = .inr (2, q) := by unfold lnB; rw [e, ← ha]; simp only; rw [if_pos dup]
          obtain ⟨h24, g1, g2, g3, g4⟩ := m_wrong c3 (e := (2, q)) (show 1 ≤ 2 ∧ 2 ≤ 3 by decide)
          have g1 : fX10_wrong m 2 (nI q) h15 = _ := g1
          rw [if_neg (by decide), if_pos c3.k, a3.2.1, g1, bV_s, ← z16v]
          exact fin h24 g2 (by rw [el]; exact ⟨c3.1.fr g2, g3, b2⟩) _ rfl
end BR
