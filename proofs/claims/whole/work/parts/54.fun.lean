def kX10_stepHere_0 (rec : Nat → List Value → List Value → Hp → RS)  (r0 : Nat) (h : Hp) : RS := (if kH h r0 = 18 then (bI (fX10_isWord r0 13 1 11 5 0 0 h) fun z2 h1 => (if z2 = 0 then (if kH h1 r0 = 18 then (bI (fX10_isWord r0 4 9 18 0 0 0 h1) fun z7 h6 => (if z7 = 0 then (if kH h6 r0 = 18 then (bI (fX10_isWord r0 12 9 14 11 0 0 h6) fun z12 h11 => (if z12 = 0 then (if kH h11 r0 = 18 then (bI (fX10_isWord r0 7 18 15 23 0 0 h11) fun z17 h16 => (if z17 = 0 then (if kH h16 r0 = 18 then (bI (fX10_isWord r0 16 21 20 0 0 0 h16) fun z22 h21 => (if z22 = 0 then (if kH h21 r0 = 18 then (bI (fX10_isWord r0 3 21 20 0 0 0 h21) fun z27 h26 => (if z27 = 0 then (if kH h26 r0 = 18 then (bI (fX10_isWord r0 4 18 15 16 0 0 h26) fun z32 h31 => (if z32 = 0 then (if kH h31 r0 = 18 then (bI (fX10_isWord r0 23 18 9 20 5 0 h31) fun z37 h36 => (if z37 = 0 then (if kH h36 r0 = 18 then (bI (fX10_isWord r0 19 25 14 3 0 0 h36) fun z42 h41 => (if z42 = 0 then (if kH h41 r0 = 18 then (bI (fX10_isWord r0 3 18 1 19 8 0 h41) fun z47 h46 => (if z47 = 0 then (if kH h46 r0 = 18 then (bI (fX10_isWord r0 19 23 5 5 16 0 h46) fun z52 h51 => (if z52 = 0 then (if kH h51 r0 = 18 then (bI (fX10_isWord r0 1 7 1 9 14 0 h51) fun z57 h56 => (if z57 = 0 then (rec 225 [uV] [.int (-1)] h56) else (rec 225 [uV] [.int 11] h56))) else none) else (some (.inl (some (.int 10)), h51)))) else none) else (some (.inl (some (.int 9)), h46)))) else none) else (some (.inl (some (.int 8)), h41)))) else none) else (some (.inl (some (.int 7)), h36)))) else none) else (some (.inl (some (.int 6)), h31)))) else none) else (some (.inl (some (.int 5)), h26)))) else none) else (some (.inl (some (.int 4)), h21)))) else none) else (some (.inl (some (.int 3)), h16)))) else none) else (some (.inl (some (.int 2)), h11)))) else none) else (some (.inl (some (.int 1)), h6)))) else none) else (some (.inl (some (.int 0)), h1)))) else none)
theorem uX10_stepHere_0 {G : GG} {d : Nat} (hd : 5 ≤ d) (rec : Nat → List Value → List Value → Hp → RS) (hrec : ∀ pc loc st h o h', rec pc loc st h = some (o, h') → V G mX10_stepHere d pc loc st h o h')   {r0 } {h : Hp} {o : OU} {h' : Hp} (e : kX10_stepHere_0 rec  r0 h = some (o, h')) : VM G mX10_stepHere d [.ref r0] h o h' := by
  unfold kX10_stepHere_0 at e
  refine eX10_stepHere r0 (by omega) ?_
  obtain ⟨q1, e⟩ := ob_e e
  refine ⟨q1, ?_⟩
  obtain ⟨z2, h1, e2, e⟩ := bI_e e
  refine ⟨z2, h1, (tX10_isWord e2 (by omega)), ?_⟩
  refine ⟨fun c3 => ?_, fun c3 => ?_⟩
  · have e := if_t e c3
    obtain ⟨q4, e⟩ := ob_e e
    refine ⟨q4, ?_⟩
    obtain ⟨z7, h6, e5, e⟩ := bI_e e
    refine ⟨z7, h6, (tX10_isWord e5 (by omega)), ?_⟩
    refine ⟨fun c6 => ?_, fun c6 => ?_⟩
    · have e := if_t e c6
      obtain ⟨q7, e⟩ := ob_e e
      refine ⟨q7, ?_⟩
      obtain ⟨z12, h11, e8, e⟩ := bI_e e
      refine ⟨z12, h11, (tX10_isWord e8 (by omega)), ?_⟩
      refine ⟨fun c9 => ?_, fun c9 => ?_⟩
      · have e := if_t e c9
        obtain ⟨q10, e⟩ := ob_e e
        refine ⟨q10, ?_⟩
        obtain ⟨z17, h16, e11, e⟩ := bI_e e
        refine ⟨z17, h16, (tX10_isWord e11 (by omega)), ?_⟩
        refine ⟨fun c12 => ?_, fun c12 => ?_⟩
        · have e := if_t e c12
          obtain ⟨q13, e⟩ := ob_e e
          refine ⟨q13, ?_⟩
          obtain ⟨z22, h21, e14, e⟩ := bI_e e
          refine ⟨z22, h21, (tX10_isWord e14 (by omega)), ?_⟩
          refine ⟨fun c15 => ?_, fun c15 => ?_⟩
          · have e := if_t e c15
            obtain ⟨q16, e⟩ := ob_e e
            refine ⟨q16, ?_⟩
            obtain ⟨z27, h26, e17, e⟩ := bI_e e
            refine ⟨z27, h26, (tX10_isWord e17 (by omega)), ?_⟩
            refine ⟨fun c18 => ?_, fun c18 => ?_⟩
            · have e := if_t e c18
              obtain ⟨q19, e⟩ := ob_e e
              refine ⟨q19, ?_⟩
              obtain ⟨z32, h31, e20, e⟩ := bI_e e
              refine ⟨z32, h31, (tX10_isWord e20 (by omega)), ?_⟩
              refine ⟨fun c21 => ?_, fun c21 => ?_⟩
              · have e := if_t e c21
                obtain ⟨q22, e⟩ := ob_e e
                refine ⟨q22, ?_⟩
                obtain ⟨z37, h36, e23, e⟩ := bI_e e
                refine ⟨z37, h36, (tX10_isWord e23 (by omega)), ?_⟩
                refine ⟨fun c24 => ?_, fun c24 => ?_⟩
                · have e := if_t e c24
                  obtain ⟨q25, e⟩ := ob_e e
                  refine ⟨q25, ?_⟩
                  obtain ⟨z42, h41, e26, e⟩ := bI_e e
                  refine ⟨z42, h41, (tX10_isWord e26 (by omega)), ?_⟩
                  refine ⟨fun c27 => ?_, fun c27 => ?_⟩
                  · have e := if_t e c27
                    obtain ⟨q28, e⟩ := ob_e e
                    refine ⟨q28, ?_⟩
                    obtain ⟨z47, h46, e29, e⟩ := bI_e e
                    refine ⟨z47, h46, (tX10_isWord e29 (by omega)), ?_⟩
                    refine ⟨fun c30 => ?_, fun c30 => ?_⟩
                    · have e := if_t e c30
                      obtain ⟨q31, e⟩ := ob_e e
                      refine ⟨q31, ?_⟩
                      obtain ⟨z52, h51, e32, e⟩ := bI_e e
                      refine ⟨z52, h51, (tX10_isWord e32 (by omega)), ?_⟩
                      refine ⟨fun c33 => ?_, fun c33 => ?_⟩
                      · have e := if_t e c33
                        obtain ⟨q34, e⟩ := ob_e e
                        refine ⟨q34, ?_⟩
                        obtain ⟨z57, h56, e35, e⟩ := bI_e e
                        refine ⟨z57, h56, (tX10_isWord e35 (by omega)), ?_⟩
                        refine ⟨fun c36 => ?_, fun c36 => ?_⟩
                        · have e := if_t e c36
                          exact hrec _ _ _ _ _ _ e
                        · have e := if_f e c36
                          exact hrec _ _ _ _ _ _ e
                      · have e := if_f e c33
                        cases e
                        exact ⟨rfl, rfl⟩
                    · have e := if_f e c30
                      cases e
                      exact ⟨rfl, rfl⟩
                  · have e := if_f e c27
                    cases e
                    exact ⟨rfl, rfl⟩
                · have e := if_f e c24
                  cases e
                  exact ⟨rfl, rfl⟩
              · have e := if_f e c21
                cases e
                exact ⟨rfl, rfl⟩
            · have e := if_f e c18
              cases e
              exact ⟨rfl, rfl⟩
          · have e := if_f e c15
            cases e
            exact ⟨rfl, rfl⟩
        · have e := if_f e c12
          cases e
          exact ⟨rfl, rfl⟩
      · have e := if_f e c9
        cases e
        exact ⟨rfl, rfl⟩
    · have e := if_f e c6
      cases e
      exact ⟨rfl, rfl⟩
  · have e := if_f e c3
    cases e
    exact ⟨rfl, rfl⟩
def kX10_stepHere_225 (rec : Nat → List Value → List Value → Hp → RS)  (s0 : Int32) (h : Hp) : RS := (some (.inl (some (.int s0)), h))
theorem uX10_stepHere_225 {G : GG} {d : Nat} (hd : 5 ≤ d) (rec : Nat → List Value → List Value → Hp → RS) (hrec : ∀ pc loc st h o h', rec pc loc st h = some (o, h') → V G mX10_stepHere d pc loc st h o h')   {s0 } {h : Hp} {o : OU} {h' : Hp} (e : kX10_stepHere_225 rec  s0 h = some (o, h')) : V G mX10_stepHere d 225 [uV] [.int s0] h o h' := by
  unfold kX10_stepHere_225 at e
  refine bX10_stepHere_225 s0 ?_
  cases e
  exact ⟨rfl, rfl⟩
def sX10_stepHere  (rec : Nat → List Value → List Value → Hp → RS) (pc : Nat) (loc st : List Value) (h : Hp) : RS := match pc, loc, st with
  | 225, [_], [.int s0] => kX10_stepHere_225 rec  s0 h
  | _, _, _ => none
def gX10_stepHere  : Nat → Nat → List Value → List Value → Hp → RS
  | 0 => fun _ _ _ _ => none
  | n + 1 => sX10_stepHere  (gX10_stepHere  n)
theorem wX10_stepHere {G : GG} {d : Nat} (hd : 5 ≤ d)   : ∀ (n pc : Nat) (loc st : List Value) (h : Hp) (o : OU) (h' : Hp), gX10_stepHere  n pc loc st h = some (o, h') → V G mX10_stepHere d pc loc st h o h' := by
  intro n
  induction n with
  | zero => intro pc loc st h o h' e; cases e
  | succ n ih =>
    intro pc loc st h o h' e
    unfold gX10_stepHere sX10_stepHere at e
    split at e
    · exact V.drop (llp_u llp_nil) (uX10_stepHere_225 hd _ ih   e)
    · cases e
theorem zX10_stepHere_225  (n : Nat) (s0 : Int32) (y0 : Value) (h : Hp) : gX10_stepHere  (n + 1) 225 [y0] [.int s0] h = kX10_stepHere_225 (gX10_stepHere  n)  s0 h := rfl
def fX10_stepHere (r0 : Nat) (h : Hp) : RS := kX10_stepHere_0 (gX10_stepHere FF) r0 h
theorem tX10_stepHere {G : GG} {d : Nat} {r0} {h : Hp} {o : OU} {h' : Hp} (e : fX10_stepHere r0 h = some (o, h')) (hd : 5 ≤ d) : VM G mX10_stepHere d [.ref r0] h o h' := uX10_stepHere_0 hd _ (wX10_stepHere hd FF) e
def kX10_numbers_0 (rec : Nat → List Value → List Value → Hp → RS)  (r0 : Nat) (r1 : Nat) (h : Hp) : RS := (if kH h r1 = 1 then (if inB 0 (lH h r1) = true then (if 7 ≤ (h.2 r1 0) then (rec 20 [.ref r0, .ref r1, .int (h.2 r1 0)] [] h) else (if kH h r0 = 18 then (bI (fX10_number r0 0 11 h) fun z5 h4 => (if kH h4 r1 = 1 then (if inB 1 (lH h4 r1) = true then (rec 20 [.ref r0, .ref r1, .int (h.2 r1 0)] [] (h4.1, (upI h4.2 r1 1 z5))) else none) else none)) else none)) else none) else none)
theorem uX10_numbers_0 {G : GG} {d : Nat} (hd : 4 ≤ d) (rec : Nat → List Value → List Value → Hp → RS) (hrec : ∀ pc loc st h o h', rec pc loc st h = some (o, h') → V G mX10_numbers d pc loc st h o h')   {r0  r1 } {h : Hp} {o : OU} {h' : Hp} (e : kX10_numbers_0 rec  r0 r1 h = some (o, h')) : VM G mX10_numbers d [.ref r0, .ref r1] h o h' := by
  unfold kX10_numbers_0 at e
  refine eX10_numbers r0 r1 (by omega) ?_
  obtain ⟨q1, e⟩ := ob_e e
  refine ⟨q1, ?_⟩
  obtain ⟨q2, e⟩ := ob_in e
  refine ⟨q2, ?_⟩
  refine ⟨fun c3 => ?_, fun c3 => ?_⟩
  · have e := if_t e c3
    exact hrec _ _ _ _ _ _ e
  · have e := if_f e c3
    obtain ⟨q4, e⟩ := ob_e e
    refine ⟨q4, ?_⟩
    obtain ⟨z5, h4, e5, e⟩ := bI_e e
    refine ⟨z5, h4, (tX10_number e5 (by omega)), ?_⟩
    obtain ⟨q6, e⟩ := ob_e e
    refine ⟨q6, ?_⟩
    obtain ⟨q7, e⟩ := ob_in e
    refine ⟨q7, ?_⟩
    exact hrec _ _ _ _ _ _ e
def kX10_numbers_20 (rec : Nat → List Value → List Value → Hp → RS)  (r0 : Nat) (r1 : Nat) (x2 : Int32) (h : Hp) : RS := (if x2 < 3 then (if kH h r0 = 18 then (bI (fX10_number r0 1 99 h) fun z3 h2 => (if kH h2 r1 = 1 then (if inB 2 (lH h2 r1) = true then (rec 41 [.ref r0, .ref r1, .int x2] [] (h2.1, (upI h2.2 r1 2 z3))) else none) else none)) else none) else (if ¬ x2 = 6 then (rec 41 [.ref r0, .ref r1, .int x2] [] h) else (if kH h r0 = 18 then (bI (fX10_number r0 1 99 h) fun z10 h9 => (if kH h9 r1 = 1 then (if inB 2 (lH h9 r1) = true then (rec 41 [.ref r0, .ref r1, .int x2] [] (h9.1, (upI h9.2 r1 2 z10))) else none) else none)) else none)))
theorem uX10_numbers_20 {G : GG} {d : Nat} (hd : 4 ≤ d) (rec : Nat → List Value → List Value → Hp → RS) (hrec : ∀ pc loc st h o h', rec pc loc st h = some (o, h') → V G mX10_numbers d pc loc st h o h')   {r0  r1  x2 } {h : Hp} {o : OU} {h' : Hp} (e : kX10_numbers_20 rec  r0 r1 x2 h = some (o, h')) : V G mX10_numbers d 20 [.ref r0, .ref r1, .int x2] [] h o h' := by
  unfold kX10_numbers_20 at e
  refine bX10_numbers_20 r0 r1 x2 (by omega) ?_
  refine ⟨fun c1 => ?_, fun c1 => ?_⟩
  · have e := if_t e c1
    obtain ⟨q2, e⟩ := ob_e e
    refine ⟨q2, ?_⟩
    obtain ⟨z3, h2, e3, e⟩ := bI_e e
    refine ⟨z3, h2, (tX10_number e3 (by omega)), ?_⟩
    obtain ⟨q4, e⟩ := ob_e e
    refine ⟨q4, ?_⟩
    obtain ⟨q5, e⟩ := ob_in e
    refine ⟨q5, ?_⟩
    exact hrec _ _ _ _ _ _ e
  · have e := if_f e c1
    refine ⟨fun c6 => ?_, fun c6 => ?_⟩
    · have e := if_t e c6
      exact hrec _ _ _ _ _ _ e
    · have e := if_n e c6
      obtain ⟨q7, e⟩ := ob_e e
      refine ⟨q7, ?_⟩
      obtain ⟨z10, h9, e8, e⟩ := bI_e e
      refine ⟨z10, h9, (tX10_number e8 (by omega)), ?_⟩
      obtain ⟨q9, e⟩ := ob_e e
      refine ⟨q9, ?_⟩
      obtain ⟨q10, e⟩ := ob_in e
      refine ⟨q10, ?_⟩
      exact hrec _ _ _ _ _ _ e
def kX10_numbers_41 (rec : Nat → List Value → List Value → Hp → RS)  (r0 : Nat) (r1 : Nat) (x2 : Int32) (h : Hp) : RS := (if ¬ x2 = 2 then (rec 56 [.ref r0, .ref r1, .int x2] [] h) else (if kH h r0 = 18 then (bI (fX10_number r0 0 11 h) fun z3 h2 => (if kH h2 r1 = 1 then (if inB 3 (lH h2 r1) = true then (rec 56 [.ref r0, .ref r1, .int x2] [] (h2.1, (upI h2.2 r1 3 z3))) else none) else none)) else none))
theorem uX10_numbers_41 {G : GG} {d : Nat} (hd : 4 ≤ d) (rec : Nat → List Value → List Value → Hp → RS) (hrec : ∀ pc loc st h o h', rec pc loc st h = some (o, h') → V G mX10_numbers d pc loc st h o h')   {r0  r1  x2 } {h : Hp} {o : OU} {h' : Hp} (e : kX10_numbers_41 rec  r0 r1 x2 h = some (o, h')) : V G mX10_numbers d 41 [.ref r0, .ref r1, .int x2] [] h o h' := by
  unfold kX10_numbers_41 at e
  refine bX10_numbers_41 r0 r1 x2 (by omega) ?_
  refine ⟨fun c1 => ?_, fun c1 => ?_⟩
  · have e := if_t e c1
    exact hrec _ _ _ _ _ _ e
  · have e := if_n e c1
    obtain ⟨q2, e⟩ := ob_e e
    refine ⟨q2, ?_⟩
    obtain ⟨z3, h2, e3, e⟩ := bI_e e
    refine ⟨z3, h2, (tX10_number e3 (by omega)), ?_⟩
    obtain ⟨q4, e⟩ := ob_e e
    refine ⟨q4, ?_⟩
    obtain ⟨q5, e⟩ := ob_in e
    refine ⟨q5, ?_⟩
    exact hrec _ _ _ _ _ _ e
def kX10_numbers_56 (rec : Nat → List Value → List Value → Hp → RS)  (r0 : Nat) (r1 : Nat) (x2 : Int32) (h : Hp) : RS := (if ¬ x2 = 3 then (rec 71 [.ref r0, .ref r1, .int x2] [] h) else (if kH h r0 = 18 then (bI (fX10_number r0 0 99 h) fun z3 h2 => (if kH h2 r1 = 1 then (if inB 2 (lH h2 r1) = true then (rec 71 [.ref r0, .ref r1, .int x2] [] (h2.1, (upI h2.2 r1 2 z3))) else none) else none)) else none))
theorem uX10_numbers_56 {G : GG} {d : Nat} (hd : 4 ≤ d) (rec : Nat → List Value → List Value → Hp → RS) (hrec : ∀ pc loc st h o h', rec pc loc st h = some (o, h') → V G mX10_numbers d pc loc st h o h')   {r0  r1  x2 } {h : Hp} {o : OU} {h' : Hp} (e : kX10_numbers_56 rec  r0 r1 x2 h = some (o, h')) : V G mX10_numbers d 56 [.ref r0, .ref r1, .int x2] [] h o h' := by
  unfold kX10_numbers_56 at e
  refine bX10_numbers_56 r0 r1 x2 (by omega) ?_
  refine ⟨fun c1 => ?_, fun c1 => ?_⟩
  · have e := if_t e c1
    exact hrec _ _ _ _ _ _ e
  · have e := if_n e c1
    obtain ⟨q2, e⟩ := ob_e e
    refine ⟨q2, ?_⟩
    obtain ⟨z3, h2, e3, e⟩ := bI_e e
    refine ⟨z3, h2, (tX10_number e3 (by omega)), ?_⟩
    obtain ⟨q4, e⟩ := ob_e e
    refine ⟨q4, ?_⟩
    obtain ⟨q5, e⟩ := ob_in e
    refine ⟨q5, ?_⟩
    exact hrec _ _ _ _ _ _ e
def kX10_numbers_71 (rec : Nat → List Value → List Value → Hp → RS)  (r0 : Nat) (r1 : Nat) (x2 : Int32) (h : Hp) : RS := (if ¬ x2 = 4 then (if ¬ x2 = 7 then (some (.inl none, h)) else (if kH h r0 = 18 then (bI (fX10_number r0 0 15 h) fun z4 h3 => (if kH h3 r1 = 1 then (if inB 1 (lH h3 r1) = true then (some (.inl none, (h3.1, (upI h3.2 r1 1 z4)))) else none) else none)) else none)) else (if kH h r0 = 18 then (bI (fX10_number r0 0 31 h) fun z10 h9 => (if kH h9 r1 = 1 then (if inB 2 (lH h9 r1) = true then (if kH h9 r0 = 18 then (bI (fX10_number r0 0 99 (h9.1, (upI h9.2 r1 2 z10))) fun z16 h15 => (if kH h15 r1 = 1 then (if inB 3 (lH h15 r1) = true then (if ¬ x2 = 7 then (some (.inl none, (h15.1, (upI h15.2 r1 3 z16)))) else (if kH h15 r0 = 18 then (bI (fX10_number r0 0 15 (h15.1, (upI h15.2 r1 3 z16))) fun z23 h22 => (if kH h22 r1 = 1 then (if inB 1 (lH h22 r1) = true then (some (.inl none, (h22.1, (upI h22.2 r1 1 z23)))) else none) else none)) else none)) else none) else none)) else none) else none) else none)) else none))
theorem uX10_numbers_71 {G : GG} {d : Nat} (hd : 4 ≤ d) (rec : Nat → List Value → List Value → Hp → RS) (hrec : ∀ pc loc st h o h', rec pc loc st h = some (o, h') → V G mX10_numbers d pc loc st h o h')   {r0  r1  x2 } {h : Hp} {o : OU} {h' : Hp} (e : kX10_numbers_71 rec  r0 r1 x2 h = some (o, h')) : V G mX10_numbers d 71 [.ref r0, .ref r1, .int x2] [] h o h' := by
  unfold kX10_numbers_71 at e
  refine bX10_numbers_71 r0 r1 x2 (by omega) ?_
  refine ⟨fun c1 => ?_, fun c1 => ?_⟩
  · have e := if_t e c1
    refine ⟨fun c2 => ?_, fun c2 => ?_⟩
    · have e := if_t e c2
      cases e
      exact ⟨rfl, rfl⟩
    · have e := if_n e c2
      obtain ⟨q3, e⟩ := ob_e e
      refine ⟨q3, ?_⟩
      obtain ⟨z4, h3, e4, e⟩ := bI_e e
      refine ⟨z4, h3, (tX10_number e4 (by omega)), ?_⟩
      obtain ⟨q5, e⟩ := ob_e e
      refine ⟨q5, ?_⟩
      obtain ⟨q6, e⟩ := ob_in e
      refine ⟨q6, ?_⟩
      cases e
      exact ⟨rfl, rfl⟩
  · have e := if_n e c1
    obtain ⟨q7, e⟩ := ob_e e
    refine ⟨q7, ?_⟩
    obtain ⟨z10, h9, e8, e⟩ := bI_e e
    refine ⟨z10, h9, (tX10_number e8 (by omega)), ?_⟩
    obtain ⟨q9, e⟩ := ob_e e
    refine ⟨q9, ?_⟩
    obtain ⟨q10, e⟩ := ob_in e
    refine ⟨q10, ?_⟩
    obtain ⟨q11, e⟩ := ob_e e
    refine ⟨q11, ?_⟩
    obtain ⟨z16, h15, e12, e⟩ := bI_e e
    refine ⟨z16, h15, (tX10_number e12 (by omega)), ?_⟩
    obtain ⟨q13, e⟩ := ob_e e
    refine ⟨q13, ?_⟩
    obtain ⟨q14, e⟩ := ob_in e
    refine ⟨q14, ?_⟩
    refine ⟨fun c15 => ?_, fun c15 => ?_⟩
    · have e := if_t e c15
      cases e
      exact ⟨rfl, rfl⟩
    · have e := if_n e c15
      obtain ⟨q16, e⟩ := ob_e e
      refine ⟨q16, ?_⟩
      obtain ⟨z23, h22, e17, e⟩ := bI_e e
      refine ⟨z23, h22, (tX10_number e17 (by omega)), ?_⟩
      obtain ⟨q18, e⟩ := ob_e e
      refine ⟨q18, ?_⟩
      obtain ⟨q19, e⟩ := ob_in e
      refine ⟨q19, ?_⟩
      cases e
      exact ⟨rfl, rfl⟩
def sX10_numbers  (rec : Nat → List Value → List Value → Hp → RS) (pc : Nat) (loc st : List Value) (h : Hp) : RS := match pc, loc, st with
  | 20, [.ref r0, .ref r1, .int x2], [] => kX10_numbers_20 rec  r0 r1 x2 h
  | 41, [.ref r0, .ref r1, .int x2], [] => kX10_numbers_41 rec  r0 r1 x2 h
  | 56, [.ref r0, .ref r1, .int x2], [] => kX10_numbers_56 rec  r0 r1 x2 h
  | 71, [.ref r0, .ref r1, .int x2], [] => kX10_numbers_71 rec  r0 r1 x2 h
  | _, _, _ => none
def gX10_numbers  : Nat → Nat → List Value → List Value → Hp → RS
  | 0 => fun _ _ _ _ => none
  | n + 1 => sX10_numbers  (gX10_numbers  n)
theorem wX10_numbers {G : GG} {d : Nat} (hd : 4 ≤ d)   : ∀ (n pc : Nat) (loc st : List Value) (h : Hp) (o : OU) (h' : Hp), gX10_numbers  n pc loc st h = some (o, h') → V G mX10_numbers d pc loc st h o h' := by
  intro n
  induction n with
  | zero => intro pc loc st h o h' e; cases e
  | succ n ih =>
    intro pc loc st h o h' e
    unfold gX10_numbers sX10_numbers at e
    split at e
    · exact uX10_numbers_20 hd _ ih   e
    · exact uX10_numbers_41 hd _ ih   e
    · exact uX10_numbers_56 hd _ ih   e
    · exact uX10_numbers_71 hd _ ih   e
    · cases e
theorem zX10_numbers_20  (n : Nat) (r0 : Nat) (r1 : Nat) (x2 : Int32)  (h : Hp) : gX10_numbers  (n + 1) 20 [.ref r0, .ref r1, .int x2] [] h = kX10_numbers_20 (gX10_numbers  n)  r0 r1 x2 h := rfl
theorem zX10_numbers_41  (n : Nat) (r0 : Nat) (r1 : Nat) (x2 : Int32)  (h : Hp) : gX10_numbers  (n + 1) 41 [.ref r0, .ref r1, .int x2] [] h = kX10_numbers_41 (gX10_numbers  n)  r0 r1 x2 h := rfl
theorem zX10_numbers_56  (n : Nat) (r0 : Nat) (r1 : Nat) (x2 : Int32)  (h : Hp) : gX10_numbers  (n + 1) 56 [.ref r0, .ref r1, .int x2] [] h = kX10_numbers_56 (gX10_numbers  n)  r0 r1 x2 h := rfl
theorem zX10_numbers_71  (n : Nat) (r0 : Nat) (r1 : Nat) (x2 : Int32)  (h : Hp) : gX10_numbers  (n + 1) 71 [.ref r0, .ref r1, .int x2] [] h = kX10_numbers_71 (gX10_numbers  n)  r0 r1 x2 h := rfl
def fX10_numbers (r0 : Nat) (r1 : Nat) (h : Hp) : RS := kX10_numbers_0 (gX10_numbers FF) r0 r1 h
theorem tX10_numbers {G : GG} {d : Nat} {r0 r1} {h : Hp} {o : OU} {h' : Hp} (e : fX10_numbers r0 r1 h = some (o, h')) (hd : 4 ≤ d) : VM G mX10_numbers d [.ref r0, .ref r1] h o h' := uX10_numbers_0 hd _ (wX10_numbers hd FF) e
def kX10_again_0 (rec : Nat → List Value → List Value → Hp → RS) (FX10_again : Nat → Nat → Hp → RS) (FX10_readsStep : Nat → Hp → RS) (r0 : Nat) (r1 : Nat) (h : Hp) : RS := (if kH h r0 = 18 then (bI (fX10_number r0 0 60 h) fun z2 h1 => (if kH h1 r1 = 1 then (if inB 1 (lH h1 r1) = true then (if kH h1 r0 = 18 then (bV (fX10_sign r0 91 (h1.1, (upI h1.2 r1 1 z2))) fun h7 => (if kH h7 r0 = 18 then (bV (fX10_blanks r0 h7) fun h10 => (rec 20 [.ref r0, uV] [] h10)) else none)) else none) else none) else none)) else none)
theorem uX10_again_0 {G : GG} {d : Nat} (hd : 4 ≤ d) (rec : Nat → List Value → List Value → Hp → RS) (hrec : ∀ pc loc st h o h', rec pc loc st h = some (o, h') → V G mX10_again d pc loc st h o h') (FX10_again : Nat → Nat → Hp → RS) (FX10_readsStep : Nat → Hp → RS) (TFX10_again : ∀ {a0 a1} {h : Hp} {o : OU} {h' : Hp}, FX10_again a0 a1 h = some (o, h') → VM G mX10_again (d - 1) [.ref a0, .ref a1] h o h') (TFX10_readsStep : ∀ {a0} {h : Hp} {o : OU} {h' : Hp}, FX10_readsStep a0 h = some (o, h') → VM G mX10_readsStep (d - 1) [.ref a0] h o h') {r0  r1 } {h : Hp} {o : OU} {h' : Hp} (e : kX10_again_0 rec FX10_again FX10_readsStep r0 r1 h = some (o, h')) : VM G mX10_again d [.ref r0, .ref r1] h o h' := by
  unfold kX10_again_0 at e
  refine eX10_again r0 r1 (by omega) ?_
  obtain ⟨q1, e⟩ := ob_e e
  refine ⟨q1, ?_⟩
  obtain ⟨z2, h1, e2, e⟩ := bI_e e
  refine ⟨z2, h1, (tX10_number e2 (by omega)), ?_⟩
  obtain ⟨q3, e⟩ := ob_e e
  refine ⟨q3, ?_⟩
  obtain ⟨q4, e⟩ := ob_in e
  refine ⟨q4, ?_⟩
  obtain ⟨q5, e⟩ := ob_e e
  refine ⟨q5, ?_⟩
  obtain ⟨h7, e6, e⟩ := bV_e e
  refine ⟨h7, (tX10_sign e6 (by omega)), ?_⟩
  obtain ⟨q7, e⟩ := ob_e e
  refine ⟨q7, ?_⟩
  obtain ⟨h10, e8, e⟩ := bV_e e
  refine ⟨h10, (tX10_blanks e8 (by omega)), ?_⟩
  exact hrec _ _ _ _ _ _ e
def kX10_again_20 (rec : Nat → List Value → List Value → Hp → RS) (FX10_again : Nat → Nat → Hp → RS) (FX10_readsStep : Nat → Hp → RS) (r0 : Nat) (h : Hp) : RS := (if kH h r0 = 18 then (if ¬ (h.2 r0 5) = 0 then (bV (fX10_sign r0 93 h) fun h3 => (if kH h3 r0 = 18 then (some (.inl none, (h3.1, (upI h3.2 r0 8 ((h3.2 r0 8) - 1))))) else none)) else (bI (fX10_byteAt r0 (h.2 r0 4) h) fun z7 h6 => (if z7 = 93 then (if kH h6 r0 = 18 then (bV (fX10_sign r0 93 h6) fun h10 => (if kH h10 r0 = 18 then (some (.inl none, (h10.1, (upI h10.2 r0 8 ((h10.2 r0 8) - 1))))) else none)) else none) else (if kH h6 r0 = 18 then (bV (FX10_readsStep r0 h6) fun h14 => (if kH h14 r0 = 18 then (bV (fX10_blanks r0 h14) fun h17 => (rec 20 [.ref r0, uV] [] h17)) else none)) else none)))) else none)
theorem uX10_again_20 {G : GG} {d : Nat} (hd : 4 ≤ d) (rec : Nat → List Value → List Value → Hp → RS) (hrec : ∀ pc loc st h o h', rec pc loc st h = some (o, h') → V G mX10_again d pc loc st h o h') (FX10_again : Nat → Nat → Hp → RS) (FX10_readsStep : Nat → Hp → RS) (TFX10_again : ∀ {a0 a1} {h : Hp} {o : OU} {h' : Hp}, FX10_again a0 a1 h = some (o, h') → VM G mX10_again (d - 1) [.ref a0, .ref a1] h o h') (TFX10_readsStep : ∀ {a0} {h : Hp} {o : OU} {h' : Hp}, FX10_readsStep a0 h = some (o, h') → VM G mX10_readsStep (d - 1) [.ref a0] h o h') {r0 } {h : Hp} {o : OU} {h' : Hp} (e : kX10_again_20 rec FX10_again FX10_readsStep r0 h = some (o, h')) : V G mX10_again d 20 [.ref r0, uV] [] h o h' := by
  unfold kX10_again_20 at e
  refine bX10_again_20 r0 (by omega) ?_
  obtain ⟨q1, e⟩ := ob_e e
  refine ⟨q1, ?_⟩
  refine ⟨fun c2 => ?_, fun c2 => ?_⟩
  · have e := if_t e c2
    obtain ⟨h3, e3, e⟩ := bV_e e
    refine ⟨h3, (tX10_sign e3 (by omega)), ?_⟩
    obtain ⟨q4, e⟩ := ob_e e
    refine ⟨q4, ?_⟩
    cases e
    exact ⟨rfl, rfl⟩
  · have e := if_n e c2
    obtain ⟨z7, h6, e5, e⟩ := bI_e e
    refine ⟨z7, h6, (tX10_byteAt e5 (by omega)), ?_⟩
    refine ⟨fun c6 => ?_, fun c6 => ?_⟩
    · have e := if_t e c6
      obtain ⟨q7, e⟩ := ob_e e
      refine ⟨q7, ?_⟩
      obtain ⟨h10, e8, e⟩ := bV_e e
      refine ⟨h10, (tX10_sign e8 (by omega)), ?_⟩
      obtain ⟨q9, e⟩ := ob_e e
      refine ⟨q9, ?_⟩
      cases e
      exact ⟨rfl, rfl⟩
    · have e := if_f e c6
      obtain ⟨q10, e⟩ := ob_e e
      refine ⟨q10, ?_⟩
      obtain ⟨h14, e11, e⟩ := bV_e e
      refine ⟨h14, (TFX10_readsStep e11), ?_⟩
      obtain ⟨q12, e⟩ := ob_e e
      refine ⟨q12, ?_⟩
      obtain ⟨h17, e13, e⟩ := bV_e e
      refine ⟨h17, (tX10_blanks e13 (by omega)), ?_⟩
      exact hrec _ _ _ _ _ _ e
def sX10_again (FX10_again : Nat → Nat → Hp → RS) (FX10_readsStep : Nat → Hp → RS) (rec : Nat → List Value → List Value → Hp → RS) (pc : Nat) (loc st : List Value) (h : Hp) : RS := match pc, loc, st with
  | 20, [.ref r0, _], [] => kX10_again_20 rec FX10_again FX10_readsStep r0 h
  | _, _, _ => none
def gX10_again (FX10_again : Nat → Nat → Hp → RS) (FX10_readsStep : Nat → Hp → RS) : Nat → Nat → List Value → List Value → Hp → RS
  | 0 => fun _ _ _ _ => none
  | n + 1 => sX10_again FX10_again FX10_readsStep (gX10_again FX10_again FX10_readsStep n)
theorem wX10_again {G : GG} {d : Nat} (hd : 4 ≤ d) (FX10_again : Nat → Nat → Hp → RS) (FX10_readsStep : Nat → Hp → RS) (TFX10_again : ∀ {a0 a1} {h : Hp} {o : OU} {h' : Hp}, FX10_again a0 a1 h = some (o, h') → VM G mX10_again (d - 1) [.ref a0, .ref a1] h o h') (TFX10_readsStep : ∀ {a0} {h : Hp} {o : OU} {h' : Hp}, FX10_readsStep a0 h = some (o, h') → VM G mX10_readsStep (d - 1) [.ref a0] h o h') : ∀ (n pc : Nat) (loc st : List Value) (h : Hp) (o : OU) (h' : Hp), gX10_again FX10_again FX10_readsStep n pc loc st h = some (o, h') → V G mX10_again d pc loc st h o h' := by
  intro n
  induction n with
  | zero => intro pc loc st h o h' e; cases e
  | succ n ih =>
    intro pc loc st h o h' e
    unfold gX10_again sX10_again at e
    split at e
    · exact V.drop (llp_r (llp_u llp_nil)) (uX10_again_20 hd _ ih _ _ TFX10_again TFX10_readsStep e)
    · cases e
theorem zX10_again_20 (FX10_again : Nat → Nat → Hp → RS) (FX10_readsStep : Nat → Hp → RS) (n : Nat) (r0 : Nat) (y1 : Value) (h : Hp) : gX10_again FX10_again FX10_readsStep (n + 1) 20 [.ref r0, y1] [] h = kX10_again_20 (gX10_again FX10_again FX10_readsStep n) FX10_again FX10_readsStep r0 h := rfl
def kX10_readsStep_0 (rec : Nat → List Value → List Value → Hp → RS) (FX10_again : Nat → Nat → Hp → RS) (FX10_readsStep : Nat → Hp → RS) (r0 : Nat) (h : Hp) : RS := (if kH h r0 = 18 then (bI (fX10_stepHere r0 h) fun z2 h1 => (if ¬ z2 = (-1) then (if ¬ z2 = 11 then (rec 46 [.ref r0, .int z2, uV] [] h1) else (if kH h1 r0 = 18 then (if ¬ (h1.2 r0 8) = 6 then (rec 46 [.ref r0, .int z2, uV] [] h1) else (bV (fX10_wrong r0 3 (h1.2 r0 4) h1) fun h9 => (rec 46 [.ref r0, .int z2, uV] [] h9))) else none)) else (if kH h1 r0 = 18 then (bV (fX10_wrong r0 1 (h1.2 r0 4) h1) fun h12 => (rec 46 [.ref r0, .int z2, uV] [] h12)) else none))) else none)
theorem uX10_readsStep_0 {G : GG} {d : Nat} (hd : 6 ≤ d) (rec : Nat → List Value → List Value → Hp → RS) (hrec : ∀ pc loc st h o h', rec pc loc st h = some (o, h') → V G mX10_readsStep d pc loc st h o h') (FX10_again : Nat → Nat → Hp → RS) (FX10_readsStep : Nat → Hp → RS) (TFX10_again : ∀ {a0 a1} {h : Hp} {o : OU} {h' : Hp}, FX10_again a0 a1 h = some (o, h') → VM G mX10_again (d - 1) [.ref a0, .ref a1] h o h') (TFX10_readsStep : ∀ {a0} {h : Hp} {o : OU} {h' : Hp}, FX10_readsStep a0 h = some (o, h') → VM G mX10_readsStep (d - 1) [.ref a0] h o h') {r0 } {h : Hp} {o : OU} {h' : Hp} (e : kX10_readsStep_0 rec FX10_again FX10_readsStep r0 h = some (o, h')) : VM G mX10_readsStep d [.ref r0] h o h' := by
  unfold kX10_readsStep_0 at e
  refine eX10_readsStep r0 (by omega) ?_
  obtain ⟨q1, e⟩ := ob_e e
  refine ⟨q1, ?_⟩
  obtain ⟨z2, h1, e2, e⟩ := bI_e e
  refine ⟨z2, h1, (tX10_stepHere e2 (by omega)), ?_⟩
  refine ⟨fun c3 => ?_, fun c3 => ?_⟩
  · have e := if_t e c3
    refine ⟨fun c4 => ?_, fun c4 => ?_⟩
    · have e := if_t e c4
      exact hrec _ _ _ _ _ _ e
    · have e := if_n e c4
      obtain ⟨q5, e⟩ := ob_e e
      refine ⟨q5, ?_⟩
      refine ⟨fun c6 => ?_, fun c6 => ?_⟩
      · have e := if_t e c6
        exact hrec _ _ _ _ _ _ e
      · have e := if_n e c6
        obtain ⟨h9, e7, e⟩ := bV_e e
        refine ⟨h9, (tX10_wrong e7 (by omega)), ?_⟩
        exact hrec _ _ _ _ _ _ e
  · have e := if_n e c3
    obtain ⟨q8, e⟩ := ob_e e
    refine ⟨q8, ?_⟩
    obtain ⟨h12, e9, e⟩ := bV_e e
    refine ⟨h12, (tX10_wrong e9 (by omega)), ?_⟩
    exact hrec _ _ _ _ _ _ e
def kX10_readsStep_46 (rec : Nat → List Value → List Value → Hp → RS) (FX10_again : Nat → Nat → Hp → RS) (FX10_readsStep : Nat → Hp → RS) (r0 : Nat) (x1 : Int32) (h : Hp) : RS := (if kH h r0 = 18 then (if (h.2 r0 5) = 0 then (if ¬ x1 = 11 then (rec 70 [.ref r0, .int x1, uV] [.int 0, .int (h.2 r0 8), .ref r0] h) else (rec 70 [.ref r0, .int x1, uV] [.int 1, .int (h.2 r0 8), .ref r0] h)) else (some (.inl none, h))) else none)
theorem uX10_readsStep_46 {G : GG} {d : Nat} (hd : 6 ≤ d) (rec : Nat → List Value → List Value → Hp → RS) (hrec : ∀ pc loc st h o h', rec pc loc st h = some (o, h') → V G mX10_readsStep d pc loc st h o h') (FX10_again : Nat → Nat → Hp → RS) (FX10_readsStep : Nat → Hp → RS) (TFX10_again : ∀ {a0 a1} {h : Hp} {o : OU} {h' : Hp}, FX10_again a0 a1 h = some (o, h') → VM G mX10_again (d - 1) [.ref a0, .ref a1] h o h') (TFX10_readsStep : ∀ {a0} {h : Hp} {o : OU} {h' : Hp}, FX10_readsStep a0 h = some (o, h') → VM G mX10_readsStep (d - 1) [.ref a0] h o h') {r0  x1 } {h : Hp} {o : OU} {h' : Hp} (e : kX10_readsStep_46 rec FX10_again FX10_readsStep r0 x1 h = some (o, h')) : V G mX10_readsStep d 46 [.ref r0, .int x1, uV] [] h o h' := by
  unfold kX10_readsStep_46 at e
  refine bX10_readsStep_46 r0 x1 ?_
  obtain ⟨q1, e⟩ := ob_e e
  refine ⟨q1, ?_⟩
  refine ⟨fun c2 => ?_, fun c2 => ?_⟩
  · have e := if_t e c2
    refine ⟨fun c3 => ?_, fun c3 => ?_⟩
    · have e := if_t e c3
      exact hrec _ _ _ _ _ _ e
    · have e := if_n e c3
      exact hrec _ _ _ _ _ _ e
  · have e := if_f e c2
    cases e
    exact ⟨rfl, rfl⟩
def kX10_readsStep_70 (rec : Nat → List Value → List Value → Hp → RS) (FX10_again : Nat → Nat → Hp → RS) (FX10_readsStep : Nat → Hp → RS) (r0 : Nat) (x1 : Int32) (s0 : Int32) (s1 : Int32) (t2 : Nat) (h : Hp) : RS := (if kH h t2 = 18 then (if kH h r0 = 18 then (bV (fX10_skipWord r0 (h.1, (upI h.2 t2 8 (s1 + s0)))) fun h2 => (if kH h2 r0 = 18 then (if kH h2 (rH h2 r0 21) = 7 then (if inB (h2.2 r0 18) (lH h2 (rH h2 r0 21)) = true then (if kH h2 (rH h2 (rH h2 r0 21) (h2.2 r0 18).toNatClampNeg) = 1 then (if inB 0 (lH h2 (rH h2 (rH h2 r0 21) (h2.2 r0 18).toNatClampNeg)) = true then (bV (fX10_numbers r0 (rH h2 (rH h2 r0 21) (h2.2 r0 18).toNatClampNeg) (h2.1, (upI (upI h2.2 r0 18 ((h2.2 r0 18) + 1)) (rH h2 (rH h2 r0 21) (h2.2 r0 18).toNatClampNeg) 0 x1))) fun h10 => (if ¬ x1 = 11 then (if kH h10 r0 = 18 then (if kH h10 (rH h2 (rH h2 r0 21) (h2.2 r0 18).toNatClampNeg) = 1 then (if inB 4 (lH h10 (rH h2 (rH h2 r0 21) (h2.2 r0 18).toNatClampNeg)) = true then (bV (fX10_sign r0 59 (h10.1, (upI h10.2 (rH h2 (rH h2 r0 21) (h2.2 r0 18).toNatClampNeg) 4 (h10.2 r0 18)))) fun h16 => (some (.inl none, h16))) else none) else none) else none) else (if kH h10 r0 = 18 then (bV (FX10_again r0 (rH h2 (rH h2 r0 21) (h2.2 r0 18).toNatClampNeg) h10) fun h18 => (if kH h18 r0 = 18 then (if kH h18 (rH h2 (rH h2 r0 21) (h2.2 r0 18).toNatClampNeg) = 1 then (if inB 4 (lH h18 (rH h2 (rH h2 r0 21) (h2.2 r0 18).toNatClampNeg)) = true then (bV (fX10_sign r0 59 (h18.1, (upI h18.2 (rH h2 (rH h2 r0 21) (h2.2 r0 18).toNatClampNeg) 4 (h18.2 r0 18)))) fun h24 => (some (.inl none, h24))) else none) else none) else none)) else none))) else none) else none) else none) else none) else none)) else none) else none)
theorem uX10_readsStep_70 {G : GG} {d : Nat} (hd : 6 ≤ d) (rec : Nat → List Value → List Value → Hp → RS) (hrec : ∀ pc loc st h o h', rec pc loc st h = some (o, h') → V G mX10_readsStep d pc loc st h o h') (FX10_again : Nat → Nat → Hp → RS) (FX10_readsStep : Nat → Hp → RS) (TFX10_again : ∀ {a0 a1} {h : Hp} {o : OU} {h' : Hp}, FX10_again a0 a1 h = some (o, h') → VM G mX10_again (d - 1) [.ref a0, .ref a1] h o h') (TFX10_readsStep : ∀ {a0} {h : Hp} {o : OU} {h' : Hp}, FX10_readsStep a0 h = some (o, h') → VM G mX10_readsStep (d - 1) [.ref a0] h o h') {r0  x1  s0  s1  t2 } {h : Hp} {o : OU} {h' : Hp} (e : kX10_readsStep_70 rec FX10_again FX10_readsStep r0 x1 s0 s1 t2 h = some (o, h')) : V G mX10_readsStep d 70 [.ref r0, .int x1, uV] [.int s0, .int s1, .ref t2] h o h' := by
  unfold kX10_readsStep_70 at e
  refine bX10_readsStep_70 r0 x1 s0 s1 t2 (by omega) ?_
  obtain ⟨q1, e⟩ := ob_e e
  refine ⟨q1, ?_⟩
  obtain ⟨q2, e⟩ := ob_e e
  refine ⟨q2, ?_⟩
  obtain ⟨h2, e3, e⟩ := bV_e e
  refine ⟨h2, (tX10_skipWord e3 (by omega)), ?_⟩
  obtain ⟨q4, e⟩ := ob_e e
  refine ⟨q4, ?_⟩
  obtain ⟨q5, e⟩ := ob_e e
  refine ⟨q5, ?_⟩
  obtain ⟨q6, e⟩ := ob_in e
  refine ⟨q6, ?_⟩
  obtain ⟨q7, e⟩ := ob_e e
  refine ⟨q7, ?_⟩
  obtain ⟨q8, e⟩ := ob_in e
  refine ⟨q8, ?_⟩
  obtain ⟨h10, e9, e⟩ := bV_e e
  refine ⟨h10, (tX10_numbers e9 (by omega)), ?_⟩
  refine ⟨fun c10 => ?_, fun c10 => ?_⟩
  · have e := if_t e c10
    obtain ⟨q11, e⟩ := ob_e e
    refine ⟨q11, ?_⟩
    obtain ⟨q12, e⟩ := ob_e e
    refine ⟨q12, ?_⟩
    obtain ⟨q13, e⟩ := ob_in e
    refine ⟨q13, ?_⟩
    obtain ⟨h16, e14, e⟩ := bV_e e
    refine ⟨h16, (tX10_sign e14 (by omega)), ?_⟩
    cases e
    exact ⟨rfl, rfl⟩
  · have e := if_n e c10
    obtain ⟨q15, e⟩ := ob_e e
    refine ⟨q15, ?_⟩
    obtain ⟨h18, e16, e⟩ := bV_e e
    refine ⟨h18, (TFX10_again e16), ?_⟩
    obtain ⟨q17, e⟩ := ob_e e
    refine ⟨q17, ?_⟩
    obtain ⟨q18, e⟩ := ob_e e
    refine ⟨q18, ?_⟩
    obtain ⟨q19, e⟩ := ob_in e
    refine ⟨q19, ?_⟩
    obtain ⟨h24, e20, e⟩ := bV_e e
    refine ⟨h24, (tX10_sign e20 (by omega)), ?_⟩
    cases e
    exact ⟨rfl, rfl⟩
def sX10_readsStep (FX10_again : Nat → Nat → Hp → RS) (FX10_readsStep : Nat → Hp → RS) (rec : Nat → List Value → List Value → Hp → RS) (pc : Nat) (loc st : List Value) (h : Hp) : RS := match pc, loc, st with
  | 46, [.ref r0, .int x1, _], [] => kX10_readsStep_46 rec FX10_again FX10_readsStep r0 x1 h
  | 70, [.ref r0, .int x1, _], [.int s0, .int s1, .ref t2] => kX10_readsStep_70 rec FX10_again FX10_readsStep r0 x1 s0 s1 t2 h
  | _, _, _ => none
def gX10_readsStep (FX10_again : Nat → Nat → Hp → RS) (FX10_readsStep : Nat → Hp → RS) : Nat → Nat → List Value → List Value → Hp → RS
  | 0 => fun _ _ _ _ => none
  | n + 1 => sX10_readsStep FX10_again FX10_readsStep (gX10_readsStep FX10_again FX10_readsStep n)
theorem wX10_readsStep {G : GG} {d : Nat} (hd : 6 ≤ d) (FX10_again : Nat → Nat → Hp → RS) (FX10_readsStep : Nat → Hp → RS) (TFX10_again : ∀ {a0 a1} {h : Hp} {o : OU} {h' : Hp}, FX10_again a0 a1 h = some (o, h') → VM G mX10_again (d - 1) [.ref a0, .ref a1] h o h') (TFX10_readsStep : ∀ {a0} {h : Hp} {o : OU} {h' : Hp}, FX10_readsStep a0 h = some (o, h') → VM G mX10_readsStep (d - 1) [.ref a0] h o h') : ∀ (n pc : Nat) (loc st : List Value) (h : Hp) (o : OU) (h' : Hp), gX10_readsStep FX10_again FX10_readsStep n pc loc st h = some (o, h') → V G mX10_readsStep d pc loc st h o h' := by
  intro n
  induction n with
  | zero => intro pc loc st h o h' e; cases e
  | succ n ih =>
    intro pc loc st h o h' e
    unfold gX10_readsStep sX10_readsStep at e
    split at e
    · exact V.drop (llp_r (llp_r (llp_u llp_nil))) (uX10_readsStep_46 hd _ ih _ _ TFX10_again TFX10_readsStep e)
    · exact V.drop (llp_r (llp_r (llp_u llp_nil))) (uX10_readsStep_70 hd _ ih _ _ TFX10_again TFX10_readsStep e)
    · cases e
theorem zX10_readsStep_46 (FX10_again : Nat → Nat → Hp → RS) (FX10_readsStep : Nat → Hp → RS) (n : Nat) (r0 : Nat) (x1 : Int32) (y2 : Value) (h : Hp) : gX10_readsStep FX10_again FX10_readsStep (n + 1) 46 [.ref r0, .int x1, y2] [] h = kX10_readsStep_46 (gX10_readsStep FX10_again FX10_readsStep n) FX10_again FX10_readsStep r0 x1 h := rfl
theorem zX10_readsStep_70 (FX10_again : Nat → Nat → Hp → RS) (FX10_readsStep : Nat → Hp → RS) (n : Nat) (r0 : Nat) (x1 : Int32) (s0 : Int32) (s1 : Int32) (t2 : Nat) (y2 : Value) (h : Hp) : gX10_readsStep FX10_again FX10_readsStep (n + 1) 70 [.ref r0, .int x1, y2] [.int s0, .int s1, .ref t2] h = kX10_readsStep_70 (gX10_readsStep FX10_again FX10_readsStep n) FX10_again FX10_readsStep r0 x1 s0 s1 t2 h := rfl
def rX10_again_X10_readsStep : Nat → (Nat → Nat → Hp → RS) × (Nat → Hp → RS)
  | 0 => (fun _ _ _ => none, fun _ _ => none)
  | n + 1 => (fun a0 a1 h => kX10_again_0 (gX10_again ((rX10_again_X10_readsStep n).1) ((rX10_again_X10_readsStep n).2) FF) ((rX10_again_X10_readsStep n).1) ((rX10_again_X10_readsStep n).2) a0 a1 h, fun a0 h => kX10_readsStep_0 (gX10_readsStep ((rX10_again_X10_readsStep n).1) ((rX10_again_X10_readsStep n).2) FF) ((rX10_again_X10_readsStep n).1) ((rX10_again_X10_readsStep n).2) a0 h)
theorem rtX10_again_X10_readsStep {G : GG} : ∀ (n d : Nat), 6 + n ≤ d → (∀ (a0 : Nat) (a1 : Nat) (h : Hp) (o : OU) (h' : Hp), (rX10_again_X10_readsStep n).1 a0 a1 h = some (o, h') → VM G mX10_again d [.ref a0, .ref a1] h o h') ∧ (∀ (a0 : Nat) (h : Hp) (o : OU) (h' : Hp), (rX10_again_X10_readsStep n).2 a0 h = some (o, h') → VM G mX10_readsStep d [.ref a0] h o h') := by
  intro n
  induction n with
  | zero => intro d hd; exact ⟨fun _ _ _ _ _ e => (by cases e), fun _ _ _ _ e => (by cases e)⟩
  | succ n ih =>
    intro d hd
    have ih := ih (d - 1) (by omega)
    exact ⟨fun _ _ _ _ _ e => uX10_again_0 (by omega) _ (wX10_again (by omega) _ _ (@fun _ _ _ _ _ e => ih.1 _ _ _ _ _ e) (@fun _ _ _ _ e => ih.2 _ _ _ _ e) FF) _ _ (@fun _ _ _ _ _ e => ih.1 _ _ _ _ _ e) (@fun _ _ _ _ e => ih.2 _ _ _ _ e) e, fun _ _ _ _ e => uX10_readsStep_0 (by omega) _ (wX10_readsStep (by omega) _ _ (@fun _ _ _ _ _ e => ih.1 _ _ _ _ _ e) (@fun _ _ _ _ e => ih.2 _ _ _ _ e) FF) _ _ (@fun _ _ _ _ _ e => ih.1 _ _ _ _ _ e) (@fun _ _ _ _ e => ih.2 _ _ _ _ e) e⟩
def fX10_again (a0 : Nat) (a1 : Nat) (h : Hp) : RS := (rX10_again_X10_readsStep 40).1 a0 a1 h
theorem tX10_again {G : GG} {d : Nat} {a0 a1} {h : Hp} {o : OU} {h' : Hp} (e : fX10_again a0 a1 h = some (o, h')) (hd : 6 + 40 ≤ d) : VM G mX10_again d [.ref a0, .ref a1] h o h' := (rtX10_again_X10_readsStep 40 d hd).1 _ _ _ _ _ e
def fX10_readsStep (a0 : Nat) (h : Hp) : RS := (rX10_again_X10_readsStep 40).2 a0 h
theorem tX10_readsStep {G : GG} {d : Nat} {a0} {h : Hp} {o : OU} {h' : Hp} (e : fX10_readsStep a0 h = some (o, h')) (hd : 6 + 40 ≤ d) : VM G mX10_readsStep d [.ref a0] h o h' := (rtX10_again_X10_readsStep 40 d hd).2 _ _ _ _ e
def kX10_clause_0 (rec : Nat → List Value → List Value → Hp → RS)  (r0 : Nat) (h : Hp) : RS := (if kH h r0 = 18 then (bI (fX10_isWord r0 19 9 26 5 0 0 h) fun z2 h1 => (if kH h1 r0 = 18 then (bI (fX10_stepHere r0 h1) fun z6 h5 => (if ¬ z2 = 0 then (if kH h5 r0 = 18 then (if ¬ (h5.2 r0 7) = 60 then (rec 62 [.ref r0, .int z2, uV] [] h5) else (bV (fX10_wrong r0 3 (h5.2 r0 4) h5) fun h12 => (rec 62 [.ref r0, .int z2, uV] [] h12))) else none) else (bI (fX10_in z6 0 4 h5) fun z15 h14 => (if ¬ z15 = 0 then (if kH h14 r0 = 18 then (if ¬ (h14.2 r0 7) = 60 then (rec 62 [.ref r0, .int z2, uV] [] h14) else (bV (fX10_wrong r0 3 (h14.2 r0 4) h14) fun h20 => (rec 62 [.ref r0, .int z2, uV] [] h20))) else none) else (if kH h14 r0 = 18 then (bV (fX10_wrong r0 1 (h14.2 r0 4) h14) fun h23 => (rec 62 [.ref r0, .int z2, uV] [] h23)) else none))))) else none)) else none)
theorem uX10_clause_0 {G : GG} {d : Nat} (hd : 47 ≤ d) (rec : Nat → List Value → List Value → Hp → RS) (hrec : ∀ pc loc st h o h', rec pc loc st h = some (o, h') → V G mX10_clause d pc loc st h o h')   {r0 } {h : Hp} {o : OU} {h' : Hp} (e : kX10_clause_0 rec  r0 h = some (o, h')) : VM G mX10_clause d [.ref r0] h o h' := by
  unfold kX10_clause_0 at e
  refine eX10_clause r0 (by omega) ?_
  obtain ⟨q1, e⟩ := ob_e e
  refine ⟨q1, ?_⟩
  obtain ⟨z2, h1, e2, e⟩ := bI_e e
  refine ⟨z2, h1, (tX10_isWord e2 (by omega)), ?_⟩
  obtain ⟨q3, e⟩ := ob_e e
  refine ⟨q3, ?_⟩
  obtain ⟨z6, h5, e4, e⟩ := bI_e e
  refine ⟨z6, h5, (tX10_stepHere e4 (by omega)), ?_⟩
  refine ⟨fun c5 => ?_, fun c5 => ?_⟩
  · have e := if_t e c5
    obtain ⟨q6, e⟩ := ob_e e
    refine ⟨q6, ?_⟩
    refine ⟨fun c7 => ?_, fun c7 => ?_⟩
    · have e := if_t e c7
      exact hrec _ _ _ _ _ _ e
    · have e := if_n e c7
      obtain ⟨h12, e8, e⟩ := bV_e e
      refine ⟨h12, (tX10_wrong e8 (by omega)), ?_⟩
      exact hrec _ _ _ _ _ _ e
  · have e := if_n e c5
    obtain ⟨z15, h14, e9, e⟩ := bI_e e
    refine ⟨z15, h14, (tX10_in e9 (by omega)), ?_⟩
    refine ⟨fun c10 => ?_, fun c10 => ?_⟩
    · have e := if_t e c10
      obtain ⟨q11, e⟩ := ob_e e
      refine ⟨q11, ?_⟩
      refine ⟨fun c12 => ?_, fun c12 => ?_⟩
      · have e := if_t e c12
        exact hrec _ _ _ _ _ _ e
      · have e := if_n e c12
        obtain ⟨h20, e13, e⟩ := bV_e e
        refine ⟨h20, (tX10_wrong e13 (by omega)), ?_⟩
        exact hrec _ _ _ _ _ _ e
    · have e := if_n e c10
      obtain ⟨q14, e⟩ := ob_e e
      refine ⟨q14, ?_⟩
      obtain ⟨h23, e15, e⟩ := bV_e e
      refine ⟨h23, (tX10_wrong e15 (by omega)), ?_⟩
      exact hrec _ _ _ _ _ _ e
def kX10_clause_62 (rec : Nat → List Value → List Value → Hp → RS)  (r0 : Nat) (x1 : Int32) (h : Hp) : RS := (if kH h r0 = 18 then (if (h.2 r0 5) = 0 then (if ¬ x1 = 0 then (bV (fX10_skipWord r0 (h.1, (upI h.2 r0 7 ((h.2 r0 7) + 1)))) fun h4 => (if kH h4 r0 = 18 then (bI (fX10_number r0 6 16 h4) fun z7 h6 => (if kH h6 r0 = 18 then (bV (fX10_sign r0 59 (h6.1, (upI h6.2 r0 12 z7))) fun h11 => (some (.inl none, h11))) else none)) else none)) else (bV (fX10_readsStep r0 (h.1, (upI h.2 r0 7 ((h.2 r0 7) + 1)))) fun h13 => (some (.inl none, h13)))) else (some (.inl none, h))) else none)
theorem uX10_clause_62 {G : GG} {d : Nat} (hd : 47 ≤ d) (rec : Nat → List Value → List Value → Hp → RS) (hrec : ∀ pc loc st h o h', rec pc loc st h = some (o, h') → V G mX10_clause d pc loc st h o h')   {r0  x1 } {h : Hp} {o : OU} {h' : Hp} (e : kX10_clause_62 rec  r0 x1 h = some (o, h')) : V G mX10_clause d 62 [.ref r0, .int x1, uV] [] h o h' := by
  unfold kX10_clause_62 at e
  refine bX10_clause_62 r0 x1 (by omega) ?_
  obtain ⟨q1, e⟩ := ob_e e
  refine ⟨q1, ?_⟩
  refine ⟨fun c2 => ?_, fun c2 => ?_⟩
  · have e := if_t e c2
    refine ⟨fun c3 => ?_, fun c3 => ?_⟩
    · have e := if_t e c3
      obtain ⟨h4, e4, e⟩ := bV_e e
      refine ⟨h4, (tX10_skipWord e4 (by omega)), ?_⟩
      obtain ⟨q5, e⟩ := ob_e e
      refine ⟨q5, ?_⟩
      obtain ⟨z7, h6, e6, e⟩ := bI_e e
      refine ⟨z7, h6, (tX10_number e6 (by omega)), ?_⟩
      obtain ⟨q7, e⟩ := ob_e e
      refine ⟨q7, ?_⟩
      obtain ⟨h11, e8, e⟩ := bV_e e
      refine ⟨h11, (tX10_sign e8 (by omega)), ?_⟩
      cases e
      exact ⟨rfl, rfl⟩
    · have e := if_n e c3
      obtain ⟨h13, e9, e⟩ := bV_e e
      refine ⟨h13, (tX10_readsStep e9 (by omega)), ?_⟩
      cases e
      exact ⟨rfl, rfl⟩
  · have e := if_f e c2
    cases e
    exact ⟨rfl, rfl⟩
def sX10_clause  (rec : Nat → List Value → List Value → Hp → RS) (pc : Nat) (loc st : List Value) (h : Hp) : RS := match pc, loc, st with
  | 62, [.ref r0, .int x1, _], [] => kX10_clause_62 rec  r0 x1 h
  | _, _, _ => none
def gX10_clause  : Nat → Nat → List Value → List Value → Hp → RS
  | 0 => fun _ _ _ _ => none
  | n + 1 => sX10_clause  (gX10_clause  n)
theorem wX10_clause {G : GG} {d : Nat} (hd : 47 ≤ d)   : ∀ (n pc : Nat) (loc st : List Value) (h : Hp) (o : OU) (h' : Hp), gX10_clause  n pc loc st h = some (o, h') → V G mX10_clause d pc loc st h o h' := by
  intro n
  induction n with
  | zero => intro pc loc st h o h' e; cases e
  | succ n ih =>
    intro pc loc st h o h' e
    unfold gX10_clause sX10_clause at e
    split at e
    · exact V.drop (llp_r (llp_r (llp_u llp_nil))) (uX10_clause_62 hd _ ih   e)
    · cases e
theorem zX10_clause_62  (n : Nat) (r0 : Nat) (x1 : Int32) (y2 : Value) (h : Hp) : gX10_clause  (n + 1) 62 [.ref r0, .int x1, y2] [] h = kX10_clause_62 (gX10_clause  n)  r0 x1 h := rfl
def fX10_clause (r0 : Nat) (h : Hp) : RS := kX10_clause_0 (gX10_clause FF) r0 h
theorem tX10_clause {G : GG} {d : Nat} {r0} {h : Hp} {o : OU} {h' : Hp} (e : fX10_clause r0 h = some (o, h')) (hd : 47 ≤ d) : VM G mX10_clause d [.ref r0] h o h' := uX10_clause_0 hd _ (wX10_clause hd FF) e
def kX10_store_0 (rec : Nat → List Value → List Value → Hp → RS)  (r0 : Nat) (x1 : Int32) (h : Hp) : RS := (if kH h r0 = 18 then (bI (fX10_in x1 0 ((upI h.2 r0 0 0) r0 1) (h.1, (upI h.2 r0 0 0))) fun z3 h2 => (if ¬ z3 = 0 then (if kH h2 r0 = 18 then (bI (fX10_bad r0 0 1 1 h2) fun z7 h6 => (if z7 = 0 then (if kH h6 r0 = 18 then (bV (fX10_starts r0 x1 h6) fun h11 => (if kH h11 r0 = 18 then (rec 49 [.ref r0, uV] [] (h11.1, (upI (upI h11.2 r0 12 16) r0 18 0))) else none)) else none) else (some (.inl (some (.int 0)), h6)))) else none) else (if kH h2 r0 = 18 then (bI (fX10_bad r0 1 1 1 h2) fun z16 h15 => (if z16 = 0 then (if kH h15 r0 = 18 then (bV (fX10_starts r0 x1 h15) fun h20 => (if kH h20 r0 = 18 then (rec 49 [.ref r0, uV] [] (h20.1, (upI (upI h20.2 r0 12 16) r0 18 0))) else none)) else none) else (some (.inl (some (.int 0)), h15)))) else none))) else none)
theorem uX10_store_0 {G : GG} {d : Nat} (hd : 48 ≤ d) (rec : Nat → List Value → List Value → Hp → RS) (hrec : ∀ pc loc st h o h', rec pc loc st h = some (o, h') → V G mX10_store d pc loc st h o h')   {r0  x1 } {h : Hp} {o : OU} {h' : Hp} (e : kX10_store_0 rec  r0 x1 h = some (o, h')) : VM G mX10_store d [.ref r0, .int x1] h o h' := by
  unfold kX10_store_0 at e
  refine eX10_store r0 x1 (by omega) ?_
  obtain ⟨q1, e⟩ := ob_e e
  refine ⟨q1, ?_⟩
  obtain ⟨z3, h2, e2, e⟩ := bI_e e
  refine ⟨z3, h2, (tX10_in e2 (by omega)), ?_⟩
  refine ⟨fun c3 => ?_, fun c3 => ?_⟩
  · have e := if_t e c3
    obtain ⟨q4, e⟩ := ob_e e
    refine ⟨q4, ?_⟩
    obtain ⟨z7, h6, e5, e⟩ := bI_e e
    refine ⟨z7, h6, (tX10_bad e5 (by omega)), ?_⟩
    refine ⟨fun c6 => ?_, fun c6 => ?_⟩
    · have e := if_t e c6
      obtain ⟨q7, e⟩ := ob_e e
      refine ⟨q7, ?_⟩
      obtain ⟨h11, e8, e⟩ := bV_e e
      refine ⟨h11, (tX10_starts e8 (by omega)), ?_⟩
      obtain ⟨q9, e⟩ := ob_e e
      refine ⟨q9, ?_⟩
      exact hrec _ _ _ _ _ _ e
    · have e := if_f e c6
      cases e
      exact ⟨rfl, rfl⟩
  · have e := if_n e c3
    obtain ⟨q10, e⟩ := ob_e e
    refine ⟨q10, ?_⟩
    obtain ⟨z16, h15, e11, e⟩ := bI_e e
    refine ⟨z16, h15, (tX10_bad e11 (by omega)), ?_⟩
    refine ⟨fun c12 => ?_, fun c12 => ?_⟩
    · have e := if_t e c12
      obtain ⟨q13, e⟩ := ob_e e
      refine ⟨q13, ?_⟩
      obtain ⟨h20, e14, e⟩ := bV_e e
      refine ⟨h20, (tX10_starts e14 (by omega)), ?_⟩
      obtain ⟨q15, e⟩ := ob_e e
      refine ⟨q15, ?_⟩
      exact hrec _ _ _ _ _ _ e
    · have e := if_f e c12
      cases e
      exact ⟨rfl, rfl⟩
def kX10_store_49 (rec : Nat → List Value → List Value → Hp → RS)  (r0 : Nat) (h : Hp) : RS := (if kH h r0 = 18 then (if ¬ (h.2 r0 5) = 0 then (if (h.2 r0 5) = 0 then (bV (fX10_beginsAnew r0 (h.1, (upI h.2 r0 3 (-1)))) fun h4 => (if kH h4 r0 = 18 then (some (.inl (some (.int (h4.2 r0 11))), h4)) else none)) else (bI (fX10_ends r0 h) fun z8 h7 => (some (.inl (some (.int z8)), h7)))) else (if (h.2 r0 2) ≤ (h.2 r0 4) then (if (h.2 r0 5) = 0 then (bV (fX10_beginsAnew r0 (h.1, (upI h.2 r0 3 (-1)))) fun h12 => (if kH h12 r0 = 18 then (some (.inl (some (.int (h12.2 r0 11))), h12)) else none)) else (bI (fX10_ends r0 h) fun z16 h15 => (some (.inl (some (.int z16)), h15)))) else (bV (fX10_clause r0 h) fun h18 => (if kH h18 r0 = 18 then (bV (fX10_blanks r0 h18) fun h20 => (rec 49 [.ref r0, uV] [] h20)) else none)))) else none)
theorem uX10_store_49 {G : GG} {d : Nat} (hd : 48 ≤ d) (rec : Nat → List Value → List Value → Hp → RS) (hrec : ∀ pc loc st h o h', rec pc loc st h = some (o, h') → V G mX10_store d pc loc st h o h')   {r0 } {h : Hp} {o : OU} {h' : Hp} (e : kX10_store_49 rec  r0 h = some (o, h')) : V G mX10_store d 49 [.ref r0, uV] [] h o h' := by
  unfold kX10_store_49 at e
  refine bX10_store_49 r0 (by omega) ?_
  obtain ⟨q1, e⟩ := ob_e e
  refine ⟨q1, ?_⟩
  refine ⟨fun c2 => ?_, fun c2 => ?_⟩
  · have e := if_t e c2
    refine ⟨fun c3 => ?_, fun c3 => ?_⟩
    · have e := if_t e c3
      obtain ⟨h4, e4, e⟩ := bV_e e
      refine ⟨h4, (tX10_beginsAnew e4 (by omega)), ?_⟩
      obtain ⟨q5, e⟩ := ob_e e
      refine ⟨q5, ?_⟩
      cases e
      exact ⟨rfl, rfl⟩
    · have e := if_f e c3
      obtain ⟨z8, h7, e6, e⟩ := bI_e e
      refine ⟨z8, h7, (tX10_ends e6 (by omega)), ?_⟩
      cases e
      exact ⟨rfl, rfl⟩
  · have e := if_n e c2
    refine ⟨fun c7 => ?_, fun c7 => ?_⟩
    · have e := if_t e c7
      refine ⟨fun c8 => ?_, fun c8 => ?_⟩
      · have e := if_t e c8
        obtain ⟨h12, e9, e⟩ := bV_e e
        refine ⟨h12, (tX10_beginsAnew e9 (by omega)), ?_⟩
        obtain ⟨q10, e⟩ := ob_e e
        refine ⟨q10, ?_⟩
        cases e
        exact ⟨rfl, rfl⟩
      · have e := if_f e c8
        obtain ⟨z16, h15, e11, e⟩ := bI_e e
        refine ⟨z16, h15, (tX10_ends e11 (by omega)), ?_⟩
        cases e
        exact ⟨rfl, rfl⟩
    · have e := if_f e c7
      obtain ⟨h18, e12, e⟩ := bV_e e
      refine ⟨h18, (tX10_clause e12 (by omega)), ?_⟩
      obtain ⟨q13, e⟩ := ob_e e
      refine ⟨q13, ?_⟩
      obtain ⟨h20, e14, e⟩ := bV_e e
      refine ⟨h20, (tX10_blanks e14 (by omega)), ?_⟩
      exact hrec _ _ _ _ _ _ e
def sX10_store  (rec : Nat → List Value → List Value → Hp → RS) (pc : Nat) (loc st : List Value) (h : Hp) : RS := match pc, loc, st with
  | 49, [.ref r0, _], [] => kX10_store_49 rec  r0 h
  | _, _, _ => none
def gX10_store  : Nat → Nat → List Value → List Value → Hp → RS
  | 0 => fun _ _ _ _ => none
  | n + 1 => sX10_store  (gX10_store  n)
theorem wX10_store {G : GG} {d : Nat} (hd : 48 ≤ d)   : ∀ (n pc : Nat) (loc st : List Value) (h : Hp) (o : OU) (h' : Hp), gX10_store  n pc loc st h = some (o, h') → V G mX10_store d pc loc st h o h' := by
  intro n
  induction n with
  | zero => intro pc loc st h o h' e; cases e
  | succ n ih =>
    intro pc loc st h o h' e
    unfold gX10_store sX10_store at e
    split at e
    · exact V.drop (llp_r (llp_u llp_nil)) (uX10_store_49 hd _ ih   e)
    · cases e
theorem zX10_store_49  (n : Nat) (r0 : Nat) (y1 : Value) (h : Hp) : gX10_store  (n + 1) 49 [.ref r0, y1] [] h = kX10_store_49 (gX10_store  n)  r0 h := rfl
def fX10_store (r0 : Nat) (x1 : Int32) (h : Hp) : RS := kX10_store_0 (gX10_store FF) r0 x1 h
theorem tX10_store {G : GG} {d : Nat} {r0 x1} {h : Hp} {o : OU} {h' : Hp} (e : fX10_store r0 x1 h = some (o, h')) (hd : 48 ≤ d) : VM G mX10_store d [.ref r0, .int x1] h o h' := uX10_store_0 hd _ (wX10_store hd FF) e
def kX10_copies_0 (rec : Nat → List Value → List Value → Hp → RS)  (r0 : Nat) (r1 : Nat) (h : Hp) : RS := (rec 2 [.ref r0, .ref r1, .int 0] [] h)
theorem uX10_copies_0 {G : GG} {d : Nat} (hd : 1 ≤ d) (rec : Nat → List Value → List Value → Hp → RS) (hrec : ∀ pc loc st h o h', rec pc loc st h = some (o, h') → V G mX10_copies d pc loc st h o h')   {r0  r1 } {h : Hp} {o : OU} {h' : Hp} (e : kX10_copies_0 rec  r0 r1 h = some (o, h')) : VM G mX10_copies d [.ref r0, .ref r1] h o h' := by
  unfold kX10_copies_0 at e
  refine eX10_copies r0 r1 ?_
  exact hrec _ _ _ _ _ _ e
def kX10_copies_2 (rec : Nat → List Value → List Value → Hp → RS)  (r0 : Nat) (r1 : Nat) (x2 : Int32) (h : Hp) : RS := (if 3398 ≤ x2 then (some (.inl none, h)) else (if kH h r0 = 1 then (if inB x2 (lH h r0) = true then (if kH h r1 = 1 then (if inB x2 (lH h r1) = true then (rec 2 [.ref r0, .ref r1, .int (x2 + 1)] [] (h.1, (upI h.2 r1 x2.toNatClampNeg (h.2 r0 x2.toNatClampNeg)))) else none) else none) else none) else none))
theorem uX10_copies_2 {G : GG} {d : Nat} (hd : 1 ≤ d) (rec : Nat → List Value → List Value → Hp → RS) (hrec : ∀ pc loc st h o h', rec pc loc st h = some (o, h') → V G mX10_copies d pc loc st h o h')   {r0  r1  x2 } {h : Hp} {o : OU} {h' : Hp} (e : kX10_copies_2 rec  r0 r1 x2 h = some (o, h')) : V G mX10_copies d 2 [.ref r0, .ref r1, .int x2] [] h o h' := by
  unfold kX10_copies_2 at e
  refine bX10_copies_2 r0 r1 x2 ?_
  refine ⟨fun c1 => ?_, fun c1 => ?_⟩
  · have e := if_t e c1
    cases e
    exact ⟨rfl, rfl⟩
  · have e := if_f e c1
    obtain ⟨q2, e⟩ := ob_e e
    refine ⟨q2, ?_⟩
    obtain ⟨q3, e⟩ := ob_in e
    refine ⟨q3, ?_⟩
    obtain ⟨q4, e⟩ := ob_e e
    refine ⟨q4, ?_⟩
    obtain ⟨q5, e⟩ := ob_in e
    refine ⟨q5, ?_⟩
    exact hrec _ _ _ _ _ _ e
def sX10_copies  (rec : Nat → List Value → List Value → Hp → RS) (pc : Nat) (loc st : List Value) (h : Hp) : RS := match pc, loc, st with
  | 2, [.ref r0, .ref r1, .int x2], [] => kX10_copies_2 rec  r0 r1 x2 h
  | _, _, _ => none
def gX10_copies  : Nat → Nat → List Value → List Value → Hp → RS
  | 0 => fun _ _ _ _ => none
  | n + 1 => sX10_copies  (gX10_copies  n)
theorem wX10_copies {G : GG} {d : Nat} (hd : 1 ≤ d)   : ∀ (n pc : Nat) (loc st : List Value) (h : Hp) (o : OU) (h' : Hp), gX10_copies  n pc loc st h = some (o, h') → V G mX10_copies d pc loc st h o h' := by
  intro n
  induction n with
  | zero => intro pc loc st h o h' e; cases e
  | succ n ih =>
    intro pc loc st h o h' e
    unfold gX10_copies sX10_copies at e
    split at e
    · exact uX10_copies_2 hd _ ih   e
    · cases e
theorem zX10_copies_2  (n : Nat) (r0 : Nat) (r1 : Nat) (x2 : Int32)  (h : Hp) : gX10_copies  (n + 1) 2 [.ref r0, .ref r1, .int x2] [] h = kX10_copies_2 (gX10_copies  n)  r0 r1 x2 h := rfl
def fX10_copies (r0 : Nat) (r1 : Nat) (h : Hp) : RS := kX10_copies_0 (gX10_copies FF) r0 r1 h
theorem tX10_copies {G : GG} {d : Nat} {r0 r1} {h : Hp} {o : OU} {h' : Hp} (e : fX10_copies r0 r1 h = some (o, h')) (hd : 1 ≤ d) : VM G mX10_copies d [.ref r0, .ref r1] h o h' := uX10_copies_0 hd _ (wX10_copies hd FF) e
def kX10_book_0 (rec : Nat → List Value → List Value → Hp → RS)  (r0 : Nat) (x1 : Int32) (h : Hp) : RS := (if kH h r0 = 18 then (bI (fX10_in x1 0 ((upI h.2 r0 0 0) r0 1) (h.1, (upI h.2 r0 0 0))) fun z3 h2 => (if z3 = 0 then (if kH h2 r0 = 18 then (bI (fX10_bad r0 1 1 1 h2) fun z7 h6 => (if z7 = 0 then (if kH h6 r0 = 18 then (bV (fX10_starts r0 x1 h6) fun h11 => (rec 48 [.ref r0, uV, .int 0, .int 0, uV, uV, uV] [] h11)) else none) else (some (.inl (some (.int 0)), h6)))) else none) else (if x1 ≤ 60 then (if kH h2 r0 = 18 then (bI (fX10_bad r0 0 1 1 h2) fun z16 h15 => (if z16 = 0 then (if kH h15 r0 = 18 then (bV (fX10_starts r0 x1 h15) fun h20 => (rec 48 [.ref r0, uV, .int 0, .int 0, uV, uV, uV] [] h20)) else none) else (some (.inl (some (.int 0)), h15)))) else none) else (if kH h2 r0 = 18 then (bI (fX10_bad r0 1 1 1 h2) fun z24 h23 => (if z24 = 0 then (if kH h23 r0 = 18 then (bV (fX10_starts r0 x1 h23) fun h28 => (rec 48 [.ref r0, uV, .int 0, .int 0, uV, uV, uV] [] h28)) else none) else (some (.inl (some (.int 0)), h23)))) else none)))) else none)
theorem uX10_book_0 {G : GG} {d : Nat} (hd : 4 ≤ d) (rec : Nat → List Value → List Value → Hp → RS) (hrec : ∀ pc loc st h o h', rec pc loc st h = some (o, h') → V G mX10_book d pc loc st h o h')   {r0  x1 } {h : Hp} {o : OU} {h' : Hp} (e : kX10_book_0 rec  r0 x1 h = some (o, h')) : VM G mX10_book d [.ref r0, .int x1] h o h' := by
  unfold kX10_book_0 at e
  refine eX10_book r0 x1 (by omega) ?_
  obtain ⟨q1, e⟩ := ob_e e
  refine ⟨q1, ?_⟩
  obtain ⟨z3, h2, e2, e⟩ := bI_e e
  refine ⟨z3, h2, (tX10_in e2 (by omega)), ?_⟩
  refine ⟨fun c3 => ?_, fun c3 => ?_⟩
  · have e := if_t e c3
    obtain ⟨q4, e⟩ := ob_e e
    refine ⟨q4, ?_⟩
    obtain ⟨z7, h6, e5, e⟩ := bI_e e
    refine ⟨z7, h6, (tX10_bad e5 (by omega)), ?_⟩
    refine ⟨fun c6 => ?_, fun c6 => ?_⟩
    · have e := if_t e c6
      obtain ⟨q7, e⟩ := ob_e e
      refine ⟨q7, ?_⟩
      obtain ⟨h11, e8, e⟩ := bV_e e
      refine ⟨h11, (tX10_starts e8 (by omega)), ?_⟩
      exact hrec _ _ _ _ _ _ e
    · have e := if_f e c6
      cases e
      exact ⟨rfl, rfl⟩
  · have e := if_f e c3
    refine ⟨fun c9 => ?_, fun c9 => ?_⟩
    · have e := if_t e c9
      obtain ⟨q10, e⟩ := ob_e e
      refine ⟨q10, ?_⟩
      obtain ⟨z16, h15, e11, e⟩ := bI_e e
      refine ⟨z16, h15, (tX10_bad e11 (by omega)), ?_⟩
      refine ⟨fun c12 => ?_, fun c12 => ?_⟩
      · have e := if_t e c12
        obtain ⟨q13, e⟩ := ob_e e
        refine ⟨q13, ?_⟩
        obtain ⟨h20, e14, e⟩ := bV_e e
        refine ⟨h20, (tX10_starts e14 (by omega)), ?_⟩
        exact hrec _ _ _ _ _ _ e
      · have e := if_f e c12
        cases e
        exact ⟨rfl, rfl⟩
    · have e := if_f e c9
      obtain ⟨q15, e⟩ := ob_e e
      refine ⟨q15, ?_⟩
      obtain ⟨z24, h23, e16, e⟩ := bI_e e
      refine ⟨z24, h23, (tX10_bad e16 (by omega)), ?_⟩
      refine ⟨fun c17 => ?_, fun c17 => ?_⟩
      · have e := if_t e c17
        obtain ⟨q18, e⟩ := ob_e e
        refine ⟨q18, ?_⟩
        obtain ⟨h28, e19, e⟩ := bV_e e
        refine ⟨h28, (tX10_starts e19 (by omega)), ?_⟩
        exact hrec _ _ _ _ _ _ e
      · have e := if_f e c17
        cases e
        exact ⟨rfl, rfl⟩
def kX10_book_48 (rec : Nat → List Value → List Value → Hp → RS)  (r0 : Nat) (x2 : Int32) (x3 : Int32) (h : Hp) : RS := (if kH h r0 = 18 then (if ¬ (h.2 r0 5) = 0 then (if (h.2 r0 5) = 0 then (rec 192 [.ref r0, uV, .int x2, uV, .int 0, uV, uV] [] (h.1, (upI (upI h.2 r0 3 (-1)) r0 13 x2))) else (bI (fX10_ends r0 h) fun z5 h4 => (some (.inl (some (.int z5)), h4)))) else (if (h.2 r0 2) ≤ (h.2 r0 4) then (if (h.2 r0 5) = 0 then (rec 192 [.ref r0, uV, .int x2, uV, .int 0, uV, uV] [] (h.1, (upI (upI h.2 r0 3 (-1)) r0 13 x2))) else (bI (fX10_ends r0 h) fun z10 h9 => (some (.inl (some (.int z10)), h9)))) else (bV (fX10_blanks r0 h) fun h12 => (if kH h12 r0 = 18 then (bI (fX10_number r0 0 15 h12) fun z16 h15 => (if kH h15 r0 = 18 then (if ¬ (h15.2 r0 5) = 0 then (rec 108 [.ref r0, uV, .int x2, .int x3, uV, .int z16, uV] [] h15) else (bI (fX10_has x3 z16 h15) fun z21 h20 => (if z21 = 0 then (rec 108 [.ref r0, uV, .int x2, .int x3, uV, .int z16, uV] [] h20) else (if kH h20 r0 = 18 then (bV (fX10_wrong r0 2 (h12.2 r0 4) h20) fun h24 => (rec 108 [.ref r0, uV, .int x2, .int x3, uV, .int z16, uV] [] h24)) else none)))) else none)) else none)))) else none)
theorem uX10_book_48 {G : GG} {d : Nat} (hd : 4 ≤ d) (rec : Nat → List Value → List Value → Hp → RS) (hrec : ∀ pc loc st h o h', rec pc loc st h = some (o, h') → V G mX10_book d pc loc st h o h')   {r0  x2  x3 } {h : Hp} {o : OU} {h' : Hp} (e : kX10_book_48 rec  r0 x2 x3 h = some (o, h')) : V G mX10_book d 48 [.ref r0, uV, .int x2, .int x3, uV, uV, uV] [] h o h' := by
  unfold kX10_book_48 at e
  refine bX10_book_48 r0 x2 x3 (by omega) ?_
  obtain ⟨q1, e⟩ := ob_e e
  refine ⟨q1, ?_⟩
  refine ⟨fun c2 => ?_, fun c2 => ?_⟩
  · have e := if_t e c2
    refine ⟨fun c3 => ?_, fun c3 => ?_⟩
    · have e := if_t e c3
      exact hrec _ _ _ _ _ _ e
    · have e := if_f e c3
      obtain ⟨z5, h4, e4, e⟩ := bI_e e
      refine ⟨z5, h4, (tX10_ends e4 (by omega)), ?_⟩
      cases e
      exact ⟨rfl, rfl⟩
  · have e := if_n e c2
    refine ⟨fun c5 => ?_, fun c5 => ?_⟩
    · have e := if_t e c5
      refine ⟨fun c6 => ?_, fun c6 => ?_⟩
      · have e := if_t e c6
        exact hrec _ _ _ _ _ _ e
      · have e := if_f e c6
        obtain ⟨z10, h9, e7, e⟩ := bI_e e
        refine ⟨z10, h9, (tX10_ends e7 (by omega)), ?_⟩
        cases e
        exact ⟨rfl, rfl⟩
    · have e := if_f e c5
      obtain ⟨h12, e8, e⟩ := bV_e e
      refine ⟨h12, (tX10_blanks e8 (by omega)), ?_⟩
      obtain ⟨q9, e⟩ := ob_e e
      refine ⟨q9, ?_⟩
      obtain ⟨z16, h15, e10, e⟩ := bI_e e
      refine ⟨z16, h15, (tX10_number e10 (by omega)), ?_⟩
      obtain ⟨q11, e⟩ := ob_e e
      refine ⟨q11, ?_⟩
      refine ⟨fun c12 => ?_, fun c12 => ?_⟩
      · have e := if_t e c12
        exact hrec _ _ _ _ _ _ e
      · have e := if_n e c12
        obtain ⟨z21, h20, e13, e⟩ := bI_e e
        refine ⟨z21, h20, (tX10_has e13 (by omega)), ?_⟩
        refine ⟨fun c14 => ?_, fun c14 => ?_⟩
        · have e := if_t e c14
          exact hrec _ _ _ _ _ _ e
        · have e := if_f e c14
          obtain ⟨q15, e⟩ := ob_e e
          refine ⟨q15, ?_⟩
          obtain ⟨h24, e16, e⟩ := bV_e e
          refine ⟨h24, (tX10_wrong e16 (by omega)), ?_⟩
          exact hrec _ _ _ _ _ _ e
def kX10_book_108 (rec : Nat → List Value → List Value → Hp → RS)  (r0 : Nat) (x2 : Int32) (x3 : Int32) (x5 : Int32) (h : Hp) : RS := (if kH h r0 = 18 then (bI (fX10_number r0 0 99 h) fun z2 h1 => (if kH h1 r0 = 18 then (bV (fX10_sign r0 59 h1) fun h5 => (if kH h5 r0 = 18 then (if ¬ (h5.2 r0 5) = 0 then (bV (fX10_blanks r0 h5) fun h10 => (rec 48 [.ref r0, uV, .int x2, .int x3, uV, uV, uV] [] h10)) else (if kH h5 (rH h5 r0 20) = 7 then (if inB x2 (lH h5 (rH h5 r0 20)) = true then (if kH h5 (rH h5 (rH h5 r0 20) x2.toNatClampNeg) = 1 then (if inB 0 (lH h5 (rH h5 (rH h5 r0 20) x2.toNatClampNeg)) = true then (if inB 1 (lH h5 (rH h5 (rH h5 r0 20) x2.toNatClampNeg)) = true then (bV (fX10_blanks r0 (h5.1, (upI (upI h5.2 (rH h5 (rH h5 r0 20) x2.toNatClampNeg) 0 x5) (rH h5 (rH h5 r0 20) x2.toNatClampNeg) 1 z2))) fun h17 => (rec 48 [.ref r0, uV, .int (x2 + 1), .int (x3 ||| (1 <<< (x5 &&& 31))), uV, uV, uV] [] h17)) else none) else none) else none) else none) else none)) else none)) else none)) else none)
theorem uX10_book_108 {G : GG} {d : Nat} (hd : 4 ≤ d) (rec : Nat → List Value → List Value → Hp → RS) (hrec : ∀ pc loc st h o h', rec pc loc st h = some (o, h') → V G mX10_book d pc loc st h o h')   {r0  x2  x3  x5 } {h : Hp} {o : OU} {h' : Hp} (e : kX10_book_108 rec  r0 x2 x3 x5 h = some (o, h')) : V G mX10_book d 108 [.ref r0, uV, .int x2, .int x3, uV, .int x5, uV] [] h o h' := by
  unfold kX10_book_108 at e
  refine bX10_book_108 r0 x2 x3 x5 (by omega) ?_
  obtain ⟨q1, e⟩ := ob_e e
  refine ⟨q1, ?_⟩
  obtain ⟨z2, h1, e2, e⟩ := bI_e e
  refine ⟨z2, h1, (tX10_number e2 (by omega)), ?_⟩
  obtain ⟨q3, e⟩ := ob_e e
  refine ⟨q3, ?_⟩
  obtain ⟨h5, e4, e⟩ := bV_e e
  refine ⟨h5, (tX10_sign e4 (by omega)), ?_⟩
  obtain ⟨q5, e⟩ := ob_e e
  refine ⟨q5, ?_⟩
  refine ⟨fun c6 => ?_, fun c6 => ?_⟩
  · have e := if_t e c6
    obtain ⟨h10, e7, e⟩ := bV_e e
    refine ⟨h10, (tX10_blanks e7 (by omega)), ?_⟩
    exact hrec _ _ _ _ _ _ e
  · have e := if_n e c6
    obtain ⟨q8, e⟩ := ob_e e
    refine ⟨q8, ?_⟩
    obtain ⟨q9, e⟩ := ob_in e
    refine ⟨q9, ?_⟩
    obtain ⟨q10, e⟩ := ob_e e
    refine ⟨q10, ?_⟩
    obtain ⟨q11, e⟩ := ob_in e
    refine ⟨q11, ?_⟩
    obtain ⟨q12, e⟩ := ob_in e
    refine ⟨q12, ?_⟩
    obtain ⟨h17, e13, e⟩ := bV_e e
    refine ⟨h17, (tX10_blanks e13 (by omega)), ?_⟩
    exact hrec _ _ _ _ _ _ e
def kX10_book_192 (rec : Nat → List Value → List Value → Hp → RS)  (r0 : Nat) (x2 : Int32) (x4 : Int32) (h : Hp) : RS := (if x2 ≤ x4 then (some (.inl (some (.int x2)), h)) else (rec 201 [.ref r0, uV, .int x2, uV, .int x4, .int 0, uV] [] h))
theorem uX10_book_192 {G : GG} {d : Nat} (hd : 4 ≤ d) (rec : Nat → List Value → List Value → Hp → RS) (hrec : ∀ pc loc st h o h', rec pc loc st h = some (o, h') → V G mX10_book d pc loc st h o h')   {r0  x2  x4 } {h : Hp} {o : OU} {h' : Hp} (e : kX10_book_192 rec  r0 x2 x4 h = some (o, h')) : V G mX10_book d 192 [.ref r0, uV, .int x2, uV, .int x4, uV, uV] [] h o h' := by
  unfold kX10_book_192 at e
  refine bX10_book_192 r0 x2 x4 ?_
  refine ⟨fun c1 => ?_, fun c1 => ?_⟩
  · have e := if_t e c1
    cases e
    exact ⟨rfl, rfl⟩
  · have e := if_f e c1
    exact hrec _ _ _ _ _ _ e
def kX10_book_201 (rec : Nat → List Value → List Value → Hp → RS)  (r0 : Nat) (x2 : Int32) (x4 : Int32) (x5 : Int32) (h : Hp) : RS := (if 2 ≤ x5 then (rec 192 [.ref r0, uV, .int x2, uV, .int (x4 + 1), uV, uV] [] h) else (if kH h r0 = 18 then (if kH h (rH h r0 19) = 7 then (if inB x4 (lH h (rH h r0 19)) = true then (if kH h (rH h r0 20) = 7 then (if inB x4 (lH h (rH h r0 20)) = true then (if kH h (rH h (rH h r0 20) x4.toNatClampNeg) = 1 then (if inB x5 (lH h (rH h (rH h r0 20) x4.toNatClampNeg)) = true then (if kH h (rH h (rH h r0 19) x4.toNatClampNeg) = 1 then (if inB x5 (lH h (rH h (rH h r0 19) x4.toNatClampNeg)) = true then (letH (upI h.2 (rH h (rH h r0 19) x4.toNatClampNeg) x5.toNatClampNeg (h.2 (rH h (rH h r0 20) x4.toNatClampNeg) x5.toNatClampNeg)) fun (i11 : Nat → Nat → Int32) => (rec 201 [.ref r0, uV, .int x2, uV, .int x4, .int (x5 + 1), uV] [] (h.1, i11))) else none) else none) else none) else none) else none) else none) else none) else none) else none))
theorem uX10_book_201 {G : GG} {d : Nat} (hd : 4 ≤ d) (rec : Nat → List Value → List Value → Hp → RS) (hrec : ∀ pc loc st h o h', rec pc loc st h = some (o, h') → V G mX10_book d pc loc st h o h')   {r0  x2  x4  x5 } {h : Hp} {o : OU} {h' : Hp} (e : kX10_book_201 rec  r0 x2 x4 x5 h = some (o, h')) : V G mX10_book d 201 [.ref r0, uV, .int x2, uV, .int x4, .int x5, uV] [] h o h' := by
  unfold kX10_book_201 at e
  refine bX10_book_201 r0 x2 x4 x5 ?_
  refine ⟨fun c1 => ?_, fun c1 => ?_⟩
  · have e := if_t e c1
    exact hrec _ _ _ _ _ _ e
  · have e := if_f e c1
    obtain ⟨q2, e⟩ := ob_e e
    refine ⟨q2, ?_⟩
    obtain ⟨q3, e⟩ := ob_e e
    refine ⟨q3, ?_⟩
    obtain ⟨q4, e⟩ := ob_in e
    refine ⟨q4, ?_⟩
    obtain ⟨q5, e⟩ := ob_e e
    refine ⟨q5, ?_⟩
    obtain ⟨q6, e⟩ := ob_in e
    refine ⟨q6, ?_⟩
    obtain ⟨q7, e⟩ := ob_e e
    refine ⟨q7, ?_⟩
    obtain ⟨q8, e⟩ := ob_in e
    refine ⟨q8, ?_⟩
    obtain ⟨q9, e⟩ := ob_e e
    refine ⟨q9, ?_⟩
    obtain ⟨q10, e⟩ := ob_in e
    refine ⟨q10, ?_⟩
    intro i11 evi11
    have e := lt_e evi11 e
    exact hrec _ _ _ _ _ _ e
def sX10_book  (rec : Nat → List Value → List Value → Hp → RS) (pc : Nat) (loc st : List Value) (h : Hp) : RS := match pc, loc, st with
  | 48, [.ref r0, _, .int x2, .int x3, _, _, _], [] => kX10_book_48 rec  r0 x2 x3 h
  | 108, [.ref r0, _, .int x2, .int x3, _, .int x5, _], [] => kX10_book_108 rec  r0 x2 x3 x5 h
  | 192, [.ref r0, _, .int x2, _, .int x4, _, _], [] => kX10_book_192 rec  r0 x2 x4 h
  | 201, [.ref r0, _, .int x2, _, .int x4, .int x5, _], [] => kX10_book_201 rec  r0 x2 x4 x5 h
  | _, _, _ => none
def gX10_book  : Nat → Nat → List Value → List Value → Hp → RS
  | 0 => fun _ _ _ _ => none
  | n + 1 => sX10_book  (gX10_book  n)
theorem wX10_book {G : GG} {d : Nat} (hd : 4 ≤ d)   : ∀ (n pc : Nat) (loc st : List Value) (h : Hp) (o : OU) (h' : Hp), gX10_book  n pc loc st h = some (o, h') → V G mX10_book d pc loc st h o h' := by
  intro n
  induction n with
  | zero => intro pc loc st h o h' e; cases e
  | succ n ih =>
    intro pc loc st h o h' e
    unfold gX10_book sX10_book at e
    split at e
    · exact V.drop (llp_r (llp_u (llp_r (llp_r (llp_u (llp_u (llp_u llp_nil))))))) (uX10_book_48 hd _ ih   e)
    · exact V.drop (llp_r (llp_u (llp_r (llp_r (llp_u (llp_r (llp_u llp_nil))))))) (uX10_book_108 hd _ ih   e)
    · exact V.drop (llp_r (llp_u (llp_r (llp_u (llp_r (llp_u (llp_u llp_nil))))))) (uX10_book_192 hd _ ih   e)
    · exact V.drop (llp_r (llp_u (llp_r (llp_u (llp_r (llp_r (llp_u llp_nil))))))) (uX10_book_201 hd _ ih   e)
    · cases e
theorem zX10_book_48  (n : Nat) (r0 : Nat) (x2 : Int32) (x3 : Int32) (y1 : Value) (y4 : Value) (y5 : Value) (y6 : Value) (h : Hp) : gX10_book  (n + 1) 48 [.ref r0, y1, .int x2, .int x3, y4, y5, y6] [] h = kX10_book_48 (gX10_book  n)  r0 x2 x3 h := rfl
theorem zX10_book_108  (n : Nat) (r0 : Nat) (x2 : Int32) (x3 : Int32) (x5 : Int32) (y1 : Value) (y4 : Value) (y6 : Value) (h : Hp) : gX10_book  (n + 1) 108 [.ref r0, y1, .int x2, .int x3, y4, .int x5, y6] [] h = kX10_book_108 (gX10_book  n)  r0 x2 x3 x5 h := rfl
theorem zX10_book_192  (n : Nat) (r0 : Nat) (x2 : Int32) (x4 : Int32) (y1 : Value) (y3 : Value) (y5 : Value) (y6 : Value) (h : Hp) : gX10_book  (n + 1) 192 [.ref r0, y1, .int x2, y3, .int x4, y5, y6] [] h = kX10_book_192 (gX10_book  n)  r0 x2 x4 h := rfl
theorem zX10_book_201  (n : Nat) (r0 : Nat) (x2 : Int32) (x4 : Int32) (x5 : Int32) (y1 : Value) (y3 : Value) (y6 : Value) (h : Hp) : gX10_book  (n + 1) 201 [.ref r0, y1, .int x2, y3, .int x4, .int x5, y6] [] h = kX10_book_201 (gX10_book  n)  r0 x2 x4 x5 h := rfl
def fX10_book (r0 : Nat) (x1 : Int32) (h : Hp) : RS := kX10_book_0 (gX10_book FF) r0 x1 h
theorem tX10_book {G : GG} {d : Nat} {r0 x1} {h : Hp} {o : OU} {h' : Hp} (e : fX10_book r0 x1 h = some (o, h')) (hd : 4 ≤ d) : VM G mX10_book d [.ref r0, .int x1] h o h' := uX10_book_0 hd _ (wX10_book hd FF) e
def kX10_fault_0  (r0 : Nat) (h : Hp) : RS := (if kH h r0 = 18 then (some (.inl (some (.int ((upI h.2 r0 0 0) r0 3))), (h.1, (upI h.2 r0 0 0)))) else none)
theorem uX10_fault_0 {G : GG} {d : Nat} (hd : 1 ≤ d)   {r0 } {h : Hp} {o : OU} {h' : Hp} (e : kX10_fault_0  r0 h = some (o, h')) : VM G mX10_fault d [.ref r0] h o h' := by
  unfold kX10_fault_0 at e
  refine eX10_fault r0 ?_
  obtain ⟨q1, e⟩ := ob_e e
  refine ⟨q1, ?_⟩
  cases e
  exact ⟨rfl, rfl⟩
def fX10_fault (r0 : Nat) (h : Hp) : RS := kX10_fault_0 r0 h
theorem tX10_fault {G : GG} {d : Nat} {r0} {h : Hp} {o : OU} {h' : Hp} (e : fX10_fault r0 h = some (o, h')) (hd : 1 ≤ d) : VM G mX10_fault d [.ref r0] h o h' := uX10_fault_0 hd e
def kX10_dirty_0 (rec : Nat → List Value → List Value → Hp → RS)  (r0 : Nat) (r1 : Nat) (h : Hp) : RS := (rec 4 [.ref r0, .ref r1, .int 0, .int 0] [] h)
theorem uX10_dirty_0 {G : GG} {d : Nat} (hd : 3 ≤ d) (rec : Nat → List Value → List Value → Hp → RS) (hrec : ∀ pc loc st h o h', rec pc loc st h = some (o, h') → V G mX10_dirty d pc loc st h o h')   {r0  r1 } {h : Hp} {o : OU} {h' : Hp} (e : kX10_dirty_0 rec  r0 r1 h = some (o, h')) : VM G mX10_dirty d [.ref r0, .ref r1] h o h' := by
  unfold kX10_dirty_0 at e
  refine eX10_dirty r0 r1 ?_
  exact hrec _ _ _ _ _ _ e
def kX10_dirty_4 (rec : Nat → List Value → List Value → Hp → RS)  (r0 : Nat) (r1 : Nat) (x2 : Int32) (x3 : Int32) (h : Hp) : RS := (if kH h r0 = 18 then (if (h.2 r0 11) ≤ x3 then (some (.inl (some (.int x2)), h)) else (bI (fX10_isDirty r1 x3 h) fun z4 h3 => (if z4 = 0 then (rec 4 [.ref r0, .ref r1, .int (x2 ||| 0), .int (x3 + 1)] [] h3) else (rec 4 [.ref r0, .ref r1, .int (x2 ||| (1 <<< (x3 &&& 31))), .int (x3 + 1)] [] h3)))) else none)
theorem uX10_dirty_4 {G : GG} {d : Nat} (hd : 3 ≤ d) (rec : Nat → List Value → List Value → Hp → RS) (hrec : ∀ pc loc st h o h', rec pc loc st h = some (o, h') → V G mX10_dirty d pc loc st h o h')   {r0  r1  x2  x3 } {h : Hp} {o : OU} {h' : Hp} (e : kX10_dirty_4 rec  r0 r1 x2 x3 h = some (o, h')) : V G mX10_dirty d 4 [.ref r0, .ref r1, .int x2, .int x3] [] h o h' := by
  unfold kX10_dirty_4 at e
  refine bX10_dirty_4 r0 r1 x2 x3 (by omega) ?_
  obtain ⟨q1, e⟩ := ob_e e
  refine ⟨q1, ?_⟩
  refine ⟨fun c2 => ?_, fun c2 => ?_⟩
  · have e := if_t e c2
    cases e
    exact ⟨rfl, rfl⟩
  · have e := if_f e c2
    obtain ⟨z4, h3, e3, e⟩ := bI_e e
    refine ⟨z4, h3, (tX10_isDirty e3 (by omega)), ?_⟩
    refine ⟨fun c4 => ?_, fun c4 => ?_⟩
    · have e := if_t e c4
      exact hrec _ _ _ _ _ _ e
    · have e := if_f e c4
      exact hrec _ _ _ _ _ _ e
def sX10_dirty  (rec : Nat → List Value → List Value → Hp → RS) (pc : Nat) (loc st : List Value) (h : Hp) : RS := match pc, loc, st with
  | 4, [.ref r0, .ref r1, .int x2, .int x3], [] => kX10_dirty_4 rec  r0 r1 x2 x3 h
  | _, _, _ => none
def gX10_dirty  : Nat → Nat → List Value → List Value → Hp → RS
  | 0 => fun _ _ _ _ => none
  | n + 1 => sX10_dirty  (gX10_dirty  n)
theorem wX10_dirty {G : GG} {d : Nat} (hd : 3 ≤ d)   : ∀ (n pc : Nat) (loc st : List Value) (h : Hp) (o : OU) (h' : Hp), gX10_dirty  n pc loc st h = some (o, h') → V G mX10_dirty d pc loc st h o h' := by
  intro n
  induction n with
  | zero => intro pc loc st h o h' e; cases e
  | succ n ih =>
    intro pc loc st h o h' e
    unfold gX10_dirty sX10_dirty at e
    split at e
    · exact uX10_dirty_4 hd _ ih   e
    · cases e
theorem zX10_dirty_4  (n : Nat) (r0 : Nat) (r1 : Nat) (x2 : Int32) (x3 : Int32)  (h : Hp) : gX10_dirty  (n + 1) 4 [.ref r0, .ref r1, .int x2, .int x3] [] h = kX10_dirty_4 (gX10_dirty  n)  r0 r1 x2 x3 h := rfl
def fX10_dirty (r0 : Nat) (r1 : Nat) (h : Hp) : RS := kX10_dirty_0 (gX10_dirty FF) r0 r1 h
theorem tX10_dirty {G : GG} {d : Nat} {r0 r1} {h : Hp} {o : OU} {h' : Hp} (e : fX10_dirty r0 r1 h = some (o, h')) (hd : 3 ≤ d) : VM G mX10_dirty d [.ref r0, .ref r1] h o h' := uX10_dirty_0 hd _ (wX10_dirty hd FF) e
def kX10_leaking_0 (rec : Nat → List Value → List Value → Hp → RS)  (r0 : Nat) (r1 : Nat) (x2 : Int32) (h : Hp) : RS := (bI (fX10_reached r1 x2 h) fun z2 h1 => (rec 12 [.ref r0, .ref r1, .int x2, .int 0, .int z2, .int 4] [] h1))
theorem uX10_leaking_0 {G : GG} {d : Nat} (hd : 5 ≤ d) (rec : Nat → List Value → List Value → Hp → RS) (hrec : ∀ pc loc st h o h', rec pc loc st h = some (o, h') → V G mX10_leaking d pc loc st h o h')   {r0  r1  x2 } {h : Hp} {o : OU} {h' : Hp} (e : kX10_leaking_0 rec  r0 r1 x2 h = some (o, h')) : VM G mX10_leaking d [.ref r0, .ref r1, .int x2] h o h' := by
  unfold kX10_leaking_0 at e
  refine eX10_leaking r0 r1 x2 (by omega) ?_
  obtain ⟨z2, h1, e1, e⟩ := bI_e e
  refine ⟨z2, h1, (tX10_reached e1 (by omega)), ?_⟩
  exact hrec _ _ _ _ _ _ e
def kX10_leaking_12 (rec : Nat → List Value → List Value → Hp → RS)  (r0 : Nat) (r1 : Nat) (x2 : Int32) (x3 : Int32) (x4 : Int32) (x5 : Int32) (h : Hp) : RS := (if kH h r0 = 18 then (if (h.2 r0 11) ≤ x5 then (some (.inl (some (.int x3)), h)) else (if kH h r1 = 1 then (if inB (x2 + x5) (lH h r1) = true then (if (h.2 r1 (x2 + x5).toNatClampNeg) = 0 then (rec 12 [.ref r0, .ref r1, .int x2, .int (x3 ||| 0), .int x4, .int (x5 + 1)] [] h) else (bI (fX10_pointer r1 x2 x4 x5 h) fun z7 h6 => (if ¬ z7 = (-1) then (rec 12 [.ref r0, .ref r1, .int x2, .int (x3 ||| 0), .int x4, .int (x5 + 1)] [] h6) else (rec 12 [.ref r0, .ref r1, .int x2, .int (x3 ||| (1 <<< (x5 &&& 31))), .int x4, .int (x5 + 1)] [] h6)))) else none) else none)) else none)
theorem uX10_leaking_12 {G : GG} {d : Nat} (hd : 5 ≤ d) (rec : Nat → List Value → List Value → Hp → RS) (hrec : ∀ pc loc st h o h', rec pc loc st h = some (o, h') → V G mX10_leaking d pc loc st h o h')   {r0  r1  x2  x3  x4  x5 } {h : Hp} {o : OU} {h' : Hp} (e : kX10_leaking_12 rec  r0 r1 x2 x3 x4 x5 h = some (o, h')) : V G mX10_leaking d 12 [.ref r0, .ref r1, .int x2, .int x3, .int x4, .int x5] [] h o h' := by
  unfold kX10_leaking_12 at e
  refine bX10_leaking_12 r0 r1 x2 x3 x4 x5 (by omega) ?_
  obtain ⟨q1, e⟩ := ob_e e
  refine ⟨q1, ?_⟩
  refine ⟨fun c2 => ?_, fun c2 => ?_⟩
  · have e := if_t e c2
    cases e
    exact ⟨rfl, rfl⟩
  · have e := if_f e c2
    obtain ⟨q3, e⟩ := ob_e e
    refine ⟨q3, ?_⟩
    obtain ⟨q4, e⟩ := ob_in e
    refine ⟨q4, ?_⟩
    refine ⟨fun c5 => ?_, fun c5 => ?_⟩
    · have e := if_t e c5
      exact hrec _ _ _ _ _ _ e
    · have e := if_f e c5
      obtain ⟨z7, h6, e6, e⟩ := bI_e e
      refine ⟨z7, h6, (tX10_pointer e6 (by omega)), ?_⟩
      refine ⟨fun c7 => ?_, fun c7 => ?_⟩
      · have e := if_t e c7
        exact hrec _ _ _ _ _ _ e
      · have e := if_n e c7
        exact hrec _ _ _ _ _ _ e
def sX10_leaking  (rec : Nat → List Value → List Value → Hp → RS) (pc : Nat) (loc st : List Value) (h : Hp) : RS := match pc, loc, st with
  | 12, [.ref r0, .ref r1, .int x2, .int x3, .int x4, .int x5], [] => kX10_leaking_12 rec  r0 r1 x2 x3 x4 x5 h
  | _, _, _ => none
def gX10_leaking  : Nat → Nat → List Value → List Value → Hp → RS
  | 0 => fun _ _ _ _ => none
  | n + 1 => sX10_leaking  (gX10_leaking  n)
theorem wX10_leaking {G : GG} {d : Nat} (hd : 5 ≤ d)   : ∀ (n pc : Nat) (loc st : List Value) (h : Hp) (o : OU) (h' : Hp), gX10_leaking  n pc loc st h = some (o, h') → V G mX10_leaking d pc loc st h o h' := by
  intro n
  induction n with
  | zero => intro pc loc st h o h' e; cases e
  | succ n ih =>
    intro pc loc st h o h' e
    unfold gX10_leaking sX10_leaking at e
    split at e
    · exact uX10_leaking_12 hd _ ih   e
    · cases e
theorem zX10_leaking_12  (n : Nat) (r0 : Nat) (r1 : Nat) (x2 : Int32) (x3 : Int32) (x4 : Int32) (x5 : Int32)  (h : Hp) : gX10_leaking  (n + 1) 12 [.ref r0, .ref r1, .int x2, .int x3, .int x4, .int x5] [] h = kX10_leaking_12 (gX10_leaking  n)  r0 r1 x2 x3 x4 x5 h := rfl
def fX10_leaking (r0 : Nat) (r1 : Nat) (x2 : Int32) (h : Hp) : RS := kX10_leaking_0 (gX10_leaking FF) r0 r1 x2 h
theorem tX10_leaking {G : GG} {d : Nat} {r0 r1 x2} {h : Hp} {o : OU} {h' : Hp} (e : fX10_leaking r0 r1 x2 h = some (o, h')) (hd : 5 ≤ d) : VM G mX10_leaking d [.ref r0, .ref r1, .int x2] h o h' := uX10_leaking_0 hd _ (wX10_leaking hd FF) e
def kX10_ones_0 (rec : Nat → List Value → List Value → Hp → RS)  (x0 : Int32) (h : Hp) : RS := (rec 4 [.int x0, .int 0, .int 0] [] h)
theorem uX10_ones_0 {G : GG} {d : Nat} (hd : 1 ≤ d) (rec : Nat → List Value → List Value → Hp → RS) (hrec : ∀ pc loc st h o h', rec pc loc st h = some (o, h') → V G mX10_ones d pc loc st h o h')   {x0 } {h : Hp} {o : OU} {h' : Hp} (e : kX10_ones_0 rec  x0 h = some (o, h')) : VM G mX10_ones d [.int x0] h o h' := by
  unfold kX10_ones_0 at e
  refine eX10_ones x0 ?_
  exact hrec _ _ _ _ _ _ e
def kX10_ones_4 (rec : Nat → List Value → List Value → Hp → RS)  (x0 : Int32) (x1 : Int32) (x2 : Int32) (h : Hp) : RS := (if 16 ≤ x2 then (some (.inl (some (.int x1)), h)) else (rec 4 [.int x0, .int (x1 + ((x0 >>> (x2 &&& 31)) &&& 1)), .int (x2 + 1)] [] h))
theorem uX10_ones_4 {G : GG} {d : Nat} (hd : 1 ≤ d) (rec : Nat → List Value → List Value → Hp → RS) (hrec : ∀ pc loc st h o h', rec pc loc st h = some (o, h') → V G mX10_ones d pc loc st h o h')   {x0  x1  x2 } {h : Hp} {o : OU} {h' : Hp} (e : kX10_ones_4 rec  x0 x1 x2 h = some (o, h')) : V G mX10_ones d 4 [.int x0, .int x1, .int x2] [] h o h' := by
  unfold kX10_ones_4 at e
  refine bX10_ones_4 x0 x1 x2 ?_
  refine ⟨fun c1 => ?_, fun c1 => ?_⟩
  · have e := if_t e c1
    cases e
    exact ⟨rfl, rfl⟩
  · have e := if_f e c1
    exact hrec _ _ _ _ _ _ e
def sX10_ones  (rec : Nat → List Value → List Value → Hp → RS) (pc : Nat) (loc st : List Value) (h : Hp) : RS := match pc, loc, st with
  | 4, [.int x0, .int x1, .int x2], [] => kX10_ones_4 rec  x0 x1 x2 h
  | _, _, _ => none
def gX10_ones  : Nat → Nat → List Value → List Value → Hp → RS
  | 0 => fun _ _ _ _ => none
  | n + 1 => sX10_ones  (gX10_ones  n)
theorem wX10_ones {G : GG} {d : Nat} (hd : 1 ≤ d)   : ∀ (n pc : Nat) (loc st : List Value) (h : Hp) (o : OU) (h' : Hp), gX10_ones  n pc loc st h = some (o, h') → V G mX10_ones d pc loc st h o h' := by
  intro n
  induction n with
  | zero => intro pc loc st h o h' e; cases e
  | succ n ih =>
    intro pc loc st h o h' e
    unfold gX10_ones sX10_ones at e
    split at e
    · exact uX10_ones_4 hd _ ih   e
    · cases e
theorem zX10_ones_4  (n : Nat) (x0 : Int32) (x1 : Int32) (x2 : Int32)  (h : Hp) : gX10_ones  (n + 1) 4 [.int x0, .int x1, .int x2] [] h = kX10_ones_4 (gX10_ones  n)  x0 x1 x2 h := rfl
def fX10_ones (x0 : Int32) (h : Hp) : RS := kX10_ones_0 (gX10_ones FF) x0 h
theorem tX10_ones {G : GG} {d : Nat} {x0} {h : Hp} {o : OU} {h' : Hp} (e : fX10_ones x0 h = some (o, h')) (hd : 1 ≤ d) : VM G mX10_ones d [.int x0] h o h' := uX10_ones_0 hd _ (wX10_ones hd FF) e
def kX10_goes_0 (rec : Nat → List Value → List Value → Hp → RS) (FX10_goes : Nat → Int32 → Int32 → Hp → RS) (r0 : Nat) (x1 : Int32) (x2 : Int32) (h : Hp) : RS := (rec 2 [.ref r0, uV, .int x2, .int x1, uV] [] h)
theorem uX10_goes_0 {G : GG} {d : Nat} (hd : 10 ≤ d) (rec : Nat → List Value → List Value → Hp → RS) (hrec : ∀ pc loc st h o h', rec pc loc st h = some (o, h') → V G mX10_goes d pc loc st h o h') (FX10_goes : Nat → Int32 → Int32 → Hp → RS) (TFX10_goes : ∀ {a0 a1 a2} {h : Hp} {o : OU} {h' : Hp}, FX10_goes a0 a1 a2 h = some (o, h') → VM G mX10_goes (d - 1) [.ref a0, .int a1, .int a2] h o h') {r0  x1  x2 } {h : Hp} {o : OU} {h' : Hp} (e : kX10_goes_0 rec FX10_goes r0 x1 x2 h = some (o, h')) : VM G mX10_goes d [.ref r0, .int x1, .int x2] h o h' := by
  unfold kX10_goes_0 at e
  refine eX10_goes r0 x1 x2 ?_
  exact hrec _ _ _ _ _ _ e
def kX10_goes_2 (rec : Nat → List Value → List Value → Hp → RS) (FX10_goes : Nat → Int32 → Int32 → Hp → RS) (r0 : Nat) (x2 : Int32) (x3 : Int32) (h : Hp) : RS := (if x2 ≤ x3 then (some (.inl none, h)) else (if kH h r0 = 18 then (if 200 ≤ (h.2 r0 31) then (some (.inl none, h)) else (if kH h (rH h r0 21) = 7 then (if inB x3 (lH h (rH h r0 21)) = true then (if kH h (rH h (rH h r0 21) x3.toNatClampNeg) = 1 then (if inB 0 (lH h (rH h (rH h r0 21) x3.toNatClampNeg)) = true then (if ¬ ((upI h.2 r0 31 ((h.2 r0 31) + 1)) (rH h (rH h r0 21) x3.toNatClampNeg) 0) = 11 then (bI (fX10_does r0 (rH h r0 22) (rH h (rH h r0 21) x3.toNatClampNeg) (h.1, (upI h.2 r0 31 ((h.2 r0 31) + 1)))) fun z10 h9 => (if kH h9 r0 = 18 then (if z10 = 0 then (rec 121 [.ref r0, uV, .int x2, .int x3, .int z10] [.int 0, .int (h9.2 r0 32), .ref r0] h9) else (rec 121 [.ref r0, uV, .int x2, .int x3, .int z10] [.int 1, .int (h9.2 r0 32), .ref r0] h9)) else none)) else (rec 43 [.ref r0, uV, .int x2, .int x3, .int 0] [] (h.1, (upI h.2 r0 31 ((h.2 r0 31) + 1))))) else none) else none) else none) else none)) else none))
theorem uX10_goes_2 {G : GG} {d : Nat} (hd : 10 ≤ d) (rec : Nat → List Value → List Value → Hp → RS) (hrec : ∀ pc loc st h o h', rec pc loc st h = some (o, h') → V G mX10_goes d pc loc st h o h') (FX10_goes : Nat → Int32 → Int32 → Hp → RS) (TFX10_goes : ∀ {a0 a1 a2} {h : Hp} {o : OU} {h' : Hp}, FX10_goes a0 a1 a2 h = some (o, h') → VM G mX10_goes (d - 1) [.ref a0, .int a1, .int a2] h o h') {r0  x2  x3 } {h : Hp} {o : OU} {h' : Hp} (e : kX10_goes_2 rec FX10_goes r0 x2 x3 h = some (o, h')) : V G mX10_goes d 2 [.ref r0, uV, .int x2, .int x3, uV] [] h o h' := by
  unfold kX10_goes_2 at e
  refine bX10_goes_2 r0 x2 x3 (by omega) ?_
  refine ⟨fun c1 => ?_, fun c1 => ?_⟩
  · have e := if_t e c1
    cases e
    exact ⟨rfl, rfl⟩
  · have e := if_f e c1
    obtain ⟨q2, e⟩ := ob_e e
    refine ⟨q2, ?_⟩
    refine ⟨fun c3 => ?_, fun c3 => ?_⟩
    · have e := if_t e c3
      cases e
      exact ⟨rfl, rfl⟩
    · have e := if_f e c3
      obtain ⟨q4, e⟩ := ob_e e
      refine ⟨q4, ?_⟩
      obtain ⟨q5, e⟩ := ob_in e
      refine ⟨q5, ?_⟩
      obtain ⟨q6, e⟩ := ob_e e
      refine ⟨q6, ?_⟩
      obtain ⟨q7, e⟩ := ob_in e
      refine ⟨q7, ?_⟩
      refine ⟨fun c8 => ?_, fun c8 => ?_⟩
      · have e := if_t e c8
        obtain ⟨z10, h9, e9, e⟩ := bI_e e
        refine ⟨z10, h9, (tX10_does e9 (by omega)), ?_⟩
        obtain ⟨q10, e⟩ := ob_e e
        refine ⟨q10, ?_⟩
        refine ⟨fun c11 => ?_, fun c11 => ?_⟩
        · have e := if_t e c11
          exact hrec _ _ _ _ _ _ e
        · have e := if_f e c11
          exact hrec _ _ _ _ _ _ e
      · have e := if_n e c8
        exact hrec _ _ _ _ _ _ e
def kX10_goes_43 (rec : Nat → List Value → List Value → Hp → RS) (FX10_goes : Nat → Int32 → Int32 → Hp → RS) (r0 : Nat) (x2 : Int32) (x3 : Int32) (x4 : Int32) (h : Hp) : RS := (if kH h r0 = 18 then (if kH h (rH h r0 21) = 7 then (if inB x3 (lH h (rH h r0 21)) = true then (if kH h (rH h (rH h r0 21) x3.toNatClampNeg) = 1 then (if inB 1 (lH h (rH h (rH h r0 21) x3.toNatClampNeg)) = true then (if (h.2 (rH h (rH h r0 21) x3.toNatClampNeg) 1) ≤ x4 then (if inB 4 (lH h (rH h (rH h r0 21) x3.toNatClampNeg)) = true then (rec 2 [.ref r0, uV, .int x2, .int (h.2 (rH h (rH h r0 21) x3.toNatClampNeg) 4), uV] [] h) else none) else (if 200 ≤ (h.2 r0 31) then (if inB 4 (lH h (rH h (rH h r0 21) x3.toNatClampNeg)) = true then (rec 2 [.ref r0, uV, .int x2, .int (h.2 (rH h (rH h r0 21) x3.toNatClampNeg) 4), uV] [] h) else none) else (if inB 4 (lH h (rH h (rH h r0 21) x3.toNatClampNeg)) = true then (bV (FX10_goes r0 (x3 + 1) (h.2 (rH h (rH h r0 21) x3.toNatClampNeg) 4) h) fun h11 => (rec 43 [.ref r0, uV, .int x2, .int x3, .int (x4 + 1)] [] h11)) else none))) else none) else none) else none) else none) else none)
theorem uX10_goes_43 {G : GG} {d : Nat} (hd : 10 ≤ d) (rec : Nat → List Value → List Value → Hp → RS) (hrec : ∀ pc loc st h o h', rec pc loc st h = some (o, h') → V G mX10_goes d pc loc st h o h') (FX10_goes : Nat → Int32 → Int32 → Hp → RS) (TFX10_goes : ∀ {a0 a1 a2} {h : Hp} {o : OU} {h' : Hp}, FX10_goes a0 a1 a2 h = some (o, h') → VM G mX10_goes (d - 1) [.ref a0, .int a1, .int a2] h o h') {r0  x2  x3  x4 } {h : Hp} {o : OU} {h' : Hp} (e : kX10_goes_43 rec FX10_goes r0 x2 x3 x4 h = some (o, h')) : V G mX10_goes d 43 [.ref r0, uV, .int x2, .int x3, .int x4] [] h o h' := by
  unfold kX10_goes_43 at e
  refine bX10_goes_43 r0 x2 x3 x4 (by omega) ?_
  obtain ⟨q1, e⟩ := ob_e e
  refine ⟨q1, ?_⟩
  obtain ⟨q2, e⟩ := ob_e e
  refine ⟨q2, ?_⟩
  obtain ⟨q3, e⟩ := ob_in e
  refine ⟨q3, ?_⟩
  obtain ⟨q4, e⟩ := ob_e e
  refine ⟨q4, ?_⟩
  obtain ⟨q5, e⟩ := ob_in e
  refine ⟨q5, ?_⟩
  refine ⟨fun c6 => ?_, fun c6 => ?_⟩
  · have e := if_t e c6
    obtain ⟨q7, e⟩ := ob_in e
    refine ⟨q7, ?_⟩
    exact hrec _ _ _ _ _ _ e
  · have e := if_f e c6
    refine ⟨fun c8 => ?_, fun c8 => ?_⟩
    · have e := if_t e c8
      obtain ⟨q9, e⟩ := ob_in e
      refine ⟨q9, ?_⟩
      exact hrec _ _ _ _ _ _ e
    · have e := if_f e c8
      obtain ⟨q10, e⟩ := ob_in e
      refine ⟨q10, ?_⟩
      obtain ⟨h11, e11, e⟩ := bV_e e
      refine ⟨h11, (TFX10_goes e11), ?_⟩
      exact hrec _ _ _ _ _ _ e
def kX10_goes_121 (rec : Nat → List Value → List Value → Hp → RS) (FX10_goes : Nat → Int32 → Int32 → Hp → RS) (r0 : Nat) (x2 : Int32) (x3 : Int32) (x4 : Int32) (s0 : Int32) (s1 : Int32) (t2 : Nat) (h : Hp) : RS := (if kH h t2 = 18 then (if kH h r0 = 18 then (if x4 = 0 then (if kH h (rH h r0 21) = 7 then (if inB x3 (lH h (rH h r0 21)) = true then (if kH h (rH h (rH h r0 21) x3.toNatClampNeg) = 1 then (if inB 4 (lH h (rH h (rH h r0 21) x3.toNatClampNeg)) = true then (rec 2 [.ref r0, uV, .int x2, .int ((upI (upI h.2 t2 32 (s1 + s0)) r0 15 (((upI h.2 t2 32 (s1 + s0)) r0 15) + 1)) (rH h (rH h r0 21) x3.toNatClampNeg) 4), uV] [] (h.1, (upI (upI h.2 t2 32 (s1 + s0)) r0 15 (((upI h.2 t2 32 (s1 + s0)) r0 15) + 1)))) else none) else none) else none) else none) else (if kH h (rH h r0 21) = 7 then (if inB x3 (lH h (rH h r0 21)) = true then (if kH h (rH h (rH h r0 21) x3.toNatClampNeg) = 1 then (if inB 4 (lH h (rH h (rH h r0 21) x3.toNatClampNeg)) = true then (rec 2 [.ref r0, uV, .int x2, .int ((upI (upI h.2 t2 32 (s1 + s0)) r0 15 (((upI h.2 t2 32 (s1 + s0)) r0 15) + 0)) (rH h (rH h r0 21) x3.toNatClampNeg) 4), uV] [] (h.1, (upI (upI h.2 t2 32 (s1 + s0)) r0 15 (((upI h.2 t2 32 (s1 + s0)) r0 15) + 0)))) else none) else none) else none) else none)) else none) else none)
theorem uX10_goes_121 {G : GG} {d : Nat} (hd : 10 ≤ d) (rec : Nat → List Value → List Value → Hp → RS) (hrec : ∀ pc loc st h o h', rec pc loc st h = some (o, h') → V G mX10_goes d pc loc st h o h') (FX10_goes : Nat → Int32 → Int32 → Hp → RS) (TFX10_goes : ∀ {a0 a1 a2} {h : Hp} {o : OU} {h' : Hp}, FX10_goes a0 a1 a2 h = some (o, h') → VM G mX10_goes (d - 1) [.ref a0, .int a1, .int a2] h o h') {r0  x2  x3  x4  s0  s1  t2 } {h : Hp} {o : OU} {h' : Hp} (e : kX10_goes_121 rec FX10_goes r0 x2 x3 x4 s0 s1 t2 h = some (o, h')) : V G mX10_goes d 121 [.ref r0, uV, .int x2, .int x3, .int x4] [.int s0, .int s1, .ref t2] h o h' := by
  unfold kX10_goes_121 at e
  refine bX10_goes_121 r0 x2 x3 x4 s0 s1 t2 ?_
  obtain ⟨q1, e⟩ := ob_e e
  refine ⟨q1, ?_⟩
  obtain ⟨q2, e⟩ := ob_e e
  refine ⟨q2, ?_⟩
  refine ⟨fun c3 => ?_, fun c3 => ?_⟩
  · have e := if_t e c3
    obtain ⟨q4, e⟩ := ob_e e
    refine ⟨q4, ?_⟩
    obtain ⟨q5, e⟩ := ob_in e
    refine ⟨q5, ?_⟩
    obtain ⟨q6, e⟩ := ob_e e
    refine ⟨q6, ?_⟩
    obtain ⟨q7, e⟩ := ob_in e
    refine ⟨q7, ?_⟩
    exact hrec _ _ _ _ _ _ e
  · have e := if_f e c3
    obtain ⟨q8, e⟩ := ob_e e
    refine ⟨q8, ?_⟩
    obtain ⟨q9, e⟩ := ob_in e
    refine ⟨q9, ?_⟩
    obtain ⟨q10, e⟩ := ob_e e
    refine ⟨q10, ?_⟩
    obtain ⟨q11, e⟩ := ob_in e
    refine ⟨q11, ?_⟩
    exact hrec _ _ _ _ _ _ e
def sX10_goes (FX10_goes : Nat → Int32 → Int32 → Hp → RS) (rec : Nat → List Value → List Value → Hp → RS) (pc : Nat) (loc st : List Value) (h : Hp) : RS := match pc, loc, st with
  | 2, [.ref r0, _, .int x2, .int x3, _], [] => kX10_goes_2 rec FX10_goes r0 x2 x3 h
  | 43, [.ref r0, _, .int x2, .int x3, .int x4], [] => kX10_goes_43 rec FX10_goes r0 x2 x3 x4 h
  | 121, [.ref r0, _, .int x2, .int x3, .int x4], [.int s0, .int s1, .ref t2] => kX10_goes_121 rec FX10_goes r0 x2 x3 x4 s0 s1 t2 h
  | _, _, _ => none
def gX10_goes (FX10_goes : Nat → Int32 → Int32 → Hp → RS) : Nat → Nat → List Value → List Value → Hp → RS
  | 0 => fun _ _ _ _ => none
  | n + 1 => sX10_goes FX10_goes (gX10_goes FX10_goes n)
theorem wX10_goes {G : GG} {d : Nat} (hd : 10 ≤ d) (FX10_goes : Nat → Int32 → Int32 → Hp → RS) (TFX10_goes : ∀ {a0 a1 a2} {h : Hp} {o : OU} {h' : Hp}, FX10_goes a0 a1 a2 h = some (o, h') → VM G mX10_goes (d - 1) [.ref a0, .int a1, .int a2] h o h') : ∀ (n pc : Nat) (loc st : List Value) (h : Hp) (o : OU) (h' : Hp), gX10_goes FX10_goes n pc loc st h = some (o, h') → V G mX10_goes d pc loc st h o h' := by
  intro n
  induction n with
  | zero => intro pc loc st h o h' e; cases e
  | succ n ih =>
    intro pc loc st h o h' e
    unfold gX10_goes sX10_goes at e
    split at e
    · exact V.drop (llp_r (llp_u (llp_r (llp_r (llp_u llp_nil))))) (uX10_goes_2 hd _ ih _ TFX10_goes e)
    · exact V.drop (llp_r (llp_u (llp_r (llp_r (llp_r llp_nil))))) (uX10_goes_43 hd _ ih _ TFX10_goes e)
    · exact V.drop (llp_r (llp_u (llp_r (llp_r (llp_r llp_nil))))) (uX10_goes_121 hd _ ih _ TFX10_goes e)
    · cases e
theorem zX10_goes_2 (FX10_goes : Nat → Int32 → Int32 → Hp → RS) (n : Nat) (r0 : Nat) (x2 : Int32) (x3 : Int32) (y1 : Value) (y4 : Value) (h : Hp) : gX10_goes FX10_goes (n + 1) 2 [.ref r0, y1, .int x2, .int x3, y4] [] h = kX10_goes_2 (gX10_goes FX10_goes n) FX10_goes r0 x2 x3 h := rfl
theorem zX10_goes_43 (FX10_goes : Nat → Int32 → Int32 → Hp → RS) (n : Nat) (r0 : Nat) (x2 : Int32) (x3 : Int32) (x4 : Int32) (y1 : Value) (h : Hp) : gX10_goes FX10_goes (n + 1) 43 [.ref r0, y1, .int x2, .int x3, .int x4] [] h = kX10_goes_43 (gX10_goes FX10_goes n) FX10_goes r0 x2 x3 x4 h := rfl
theorem zX10_goes_121 (FX10_goes : Nat → Int32 → Int32 → Hp → RS) (n : Nat) (r0 : Nat) (x2 : Int32) (x3 : Int32) (x4 : Int32) (s0 : Int32) (s1 : Int32) (t2 : Nat) (y1 : Value) (h : Hp) : gX10_goes FX10_goes (n + 1) 121 [.ref r0, y1, .int x2, .int x3, .int x4] [.int s0, .int s1, .ref t2] h = kX10_goes_121 (gX10_goes FX10_goes n) FX10_goes r0 x2 x3 x4 s0 s1 t2 h := rfl
def rX10_goes : Nat → (Nat → Int32 → Int32 → Hp → RS)
  | 0 => fun _ _ _ _ => none
  | n + 1 => fun a0 a1 a2 h => kX10_goes_0 (gX10_goes ((rX10_goes n)) FF) ((rX10_goes n)) a0 a1 a2 h
theorem rtX10_goes {G : GG} : ∀ (n d : Nat), 10 + n ≤ d → (∀ (a0 : Nat) (a1 : Int32) (a2 : Int32) (h : Hp) (o : OU) (h' : Hp), (rX10_goes n) a0 a1 a2 h = some (o, h') → VM G mX10_goes d [.ref a0, .int a1, .int a2] h o h') := by
  intro n
  induction n with
  | zero => intro d hd; exact fun _ _ _ _ _ _ e => (by cases e)
  | succ n ih =>
    intro d hd
    have ih := ih (d - 1) (by omega)
    exact fun _ _ _ _ _ _ e => uX10_goes_0 (by omega) _ (wX10_goes (by omega) _ (@fun _ _ _ _ _ _ e => ih _ _ _ _ _ _ e) FF) _ (@fun _ _ _ _ _ _ e => ih _ _ _ _ _ _ e) e
def fX10_goes (a0 : Nat) (a1 : Int32) (a2 : Int32) (h : Hp) : RS := (rX10_goes 40) a0 a1 a2 h
theorem tX10_goes {G : GG} {d : Nat} {a0 a1 a2} {h : Hp} {o : OU} {h' : Hp} (e : fX10_goes a0 a1 a2 h = some (o, h')) (hd : 10 + 40 ≤ d) : VM G mX10_goes d [.ref a0, .int a1, .int a2] h o h' := (rtX10_goes 40 d hd) _ _ _ _ _ _ e
def kX10_work_0 (rec : Nat → List Value → List Value → Hp → RS)  (r0 : Nat) (x1 : Int32) (h : Hp) : RS := (if kH h r0 = 18 then (bI (fX10_in x1 0 ((upI h.2 r0 0 0) r0 1) (h.1, (upI h.2 r0 0 0))) fun z3 h2 => (if z3 = 0 then (if kH h2 r0 = 18 then (bI (fX10_bad r0 1 1 1 h2) fun z7 h6 => (if z7 = 0 then (if kH h6 r0 = 18 then (if ¬ (h6.2 r0 14) = 16 then (bV (fX10_starts r0 x1 h6) fun h13 => (if kH h13 r0 = 18 then (rec 72 [.ref r0, uV] [] (h13.1, (upI h13.2 r0 18 0))) else none)) else (some (.inl (some (.int (-20))), (h6.1, (upI (upI h6.2 r0 1 0) r0 3 (-1)))))) else none) else (some (.inl (some (.int 0)), h6)))) else none) else (if x1 ≤ 150 then (if kH h2 r0 = 18 then (bI (fX10_bad r0 0 1 1 h2) fun z18 h17 => (if z18 = 0 then (if kH h17 r0 = 18 then (if ¬ (h17.2 r0 14) = 16 then (bV (fX10_starts r0 x1 h17) fun h24 => (if kH h24 r0 = 18 then (rec 72 [.ref r0, uV] [] (h24.1, (upI h24.2 r0 18 0))) else none)) else (some (.inl (some (.int (-20))), (h17.1, (upI (upI h17.2 r0 1 0) r0 3 (-1)))))) else none) else (some (.inl (some (.int 0)), h17)))) else none) else (if kH h2 r0 = 18 then (bI (fX10_bad r0 1 1 1 h2) fun z28 h27 => (if z28 = 0 then (if kH h27 r0 = 18 then (if ¬ (h27.2 r0 14) = 16 then (bV (fX10_starts r0 x1 h27) fun h34 => (if kH h34 r0 = 18 then (rec 72 [.ref r0, uV] [] (h34.1, (upI h34.2 r0 18 0))) else none)) else (some (.inl (some (.int (-20))), (h27.1, (upI (upI h27.2 r0 1 0) r0 3 (-1)))))) else none) else (some (.inl (some (.int 0)), h27)))) else none)))) else none)
theorem uX10_work_0 {G : GG} {d : Nat} (hd : 51 ≤ d) (rec : Nat → List Value → List Value → Hp → RS) (hrec : ∀ pc loc st h o h', rec pc loc st h = some (o, h') → V G mX10_work d pc loc st h o h')   {r0  x1 } {h : Hp} {o : OU} {h' : Hp} (e : kX10_work_0 rec  r0 x1 h = some (o, h')) : VM G mX10_work d [.ref r0, .int x1] h o h' := by
  unfold kX10_work_0 at e
  refine eX10_work r0 x1 (by omega) ?_
  obtain ⟨q1, e⟩ := ob_e e
  refine ⟨q1, ?_⟩
  obtain ⟨z3, h2, e2, e⟩ := bI_e e
  refine ⟨z3, h2, (tX10_in e2 (by omega)), ?_⟩
  refine ⟨fun c3 => ?_, fun c3 => ?_⟩
  · have e := if_t e c3
    obtain ⟨q4, e⟩ := ob_e e
    refine ⟨q4, ?_⟩
    obtain ⟨z7, h6, e5, e⟩ := bI_e e
    refine ⟨z7, h6, (tX10_bad e5 (by omega)), ?_⟩
    refine ⟨fun c6 => ?_, fun c6 => ?_⟩
    · have e := if_t e c6
      obtain ⟨q7, e⟩ := ob_e e
      refine ⟨q7, ?_⟩
      refine ⟨fun c8 => ?_, fun c8 => ?_⟩
      · have e := if_t e c8
        obtain ⟨h13, e9, e⟩ := bV_e e
        refine ⟨h13, (tX10_starts e9 (by omega)), ?_⟩
        obtain ⟨q10, e⟩ := ob_e e
        refine ⟨q10, ?_⟩
        exact hrec _ _ _ _ _ _ e
      · have e := if_n e c8
        cases e
        exact ⟨rfl, rfl⟩
    · have e := if_f e c6
      cases e
      exact ⟨rfl, rfl⟩
  · have e := if_f e c3
    refine ⟨fun c11 => ?_, fun c11 => ?_⟩
    · have e := if_t e c11
      obtain ⟨q12, e⟩ := ob_e e
      refine ⟨q12, ?_⟩
      obtain ⟨z18, h17, e13, e⟩ := bI_e e
      refine ⟨z18, h17, (tX10_bad e13 (by omega)), ?_⟩
      refine ⟨fun c14 => ?_, fun c14 => ?_⟩
      · have e := if_t e c14
        obtain ⟨q15, e⟩ := ob_e e
        refine ⟨q15, ?_⟩
        refine ⟨fun c16 => ?_, fun c16 => ?_⟩
        · have e := if_t e c16
          obtain ⟨h24, e17, e⟩ := bV_e e
          refine ⟨h24, (tX10_starts e17 (by omega)), ?_⟩
          obtain ⟨q18, e⟩ := ob_e e
          refine ⟨q18, ?_⟩
          exact hrec _ _ _ _ _ _ e
        · have e := if_n e c16
          cases e
          exact ⟨rfl, rfl⟩
      · have e := if_f e c14
        cases e
        exact ⟨rfl, rfl⟩
    · have e := if_f e c11
      obtain ⟨q19, e⟩ := ob_e e
      refine ⟨q19, ?_⟩
      obtain ⟨z28, h27, e20, e⟩ := bI_e e
      refine ⟨z28, h27, (tX10_bad e20 (by omega)), ?_⟩
      refine ⟨fun c21 => ?_, fun c21 => ?_⟩
      · have e := if_t e c21
        obtain ⟨q22, e⟩ := ob_e e
        refine ⟨q22, ?_⟩
        refine ⟨fun c23 => ?_, fun c23 => ?_⟩
        · have e := if_t e c23
          obtain ⟨h34, e24, e⟩ := bV_e e
          refine ⟨h34, (tX10_starts e24 (by omega)), ?_⟩
          obtain ⟨q25, e⟩ := ob_e e
          refine ⟨q25, ?_⟩
          exact hrec _ _ _ _ _ _ e
        · have e := if_n e c23
          cases e
          exact ⟨rfl, rfl⟩
      · have e := if_f e c21
        cases e
        exact ⟨rfl, rfl⟩
def kX10_work_72 (rec : Nat → List Value → List Value → Hp → RS)  (r0 : Nat) (h : Hp) : RS := (if kH h r0 = 18 then (if ¬ (h.2 r0 5) = 0 then (rec 101 [.ref r0, uV] [] h) else (if (h.2 r0 2) ≤ (h.2 r0 4) then (rec 101 [.ref r0, uV] [] h) else (bV (fX10_readsStep r0 h) fun h4 => (if kH h4 r0 = 18 then (bV (fX10_blanks r0 h4) fun h6 => (rec 72 [.ref r0, uV] [] h6)) else none)))) else none)
theorem uX10_work_72 {G : GG} {d : Nat} (hd : 51 ≤ d) (rec : Nat → List Value → List Value → Hp → RS) (hrec : ∀ pc loc st h o h', rec pc loc st h = some (o, h') → V G mX10_work d pc loc st h o h')   {r0 } {h : Hp} {o : OU} {h' : Hp} (e : kX10_work_72 rec  r0 h = some (o, h')) : V G mX10_work d 72 [.ref r0, uV] [] h o h' := by
  unfold kX10_work_72 at e
  refine bX10_work_72 r0 (by omega) ?_
  obtain ⟨q1, e⟩ := ob_e e
  refine ⟨q1, ?_⟩
  refine ⟨fun c2 => ?_, fun c2 => ?_⟩
  · have e := if_t e c2
    exact hrec _ _ _ _ _ _ e
  · have e := if_n e c2
    refine ⟨fun c3 => ?_, fun c3 => ?_⟩
    · have e := if_t e c3
      exact hrec _ _ _ _ _ _ e
    · have e := if_f e c3
      obtain ⟨h4, e4, e⟩ := bV_e e
      refine ⟨h4, (tX10_readsStep e4 (by omega)), ?_⟩
      obtain ⟨q5, e⟩ := ob_e e
      refine ⟨q5, ?_⟩
      obtain ⟨h6, e6, e⟩ := bV_e e
      refine ⟨h6, (tX10_blanks e6 (by omega)), ?_⟩
      exact hrec _ _ _ _ _ _ e
def kX10_work_101 (rec : Nat → List Value → List Value → Hp → RS)  (r0 : Nat) (h : Hp) : RS := (if kH h r0 = 18 then (if (h.2 r0 5) = 0 then (if kH h (rH h r0 24) = 7 then (if inB ((upI h.2 r0 3 (-1)) r0 14) (lH h (rH h r0 24)) = true then (bV (fX10_copies (rH h r0 22) (rH h (rH h r0 24) ((upI h.2 r0 3 (-1)) r0 14).toNatClampNeg) (h.1, (upI h.2 r0 3 (-1)))) fun h5 => (if kH h5 r0 = 18 then (bV (fX10_goes r0 0 ((upI (upI (upI (upI h5.2 r0 14 ((h5.2 r0 14) + 1)) r0 31 0) r0 32 0) r0 15 0) r0 18) (h5.1, (upI (upI (upI (upI h5.2 r0 14 ((h5.2 r0 14) + 1)) r0 31 0) r0 32 0) r0 15 0))) fun h8 => (if kH h8 r0 = 18 then (some (.inl (some (.int (h8.2 r0 32))), h8)) else none)) else none)) else none) else none) else (bI (fX10_ends r0 h) fun z12 h11 => (some (.inl (some (.int z12)), h11)))) else none)
theorem uX10_work_101 {G : GG} {d : Nat} (hd : 51 ≤ d) (rec : Nat → List Value → List Value → Hp → RS) (hrec : ∀ pc loc st h o h', rec pc loc st h = some (o, h') → V G mX10_work d pc loc st h o h')   {r0 } {h : Hp} {o : OU} {h' : Hp} (e : kX10_work_101 rec  r0 h = some (o, h')) : V G mX10_work d 101 [.ref r0, uV] [] h o h' := by
  unfold kX10_work_101 at e
  refine bX10_work_101 r0 (by omega) ?_
  obtain ⟨q1, e⟩ := ob_e e
  refine ⟨q1, ?_⟩
  refine ⟨fun c2 => ?_, fun c2 => ?_⟩
  · have e := if_t e c2
    obtain ⟨q3, e⟩ := ob_e e
    refine ⟨q3, ?_⟩
    obtain ⟨q4, e⟩ := ob_in e
    refine ⟨q4, ?_⟩
    obtain ⟨h5, e5, e⟩ := bV_e e
    refine ⟨h5, (tX10_copies e5 (by omega)), ?_⟩
    obtain ⟨q6, e⟩ := ob_e e
    refine ⟨q6, ?_⟩
    obtain ⟨h8, e7, e⟩ := bV_e e
    refine ⟨h8, (tX10_goes e7 (by omega)), ?_⟩
    obtain ⟨q8, e⟩ := ob_e e
    refine ⟨q8, ?_⟩
    cases e
    exact ⟨rfl, rfl⟩
  · have e := if_f e c2
    obtain ⟨z12, h11, e9, e⟩ := bI_e e
    refine ⟨z12, h11, (tX10_ends e9 (by omega)), ?_⟩
    cases e
    exact ⟨rfl, rfl⟩
def sX10_work  (rec : Nat → List Value → List Value → Hp → RS) (pc : Nat) (loc st : List Value) (h : Hp) : RS := match pc, loc, st with
  | 72, [.ref r0, _], [] => kX10_work_72 rec  r0 h
  | 101, [.ref r0, _], [] => kX10_work_101 rec  r0 h
  | _, _, _ => none
def gX10_work  : Nat → Nat → List Value → List Value → Hp → RS
  | 0 => fun _ _ _ _ => none
  | n + 1 => sX10_work  (gX10_work  n)
theorem wX10_work {G : GG} {d : Nat} (hd : 51 ≤ d)   : ∀ (n pc : Nat) (loc st : List Value) (h : Hp) (o : OU) (h' : Hp), gX10_work  n pc loc st h = some (o, h') → V G mX10_work d pc loc st h o h' := by
  intro n
  induction n with
  | zero => intro pc loc st h o h' e; cases e
  | succ n ih =>
    intro pc loc st h o h' e
    unfold gX10_work sX10_work at e
    split at e
    · exact V.drop (llp_r (llp_u llp_nil)) (uX10_work_72 hd _ ih   e)
    · exact V.drop (llp_r (llp_u llp_nil)) (uX10_work_101 hd _ ih   e)
    · cases e
theorem zX10_work_72  (n : Nat) (r0 : Nat) (y1 : Value) (h : Hp) : gX10_work  (n + 1) 72 [.ref r0, y1] [] h = kX10_work_72 (gX10_work  n)  r0 h := rfl
theorem zX10_work_101  (n : Nat) (r0 : Nat) (y1 : Value) (h : Hp) : gX10_work  (n + 1) 101 [.ref r0, y1] [] h = kX10_work_101 (gX10_work  n)  r0 h := rfl
def fX10_work (r0 : Nat) (x1 : Int32) (h : Hp) : RS := kX10_work_0 (gX10_work FF) r0 x1 h
theorem tX10_work {G : GG} {d : Nat} {r0 x1} {h : Hp} {o : OU} {h' : Hp} (e : fX10_work r0 x1 h = some (o, h')) (hd : 51 ≤ d) : VM G mX10_work d [.ref r0, .int x1] h o h' := uX10_work_0 hd _ (wX10_work hd FF) e
def kX10_undo_0  (r0 : Nat) (h : Hp) : RS := (if kH h r0 = 18 then (if ¬ ((upI h.2 r0 0 0) r0 14) = 0 then (if kH h (rH h r0 24) = 7 then (if inB ((upI (upI h.2 r0 0 0) r0 14 (((upI h.2 r0 0 0) r0 14) - 1)) r0 14) (lH h (rH h r0 24)) = true then (bV (fX10_copies (rH h (rH h r0 24) ((upI (upI h.2 r0 0 0) r0 14 (((upI h.2 r0 0 0) r0 14) - 1)) r0 14).toNatClampNeg) (rH h r0 22) (h.1, (upI (upI h.2 r0 0 0) r0 14 (((upI h.2 r0 0 0) r0 14) - 1)))) fun h5 => (if kH h5 r0 = 18 then (some (.inl (some (.int ((upI h5.2 r0 15 0) r0 14))), (h5.1, (upI h5.2 r0 15 0)))) else none)) else none) else none) else (some (.inl (some (.int (-1))), (h.1, (upI h.2 r0 0 0))))) else none)
theorem uX10_undo_0 {G : GG} {d : Nat} (hd : 2 ≤ d)   {r0 } {h : Hp} {o : OU} {h' : Hp} (e : kX10_undo_0  r0 h = some (o, h')) : VM G mX10_undo d [.ref r0] h o h' := by
  unfold kX10_undo_0 at e
  refine eX10_undo r0 (by omega) ?_
  obtain ⟨q1, e⟩ := ob_e e
  refine ⟨q1, ?_⟩
  refine ⟨fun c2 => ?_, fun c2 => ?_⟩
  · have e := if_t e c2
    obtain ⟨q3, e⟩ := ob_e e
    refine ⟨q3, ?_⟩
    obtain ⟨q4, e⟩ := ob_in e
    refine ⟨q4, ?_⟩
    obtain ⟨h5, e5, e⟩ := bV_e e
    refine ⟨h5, (tX10_copies e5 (by omega)), ?_⟩
    obtain ⟨q6, e⟩ := ob_e e
    refine ⟨q6, ?_⟩
    cases e
    exact ⟨rfl, rfl⟩
  · have e := if_n e c2
    cases e
    exact ⟨rfl, rfl⟩
def fX10_undo (r0 : Nat) (h : Hp) : RS := kX10_undo_0 r0 h
theorem tX10_undo {G : GG} {d : Nat} {r0} {h : Hp} {o : OU} {h' : Hp} (e : fX10_undo r0 h = some (o, h')) (hd : 2 ≤ d) : VM G mX10_undo d [.ref r0] h o h' := uX10_undo_0 hd e
def kX10_told_0 (rec : Nat → List Value → List Value → Hp → RS)  (r0 : Nat) (x1 : Int32) (h : Hp) : RS := (if kH h r0 = 18 then (bI (fX10_in x1 0 9 (h.1, (upI h.2 r0 0 0))) fun z3 h2 => (if ¬ z3 = 0 then (rec 21 [.ref r0, .int x1] [.int 0, .ref r0] h2) else (rec 21 [.ref r0, .int x1] [.int 1, .ref r0] h2))) else none)
theorem uX10_told_0 {G : GG} {d : Nat} (hd : 4 ≤ d) (rec : Nat → List Value → List Value → Hp → RS) (hrec : ∀ pc loc st h o h', rec pc loc st h = some (o, h') → V G mX10_told d pc loc st h o h')   {r0  x1 } {h : Hp} {o : OU} {h' : Hp} (e : kX10_told_0 rec  r0 x1 h = some (o, h')) : VM G mX10_told d [.ref r0, .int x1] h o h' := by
  unfold kX10_told_0 at e
  refine eX10_told r0 x1 (by omega) ?_
  obtain ⟨q1, e⟩ := ob_e e
  refine ⟨q1, ?_⟩
  obtain ⟨z3, h2, e2, e⟩ := bI_e e
  refine ⟨z3, h2, (tX10_in e2 (by omega)), ?_⟩
  refine ⟨fun c3 => ?_, fun c3 => ?_⟩
  · have e := if_t e c3
    exact hrec _ _ _ _ _ _ e
  · have e := if_n e c3
    exact hrec _ _ _ _ _ _ e
def kX10_told_21 (rec : Nat → List Value → List Value → Hp → RS)  (r0 : Nat) (x1 : Int32) (s0 : Int32) (t1 : Nat) (h : Hp) : RS := (if kH h t1 = 18 then (bI (fX10_bad t1 s0 1 1 h) fun z2 h1 => (if z2 = 0 then (if x1 = 0 then (if kH h1 r0 = 18 then (some (.inl (some (.int (h1.2 r0 11))), h1)) else none) else (if x1 = 1 then (if kH h1 r0 = 18 then (if kH h1 (rH h1 r0 22) = 1 then (if inB 3392 (lH h1 (rH h1 r0 22)) = true then (some (.inl (some (.int (h1.2 (rH h1 r0 22) 3392))), h1)) else none) else none) else none) else (if x1 = 2 then (if kH h1 r0 = 18 then (if kH h1 (rH h1 r0 22) = 1 then (if inB 3393 (lH h1 (rH h1 r0 22)) = true then (some (.inl (some (.int (h1.2 (rH h1 r0 22) 3393))), h1)) else none) else none) else none) else (if x1 = 3 then (if kH h1 r0 = 18 then (bI (fX10_dirty r0 (rH h1 r0 22) h1) fun z19 h18 => (some (.inl (some (.int z19)), h18))) else none) else (if x1 = 4 then (if kH h1 r0 = 18 then (if kH h1 (rH h1 r0 22) = 1 then (if inB 3395 (lH h1 (rH h1 r0 22)) = true then (some (.inl (some (.int (h1.2 (rH h1 r0 22) 3395))), h1)) else none) else none) else none) else (if x1 = 5 then (if kH h1 r0 = 18 then (if kH h1 (rH h1 r0 22) = 1 then (if inB 3396 (lH h1 (rH h1 r0 22)) = true then (some (.inl (some (.int (h1.2 (rH h1 r0 22) 3396))), h1)) else none) else none) else none) else (if x1 = 6 then (if kH h1 r0 = 18 then (if kH h1 (rH h1 r0 22) = 1 then (if inB 3397 (lH h1 (rH h1 r0 22)) = true then (some (.inl (some (.int (h1.2 (rH h1 r0 22) 3397))), h1)) else none) else none) else none) else (if x1 = 7 then (if kH h1 r0 = 18 then (some (.inl (some (.int (h1.2 r0 13))), h1)) else none) else (if x1 = 8 then (if kH h1 r0 = 18 then (some (.inl (some (.int (h1.2 r0 15))), h1)) else none) else (if kH h1 r0 = 18 then (if kH h1 (rH h1 r0 22) = 1 then (if inB 3394 (lH h1 (rH h1 r0 22)) = true then (some (.inl (some (.int (h1.2 (rH h1 r0 22) 3394))), h1)) else none) else none) else none)))))))))) else (some (.inl (some (.int 0)), h1)))) else none)
theorem uX10_told_21 {G : GG} {d : Nat} (hd : 4 ≤ d) (rec : Nat → List Value → List Value → Hp → RS) (hrec : ∀ pc loc st h o h', rec pc loc st h = some (o, h') → V G mX10_told d pc loc st h o h')   {r0  x1  s0  t1 } {h : Hp} {o : OU} {h' : Hp} (e : kX10_told_21 rec  r0 x1 s0 t1 h = some (o, h')) : V G mX10_told d 21 [.ref r0, .int x1] [.int s0, .ref t1] h o h' := by
  unfold kX10_told_21 at e
  refine bX10_told_21 r0 x1 s0 t1 (by omega) ?_
  obtain ⟨q1, e⟩ := ob_e e
  refine ⟨q1, ?_⟩
  obtain ⟨z2, h1, e2, e⟩ := bI_e e
  refine ⟨z2, h1, (tX10_bad e2 (by omega)), ?_⟩
  refine ⟨fun c3 => ?_, fun c3 => ?_⟩
  · have e := if_t e c3
    refine ⟨?_, ?_, ?_, ?_, ?_, ?_, ?_, ?_, ?_, ?_⟩
    · intro cc
      have e := if_t e cc
      obtain ⟨q4, e⟩ := ob_e e
      refine ⟨q4, ?_⟩
      cases e
      exact ⟨rfl, rfl⟩
    · intro cc
      have e := if_f e (by rw [cc]; decide)
      have e := if_t e cc
      obtain ⟨q5, e⟩ := ob_e e
      refine ⟨q5, ?_⟩
      obtain ⟨q6, e⟩ := ob_e e
      refine ⟨q6, ?_⟩
      obtain ⟨q7, e⟩ := ob_in e
      refine ⟨q7, ?_⟩
      cases e
      exact ⟨rfl, rfl⟩
    · intro cc
      have e := if_f e (by rw [cc]; decide)
      have e := if_f e (by rw [cc]; decide)
      have e := if_t e cc
      obtain ⟨q8, e⟩ := ob_e e
      refine ⟨q8, ?_⟩
      obtain ⟨q9, e⟩ := ob_e e
      refine ⟨q9, ?_⟩
      obtain ⟨q10, e⟩ := ob_in e
      refine ⟨q10, ?_⟩
      cases e
      exact ⟨rfl, rfl⟩
    · intro cc
      have e := if_f e (by rw [cc]; decide)
      have e := if_f e (by rw [cc]; decide)
      have e := if_f e (by rw [cc]; decide)
      have e := if_t e cc
      obtain ⟨q11, e⟩ := ob_e e
      refine ⟨q11, ?_⟩
      obtain ⟨z19, h18, e12, e⟩ := bI_e e
      refine ⟨z19, h18, (tX10_dirty e12 (by omega)), ?_⟩
      cases e
      exact ⟨rfl, rfl⟩
    · intro cc
      have e := if_f e (by rw [cc]; decide)
      have e := if_f e (by rw [cc]; decide)
      have e := if_f e (by rw [cc]; decide)
      have e := if_f e (by rw [cc]; decide)
      have e := if_t e cc
      obtain ⟨q13, e⟩ := ob_e e
      refine ⟨q13, ?_⟩
      obtain ⟨q14, e⟩ := ob_e e
      refine ⟨q14, ?_⟩
      obtain ⟨q15, e⟩ := ob_in e
      refine ⟨q15, ?_⟩
      cases e
      exact ⟨rfl, rfl⟩
    · intro cc
      have e := if_f e (by rw [cc]; decide)
      have e := if_f e (by rw [cc]; decide)
      have e := if_f e (by rw [cc]; decide)
      have e := if_f e (by rw [cc]; decide)
      have e := if_f e (by rw [cc]; decide)
      have e := if_t e cc
      obtain ⟨q16, e⟩ := ob_e e
      refine ⟨q16, ?_⟩
      obtain ⟨q17, e⟩ := ob_e e
      refine ⟨q17, ?_⟩
      obtain ⟨q18, e⟩ := ob_in e
      refine ⟨q18, ?_⟩
      cases e
      exact ⟨rfl, rfl⟩
    · intro cc
      have e := if_f e (by rw [cc]; decide)
      have e := if_f e (by rw [cc]; decide)
      have e := if_f e (by rw [cc]; decide)
      have e := if_f e (by rw [cc]; decide)
      have e := if_f e (by rw [cc]; decide)
      have e := if_f e (by rw [cc]; decide)
      have e := if_t e cc
      obtain ⟨q19, e⟩ := ob_e e
      refine ⟨q19, ?_⟩
      obtain ⟨q20, e⟩ := ob_e e
      refine ⟨q20, ?_⟩
      obtain ⟨q21, e⟩ := ob_in e
      refine ⟨q21, ?_⟩
      cases e
      exact ⟨rfl, rfl⟩
    · intro cc
      have e := if_f e (by rw [cc]; decide)
      have e := if_f e (by rw [cc]; decide)
      have e := if_f e (by rw [cc]; decide)
      have e := if_f e (by rw [cc]; decide)
      have e := if_f e (by rw [cc]; decide)
      have e := if_f e (by rw [cc]; decide)
      have e := if_f e (by rw [cc]; decide)
      have e := if_t e cc
      obtain ⟨q22, e⟩ := ob_e e
      refine ⟨q22, ?_⟩
      cases e
      exact ⟨rfl, rfl⟩
    · intro cc
      have e := if_f e (by rw [cc]; decide)
      have e := if_f e (by rw [cc]; decide)
      have e := if_f e (by rw [cc]; decide)
      have e := if_f e (by rw [cc]; decide)
      have e := if_f e (by rw [cc]; decide)
      have e := if_f e (by rw [cc]; decide)
      have e := if_f e (by rw [cc]; decide)
      have e := if_f e (by rw [cc]; decide)
      have e := if_t e cc
      obtain ⟨q23, e⟩ := ob_e e
      refine ⟨q23, ?_⟩
      cases e
      exact ⟨rfl, rfl⟩
    · intro n0 n1 n2 n3 n4 n5 n6 n7 n8
      have e := if_f e n0
      have e := if_f e n1
      have e := if_f e n2
      have e := if_f e n3
      have e := if_f e n4
      have e := if_f e n5
      have e := if_f e n6
      have e := if_f e n7
      have e := if_f e n8
      obtain ⟨q24, e⟩ := ob_e e
      refine ⟨q24, ?_⟩
      obtain ⟨q25, e⟩ := ob_e e
      refine ⟨q25, ?_⟩
      obtain ⟨q26, e⟩ := ob_in e
      refine ⟨q26, ?_⟩
      cases e
      exact ⟨rfl, rfl⟩
  · have e := if_f e c3
    cases e
    exact ⟨rfl, rfl⟩
def sX10_told  (rec : Nat → List Value → List Value → Hp → RS) (pc : Nat) (loc st : List Value) (h : Hp) : RS := match pc, loc, st with
  | 21, [.ref r0, .int x1], [.int s0, .ref t1] => kX10_told_21 rec  r0 x1 s0 t1 h
  | _, _, _ => none
def gX10_told  : Nat → Nat → List Value → List Value → Hp → RS
  | 0 => fun _ _ _ _ => none
  | n + 1 => sX10_told  (gX10_told  n)
theorem wX10_told {G : GG} {d : Nat} (hd : 4 ≤ d)   : ∀ (n pc : Nat) (loc st : List Value) (h : Hp) (o : OU) (h' : Hp), gX10_told  n pc loc st h = some (o, h') → V G mX10_told d pc loc st h o h' := by
  intro n
  induction n with
  | zero => intro pc loc st h o h' e; cases e
  | succ n ih =>
    intro pc loc st h o h' e
    unfold gX10_told sX10_told at e
    split at e
    · exact uX10_told_21 hd _ ih   e
    · cases e
theorem zX10_told_21  (n : Nat) (r0 : Nat) (x1 : Int32) (s0 : Int32) (t1 : Nat)  (h : Hp) : gX10_told  (n + 1) 21 [.ref r0, .int x1] [.int s0, .ref t1] h = kX10_told_21 (gX10_told  n)  r0 x1 s0 t1 h := rfl
def fX10_told (r0 : Nat) (x1 : Int32) (h : Hp) : RS := kX10_told_0 (gX10_told FF) r0 x1 h
theorem tX10_told {G : GG} {d : Nat} {r0 x1} {h : Hp} {o : OU} {h' : Hp} (e : fX10_told r0 x1 h = some (o, h')) (hd : 4 ≤ d) : VM G mX10_told d [.ref r0, .int x1] h o h' := uX10_told_0 hd _ (wX10_told hd FF) e
def kX10_isWhere_0  (x0 : Int32) (h : Hp) : RS := (bI (fX10_in x0 0 1 h) fun z2 h1 => (if (z2 = 0 ∨ z2 = 1) then (some (.inl (some (.int z2)), h1)) else none))
theorem uX10_isWhere_0 {G : GG} {d : Nat} (hd : 2 ≤ d)   {x0 } {h : Hp} {o : OU} {h' : Hp} (e : kX10_isWhere_0  x0 h = some (o, h')) : VM G mX10_isWhere d [.int x0] h o h' := by
  unfold kX10_isWhere_0 at e
  refine eX10_isWhere x0 (by omega) ?_
  obtain ⟨z2, h1, e1, e⟩ := bI_e e
  refine ⟨z2, h1, (tX10_in e1 (by omega)), ?_⟩
  obtain ⟨q2, e⟩ := ob_e e
  refine ⟨q2, ?_⟩
  cases e
  exact ⟨rfl, rfl⟩
def fX10_isWhere (x0 : Int32) (h : Hp) : RS := kX10_isWhere_0 x0 h
theorem tX10_isWhere {G : GG} {d : Nat} {x0} {h : Hp} {o : OU} {h' : Hp} (e : fX10_isWhere x0 h = some (o, h')) (hd : 2 ≤ d) : VM G mX10_isWhere d [.int x0] h o h' := uX10_isWhere_0 hd e
def kX10_whereOf_0  (x0 : Int32) (h : Hp) : RS := (if ¬ x0 = 0 then (some (.inl (some (.int 256)), h)) else (some (.inl (some (.int 0)), h)))
theorem uX10_whereOf_0 {G : GG} {d : Nat} (hd : 1 ≤ d)   {x0 } {h : Hp} {o : OU} {h' : Hp} (e : kX10_whereOf_0  x0 h = some (o, h')) : VM G mX10_whereOf d [.int x0] h o h' := by
  unfold kX10_whereOf_0 at e
  refine eX10_whereOf x0 ?_
  refine ⟨fun c1 => ?_, fun c1 => ?_⟩
  · have e := if_t e c1
    cases e
    exact ⟨rfl, rfl⟩
  · have e := if_n e c1
    cases e
    exact ⟨rfl, rfl⟩
def fX10_whereOf (x0 : Int32) (h : Hp) : RS := kX10_whereOf_0 x0 h
theorem tX10_whereOf {G : GG} {d : Nat} {x0} {h : Hp} {o : OU} {h' : Hp} (e : fX10_whereOf x0 h = some (o, h')) (hd : 1 ≤ d) : VM G mX10_whereOf d [.int x0] h o h' := uX10_whereOf_0 hd e
def kX10_isBlock_0  (r0 : Nat) (x1 : Int32) (h : Hp) : RS := (if kH h r0 = 18 then (bI (fX10_in x1 0 ((h.2 r0 11) - 1) h) fun z3 h2 => (if (z3 = 0 ∨ z3 = 1) then (some (.inl (some (.int z3)), h2)) else none)) else none)
theorem uX10_isBlock_0 {G : GG} {d : Nat} (hd : 2 ≤ d)   {r0  x1 } {h : Hp} {o : OU} {h' : Hp} (e : kX10_isBlock_0  r0 x1 h = some (o, h')) : VM G mX10_isBlock d [.ref r0, .int x1] h o h' := by
  unfold kX10_isBlock_0 at e
  refine eX10_isBlock r0 x1 (by omega) ?_
  obtain ⟨q1, e⟩ := ob_e e
  refine ⟨q1, ?_⟩
  obtain ⟨z3, h2, e2, e⟩ := bI_e e
  refine ⟨z3, h2, (tX10_in e2 (by omega)), ?_⟩
  obtain ⟨q3, e⟩ := ob_e e
  refine ⟨q3, ?_⟩
  cases e
  exact ⟨rfl, rfl⟩
def fX10_isBlock (r0 : Nat) (x1 : Int32) (h : Hp) : RS := kX10_isBlock_0 r0 x1 h
theorem tX10_isBlock {G : GG} {d : Nat} {r0 x1} {h : Hp} {o : OU} {h' : Hp} (e : fX10_isBlock r0 x1 h = some (o, h')) (hd : 2 ≤ d) : VM G mX10_isBlock d [.ref r0, .int x1] h o h' := uX10_isBlock_0 hd e
def kX10_isNode_0  (x0 : Int32) (h : Hp) : RS := (bI (fX10_in x0 0 11 h) fun z2 h1 => (if (z2 = 0 ∨ z2 = 1) then (some (.inl (some (.int z2)), h1)) else none))
theorem uX10_isNode_0 {G : GG} {d : Nat} (hd : 2 ≤ d)   {x0 } {h : Hp} {o : OU} {h' : Hp} (e : kX10_isNode_0  x0 h = some (o, h')) : VM G mX10_isNode d [.int x0] h o h' := by
  unfold kX10_isNode_0 at e
  refine eX10_isNode x0 (by omega) ?_
  obtain ⟨z2, h1, e1, e⟩ := bI_e e
  refine ⟨z2, h1, (tX10_in e1 (by omega)), ?_⟩
  obtain ⟨q2, e⟩ := ob_e e
  refine ⟨q2, ?_⟩
  cases e
  exact ⟨rfl, rfl⟩
def fX10_isNode (x0 : Int32) (h : Hp) : RS := kX10_isNode_0 x0 h
theorem tX10_isNode {G : GG} {d : Nat} {x0} {h : Hp} {o : OU} {h' : Hp} (e : fX10_isNode x0 h = some (o, h')) (hd : 2 ≤ d) : VM G mX10_isNode d [.int x0] h o h' := uX10_isNode_0 hd e
def kX10_peek_0 (rec : Nat → List Value → List Value → Hp → RS)  (r0 : Nat) (x1 : Int32) (x2 : Int32) (x3 : Int32) (h : Hp) : RS := (if kH h r0 = 18 then (bI (fX10_isWhere x3 (h.1, (upI h.2 r0 0 0))) fun z3 h2 => (if ¬ z3 = 0 then (rec 18 [.ref r0, .int x1, .int x2, .int x3] [.int 0, .ref r0] h2) else (rec 18 [.ref r0, .int x1, .int x2, .int x3] [.int 1, .ref r0] h2))) else none)
theorem uX10_peek_0 {G : GG} {d : Nat} (hd : 3 ≤ d) (rec : Nat → List Value → List Value → Hp → RS) (hrec : ∀ pc loc st h o h', rec pc loc st h = some (o, h') → V G mX10_peek d pc loc st h o h')   {r0  x1  x2  x3 } {h : Hp} {o : OU} {h' : Hp} (e : kX10_peek_0 rec  r0 x1 x2 x3 h = some (o, h')) : VM G mX10_peek d [.ref r0, .int x1, .int x2, .int x3] h o h' := by
  unfold kX10_peek_0 at e
  refine eX10_peek r0 x1 x2 x3 (by omega) ?_
  obtain ⟨q1, e⟩ := ob_e e
  refine ⟨q1, ?_⟩
  obtain ⟨z3, h2, e2, e⟩ := bI_e e
  refine ⟨z3, h2, (tX10_isWhere e2 (by omega)), ?_⟩
  refine ⟨fun c3 => ?_, fun c3 => ?_⟩
  · have e := if_t e c3
    exact hrec _ _ _ _ _ _ e
  · have e := if_n e c3
    exact hrec _ _ _ _ _ _ e
def kX10_peek_18 (rec : Nat → List Value → List Value → Hp → RS)  (r0 : Nat) (x1 : Int32) (x2 : Int32) (x3 : Int32) (s0 : Int32) (t1 : Nat) (h : Hp) : RS := (if kH h t1 = 18 then (bI (fX10_bad t1 s0 1 1 h) fun z2 h1 => (if ¬ z2 = 0 then (some (.inl (some (.int 0)), h1)) else (if kH h1 r0 = 18 then (bI (fX10_isBlock r0 x1 h1) fun z7 h6 => (if z7 = 0 then (if kH h6 r0 = 18 then (bI (fX10_bad r0 1 2 3 h6) fun z12 h11 => (if z12 = 0 then (if kH h11 r0 = 18 then (bI (fX10_whereOf x3 h11) fun z18 h17 => (if kH h17 (rH h11 r0 22) = 1 then (if inB ((z18 + (16 * x1)) + x2) (lH h17 (rH h11 r0 22)) = true then (some (.inl (some (.int (h17.2 (rH h11 r0 22) ((z18 + (16 * x1)) + x2).toNatClampNeg))), h17)) else none) else none)) else none) else (some (.inl (some (.int 0)), h11)))) else none) else (bI (fX10_in x2 0 15 h6) fun z23 h22 => (if ¬ z23 = 0 then (if kH h22 r0 = 18 then (bI (fX10_bad r0 0 2 3 h22) fun z27 h26 => (if z27 = 0 then (if kH h26 r0 = 18 then (bI (fX10_whereOf x3 h26) fun z33 h32 => (if kH h32 (rH h26 r0 22) = 1 then (if inB ((z33 + (16 * x1)) + x2) (lH h32 (rH h26 r0 22)) = true then (some (.inl (some (.int (h32.2 (rH h26 r0 22) ((z33 + (16 * x1)) + x2).toNatClampNeg))), h32)) else none) else none)) else none) else (some (.inl (some (.int 0)), h26)))) else none) else (if kH h22 r0 = 18 then (bI (fX10_bad r0 1 2 3 h22) fun z38 h37 => (if z38 = 0 then (if kH h37 r0 = 18 then (bI (fX10_whereOf x3 h37) fun z44 h43 => (if kH h43 (rH h37 r0 22) = 1 then (if inB ((z44 + (16 * x1)) + x2) (lH h43 (rH h37 r0 22)) = true then (some (.inl (some (.int (h43.2 (rH h37 r0 22) ((z44 + (16 * x1)) + x2).toNatClampNeg))), h43)) else none) else none)) else none) else (some (.inl (some (.int 0)), h37)))) else none))))) else none))) else none)
theorem uX10_peek_18 {G : GG} {d : Nat} (hd : 3 ≤ d) (rec : Nat → List Value → List Value → Hp → RS) (hrec : ∀ pc loc st h o h', rec pc loc st h = some (o, h') → V G mX10_peek d pc loc st h o h')   {r0  x1  x2  x3  s0  t1 } {h : Hp} {o : OU} {h' : Hp} (e : kX10_peek_18 rec  r0 x1 x2 x3 s0 t1 h = some (o, h')) : V G mX10_peek d 18 [.ref r0, .int x1, .int x2, .int x3] [.int s0, .ref t1] h o h' := by
  unfold kX10_peek_18 at e
  refine bX10_peek_18 r0 x1 x2 x3 s0 t1 (by omega) ?_
  obtain ⟨q1, e⟩ := ob_e e
  refine ⟨q1, ?_⟩
  obtain ⟨z2, h1, e2, e⟩ := bI_e e
  refine ⟨z2, h1, (tX10_bad e2 (by omega)), ?_⟩
  refine ⟨fun c3 => ?_, fun c3 => ?_⟩
  · have e := if_t e c3
    cases e
    exact ⟨rfl, rfl⟩
  · have e := if_n e c3
    obtain ⟨q4, e⟩ := ob_e e
    refine ⟨q4, ?_⟩
    obtain ⟨z7, h6, e5, e⟩ := bI_e e
    refine ⟨z7, h6, (tX10_isBlock e5 (by omega)), ?_⟩
    refine ⟨fun c6 => ?_, fun c6 => ?_⟩
    · have e := if_t e c6
      obtain ⟨q7, e⟩ := ob_e e
      refine ⟨q7, ?_⟩
      obtain ⟨z12, h11, e8, e⟩ := bI_e e
      refine ⟨z12, h11, (tX10_bad e8 (by omega)), ?_⟩
      refine ⟨fun c9 => ?_, fun c9 => ?_⟩
      · have e := if_t e c9
        obtain ⟨q10, e⟩ := ob_e e
        refine ⟨q10, ?_⟩
        obtain ⟨z18, h17, e11, e⟩ := bI_e e
        refine ⟨z18, h17, (tX10_whereOf e11 (by omega)), ?_⟩
        obtain ⟨q12, e⟩ := ob_e e
        refine ⟨q12, ?_⟩
        obtain ⟨q13, e⟩ := ob_in e
        refine ⟨q13, ?_⟩
        cases e
        exact ⟨rfl, rfl⟩
      · have e := if_f e c9
        cases e
        exact ⟨rfl, rfl⟩
    · have e := if_f e c6
      obtain ⟨z23, h22, e14, e⟩ := bI_e e
      refine ⟨z23, h22, (tX10_in e14 (by omega)), ?_⟩
      refine ⟨fun c15 => ?_, fun c15 => ?_⟩
      · have e := if_t e c15
        obtain ⟨q16, e⟩ := ob_e e
        refine ⟨q16, ?_⟩
        obtain ⟨z27, h26, e17, e⟩ := bI_e e
        refine ⟨z27, h26, (tX10_bad e17 (by omega)), ?_⟩
        refine ⟨fun c18 => ?_, fun c18 => ?_⟩
        · have e := if_t e c18
          obtain ⟨q19, e⟩ := ob_e e
          refine ⟨q19, ?_⟩
          obtain ⟨z33, h32, e20, e⟩ := bI_e e
          refine ⟨z33, h32, (tX10_whereOf e20 (by omega)), ?_⟩
          obtain ⟨q21, e⟩ := ob_e e
          refine ⟨q21, ?_⟩
          obtain ⟨q22, e⟩ := ob_in e
          refine ⟨q22, ?_⟩
          cases e
          exact ⟨rfl, rfl⟩
        · have e := if_f e c18
          cases e
          exact ⟨rfl, rfl⟩
      · have e := if_n e c15
        obtain ⟨q23, e⟩ := ob_e e
        refine ⟨q23, ?_⟩
        obtain ⟨z38, h37, e24, e⟩ := bI_e e
        refine ⟨z38, h37, (tX10_bad e24 (by omega)), ?_⟩
        refine ⟨fun c25 => ?_, fun c25 => ?_⟩
        · have e := if_t e c25
          obtain ⟨q26, e⟩ := ob_e e
          refine ⟨q26, ?_⟩
          obtain ⟨z44, h43, e27, e⟩ := bI_e e
          refine ⟨z44, h43, (tX10_whereOf e27 (by omega)), ?_⟩
          obtain ⟨q28, e⟩ := ob_e e
          refine ⟨q28, ?_⟩
          obtain ⟨q29, e⟩ := ob_in e
          refine ⟨q29, ?_⟩
          cases e
          exact ⟨rfl, rfl⟩
        · have e := if_f e c25
          cases e
          exact ⟨rfl, rfl⟩
def sX10_peek  (rec : Nat → List Value → List Value → Hp → RS) (pc : Nat) (loc st : List Value) (h : Hp) : RS := match pc, loc, st with
  | 18, [.ref r0, .int x1, .int x2, .int x3], [.int s0, .ref t1] => kX10_peek_18 rec  r0 x1 x2 x3 s0 t1 h
  | _, _, _ => none
def gX10_peek  : Nat → Nat → List Value → List Value → Hp → RS
  | 0 => fun _ _ _ _ => none
  | n + 1 => sX10_peek  (gX10_peek  n)
theorem wX10_peek {G : GG} {d : Nat} (hd : 3 ≤ d)   : ∀ (n pc : Nat) (loc st : List Value) (h : Hp) (o : OU) (h' : Hp), gX10_peek  n pc loc st h = some (o, h') → V G mX10_peek d pc loc st h o h' := by
  intro n
  induction n with
  | zero => intro pc loc st h o h' e; cases e
  | succ n ih =>
    intro pc loc st h o h' e
    unfold gX10_peek sX10_peek at e
    split at e
    · exact uX10_peek_18 hd _ ih   e
    · cases e
theorem zX10_peek_18  (n : Nat) (r0 : Nat) (x1 : Int32) (x2 : Int32) (x3 : Int32) (s0 : Int32) (t1 : Nat)  (h : Hp) : gX10_peek  (n + 1) 18 [.ref r0, .int x1, .int x2, .int x3] [.int s0, .ref t1] h = kX10_peek_18 (gX10_peek  n)  r0 x1 x2 x3 s0 t1 h := rfl
def fX10_peek (r0 : Nat) (x1 : Int32) (x2 : Int32) (x3 : Int32) (h : Hp) : RS := kX10_peek_0 (gX10_peek FF) r0 x1 x2 x3 h
theorem tX10_peek {G : GG} {d : Nat} {r0 x1 x2 x3} {h : Hp} {o : OU} {h' : Hp} (e : fX10_peek r0 x1 x2 x3 h = some (o, h')) (hd : 3 ≤ d) : VM G mX10_peek d [.ref r0, .int x1, .int x2, .int x3] h o h' := uX10_peek_0 hd _ (wX10_peek hd FF) e
def kX10_node_0 (rec : Nat → List Value → List Value → Hp → RS)  (r0 : Nat) (x1 : Int32) (x2 : Int32) (x3 : Int32) (h : Hp) : RS := (if kH h r0 = 18 then (bI (fX10_isNode x1 (h.1, (upI h.2 r0 0 0))) fun z3 h2 => (if ¬ z3 = 0 then (rec 18 [.ref r0, .int x1, .int x2, .int x3] [.int 0, .ref r0] h2) else (rec 18 [.ref r0, .int x1, .int x2, .int x3] [.int 1, .ref r0] h2))) else none)
theorem uX10_node_0 {G : GG} {d : Nat} (hd : 5 ≤ d) (rec : Nat → List Value → List Value → Hp → RS) (hrec : ∀ pc loc st h o h', rec pc loc st h = some (o, h') → V G mX10_node d pc loc st h o h')   {r0  x1  x2  x3 } {h : Hp} {o : OU} {h' : Hp} (e : kX10_node_0 rec  r0 x1 x2 x3 h = some (o, h')) : VM G mX10_node d [.ref r0, .int x1, .int x2, .int x3] h o h' := by
  unfold kX10_node_0 at e
  refine eX10_node r0 x1 x2 x3 (by omega) ?_
  obtain ⟨q1, e⟩ := ob_e e
  refine ⟨q1, ?_⟩
  obtain ⟨z3, h2, e2, e⟩ := bI_e e
  refine ⟨z3, h2, (tX10_isNode e2 (by omega)), ?_⟩
  refine ⟨fun c3 => ?_, fun c3 => ?_⟩
  · have e := if_t e c3
    exact hrec _ _ _ _ _ _ e
  · have e := if_n e c3
    exact hrec _ _ _ _ _ _ e
def kX10_node_18 (rec : Nat → List Value → List Value → Hp → RS)  (r0 : Nat) (x1 : Int32) (x2 : Int32) (x3 : Int32) (s0 : Int32) (t1 : Nat) (h : Hp) : RS := (if kH h t1 = 18 then (bI (fX10_bad t1 s0 1 0 h) fun z2 h1 => (if ¬ z2 = 0 then (some (.inl (some (.int 0)), h1)) else (bI (fX10_in x2 0 4 h1) fun z7 h6 => (if z7 = 0 then (rec 48 [.ref r0, .int x1, .int x2, .int x3] [.int 1, .ref r0] h6) else (bI (fX10_isWhere x3 h6) fun z11 h10 => (if ¬ z11 = 0 then (rec 48 [.ref r0, .int x1, .int x2, .int x3] [.int 0, .ref r0] h10) else (rec 48 [.ref r0, .int x1, .int x2, .int x3] [.int 1, .ref r0] h10))))))) else none)
theorem uX10_node_18 {G : GG} {d : Nat} (hd : 5 ≤ d) (rec : Nat → List Value → List Value → Hp → RS) (hrec : ∀ pc loc st h o h', rec pc loc st h = some (o, h') → V G mX10_node d pc loc st h o h')   {r0  x1  x2  x3  s0  t1 } {h : Hp} {o : OU} {h' : Hp} (e : kX10_node_18 rec  r0 x1 x2 x3 s0 t1 h = some (o, h')) : V G mX10_node d 18 [.ref r0, .int x1, .int x2, .int x3] [.int s0, .ref t1] h o h' := by
  unfold kX10_node_18 at e
  refine bX10_node_18 r0 x1 x2 x3 s0 t1 (by omega) ?_
  obtain ⟨q1, e⟩ := ob_e e
  refine ⟨q1, ?_⟩
  obtain ⟨z2, h1, e2, e⟩ := bI_e e
  refine ⟨z2, h1, (tX10_bad e2 (by omega)), ?_⟩
  refine ⟨fun c3 => ?_, fun c3 => ?_⟩
  · have e := if_t e c3
    cases e
    exact ⟨rfl, rfl⟩
  · have e := if_n e c3
    obtain ⟨z7, h6, e4, e⟩ := bI_e e
    refine ⟨z7, h6, (tX10_in e4 (by omega)), ?_⟩
    refine ⟨fun c5 => ?_, fun c5 => ?_⟩
    · have e := if_t e c5
      exact hrec _ _ _ _ _ _ e
    · have e := if_f e c5
      obtain ⟨z11, h10, e6, e⟩ := bI_e e
      refine ⟨z11, h10, (tX10_isWhere e6 (by omega)), ?_⟩
      refine ⟨fun c7 => ?_, fun c7 => ?_⟩
      · have e := if_t e c7
        exact hrec _ _ _ _ _ _ e
      · have e := if_n e c7
        exact hrec _ _ _ _ _ _ e
def kX10_node_48 (rec : Nat → List Value → List Value → Hp → RS)  (r0 : Nat) (x1 : Int32) (x2 : Int32) (x3 : Int32) (s0 : Int32) (t1 : Nat) (h : Hp) : RS := (if kH h t1 = 18 then (bI (fX10_bad t1 s0 2 1 h) fun z2 h1 => (if z2 = 0 then (if 4 ≤ x2 then (if kH h1 r0 = 18 then (bI (fX10_whereOf x3 h1) fun z9 h8 => (bI (fX10_reached (rH h1 r0 22) z9 h8) fun z12 h11 => (bI (fX10_has z12 x1 h11) fun z15 h14 => (if z15 = 0 then (some (.inl (some (.int 0)), h14)) else (some (.inl (some (.int 1)), h14)))))) else none) else (if kH h1 r0 = 18 then (bI (fX10_whereOf x3 h1) fun z20 h19 => (bI (fX10_fieldOf (rH h1 r0 22) z20 x1 x2 h19) fun z23 h22 => (some (.inl (some (.int z23)), h22)))) else none)) else (some (.inl (some (.int 0)), h1)))) else none)
theorem uX10_node_48 {G : GG} {d : Nat} (hd : 5 ≤ d) (rec : Nat → List Value → List Value → Hp → RS) (hrec : ∀ pc loc st h o h', rec pc loc st h = some (o, h') → V G mX10_node d pc loc st h o h')   {r0  x1  x2  x3  s0  t1 } {h : Hp} {o : OU} {h' : Hp} (e : kX10_node_48 rec  r0 x1 x2 x3 s0 t1 h = some (o, h')) : V G mX10_node d 48 [.ref r0, .int x1, .int x2, .int x3] [.int s0, .ref t1] h o h' := by
  unfold kX10_node_48 at e
  refine bX10_node_48 r0 x1 x2 x3 s0 t1 (by omega) ?_
  obtain ⟨q1, e⟩ := ob_e e
  refine ⟨q1, ?_⟩
  obtain ⟨z2, h1, e2, e⟩ := bI_e e
  refine ⟨z2, h1, (tX10_bad e2 (by omega)), ?_⟩
  refine ⟨fun c3 => ?_, fun c3 => ?_⟩
  · have e := if_t e c3
    refine ⟨fun c4 => ?_, fun c4 => ?_⟩
    · have e := if_t e c4
      obtain ⟨q5, e⟩ := ob_e e
      refine ⟨q5, ?_⟩
      obtain ⟨z9, h8, e6, e⟩ := bI_e e
      refine ⟨z9, h8, (tX10_whereOf e6 (by omega)), ?_⟩
      obtain ⟨z12, h11, e7, e⟩ := bI_e e
      refine ⟨z12, h11, (tX10_reached e7 (by omega)), ?_⟩
      obtain ⟨z15, h14, e8, e⟩ := bI_e e
      refine ⟨z15, h14, (tX10_has e8 (by omega)), ?_⟩
      refine ⟨fun c9 => ?_, fun c9 => ?_⟩
      · have e := if_t e c9
        cases e
        exact ⟨rfl, rfl⟩
      · have e := if_f e c9
        cases e
        exact ⟨rfl, rfl⟩
    · have e := if_f e c4
      obtain ⟨q10, e⟩ := ob_e e
      refine ⟨q10, ?_⟩
      obtain ⟨z20, h19, e11, e⟩ := bI_e e
      refine ⟨z20, h19, (tX10_whereOf e11 (by omega)), ?_⟩
      obtain ⟨z23, h22, e12, e⟩ := bI_e e
      refine ⟨z23, h22, (tX10_fieldOf e12 (by omega)), ?_⟩
      cases e
      exact ⟨rfl, rfl⟩
  · have e := if_f e c3
    cases e
    exact ⟨rfl, rfl⟩
def sX10_node  (rec : Nat → List Value → List Value → Hp → RS) (pc : Nat) (loc st : List Value) (h : Hp) : RS := match pc, loc, st with
  | 18, [.ref r0, .int x1, .int x2, .int x3], [.int s0, .ref t1] => kX10_node_18 rec  r0 x1 x2 x3 s0 t1 h
  | 48, [.ref r0, .int x1, .int x2, .int x3], [.int s0, .ref t1] => kX10_node_48 rec  r0 x1 x2 x3 s0 t1 h
  | _, _, _ => none
def gX10_node  : Nat → Nat → List Value → List Value → Hp → RS
  | 0 => fun _ _ _ _ => none
  | n + 1 => sX10_node  (gX10_node  n)
theorem wX10_node {G : GG} {d : Nat} (hd : 5 ≤ d)   : ∀ (n pc : Nat) (loc st : List Value) (h : Hp) (o : OU) (h' : Hp), gX10_node  n pc loc st h = some (o, h') → V G mX10_node d pc loc st h o h' := by
  intro n
  induction n with
  | zero => intro pc loc st h o h' e; cases e
  | succ n ih =>
    intro pc loc st h o h' e
    unfold gX10_node sX10_node at e
    split at e
    · exact uX10_node_18 hd _ ih   e
    · exact uX10_node_48 hd _ ih   e
    · cases e
theorem zX10_node_18  (n : Nat) (r0 : Nat) (x1 : Int32) (x2 : Int32) (x3 : Int32) (s0 : Int32) (t1 : Nat)  (h : Hp) : gX10_node  (n + 1) 18 [.ref r0, .int x1, .int x2, .int x3] [.int s0, .ref t1] h = kX10_node_18 (gX10_node  n)  r0 x1 x2 x3 s0 t1 h := rfl
theorem zX10_node_48  (n : Nat) (r0 : Nat) (x1 : Int32) (x2 : Int32) (x3 : Int32) (s0 : Int32) (t1 : Nat)  (h : Hp) : gX10_node  (n + 1) 48 [.ref r0, .int x1, .int x2, .int x3] [.int s0, .ref t1] h = kX10_node_48 (gX10_node  n)  r0 x1 x2 x3 s0 t1 h := rfl
def fX10_node (r0 : Nat) (x1 : Int32) (x2 : Int32) (x3 : Int32) (h : Hp) : RS := kX10_node_0 (gX10_node FF) r0 x1 x2 x3 h
theorem tX10_node {G : GG} {d : Nat} {r0 x1 x2 x3} {h : Hp} {o : OU} {h' : Hp} (e : fX10_node r0 x1 x2 x3 h = some (o, h')) (hd : 5 ≤ d) : VM G mX10_node d [.ref r0, .int x1, .int x2, .int x3] h o h' := uX10_node_0 hd _ (wX10_node hd FF) e
def kX10_find_0 (rec : Nat → List Value → List Value → Hp → RS)  (r0 : Nat) (x1 : Int32) (x2 : Int32) (x3 : Int32) (h : Hp) : RS := (if kH h r0 = 18 then (bI (fX10_isNode x1 (h.1, (upI h.2 r0 0 0))) fun z3 h2 => (if ¬ z3 = 0 then (rec 18 [.ref r0, .int x1, .int x2, .int x3, uV] [.int 0, .ref r0] h2) else (rec 18 [.ref r0, .int x1, .int x2, .int x3, uV] [.int 1, .ref r0] h2))) else none)
theorem uX10_find_0 {G : GG} {d : Nat} (hd : 5 ≤ d) (rec : Nat → List Value → List Value → Hp → RS) (hrec : ∀ pc loc st h o h', rec pc loc st h = some (o, h') → V G mX10_find d pc loc st h o h')   {r0  x1  x2  x3 } {h : Hp} {o : OU} {h' : Hp} (e : kX10_find_0 rec  r0 x1 x2 x3 h = some (o, h')) : VM G mX10_find d [.ref r0, .int x1, .int x2, .int x3] h o h' := by
  unfold kX10_find_0 at e
  refine eX10_find r0 x1 x2 x3 (by omega) ?_
  obtain ⟨q1, e⟩ := ob_e e
  refine ⟨q1, ?_⟩
  obtain ⟨z3, h2, e2, e⟩ := bI_e e
  refine ⟨z3, h2, (tX10_isNode e2 (by omega)), ?_⟩
  refine ⟨fun c3 => ?_, fun c3 => ?_⟩
  · have e := if_t e c3
    exact hrec _ _ _ _ _ _ e
  · have e := if_n e c3
    exact hrec _ _ _ _ _ _ e
def kX10_find_18 (rec : Nat → List Value → List Value → Hp → RS)  (r0 : Nat) (x1 : Int32) (x2 : Int32) (x3 : Int32) (s0 : Int32) (t1 : Nat) (h : Hp) : RS := (if kH h t1 = 18 then (bI (fX10_bad t1 s0 1 0 h) fun z2 h1 => (if ¬ z2 = 0 then (some (.inl (some (.int 0)), h1)) else (bI (fX10_in x2 1 99 h1) fun z7 h6 => (if z7 = 0 then (rec 49 [.ref r0, .int x1, .int x2, .int x3, uV] [.int 1, .ref r0] h6) else (bI (fX10_isWhere x3 h6) fun z11 h10 => (if ¬ z11 = 0 then (rec 49 [.ref r0, .int x1, .int x2, .int x3, uV] [.int 0, .ref r0] h10) else (rec 49 [.ref r0, .int x1, .int x2, .int x3, uV] [.int 1, .ref r0] h10))))))) else none)
theorem uX10_find_18 {G : GG} {d : Nat} (hd : 5 ≤ d) (rec : Nat → List Value → List Value → Hp → RS) (hrec : ∀ pc loc st h o h', rec pc loc st h = some (o, h') → V G mX10_find d pc loc st h o h')   {r0  x1  x2  x3  s0  t1 } {h : Hp} {o : OU} {h' : Hp} (e : kX10_find_18 rec  r0 x1 x2 x3 s0 t1 h = some (o, h')) : V G mX10_find d 18 [.ref r0, .int x1, .int x2, .int x3, uV] [.int s0, .ref t1] h o h' := by
  unfold kX10_find_18 at e
  refine bX10_find_18 r0 x1 x2 x3 s0 t1 (by omega) ?_
  obtain ⟨q1, e⟩ := ob_e e
  refine ⟨q1, ?_⟩
  obtain ⟨z2, h1, e2, e⟩ := bI_e e
  refine ⟨z2, h1, (tX10_bad e2 (by omega)), ?_⟩
  refine ⟨fun c3 => ?_, fun c3 => ?_⟩
  · have e := if_t e c3
    cases e
    exact ⟨rfl, rfl⟩
  · have e := if_n e c3
    obtain ⟨z7, h6, e4, e⟩ := bI_e e
    refine ⟨z7, h6, (tX10_in e4 (by omega)), ?_⟩
    refine ⟨fun c5 => ?_, fun c5 => ?_⟩
    · have e := if_t e c5
      exact hrec _ _ _ _ _ _ e
    · have e := if_f e c5
      obtain ⟨z11, h10, e6, e⟩ := bI_e e
      refine ⟨z11, h10, (tX10_isWhere e6 (by omega)), ?_⟩
      refine ⟨fun c7 => ?_, fun c7 => ?_⟩
      · have e := if_t e c7
        exact hrec _ _ _ _ _ _ e
      · have e := if_n e c7
        exact hrec _ _ _ _ _ _ e
def kX10_find_49 (rec : Nat → List Value → List Value → Hp → RS)  (r0 : Nat) (x1 : Int32) (x2 : Int32) (x3 : Int32) (s0 : Int32) (t1 : Nat) (h : Hp) : RS := (if kH h t1 = 18 then (bI (fX10_bad t1 s0 2 1 h) fun z2 h1 => (if z2 = 0 then (bI (fX10_whereOf x3 h1) fun z7 h6 => (if kH h6 r0 = 18 then (bI (fX10_isKind (rH h6 r0 22) z7 x1 2 h6) fun z11 h10 => (if z11 = 0 then (some (.inl (some (.int (-1))), h10)) else (if kH h10 r0 = 18 then (bI (fX10_entry (rH h10 r0 22) z7 x1 x2 h10) fun z16 h15 => (if ¬ z16 = (-1) then (if kH h15 r0 = 18 then (bI (fX10_entry (rH h15 r0 22) z7 x1 x2 h15) fun z21 h20 => (if kH h20 (rH h15 r0 22) = 1 then (if inB ((z7 + z21) + 1) (lH h20 (rH h15 r0 22)) = true then (some (.inl (some (.int (h20.2 (rH h15 r0 22) ((z7 + z21) + 1).toNatClampNeg))), h20)) else none) else none)) else none) else (some (.inl (some (.int (-1))), h15)))) else none))) else none)) else (some (.inl (some (.int 0)), h1)))) else none)
theorem uX10_find_49 {G : GG} {d : Nat} (hd : 5 ≤ d) (rec : Nat → List Value → List Value → Hp → RS) (hrec : ∀ pc loc st h o h', rec pc loc st h = some (o, h') → V G mX10_find d pc loc st h o h')   {r0  x1  x2  x3  s0  t1 } {h : Hp} {o : OU} {h' : Hp} (e : kX10_find_49 rec  r0 x1 x2 x3 s0 t1 h = some (o, h')) : V G mX10_find d 49 [.ref r0, .int x1, .int x2, .int x3, uV] [.int s0, .ref t1] h o h' := by
  unfold kX10_find_49 at e
  refine bX10_find_49 r0 x1 x2 x3 s0 t1 (by omega) ?_
  obtain ⟨q1, e⟩ := ob_e e
  refine ⟨q1, ?_⟩
  obtain ⟨z2, h1, e2, e⟩ := bI_e e
  refine ⟨z2, h1, (tX10_bad e2 (by omega)), ?_⟩
  refine ⟨fun c3 => ?_, fun c3 => ?_⟩
  · have e := if_t e c3
    obtain ⟨z7, h6, e4, e⟩ := bI_e e
    refine ⟨z7, h6, (tX10_whereOf e4 (by omega)), ?_⟩
    obtain ⟨q5, e⟩ := ob_e e
    refine ⟨q5, ?_⟩
    obtain ⟨z11, h10, e6, e⟩ := bI_e e
    refine ⟨z11, h10, (tX10_isKind e6 (by omega)), ?_⟩
    refine ⟨fun c7 => ?_, fun c7 => ?_⟩
    · have e := if_t e c7
      cases e
      exact ⟨rfl, rfl⟩
    · have e := if_f e c7
      obtain ⟨q8, e⟩ := ob_e e
      refine ⟨q8, ?_⟩
      obtain ⟨z16, h15, e9, e⟩ := bI_e e
      refine ⟨z16, h15, (tX10_entry e9 (by omega)), ?_⟩
      refine ⟨fun c10 => ?_, fun c10 => ?_⟩
      · have e := if_t e c10
        obtain ⟨q11, e⟩ := ob_e e
        refine ⟨q11, ?_⟩
        obtain ⟨z21, h20, e12, e⟩ := bI_e e
        refine ⟨z21, h20, (tX10_entry e12 (by omega)), ?_⟩
        obtain ⟨q13, e⟩ := ob_e e
        refine ⟨q13, ?_⟩
        obtain ⟨q14, e⟩ := ob_in e
        refine ⟨q14, ?_⟩
        cases e
        exact ⟨rfl, rfl⟩
      · have e := if_n e c10
        cases e
        exact ⟨rfl, rfl⟩
  · have e := if_f e c3
    cases e
    exact ⟨rfl, rfl⟩
def sX10_find  (rec : Nat → List Value → List Value → Hp → RS) (pc : Nat) (loc st : List Value) (h : Hp) : RS := match pc, loc, st with
  | 18, [.ref r0, .int x1, .int x2, .int x3, _], [.int s0, .ref t1] => kX10_find_18 rec  r0 x1 x2 x3 s0 t1 h
  | 49, [.ref r0, .int x1, .int x2, .int x3, _], [.int s0, .ref t1] => kX10_find_49 rec  r0 x1 x2 x3 s0 t1 h
  | _, _, _ => none
def gX10_find  : Nat → Nat → List Value → List Value → Hp → RS
  | 0 => fun _ _ _ _ => none
  | n + 1 => sX10_find  (gX10_find  n)
theorem wX10_find {G : GG} {d : Nat} (hd : 5 ≤ d)   : ∀ (n pc : Nat) (loc st : List Value) (h : Hp) (o : OU) (h' : Hp), gX10_find  n pc loc st h = some (o, h') → V G mX10_find d pc loc st h o h' := by
  intro n
  induction n with
  | zero => intro pc loc st h o h' e; cases e
  | succ n ih =>
    intro pc loc st h o h' e
    unfold gX10_find sX10_find at e
    split at e
    · exact V.drop (llp_r (llp_r (llp_r (llp_r (llp_u llp_nil))))) (uX10_find_18 hd _ ih   e)
    · exact V.drop (llp_r (llp_r (llp_r (llp_r (llp_u llp_nil))))) (uX10_find_49 hd _ ih   e)
    · cases e
theorem zX10_find_18  (n : Nat) (r0 : Nat) (x1 : Int32) (x2 : Int32) (x3 : Int32) (s0 : Int32) (t1 : Nat) (y4 : Value) (h : Hp) : gX10_find  (n + 1) 18 [.ref r0, .int x1, .int x2, .int x3, y4] [.int s0, .ref t1] h = kX10_find_18 (gX10_find  n)  r0 x1 x2 x3 s0 t1 h := rfl
theorem zX10_find_49  (n : Nat) (r0 : Nat) (x1 : Int32) (x2 : Int32) (x3 : Int32) (s0 : Int32) (t1 : Nat) (y4 : Value) (h : Hp) : gX10_find  (n + 1) 49 [.ref r0, .int x1, .int x2, .int x3, y4] [.int s0, .ref t1] h = kX10_find_49 (gX10_find  n)  r0 x1 x2 x3 s0 t1 h := rfl
def fX10_find (r0 : Nat) (x1 : Int32) (x2 : Int32) (x3 : Int32) (h : Hp) : RS := kX10_find_0 (gX10_find FF) r0 x1 x2 x3 h
theorem tX10_find {G : GG} {d : Nat} {r0 x1 x2 x3} {h : Hp} {o : OU} {h' : Hp} (e : fX10_find r0 x1 x2 x3 h = some (o, h')) (hd : 5 ≤ d) : VM G mX10_find d [.ref r0, .int x1, .int x2, .int x3] h o h' := uX10_find_0 hd _ (wX10_find hd FF) e
def kX10_used_0 (rec : Nat → List Value → List Value → Hp → RS)  (r0 : Nat) (x1 : Int32) (h : Hp) : RS := (if kH h r0 = 18 then (bI (fX10_isWhere x1 (h.1, (upI h.2 r0 0 0))) fun z3 h2 => (if ¬ z3 = 0 then (if kH h2 r0 = 18 then (bI (fX10_bad r0 0 1 1 h2) fun z7 h6 => (if z7 = 0 then (rec 32 [.ref r0, .int x1, .int 0, .int 0] [] h6) else (some (.inl (some (.int 0)), h6)))) else none) else (if kH h2 r0 = 18 then (bI (fX10_bad r0 1 1 1 h2) fun z12 h11 => (if z12 = 0 then (rec 32 [.ref r0, .int x1, .int 0, .int 0] [] h11) else (some (.inl (some (.int 0)), h11)))) else none))) else none)
theorem uX10_used_0 {G : GG} {d : Nat} (hd : 3 ≤ d) (rec : Nat → List Value → List Value → Hp → RS) (hrec : ∀ pc loc st h o h', rec pc loc st h = some (o, h') → V G mX10_used d pc loc st h o h')   {r0  x1 } {h : Hp} {o : OU} {h' : Hp} (e : kX10_used_0 rec  r0 x1 h = some (o, h')) : VM G mX10_used d [.ref r0, .int x1] h o h' := by
  unfold kX10_used_0 at e
  refine eX10_used r0 x1 (by omega) ?_
  obtain ⟨q1, e⟩ := ob_e e
  refine ⟨q1, ?_⟩
  obtain ⟨z3, h2, e2, e⟩ := bI_e e
  refine ⟨z3, h2, (tX10_isWhere e2 (by omega)), ?_⟩
  refine ⟨fun c3 => ?_, fun c3 => ?_⟩
  · have e := if_t e c3
    obtain ⟨q4, e⟩ := ob_e e
    refine ⟨q4, ?_⟩
    obtain ⟨z7, h6, e5, e⟩ := bI_e e
    refine ⟨z7, h6, (tX10_bad e5 (by omega)), ?_⟩
    refine ⟨fun c6 => ?_, fun c6 => ?_⟩
    · have e := if_t e c6
      exact hrec _ _ _ _ _ _ e
    · have e := if_f e c6
      cases e
      exact ⟨rfl, rfl⟩
  · have e := if_n e c3
    obtain ⟨q7, e⟩ := ob_e e
    refine ⟨q7, ?_⟩
    obtain ⟨z12, h11, e8, e⟩ := bI_e e
    refine ⟨z12, h11, (tX10_bad e8 (by omega)), ?_⟩
    refine ⟨fun c9 => ?_, fun c9 => ?_⟩
    · have e := if_t e c9
      exact hrec _ _ _ _ _ _ e
    · have e := if_f e c9
      cases e
      exact ⟨rfl, rfl⟩
def kX10_used_32 (rec : Nat → List Value → List Value → Hp → RS)  (r0 : Nat) (x1 : Int32) (x2 : Int32) (x3 : Int32) (h : Hp) : RS := (if kH h r0 = 18 then (if (h.2 r0 11) ≤ x3 then (some (.inl (some (.int x2)), h)) else (bI (fX10_whereOf x1 h) fun z4 h3 => (if kH h3 (rH h r0 22) = 1 then (if inB (z4 + x3) (lH h3 (rH h r0 22)) = true then (if (h3.2 (rH h r0 22) (z4 + x3).toNatClampNeg) = 0 then (rec 32 [.ref r0, .int x1, .int (x2 ||| 0), .int (x3 + 1)] [] h3) else (rec 32 [.ref r0, .int x1, .int (x2 ||| (1 <<< (x3 &&& 31))), .int (x3 + 1)] [] h3)) else none) else none))) else none)
theorem uX10_used_32 {G : GG} {d : Nat} (hd : 3 ≤ d) (rec : Nat → List Value → List Value → Hp → RS) (hrec : ∀ pc loc st h o h', rec pc loc st h = some (o, h') → V G mX10_used d pc loc st h o h')   {r0  x1  x2  x3 } {h : Hp} {o : OU} {h' : Hp} (e : kX10_used_32 rec  r0 x1 x2 x3 h = some (o, h')) : V G mX10_used d 32 [.ref r0, .int x1, .int x2, .int x3] [] h o h' := by
  unfold kX10_used_32 at e
  refine bX10_used_32 r0 x1 x2 x3 (by omega) ?_
  obtain ⟨q1, e⟩ := ob_e e
  refine ⟨q1, ?_⟩
  refine ⟨fun c2 => ?_, fun c2 => ?_⟩
  · have e := if_t e c2
    cases e
    exact ⟨rfl, rfl⟩
  · have e := if_f e c2
    obtain ⟨z4, h3, e3, e⟩ := bI_e e
    refine ⟨z4, h3, (tX10_whereOf e3 (by omega)), ?_⟩
    obtain ⟨q4, e⟩ := ob_e e
    refine ⟨q4, ?_⟩
    obtain ⟨q5, e⟩ := ob_in e
    refine ⟨q5, ?_⟩
    refine ⟨fun c6 => ?_, fun c6 => ?_⟩
    · have e := if_t e c6
      exact hrec _ _ _ _ _ _ e
    · have e := if_f e c6
      exact hrec _ _ _ _ _ _ e
def sX10_used  (rec : Nat → List Value → List Value → Hp → RS) (pc : Nat) (loc st : List Value) (h : Hp) : RS := match pc, loc, st with
  | 32, [.ref r0, .int x1, .int x2, .int x3], [] => kX10_used_32 rec  r0 x1 x2 x3 h
  | _, _, _ => none
def gX10_used  : Nat → Nat → List Value → List Value → Hp → RS
  | 0 => fun _ _ _ _ => none
  | n + 1 => sX10_used  (gX10_used  n)
theorem wX10_used {G : GG} {d : Nat} (hd : 3 ≤ d)   : ∀ (n pc : Nat) (loc st : List Value) (h : Hp) (o : OU) (h' : Hp), gX10_used  n pc loc st h = some (o, h') → V G mX10_used d pc loc st h o h' := by
  intro n
  induction n with
  | zero => intro pc loc st h o h' e; cases e
  | succ n ih =>
    intro pc loc st h o h' e
    unfold gX10_used sX10_used at e
    split at e
    · exact uX10_used_32 hd _ ih   e
    · cases e
theorem zX10_used_32  (n : Nat) (r0 : Nat) (x1 : Int32) (x2 : Int32) (x3 : Int32)  (h : Hp) : gX10_used  (n + 1) 32 [.ref r0, .int x1, .int x2, .int x3] [] h = kX10_used_32 (gX10_used  n)  r0 x1 x2 x3 h := rfl
def fX10_used (r0 : Nat) (x1 : Int32) (h : Hp) : RS := kX10_used_0 (gX10_used FF) r0 x1 h
theorem tX10_used {G : GG} {d : Nat} {r0 x1} {h : Hp} {o : OU} {h' : Hp} (e : fX10_used r0 x1 h = some (o, h')) (hd : 3 ≤ d) : VM G mX10_used d [.ref r0, .int x1] h o h' := uX10_used_0 hd _ (wX10_used hd FF) e
def kX10_leaks_0  (r0 : Nat) (x1 : Int32) (h : Hp) : RS := (if kH h r0 = 18 then (bI (fX10_isWhere x1 (h.1, (upI h.2 r0 0 0))) fun z3 h2 => (if ¬ z3 = 0 then (if kH h2 r0 = 18 then (bI (fX10_bad r0 0 1 1 h2) fun z7 h6 => (if z7 = 0 then (if kH h6 r0 = 18 then (bI (fX10_whereOf x1 h6) fun z13 h12 => (if kH h12 r0 = 18 then (bI (fX10_leaking r0 (rH h6 r0 22) z13 h12) fun z16 h15 => (some (.inl (some (.int z16)), h15))) else none)) else none) else (some (.inl (some (.int 0)), h6)))) else none) else (if kH h2 r0 = 18 then (bI (fX10_bad r0 1 1 1 h2) fun z20 h19 => (if z20 = 0 then (if kH h19 r0 = 18 then (bI (fX10_whereOf x1 h19) fun z26 h25 => (if kH h25 r0 = 18 then (bI (fX10_leaking r0 (rH h19 r0 22) z26 h25) fun z29 h28 => (some (.inl (some (.int z29)), h28))) else none)) else none) else (some (.inl (some (.int 0)), h19)))) else none))) else none)
theorem uX10_leaks_0 {G : GG} {d : Nat} (hd : 6 ≤ d)   {r0  x1 } {h : Hp} {o : OU} {h' : Hp} (e : kX10_leaks_0  r0 x1 h = some (o, h')) : VM G mX10_leaks d [.ref r0, .int x1] h o h' := by
  unfold kX10_leaks_0 at e
  refine eX10_leaks r0 x1 (by omega) ?_
  obtain ⟨q1, e⟩ := ob_e e
  refine ⟨q1, ?_⟩
  obtain ⟨z3, h2, e2, e⟩ := bI_e e
  refine ⟨z3, h2, (tX10_isWhere e2 (by omega)), ?_⟩
  refine ⟨fun c3 => ?_, fun c3 => ?_⟩
  · have e := if_t e c3
    obtain ⟨q4, e⟩ := ob_e e
    refine ⟨q4, ?_⟩
    obtain ⟨z7, h6, e5, e⟩ := bI_e e
    refine ⟨z7, h6, (tX10_bad e5 (by omega)), ?_⟩
    refine ⟨fun c6 => ?_, fun c6 => ?_⟩
    · have e := if_t e c6
      obtain ⟨q7, e⟩ := ob_e e
      refine ⟨q7, ?_⟩
      obtain ⟨z13, h12, e8, e⟩ := bI_e e
      refine ⟨z13, h12, (tX10_whereOf e8 (by omega)), ?_⟩
      obtain ⟨q9, e⟩ := ob_e e
      refine ⟨q9, ?_⟩
      obtain ⟨z16, h15, e10, e⟩ := bI_e e
      refine ⟨z16, h15, (tX10_leaking e10 (by omega)), ?_⟩
      cases e
      exact ⟨rfl, rfl⟩
    · have e := if_f e c6
      cases e
      exact ⟨rfl, rfl⟩
  · have e := if_n e c3
    obtain ⟨q11, e⟩ := ob_e e
    refine ⟨q11, ?_⟩
    obtain ⟨z20, h19, e12, e⟩ := bI_e e
    refine ⟨z20, h19, (tX10_bad e12 (by omega)), ?_⟩
    refine ⟨fun c13 => ?_, fun c13 => ?_⟩
    · have e := if_t e c13
      obtain ⟨q14, e⟩ := ob_e e
      refine ⟨q14, ?_⟩
      obtain ⟨z26, h25, e15, e⟩ := bI_e e
      refine ⟨z26, h25, (tX10_whereOf e15 (by omega)), ?_⟩
      obtain ⟨q16, e⟩ := ob_e e
      refine ⟨q16, ?_⟩
      obtain ⟨z29, h28, e17, e⟩ := bI_e e
      refine ⟨z29, h28, (tX10_leaking e17 (by omega)), ?_⟩
      cases e
      exact ⟨rfl, rfl⟩
    · have e := if_f e c13
      cases e
      exact ⟨rfl, rfl⟩
def fX10_leaks (r0 : Nat) (x1 : Int32) (h : Hp) : RS := kX10_leaks_0 r0 x1 h
theorem tX10_leaks {G : GG} {d : Nat} {r0 x1} {h : Hp} {o : OU} {h' : Hp} (e : fX10_leaks r0 x1 h = some (o, h')) (hd : 6 ≤ d) : VM G mX10_leaks d [.ref r0, .int x1] h o h' := uX10_leaks_0 hd e
def kX10_lost_0  (r0 : Nat) (x1 : Int32) (h : Hp) : RS := (if kH h r0 = 18 then (bI (fX10_isWhere x1 (h.1, (upI h.2 r0 0 0))) fun z3 h2 => (if ¬ z3 = 0 then (if kH h2 r0 = 18 then (bI (fX10_bad r0 0 1 1 h2) fun z7 h6 => (if z7 = 0 then (if kH h6 r0 = 18 then (bI (fX10_whereOf x1 h6) fun z13 h12 => (bI (fX10_linked (rH h6 r0 22) z13 h12) fun z16 h15 => (if kH h15 r0 = 18 then (bI (fX10_whereOf x1 h15) fun z20 h19 => (bI (fX10_reached (rH h15 r0 22) z20 h19) fun z23 h22 => (some (.inl (some (.int (z16 &&& (z23 ^^^ (-1))))), h22)))) else none))) else none) else (some (.inl (some (.int 0)), h6)))) else none) else (if kH h2 r0 = 18 then (bI (fX10_bad r0 1 1 1 h2) fun z26 h25 => (if z26 = 0 then (if kH h25 r0 = 18 then (bI (fX10_whereOf x1 h25) fun z32 h31 => (bI (fX10_linked (rH h25 r0 22) z32 h31) fun z35 h34 => (if kH h34 r0 = 18 then (bI (fX10_whereOf x1 h34) fun z39 h38 => (bI (fX10_reached (rH h34 r0 22) z39 h38) fun z42 h41 => (some (.inl (some (.int (z35 &&& (z42 ^^^ (-1))))), h41)))) else none))) else none) else (some (.inl (some (.int 0)), h25)))) else none))) else none)
theorem uX10_lost_0 {G : GG} {d : Nat} (hd : 5 ≤ d)   {r0  x1 } {h : Hp} {o : OU} {h' : Hp} (e : kX10_lost_0  r0 x1 h = some (o, h')) : VM G mX10_lost d [.ref r0, .int x1] h o h' := by
  unfold kX10_lost_0 at e
  refine eX10_lost r0 x1 (by omega) ?_
  obtain ⟨q1, e⟩ := ob_e e
  refine ⟨q1, ?_⟩
  obtain ⟨z3, h2, e2, e⟩ := bI_e e
  refine ⟨z3, h2, (tX10_isWhere e2 (by omega)), ?_⟩
  refine ⟨fun c3 => ?_, fun c3 => ?_⟩
  · have e := if_t e c3
    obtain ⟨q4, e⟩ := ob_e e
    refine ⟨q4, ?_⟩
    obtain ⟨z7, h6, e5, e⟩ := bI_e e
    refine ⟨z7, h6, (tX10_bad e5 (by omega)), ?_⟩
    refine ⟨fun c6 => ?_, fun c6 => ?_⟩
    · have e := if_t e c6
      obtain ⟨q7, e⟩ := ob_e e
      refine ⟨q7, ?_⟩
      obtain ⟨z13, h12, e8, e⟩ := bI_e e
      refine ⟨z13, h12, (tX10_whereOf e8 (by omega)), ?_⟩
      obtain ⟨z16, h15, e9, e⟩ := bI_e e
      refine ⟨z16, h15, (tX10_linked e9 (by omega)), ?_⟩
      obtain ⟨q10, e⟩ := ob_e e
      refine ⟨q10, ?_⟩
      obtain ⟨z20, h19, e11, e⟩ := bI_e e
      refine ⟨z20, h19, (tX10_whereOf e11 (by omega)), ?_⟩
      obtain ⟨z23, h22, e12, e⟩ := bI_e e
      refine ⟨z23, h22, (tX10_reached e12 (by omega)), ?_⟩
      cases e
      exact ⟨rfl, rfl⟩
    · have e := if_f e c6
      cases e
      exact ⟨rfl, rfl⟩
  · have e := if_n e c3
    obtain ⟨q13, e⟩ := ob_e e
    refine ⟨q13, ?_⟩
    obtain ⟨z26, h25, e14, e⟩ := bI_e e
    refine ⟨z26, h25, (tX10_bad e14 (by omega)), ?_⟩
    refine ⟨fun c15 => ?_, fun c15 => ?_⟩
    · have e := if_t e c15
      obtain ⟨q16, e⟩ := ob_e e
      refine ⟨q16, ?_⟩
      obtain ⟨z32, h31, e17, e⟩ := bI_e e
      refine ⟨z32, h31, (tX10_whereOf e17 (by omega)), ?_⟩
      obtain ⟨z35, h34, e18, e⟩ := bI_e e
      refine ⟨z35, h34, (tX10_linked e18 (by omega)), ?_⟩
      obtain ⟨q19, e⟩ := ob_e e
      refine ⟨q19, ?_⟩
      obtain ⟨z39, h38, e20, e⟩ := bI_e e
      refine ⟨z39, h38, (tX10_whereOf e20 (by omega)), ?_⟩
      obtain ⟨z42, h41, e21, e⟩ := bI_e e
      refine ⟨z42, h41, (tX10_reached e21 (by omega)), ?_⟩
      cases e
      exact ⟨rfl, rfl⟩
    · have e := if_f e c15
      cases e
      exact ⟨rfl, rfl⟩
def fX10_lost (r0 : Nat) (x1 : Int32) (h : Hp) : RS := kX10_lost_0 r0 x1 h
theorem tX10_lost {G : GG} {d : Nat} {r0 x1} {h : Hp} {o : OU} {h' : Hp} (e : fX10_lost r0 x1 h = some (o, h')) (hd : 5 ≤ d) : VM G mX10_lost d [.ref r0, .int x1] h o h' := uX10_lost_0 hd e
def kX10_brokenOf_0 (rec : Nat → List Value → List Value → Hp → RS)  (r0 : Nat) (r1 : Nat) (x2 : Int32) (h : Hp) : RS := (bI (fX10_reached r1 x2 h) fun z2 h1 => (bI (fX10_linked r1 x2 h1) fun z5 h4 => (rec 22 [uV, .ref r1, .int x2, .int 0, .int 0, .int z2, .int z5, .int 0, uV, uV] [] h4)))
theorem uX10_brokenOf_0 {G : GG} {d : Nat} (hd : 5 ≤ d) (rec : Nat → List Value → List Value → Hp → RS) (hrec : ∀ pc loc st h o h', rec pc loc st h = some (o, h') → V G mX10_brokenOf d pc loc st h o h')   {r0  r1  x2 } {h : Hp} {o : OU} {h' : Hp} (e : kX10_brokenOf_0 rec  r0 r1 x2 h = some (o, h')) : VM G mX10_brokenOf d [.ref r0, .ref r1, .int x2] h o h' := by
  unfold kX10_brokenOf_0 at e
  refine eX10_brokenOf r0 r1 x2 (by omega) ?_
  obtain ⟨z2, h1, e1, e⟩ := bI_e e
  refine ⟨z2, h1, (tX10_reached e1 (by omega)), ?_⟩
  obtain ⟨z5, h4, e2, e⟩ := bI_e e
  refine ⟨z5, h4, (tX10_linked e2 (by omega)), ?_⟩
  exact hrec _ _ _ _ _ _ e
def kX10_brokenOf_22 (rec : Nat → List Value → List Value → Hp → RS)  (r1 : Nat) (x2 : Int32) (x3 : Int32) (x4 : Int32) (x5 : Int32) (x6 : Int32) (x7 : Int32) (h : Hp) : RS := (if 12 ≤ x7 then (some (.inl (some (.int x3)), h)) else (rec 32 [uV, .ref r1, .int x2, .int x3, .int x4, .int x5, .int x6, .int x7, .int 0, uV] [] h))
theorem uX10_brokenOf_22 {G : GG} {d : Nat} (hd : 5 ≤ d) (rec : Nat → List Value → List Value → Hp → RS) (hrec : ∀ pc loc st h o h', rec pc loc st h = some (o, h') → V G mX10_brokenOf d pc loc st h o h')   {r1  x2  x3  x4  x5  x6  x7 } {h : Hp} {o : OU} {h' : Hp} (e : kX10_brokenOf_22 rec  r1 x2 x3 x4 x5 x6 x7 h = some (o, h')) : V G mX10_brokenOf d 22 [uV, .ref r1, .int x2, .int x3, .int x4, .int x5, .int x6, .int x7, uV, uV] [] h o h' := by
  unfold kX10_brokenOf_22 at e
  refine bX10_brokenOf_22 r1 x2 x3 x4 x5 x6 x7 ?_
  refine ⟨fun c1 => ?_, fun c1 => ?_⟩
  · have e := if_t e c1
    cases e
    exact ⟨rfl, rfl⟩
  · have e := if_f e c1
    exact hrec _ _ _ _ _ _ e
def kX10_brokenOf_32 (rec : Nat → List Value → List Value → Hp → RS)  (r1 : Nat) (x2 : Int32) (x3 : Int32) (x4 : Int32) (x5 : Int32) (x6 : Int32) (x7 : Int32) (x8 : Int32) (h : Hp) : RS := (bI (fX10_has x5 x7 h) fun z2 h1 => (if z2 = 0 then (rec 133 [uV, .ref r1, .int x2, .int x3, .int x4, .int x5, .int x6, .int x7, .int 2, uV] [] h1) else (bI (fX10_fieldOf r1 x2 x7 1 h1) fun z6 h5 => (if ¬ z6 = 2 then (rec 133 [uV, .ref r1, .int x2, .int x3, .int x4, .int x5, .int x6, .int x7, .int 2, uV] [] h5) else (bI (fX10_entryOf r1 x2 x7 x8 h5) fun z10 h9 => (if z10 = (-1) then (rec 133 [uV, .ref r1, .int x2, .int x3, .int x4, .int x5, .int x6, .int x7, .int 2, uV] [] h9) else (bI (fX10_entryOf r1 x2 x7 x8 h9) fun z14 h13 => (if kH h13 r1 = 1 then (if inB (x2 + z14) (lH h13 r1) = true then (if (h13.2 r1 (x2 + z14).toNatClampNeg) = 0 then (rec 32 [uV, .ref r1, .int x2, .int (x3 + 0), .int x4, .int x5, .int x6, .int x7, .int (x8 + 1), uV] [] h13) else (if inB ((x2 + z14) + 1) (lH h13 r1) = true then (bI (fX10_has x6 (h13.2 r1 ((x2 + z14) + 1).toNatClampNeg) h13) fun z21 h20 => (if z21 = 0 then (rec 32 [uV, .ref r1, .int x2, .int (x3 + 1), .int x4, .int x5, .int x6, .int x7, .int (x8 + 1), uV] [] h20) else (if kH h20 r1 = 1 then (if inB ((x2 + z14) + 1) (lH h20 r1) = true then (bI (fX10_fieldOf r1 x2 (h20.2 r1 ((x2 + z14) + 1).toNatClampNeg) 1 h20) fun z27 h26 => (if ¬ z27 = 0 then (rec 32 [uV, .ref r1, .int x2, .int (x3 + 0), .int x4, .int x5, .int x6, .int x7, .int (x8 + 1), uV] [] h26) else (rec 32 [uV, .ref r1, .int x2, .int (x3 + 1), .int x4, .int x5, .int x6, .int x7, .int (x8 + 1), uV] [] h26))) else none) else none))) else none)) else none) else none))))))))
theorem uX10_brokenOf_32 {G : GG} {d : Nat} (hd : 5 ≤ d) (rec : Nat → List Value → List Value → Hp → RS) (hrec : ∀ pc loc st h o h', rec pc loc st h = some (o, h') → V G mX10_brokenOf d pc loc st h o h')   {r1  x2  x3  x4  x5  x6  x7  x8 } {h : Hp} {o : OU} {h' : Hp} (e : kX10_brokenOf_32 rec  r1 x2 x3 x4 x5 x6 x7 x8 h = some (o, h')) : V G mX10_brokenOf d 32 [uV, .ref r1, .int x2, .int x3, .int x4, .int x5, .int x6, .int x7, .int x8, uV] [] h o h' := by
  unfold kX10_brokenOf_32 at e
  refine bX10_brokenOf_32 r1 x2 x3 x4 x5 x6 x7 x8 (by omega) ?_
  obtain ⟨z2, h1, e1, e⟩ := bI_e e
  refine ⟨z2, h1, (tX10_has e1 (by omega)), ?_⟩
  refine ⟨fun c2 => ?_, fun c2 => ?_⟩
  · have e := if_t e c2
    exact hrec _ _ _ _ _ _ e
  · have e := if_f e c2
    obtain ⟨z6, h5, e3, e⟩ := bI_e e
    refine ⟨z6, h5, (tX10_fieldOf e3 (by omega)), ?_⟩
    refine ⟨fun c4 => ?_, fun c4 => ?_⟩
    · have e := if_t e c4
      exact hrec _ _ _ _ _ _ e
    · have e := if_n e c4
      obtain ⟨z10, h9, e5, e⟩ := bI_e e
      refine ⟨z10, h9, (tX10_entryOf e5 (by omega)), ?_⟩
      refine ⟨fun c6 => ?_, fun c6 => ?_⟩
      · have e := if_t e c6
        exact hrec _ _ _ _ _ _ e
      · have e := if_f e c6
        obtain ⟨z14, h13, e7, e⟩ := bI_e e
        refine ⟨z14, h13, (tX10_entryOf e7 (by omega)), ?_⟩
        obtain ⟨q8, e⟩ := ob_e e
        refine ⟨q8, ?_⟩
        obtain ⟨q9, e⟩ := ob_in e
        refine ⟨q9, ?_⟩
        refine ⟨fun c10 => ?_, fun c10 => ?_⟩
        · have e := if_t e c10
          exact hrec _ _ _ _ _ _ e
        · have e := if_f e c10
          obtain ⟨q11, e⟩ := ob_in e
          refine ⟨q11, ?_⟩
          obtain ⟨z21, h20, e12, e⟩ := bI_e e
          refine ⟨z21, h20, (tX10_has e12 (by omega)), ?_⟩
          refine ⟨fun c13 => ?_, fun c13 => ?_⟩
          · have e := if_t e c13
            exact hrec _ _ _ _ _ _ e
          · have e := if_f e c13
            obtain ⟨q14, e⟩ := ob_e e
            refine ⟨q14, ?_⟩
            obtain ⟨q15, e⟩ := ob_in e
            refine ⟨q15, ?_⟩
            obtain ⟨z27, h26, e16, e⟩ := bI_e e
            refine ⟨z27, h26, (tX10_fieldOf e16 (by omega)), ?_⟩
            refine ⟨fun c17 => ?_, fun c17 => ?_⟩
            · have e := if_t e c17
              exact hrec _ _ _ _ _ _ e
            · have e := if_n e c17
              exact hrec _ _ _ _ _ _ e
def kX10_brokenOf_133 (rec : Nat → List Value → List Value → Hp → RS)  (r1 : Nat) (x2 : Int32) (x3 : Int32) (x4 : Int32) (x5 : Int32) (x6 : Int32) (x7 : Int32) (x8 : Int32) (h : Hp) : RS := (if 3 < x8 then (rec 22 [uV, .ref r1, .int x2, .int x3, .int x4, .int x5, .int x6, .int (x7 + 1), uV, uV] [] h) else (bI (fX10_fieldOf r1 x2 x7 x8 h) fun z3 h2 => (bI (fX10_has x6 x7 h2) fun z6 h5 => (if z6 = 0 then (rec 133 [uV, .ref r1, .int x2, .int x3, .int x4, .int x5, .int x6, .int x7, .int (x8 + 1), uV] [] h5) else (if ¬ z3 = 0 then (if kH h5 r1 = 1 then (if inB (x2 + z3) (lH h5 r1) = true then (if (h5.2 r1 (x2 + z3).toNatClampNeg) = 0 then (rec 133 [uV, .ref r1, .int x2, .int (x3 + 1), .int (x4 ||| (1 <<< (z3 &&& 31))), .int x5, .int x6, .int x7, .int (x8 + 1), uV] [] h5) else (bI (fX10_has x4 z3 h5) fun z14 h13 => (if z14 = 0 then (rec 133 [uV, .ref r1, .int x2, .int (x3 + 0), .int (x4 ||| (1 <<< (z3 &&& 31))), .int x5, .int x6, .int x7, .int (x8 + 1), uV] [] h13) else (rec 133 [uV, .ref r1, .int x2, .int (x3 + 1), .int (x4 ||| (1 <<< (z3 &&& 31))), .int x5, .int x6, .int x7, .int (x8 + 1), uV] [] h13)))) else none) else none) else (rec 133 [uV, .ref r1, .int x2, .int x3, .int x4, .int x5, .int x6, .int x7, .int (x8 + 1), uV] [] h5))))))
theorem uX10_brokenOf_133 {G : GG} {d : Nat} (hd : 5 ≤ d) (rec : Nat → List Value → List Value → Hp → RS) (hrec : ∀ pc loc st h o h', rec pc loc st h = some (o, h') → V G mX10_brokenOf d pc loc st h o h')   {r1  x2  x3  x4  x5  x6  x7  x8 } {h : Hp} {o : OU} {h' : Hp} (e : kX10_brokenOf_133 rec  r1 x2 x3 x4 x5 x6 x7 x8 h = some (o, h')) : V G mX10_brokenOf d 133 [uV, .ref r1, .int x2, .int x3, .int x4, .int x5, .int x6, .int x7, .int x8, uV] [] h o h' := by
  unfold kX10_brokenOf_133 at e
  refine bX10_brokenOf_133 r1 x2 x3 x4 x5 x6 x7 x8 (by omega) ?_
  refine ⟨fun c1 => ?_, fun c1 => ?_⟩
  · have e := if_t e c1
    exact hrec _ _ _ _ _ _ e
  · have e := if_f e c1
    obtain ⟨z3, h2, e2, e⟩ := bI_e e
    refine ⟨z3, h2, (tX10_fieldOf e2 (by omega)), ?_⟩
    obtain ⟨z6, h5, e3, e⟩ := bI_e e
    refine ⟨z6, h5, (tX10_has e3 (by omega)), ?_⟩
    refine ⟨fun c4 => ?_, fun c4 => ?_⟩
    · have e := if_t e c4
      exact hrec _ _ _ _ _ _ e
    · have e := if_f e c4
      refine ⟨fun c5 => ?_, fun c5 => ?_⟩
      · have e := if_t e c5
        obtain ⟨q6, e⟩ := ob_e e
        refine ⟨q6, ?_⟩
        obtain ⟨q7, e⟩ := ob_in e
        refine ⟨q7, ?_⟩
        refine ⟨fun c8 => ?_, fun c8 => ?_⟩
        · have e := if_t e c8
          exact hrec _ _ _ _ _ _ e
        · have e := if_f e c8
          obtain ⟨z14, h13, e9, e⟩ := bI_e e
          refine ⟨z14, h13, (tX10_has e9 (by omega)), ?_⟩
          refine ⟨fun c10 => ?_, fun c10 => ?_⟩
          · have e := if_t e c10
            exact hrec _ _ _ _ _ _ e
          · have e := if_f e c10
            exact hrec _ _ _ _ _ _ e
      · have e := if_n e c5
        exact hrec _ _ _ _ _ _ e
def sX10_brokenOf  (rec : Nat → List Value → List Value → Hp → RS) (pc : Nat) (loc st : List Value) (h : Hp) : RS := match pc, loc, st with
  | 22, [_, .ref r1, .int x2, .int x3, .int x4, .int x5, .int x6, .int x7, _, _], [] => kX10_brokenOf_22 rec  r1 x2 x3 x4 x5 x6 x7 h
  | 32, [_, .ref r1, .int x2, .int x3, .int x4, .int x5, .int x6, .int x7, .int x8, _], [] => kX10_brokenOf_32 rec  r1 x2 x3 x4 x5 x6 x7 x8 h
  | 133, [_, .ref r1, .int x2, .int x3, .int x4, .int x5, .int x6, .int x7, .int x8, _], [] => kX10_brokenOf_133 rec  r1 x2 x3 x4 x5 x6 x7 x8 h
  | _, _, _ => none
def gX10_brokenOf  : Nat → Nat → List Value → List Value → Hp → RS
  | 0 => fun _ _ _ _ => none
  | n + 1 => sX10_brokenOf  (gX10_brokenOf  n)
theorem wX10_brokenOf {G : GG} {d : Nat} (hd : 5 ≤ d)   : ∀ (n pc : Nat) (loc st : List Value) (h : Hp) (o : OU) (h' : Hp), gX10_brokenOf  n pc loc st h = some (o, h') → V G mX10_brokenOf d pc loc st h o h' := by
  intro n
  induction n with
  | zero => intro pc loc st h o h' e; cases e
  | succ n ih =>
    intro pc loc st h o h' e
    unfold gX10_brokenOf sX10_brokenOf at e
    split at e
    · exact V.drop (llp_u (llp_r (llp_r (llp_r (llp_r (llp_r (llp_r (llp_r (llp_u (llp_u llp_nil)))))))))) (uX10_brokenOf_22 hd _ ih   e)
    · exact V.drop (llp_u (llp_r (llp_r (llp_r (llp_r (llp_r (llp_r (llp_r (llp_r (llp_u llp_nil)))))))))) (uX10_brokenOf_32 hd _ ih   e)
    · exact V.drop (llp_u (llp_r (llp_r (llp_r (llp_r (llp_r (llp_r (llp_r (llp_r (llp_u llp_nil)))))))))) (uX10_brokenOf_133 hd _ ih   e)
    · cases e
theorem zX10_brokenOf_22  (n : Nat) (r1 : Nat) (x2 : Int32) (x3 : Int32) (x4 : Int32) (x5 : Int32) (x6 : Int32) (x7 : Int32) (y0 : Value) (y8 : Value) (y9 : Value) (h : Hp) : gX10_brokenOf  (n + 1) 22 [y0, .ref r1, .int x2, .int x3, .int x4, .int x5, .int x6, .int x7, y8, y9] [] h = kX10_brokenOf_22 (gX10_brokenOf  n)  r1 x2 x3 x4 x5 x6 x7 h := rfl
theorem zX10_brokenOf_32  (n : Nat) (r1 : Nat) (x2 : Int32) (x3 : Int32) (x4 : Int32) (x5 : Int32) (x6 : Int32) (x7 : Int32) (x8 : Int32) (y0 : Value) (y9 : Value) (h : Hp) : gX10_brokenOf  (n + 1) 32 [y0, .ref r1, .int x2, .int x3, .int x4, .int x5, .int x6, .int x7, .int x8, y9] [] h = kX10_brokenOf_32 (gX10_brokenOf  n)  r1 x2 x3 x4 x5 x6 x7 x8 h := rfl
theorem zX10_brokenOf_133  (n : Nat) (r1 : Nat) (x2 : Int32) (x3 : Int32) (x4 : Int32) (x5 : Int32) (x6 : Int32) (x7 : Int32) (x8 : Int32) (y0 : Value) (y9 : Value) (h : Hp) : gX10_brokenOf  (n + 1) 133 [y0, .ref r1, .int x2, .int x3, .int x4, .int x5, .int x6, .int x7, .int x8, y9] [] h = kX10_brokenOf_133 (gX10_brokenOf  n)  r1 x2 x3 x4 x5 x6 x7 x8 h := rfl
def fX10_brokenOf (r0 : Nat) (r1 : Nat) (x2 : Int32) (h : Hp) : RS := kX10_brokenOf_0 (gX10_brokenOf FF) r0 r1 x2 h
theorem tX10_brokenOf {G : GG} {d : Nat} {r0 r1 x2} {h : Hp} {o : OU} {h' : Hp} (e : fX10_brokenOf r0 r1 x2 h = some (o, h')) (hd : 5 ≤ d) : VM G mX10_brokenOf d [.ref r0, .ref r1, .int x2] h o h' := uX10_brokenOf_0 hd _ (wX10_brokenOf hd FF) e
def kX10_broken_0  (r0 : Nat) (x1 : Int32) (h : Hp) : RS := (if kH h r0 = 18 then (bI (fX10_isWhere x1 (h.1, (upI h.2 r0 0 0))) fun z3 h2 => (if ¬ z3 = 0 then (if kH h2 r0 = 18 then (bI (fX10_bad r0 0 1 1 h2) fun z7 h6 => (if z7 = 0 then (if kH h6 r0 = 18 then (bI (fX10_whereOf x1 h6) fun z13 h12 => (if kH h12 r0 = 18 then (bI (fX10_brokenOf r0 (rH h6 r0 22) z13 h12) fun z16 h15 => (some (.inl (some (.int z16)), h15))) else none)) else none) else (some (.inl (some (.int 0)), h6)))) else none) else (if kH h2 r0 = 18 then (bI (fX10_bad r0 1 1 1 h2) fun z20 h19 => (if z20 = 0 then (if kH h19 r0 = 18 then (bI (fX10_whereOf x1 h19) fun z26 h25 => (if kH h25 r0 = 18 then (bI (fX10_brokenOf r0 (rH h19 r0 22) z26 h25) fun z29 h28 => (some (.inl (some (.int z29)), h28))) else none)) else none) else (some (.inl (some (.int 0)), h19)))) else none))) else none)
theorem uX10_broken_0 {G : GG} {d : Nat} (hd : 6 ≤ d)   {r0  x1 } {h : Hp} {o : OU} {h' : Hp} (e : kX10_broken_0  r0 x1 h = some (o, h')) : VM G mX10_broken d [.ref r0, .int x1] h o h' := by
  unfold kX10_broken_0 at e
  refine eX10_broken r0 x1 (by omega) ?_
  obtain ⟨q1, e⟩ := ob_e e
  refine ⟨q1, ?_⟩
  obtain ⟨z3, h2, e2, e⟩ := bI_e e
  refine ⟨z3, h2, (tX10_isWhere e2 (by omega)), ?_⟩
  refine ⟨fun c3 => ?_, fun c3 => ?_⟩
  · have e := if_t e c3
    obtain ⟨q4, e⟩ := ob_e e
    refine ⟨q4, ?_⟩
    obtain ⟨z7, h6, e5, e⟩ := bI_e e
    refine ⟨z7, h6, (tX10_bad e5 (by omega)), ?_⟩
    refine ⟨fun c6 => ?_, fun c6 => ?_⟩
    · have e := if_t e c6
      obtain ⟨q7, e⟩ := ob_e e
      refine ⟨q7, ?_⟩
      obtain ⟨z13, h12, e8, e⟩ := bI_e e
      refine ⟨z13, h12, (tX10_whereOf e8 (by omega)), ?_⟩
      obtain ⟨q9, e⟩ := ob_e e
      refine ⟨q9, ?_⟩
      obtain ⟨z16, h15, e10, e⟩ := bI_e e
      refine ⟨z16, h15, (tX10_brokenOf e10 (by omega)), ?_⟩
      cases e
      exact ⟨rfl, rfl⟩
    · have e := if_f e c6
      cases e
      exact ⟨rfl, rfl⟩
  · have e := if_n e c3
    obtain ⟨q11, e⟩ := ob_e e
    refine ⟨q11, ?_⟩
    obtain ⟨z20, h19, e12, e⟩ := bI_e e
    refine ⟨z20, h19, (tX10_bad e12 (by omega)), ?_⟩
    refine ⟨fun c13 => ?_, fun c13 => ?_⟩
    · have e := if_t e c13
      obtain ⟨q14, e⟩ := ob_e e
      refine ⟨q14, ?_⟩
      obtain ⟨z26, h25, e15, e⟩ := bI_e e
      refine ⟨z26, h25, (tX10_whereOf e15 (by omega)), ?_⟩
      obtain ⟨q16, e⟩ := ob_e e
      refine ⟨q16, ?_⟩
      obtain ⟨z29, h28, e17, e⟩ := bI_e e
      refine ⟨z29, h28, (tX10_brokenOf e17 (by omega)), ?_⟩
      cases e
      exact ⟨rfl, rfl⟩
    · have e := if_f e c13
      cases e
      exact ⟨rfl, rfl⟩
def fX10_broken (r0 : Nat) (x1 : Int32) (h : Hp) : RS := kX10_broken_0 r0 x1 h
theorem tX10_broken {G : GG} {d : Nat} {r0 x1} {h : Hp} {o : OU} {h' : Hp} (e : fX10_broken r0 x1 h = some (o, h')) (hd : 6 ≤ d) : VM G mX10_broken d [.ref r0, .int x1] h o h' := uX10_broken_0 hd e
def kX10_underOf_0 (rec : Nat → List Value → List Value → Hp → RS) (FX10_underOf : Nat → Int32 → Int32 → Hp → RS) (r0 : Nat) (x1 : Int32) (x2 : Int32) (h : Hp) : RS := (rec 5 [.ref r0, .int x1, .int x2, .int 0, .int 0, uV] [] h)
theorem uX10_underOf_0 {G : GG} {d : Nat} (hd : 4 ≤ d) (rec : Nat → List Value → List Value → Hp → RS) (hrec : ∀ pc loc st h o h', rec pc loc st h = some (o, h') → V G mX10_underOf d pc loc st h o h') (FX10_underOf : Nat → Int32 → Int32 → Hp → RS) (TFX10_underOf : ∀ {a0 a1 a2} {h : Hp} {o : OU} {h' : Hp}, FX10_underOf a0 a1 a2 h = some (o, h') → VM G mX10_underOf (d - 1) [.ref a0, .int a1, .int a2] h o h') {r0  x1  x2 } {h : Hp} {o : OU} {h' : Hp} (e : kX10_underOf_0 rec FX10_underOf r0 x1 x2 h = some (o, h')) : VM G mX10_underOf d [.ref r0, .int x1, .int x2] h o h' := by
  unfold kX10_underOf_0 at e
  refine eX10_underOf r0 x1 x2 ?_
  exact hrec _ _ _ _ _ _ e
def kX10_underOf_5 (rec : Nat → List Value → List Value → Hp → RS) (FX10_underOf : Nat → Int32 → Int32 → Hp → RS) (r0 : Nat) (x1 : Int32) (x2 : Int32) (x3 : Int32) (x4 : Int32) (h : Hp) : RS := (if kH h r0 = 18 then (bI (fX10_isKind (rH h r0 22) x1 x2 2 h) fun z3 h2 => (if z3 = 0 then (some (.inl (some (.int x3)), h2)) else (if kH h2 r0 = 18 then (bI (fX10_entryOf (rH h2 r0 22) x1 x2 x4 h2) fun z8 h7 => (if z8 = (-1) then (some (.inl (some (.int x3)), h7)) else (if kH h7 r0 = 18 then (bI (fX10_entryOf (rH h7 r0 22) x1 x2 x4 h7) fun z13 h12 => (if kH h12 r0 = 18 then (if kH h12 (rH h12 r0 22) = 1 then (if inB (x1 + z13) (lH h12 (rH h12 r0 22)) = true then (if ¬ (h12.2 (rH h12 r0 22) (x1 + z13).toNatClampNeg) = 0 then (if inB ((x1 + z13) + 1) (lH h12 (rH h12 r0 22)) = true then (bI (FX10_underOf r0 x1 (h12.2 (rH h12 r0 22) ((x1 + z13) + 1).toNatClampNeg) h12) fun z21 h20 => (rec 5 [.ref r0, .int x1, .int x2, .int (x3 + (1 + z21)), .int (x4 + 1), uV] [] h20)) else none) else (rec 5 [.ref r0, .int x1, .int x2, .int (x3 + 0), .int (x4 + 1), uV] [] h12)) else none) else none) else none)) else none))) else none))) else none)
theorem uX10_underOf_5 {G : GG} {d : Nat} (hd : 4 ≤ d) (rec : Nat → List Value → List Value → Hp → RS) (hrec : ∀ pc loc st h o h', rec pc loc st h = some (o, h') → V G mX10_underOf d pc loc st h o h') (FX10_underOf : Nat → Int32 → Int32 → Hp → RS) (TFX10_underOf : ∀ {a0 a1 a2} {h : Hp} {o : OU} {h' : Hp}, FX10_underOf a0 a1 a2 h = some (o, h') → VM G mX10_underOf (d - 1) [.ref a0, .int a1, .int a2] h o h') {r0  x1  x2  x3  x4 } {h : Hp} {o : OU} {h' : Hp} (e : kX10_underOf_5 rec FX10_underOf r0 x1 x2 x3 x4 h = some (o, h')) : V G mX10_underOf d 5 [.ref r0, .int x1, .int x2, .int x3, .int x4, uV] [] h o h' := by
  unfold kX10_underOf_5 at e
  refine bX10_underOf_5 r0 x1 x2 x3 x4 (by omega) ?_
  obtain ⟨q1, e⟩ := ob_e e
  refine ⟨q1, ?_⟩
  obtain ⟨z3, h2, e2, e⟩ := bI_e e
  refine ⟨z3, h2, (tX10_isKind e2 (by omega)), ?_⟩
  refine ⟨fun c3 => ?_, fun c3 => ?_⟩
  · have e := if_t e c3
    cases e
    exact ⟨rfl, rfl⟩
  · have e := if_f e c3
    obtain ⟨q4, e⟩ := ob_e e
    refine ⟨q4, ?_⟩
    obtain ⟨z8, h7, e5, e⟩ := bI_e e
    refine ⟨z8, h7, (tX10_entryOf e5 (by omega)), ?_⟩
    refine ⟨fun c6 => ?_, fun c6 => ?_⟩
    · have e := if_t e c6
      cases e
      exact ⟨rfl, rfl⟩
    · have e := if_f e c6
      obtain ⟨q7, e⟩ := ob_e e
      refine ⟨q7, ?_⟩
      obtain ⟨z13, h12, e8, e⟩ := bI_e e
      refine ⟨z13, h12, (tX10_entryOf e8 (by omega)), ?_⟩
      obtain ⟨q9, e⟩ := ob_e e
      refine ⟨q9, ?_⟩
      obtain ⟨q10, e⟩ := ob_e e
      refine ⟨q10, ?_⟩
      obtain ⟨q11, e⟩ := ob_in e
      refine ⟨q11, ?_⟩
      refine ⟨fun c12 => ?_, fun c12 => ?_⟩
      · have e := if_t e c12
        obtain ⟨q13, e⟩ := ob_in e
        refine ⟨q13, ?_⟩
        obtain ⟨z21, h20, e14, e⟩ := bI_e e
        refine ⟨z21, h20, (TFX10_underOf e14), ?_⟩
        exact hrec _ _ _ _ _ _ e
      · have e := if_n e c12
        exact hrec _ _ _ _ _ _ e
def sX10_underOf (FX10_underOf : Nat → Int32 → Int32 → Hp → RS) (rec : Nat → List Value → List Value → Hp → RS) (pc : Nat) (loc st : List Value) (h : Hp) : RS := match pc, loc, st with
  | 5, [.ref r0, .int x1, .int x2, .int x3, .int x4, _], [] => kX10_underOf_5 rec FX10_underOf r0 x1 x2 x3 x4 h
  | _, _, _ => none
def gX10_underOf (FX10_underOf : Nat → Int32 → Int32 → Hp → RS) : Nat → Nat → List Value → List Value → Hp → RS
  | 0 => fun _ _ _ _ => none
  | n + 1 => sX10_underOf FX10_underOf (gX10_underOf FX10_underOf n)
theorem wX10_underOf {G : GG} {d : Nat} (hd : 4 ≤ d) (FX10_underOf : Nat → Int32 → Int32 → Hp → RS) (TFX10_underOf : ∀ {a0 a1 a2} {h : Hp} {o : OU} {h' : Hp}, FX10_underOf a0 a1 a2 h = some (o, h') → VM G mX10_underOf (d - 1) [.ref a0, .int a1, .int a2] h o h') : ∀ (n pc : Nat) (loc st : List Value) (h : Hp) (o : OU) (h' : Hp), gX10_underOf FX10_underOf n pc loc st h = some (o, h') → V G mX10_underOf d pc loc st h o h' := by
  intro n
  induction n with
  | zero => intro pc loc st h o h' e; cases e
  | succ n ih =>
    intro pc loc st h o h' e
    unfold gX10_underOf sX10_underOf at e
    split at e
    · exact V.drop (llp_r (llp_r (llp_r (llp_r (llp_r (llp_u llp_nil)))))) (uX10_underOf_5 hd _ ih _ TFX10_underOf e)
    · cases e
theorem zX10_underOf_5 (FX10_underOf : Nat → Int32 → Int32 → Hp → RS) (n : Nat) (r0 : Nat) (x1 : Int32) (x2 : Int32) (x3 : Int32) (x4 : Int32) (y5 : Value) (h : Hp) : gX10_underOf FX10_underOf (n + 1) 5 [.ref r0, .int x1, .int x2, .int x3, .int x4, y5] [] h = kX10_underOf_5 (gX10_underOf FX10_underOf n) FX10_underOf r0 x1 x2 x3 x4 h := rfl
def rX10_underOf : Nat → (Nat → Int32 → Int32 → Hp → RS)
  | 0 => fun _ _ _ _ => none
  | n + 1 => fun a0 a1 a2 h => kX10_underOf_0 (gX10_underOf ((rX10_underOf n)) FF) ((rX10_underOf n)) a0 a1 a2 h
theorem rtX10_underOf {G : GG} : ∀ (n d : Nat), 4 + n ≤ d → (∀ (a0 : Nat) (a1 : Int32) (a2 : Int32) (h : Hp) (o : OU) (h' : Hp), (rX10_underOf n) a0 a1 a2 h = some (o, h') → VM G mX10_underOf d [.ref a0, .int a1, .int a2] h o h') := by
  intro n
  induction n with
  | zero => intro d hd; exact fun _ _ _ _ _ _ e => (by cases e)
  | succ n ih =>
    intro d hd
    have ih := ih (d - 1) (by omega)
    exact fun _ _ _ _ _ _ e => uX10_underOf_0 (by omega) _ (wX10_underOf (by omega) _ (@fun _ _ _ _ _ _ e => ih _ _ _ _ _ _ e) FF) _ (@fun _ _ _ _ _ _ e => ih _ _ _ _ _ _ e) e
def fX10_underOf (a0 : Nat) (a1 : Int32) (a2 : Int32) (h : Hp) : RS := (rX10_underOf 40) a0 a1 a2 h
theorem tX10_underOf {G : GG} {d : Nat} {a0 a1 a2} {h : Hp} {o : OU} {h' : Hp} (e : fX10_underOf a0 a1 a2 h = some (o, h')) (hd : 4 + 40 ≤ d) : VM G mX10_underOf d [.ref a0, .int a1, .int a2] h o h' := (rtX10_underOf 40 d hd) _ _ _ _ _ _ e
def kX10_under_0  (r0 : Nat) (x1 : Int32) (x2 : Int32) (h : Hp) : RS := (if kH h r0 = 18 then (bI (fX10_isNode x1 (h.1, (upI h.2 r0 0 0))) fun z3 h2 => (if ¬ z3 = 0 then (if kH h2 r0 = 18 then (bI (fX10_bad r0 0 1 0 h2) fun z7 h6 => (if ¬ z7 = 0 then (some (.inl (some (.int 0)), h6)) else (bI (fX10_isWhere x2 h6) fun z12 h11 => (if ¬ z12 = 0 then (if kH h11 r0 = 18 then (bI (fX10_bad r0 0 2 1 h11) fun z16 h15 => (if z16 = 0 then (bI (fX10_whereOf x2 h15) fun z21 h20 => (if kH h20 r0 = 18 then (bI (fX10_underOf r0 z21 x1 h20) fun z24 h23 => (some (.inl (some (.int z24)), h23))) else none)) else (some (.inl (some (.int 0)), h15)))) else none) else (if kH h11 r0 = 18 then (bI (fX10_bad r0 1 2 1 h11) fun z28 h27 => (if z28 = 0 then (bI (fX10_whereOf x2 h27) fun z33 h32 => (if kH h32 r0 = 18 then (bI (fX10_underOf r0 z33 x1 h32) fun z36 h35 => (some (.inl (some (.int z36)), h35))) else none)) else (some (.inl (some (.int 0)), h27)))) else none))))) else none) else (if kH h2 r0 = 18 then (bI (fX10_bad r0 1 1 0 h2) fun z40 h39 => (if ¬ z40 = 0 then (some (.inl (some (.int 0)), h39)) else (bI (fX10_isWhere x2 h39) fun z45 h44 => (if ¬ z45 = 0 then (if kH h44 r0 = 18 then (bI (fX10_bad r0 0 2 1 h44) fun z49 h48 => (if z49 = 0 then (bI (fX10_whereOf x2 h48) fun z54 h53 => (if kH h53 r0 = 18 then (bI (fX10_underOf r0 z54 x1 h53) fun z57 h56 => (some (.inl (some (.int z57)), h56))) else none)) else (some (.inl (some (.int 0)), h48)))) else none) else (if kH h44 r0 = 18 then (bI (fX10_bad r0 1 2 1 h44) fun z61 h60 => (if z61 = 0 then (bI (fX10_whereOf x2 h60) fun z66 h65 => (if kH h65 r0 = 18 then (bI (fX10_underOf r0 z66 x1 h65) fun z69 h68 => (some (.inl (some (.int z69)), h68))) else none)) else (some (.inl (some (.int 0)), h60)))) else none))))) else none))) else none)
theorem uX10_under_0 {G : GG} {d : Nat} (hd : 45 ≤ d)   {r0  x1  x2 } {h : Hp} {o : OU} {h' : Hp} (e : kX10_under_0  r0 x1 x2 h = some (o, h')) : VM G mX10_under d [.ref r0, .int x1, .int x2] h o h' := by
  unfold kX10_under_0 at e
  refine eX10_under r0 x1 x2 (by omega) ?_
  obtain ⟨q1, e⟩ := ob_e e
  refine ⟨q1, ?_⟩
  obtain ⟨z3, h2, e2, e⟩ := bI_e e
  refine ⟨z3, h2, (tX10_isNode e2 (by omega)), ?_⟩
  refine ⟨fun c3 => ?_, fun c3 => ?_⟩
  · have e := if_t e c3
    obtain ⟨q4, e⟩ := ob_e e
    refine ⟨q4, ?_⟩
    obtain ⟨z7, h6, e5, e⟩ := bI_e e
    refine ⟨z7, h6, (tX10_bad e5 (by omega)), ?_⟩
    refine ⟨fun c6 => ?_, fun c6 => ?_⟩
    · have e := if_t e c6
      cases e
      exact ⟨rfl, rfl⟩
    · have e := if_n e c6
      obtain ⟨z12, h11, e7, e⟩ := bI_e e
      refine ⟨z12, h11, (tX10_isWhere e7 (by omega)), ?_⟩
      refine ⟨fun c8 => ?_, fun c8 => ?_⟩
      · have e := if_t e c8
        obtain ⟨q9, e⟩ := ob_e e
        refine ⟨q9, ?_⟩
        obtain ⟨z16, h15, e10, e⟩ := bI_e e
        refine ⟨z16, h15, (tX10_bad e10 (by omega)), ?_⟩
        refine ⟨fun c11 => ?_, fun c11 => ?_⟩
        · have e := if_t e c11
          obtain ⟨z21, h20, e12, e⟩ := bI_e e
          refine ⟨z21, h20, (tX10_whereOf e12 (by omega)), ?_⟩
          obtain ⟨q13, e⟩ := ob_e e
          refine ⟨q13, ?_⟩
          obtain ⟨z24, h23, e14, e⟩ := bI_e e
          refine ⟨z24, h23, (tX10_underOf e14 (by omega)), ?_⟩
          cases e
          exact ⟨rfl, rfl⟩
        · have e := if_f e c11
          cases e
          exact ⟨rfl, rfl⟩
      · have e := if_n e c8
        obtain ⟨q15, e⟩ := ob_e e
        refine ⟨q15, ?_⟩
        obtain ⟨z28, h27, e16, e⟩ := bI_e e
        refine ⟨z28, h27, (tX10_bad e16 (by omega)), ?_⟩
        refine ⟨fun c17 => ?_, fun c17 => ?_⟩
        · have e := if_t e c17
          obtain ⟨z33, h32, e18, e⟩ := bI_e e
          refine ⟨z33, h32, (tX10_whereOf e18 (by omega)), ?_⟩
          obtain ⟨q19, e⟩ := ob_e e
          refine ⟨q19, ?_⟩
          obtain ⟨z36, h35, e20, e⟩ := bI_e e
          refine ⟨z36, h35, (tX10_underOf e20 (by omega)), ?_⟩
          cases e
          exact ⟨rfl, rfl⟩
        · have e := if_f e c17
          cases e
          exact ⟨rfl, rfl⟩
  · have e := if_n e c3
    obtain ⟨q21, e⟩ := ob_e e
    refine ⟨q21, ?_⟩
    obtain ⟨z40, h39, e22, e⟩ := bI_e e
    refine ⟨z40, h39, (tX10_bad e22 (by omega)), ?_⟩
    refine ⟨fun c23 => ?_, fun c23 => ?_⟩
    · have e := if_t e c23
      cases e
      exact ⟨rfl, rfl⟩
    · have e := if_n e c23
      obtain ⟨z45, h44, e24, e⟩ := bI_e e
      refine ⟨z45, h44, (tX10_isWhere e24 (by omega)), ?_⟩
      refine ⟨fun c25 => ?_, fun c25 => ?_⟩
      · have e := if_t e c25
        obtain ⟨q26, e⟩ := ob_e e
        refine ⟨q26, ?_⟩
        obtain ⟨z49, h48, e27, e⟩ := bI_e e
        refine ⟨z49, h48, (tX10_bad e27 (by omega)), ?_⟩
        refine ⟨fun c28 => ?_, fun c28 => ?_⟩
        · have e := if_t e c28
          obtain ⟨z54, h53, e29, e⟩ := bI_e e
          refine ⟨z54, h53, (tX10_whereOf e29 (by omega)), ?_⟩
          obtain ⟨q30, e⟩ := ob_e e
          refine ⟨q30, ?_⟩
          obtain ⟨z57, h56, e31, e⟩ := bI_e e
          refine ⟨z57, h56, (tX10_underOf e31 (by omega)), ?_⟩
          cases e
          exact ⟨rfl, rfl⟩
        · have e := if_f e c28
          cases e
          exact ⟨rfl, rfl⟩
      · have e := if_n e c25
        obtain ⟨q32, e⟩ := ob_e e
        refine ⟨q32, ?_⟩
        obtain ⟨z61, h60, e33, e⟩ := bI_e e
        refine ⟨z61, h60, (tX10_bad e33 (by omega)), ?_⟩
        refine ⟨fun c34 => ?_, fun c34 => ?_⟩
        · have e := if_t e c34
          obtain ⟨z66, h65, e35, e⟩ := bI_e e
          refine ⟨z66, h65, (tX10_whereOf e35 (by omega)), ?_⟩
          obtain ⟨q36, e⟩ := ob_e e
          refine ⟨q36, ?_⟩
          obtain ⟨z69, h68, e37, e⟩ := bI_e e
          refine ⟨z69, h68, (tX10_underOf e37 (by omega)), ?_⟩
          cases e
          exact ⟨rfl, rfl⟩
        · have e := if_f e c34
          cases e
          exact ⟨rfl, rfl⟩
def fX10_under (r0 : Nat) (x1 : Int32) (x2 : Int32) (h : Hp) : RS := kX10_under_0 r0 x1 x2 h
theorem tX10_under {G : GG} {d : Nat} {r0 x1 x2} {h : Hp} {o : OU} {h' : Hp} (e : fX10_under r0 x1 x2 h = some (o, h')) (hd : 45 ≤ d) : VM G mX10_under d [.ref r0, .int x1, .int x2] h o h' := uX10_under_0 hd e
