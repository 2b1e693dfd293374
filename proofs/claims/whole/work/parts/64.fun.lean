def bC (r : RS) (k : Int32 → Hp → RS) (c : String → Hp → RS) : RS := match r with
  | some (.inl (some (.int z)), h) => k z h
  | some (.inr E, h) => c E h
  | _ => none
theorem bC_e {r : RS} {k : Int32 → Hp → RS} {c : String → Hp → RS} {x : OU × Hp} (h : bC r k c = some x) : (∃ z h1, r = some (.inl (some (.int z)), h1) ∧ k z h1 = some x) ∨ ∃ E h1, r = some (.inr E, h1) ∧ c E h1 = some x := by
  unfold bC at h
  split at h
  · exact Or.inl ⟨_, _, rfl, h⟩
  · exact Or.inr ⟨_, _, rfl, h⟩
  · cases h

def kX3_isSpelled_0 (rec : Nat → List Value → List Value → Hp → RS)  (r0 : Nat) (x1 : Int32) (x2 : Int32) (h : Hp) : RS := (if kH h r0 = 13 then (if ((h.2 r0 7) - x2) ≤ 5 then (rec 14 [.ref r0, .int x1, .int x2, .int 0, uV] [] h) else (some (.inl (some (.int 0)), h))) else none)
theorem uX3_isSpelled_0 {G : GG} {d : Nat} (hd : 4 ≤ d) (rec : Nat → List Value → List Value → Hp → RS) (hrec : ∀ pc loc st h o h', rec pc loc st h = some (o, h') → V G mX3_isSpelled d pc loc st h o h')   {r0  x1  x2 } {h : Hp} {o : OU} {h' : Hp} (e : kX3_isSpelled_0 rec  r0 x1 x2 h = some (o, h')) : VM G mX3_isSpelled d [.ref r0, .int x1, .int x2] h o h' := by
  unfold kX3_isSpelled_0 at e
  refine eX3_isSpelled r0 x1 x2 ?_
  obtain ⟨q1, e⟩ := ob_e e
  refine ⟨q1, ?_⟩
  refine ⟨fun c2 => ?_, fun c2 => ?_⟩
  · have e := if_t e c2
    exact hrec _ _ _ _ _ _ e
  · have e := if_f e c2
    cases e
    exact ⟨rfl, rfl⟩
def kX3_isSpelled_14 (rec : Nat → List Value → List Value → Hp → RS)  (r0 : Nat) (x1 : Int32) (x2 : Int32) (x3 : Int32) (h : Hp) : RS := (if 5 ≤ x3 then (some (.inl (some (.int 1)), h)) else (if kH h r0 = 13 then (if (h.2 r0 7) ≤ (x2 + x3) then (bI (fJ0_charAt_5068e 2 ((x1 * 5) + x3) h) fun z5 h4 => (if z5 = 32 then (rec 14 [.ref r0, .int x1, .int x2, .int (x3 + 1), uV] [] h4) else (some (.inl (some (.int 0)), h4)))) else (if kH h (rH h r0 5) = 2 then (if inB (x2 + x3) (lH h (rH h r0 5)) = true then (bI (fJ0_charAt_5068e 2 ((x1 * 5) + x3) h) fun z11 h10 => (if z11 = (h.2 (rH h r0 5) (x2 + x3).toNatClampNeg) then (rec 14 [.ref r0, .int x1, .int x2, .int (x3 + 1), uV] [] h10) else (some (.inl (some (.int 0)), h10)))) else none) else none)) else none))
theorem uX3_isSpelled_14 {G : GG} {d : Nat} (hd : 4 ≤ d) (rec : Nat → List Value → List Value → Hp → RS) (hrec : ∀ pc loc st h o h', rec pc loc st h = some (o, h') → V G mX3_isSpelled d pc loc st h o h')   {r0  x1  x2  x3 } {h : Hp} {o : OU} {h' : Hp} (e : kX3_isSpelled_14 rec  r0 x1 x2 x3 h = some (o, h')) : V G mX3_isSpelled d 14 [.ref r0, .int x1, .int x2, .int x3, uV] [] h o h' := by
  unfold kX3_isSpelled_14 at e
  refine bX3_isSpelled_14 r0 x1 x2 x3 (by omega) ?_
  refine ⟨fun c1 => ?_, fun c1 => ?_⟩
  · have e := if_t e c1
    cases e
    exact ⟨rfl, rfl⟩
  · have e := if_f e c1
    obtain ⟨q2, e⟩ := ob_e e
    refine ⟨q2, ?_⟩
    refine ⟨fun c3 => ?_, fun c3 => ?_⟩
    · have e := if_t e c3
      obtain ⟨z5, h4, e4, e⟩ := bI_e e
      refine ⟨z5, h4, (tJ0_charAt_5068e e4 (by omega)), ?_⟩
      refine ⟨fun c5 => ?_, fun c5 => ?_⟩
      · have e := if_t e c5
        exact hrec _ _ _ _ _ _ e
      · have e := if_f e c5
        cases e
        exact ⟨rfl, rfl⟩
    · have e := if_f e c3
      obtain ⟨q6, e⟩ := ob_e e
      refine ⟨q6, ?_⟩
      obtain ⟨q7, e⟩ := ob_in e
      refine ⟨q7, ?_⟩
      obtain ⟨z11, h10, e8, e⟩ := bI_e e
      refine ⟨z11, h10, (tJ0_charAt_5068e e8 (by omega)), ?_⟩
      refine ⟨fun c9 => ?_, fun c9 => ?_⟩
      · have e := if_t e c9
        exact hrec _ _ _ _ _ _ e
      · have e := if_f e c9
        cases e
        exact ⟨rfl, rfl⟩
def sX3_isSpelled  (rec : Nat → List Value → List Value → Hp → RS) (pc : Nat) (loc st : List Value) (h : Hp) : RS := match pc, loc, st with
  | 14, [.ref r0, .int x1, .int x2, .int x3, _], [] => kX3_isSpelled_14 rec  r0 x1 x2 x3 h
  | _, _, _ => none
def gX3_isSpelled  : Nat → Nat → List Value → List Value → Hp → RS
  | 0 => fun _ _ _ _ => none
  | n + 1 => sX3_isSpelled  (gX3_isSpelled  n)
theorem wX3_isSpelled {G : GG} {d : Nat} (hd : 4 ≤ d)   : ∀ (n pc : Nat) (loc st : List Value) (h : Hp) (o : OU) (h' : Hp), gX3_isSpelled  n pc loc st h = some (o, h') → V G mX3_isSpelled d pc loc st h o h' := by
  intro n
  induction n with
  | zero => intro pc loc st h o h' e; cases e
  | succ n ih =>
    intro pc loc st h o h' e
    unfold gX3_isSpelled sX3_isSpelled at e
    split at e
    · exact V.drop (llp_r (llp_r (llp_r (llp_r (llp_u llp_nil))))) (uX3_isSpelled_14 hd _ ih   e)
    · cases e
theorem zX3_isSpelled_14  (n : Nat) (r0 : Nat) (x1 : Int32) (x2 : Int32) (x3 : Int32) (y4 : Value) (h : Hp) : gX3_isSpelled  (n + 1) 14 [.ref r0, .int x1, .int x2, .int x3, y4] [] h = kX3_isSpelled_14 (gX3_isSpelled  n)  r0 x1 x2 x3 h := rfl
def fX3_isSpelled (r0 : Nat) (x1 : Int32) (x2 : Int32) (h : Hp) : RS := kX3_isSpelled_0 (gX3_isSpelled FF) r0 x1 x2 h
theorem tX3_isSpelled {G : GG} {d : Nat} {r0 x1 x2} {h : Hp} {o : OU} {h' : Hp} (e : fX3_isSpelled r0 x1 x2 h = some (o, h')) (hd : 4 ≤ d) : VM G mX3_isSpelled d [.ref r0, .int x1, .int x2] h o h' := uX3_isSpelled_0 hd _ (wX3_isSpelled hd FF) e
def kX9_testLength_0  (r0 : Nat) (x1 : Int32) (x2 : Int32) (h : Hp) : RS := (if x1 < 0 then (if kH h r0 = 19 then (if kH h (rH h r0 10) = 1 then (if inB 1 (lH h (rH h r0 10)) = true then (some (.inr xIA, nwH (h.1, (upI h.2 (rH h r0 10) 1 ((h.2 (rH h r0 10) 1) + 1))) 30 0 6)) else none) else none) else none) else (if kH h r0 = 19 then (if (h.2 r0 12) < x1 then (if kH h (rH h r0 10) = 1 then (if inB 1 (lH h (rH h r0 10)) = true then (some (.inr xIA, nwH (h.1, (upI h.2 (rH h r0 10) 1 ((h.2 (rH h r0 10) 1) + 1))) 30 0 6)) else none) else none) else (if x1 ≤ x2 then (some (.inl none, h)) else (if kH h (rH h r0 10) = 1 then (if inB 1 (lH h (rH h r0 10)) = true then (some (.inr xIA, nwH (h.1, (upI h.2 (rH h r0 10) 1 ((h.2 (rH h r0 10) 1) + 1))) 30 0 6)) else none) else none))) else none))
theorem uX9_testLength_0 {G : GG} {d : Nat} (hd : 8 ≤ d)   {r0  x1  x2 } {h : Hp} {o : OU} {h' : Hp} (e : kX9_testLength_0  r0 x1 x2 h = some (o, h')) : VM G mX9_testLength d [.ref r0, .int x1, .int x2] h o h' := by
  unfold kX9_testLength_0 at e
  refine eX9_testLength r0 x1 x2 (by omega) ?_
  refine ⟨fun c1 => ?_, fun c1 => ?_⟩
  · have e := if_t e c1
    obtain ⟨q2, e⟩ := ob_e e
    refine ⟨q2, ?_⟩
    obtain ⟨q3, e⟩ := ob_e e
    refine ⟨q3, ?_⟩
    obtain ⟨q4, e⟩ := ob_in e
    refine ⟨q4, ?_⟩
    cases e
    exact ⟨rfl, rfl⟩
  · have e := if_f e c1
    obtain ⟨q5, e⟩ := ob_e e
    refine ⟨q5, ?_⟩
    refine ⟨fun c6 => ?_, fun c6 => ?_⟩
    · have e := if_t e c6
      obtain ⟨q7, e⟩ := ob_e e
      refine ⟨q7, ?_⟩
      obtain ⟨q8, e⟩ := ob_in e
      refine ⟨q8, ?_⟩
      cases e
      exact ⟨rfl, rfl⟩
    · have e := if_f e c6
      refine ⟨fun c9 => ?_, fun c9 => ?_⟩
      · have e := if_t e c9
        cases e
        exact ⟨rfl, rfl⟩
      · have e := if_f e c9
        obtain ⟨q10, e⟩ := ob_e e
        refine ⟨q10, ?_⟩
        obtain ⟨q11, e⟩ := ob_in e
        refine ⟨q11, ?_⟩
        cases e
        exact ⟨rfl, rfl⟩
def fX9_testLength (r0 : Nat) (x1 : Int32) (x2 : Int32) (h : Hp) : RS := kX9_testLength_0 r0 x1 x2 h
theorem tX9_testLength {G : GG} {d : Nat} {r0 x1 x2} {h : Hp} {o : OU} {h' : Hp} (e : fX9_testLength r0 x1 x2 h = some (o, h')) (hd : 8 ≤ d) : VM G mX9_testLength d [.ref r0, .int x1, .int x2] h o h' := uX9_testLength_0 hd e
def kX9_testRange_0  (r0 : Nat) (x1 : Int32) (x2 : Int32) (x3 : Int32) (h : Hp) : RS := (if x1 < x2 then (if kH h r0 = 19 then (if kH h (rH h r0 10) = 1 then (if inB 1 (lH h (rH h r0 10)) = true then (some (.inr xIA, nwH (h.1, (upI h.2 (rH h r0 10) 1 ((h.2 (rH h r0 10) 1) + 1))) 30 0 6)) else none) else none) else none) else (if x1 ≤ x3 then (some (.inl none, h)) else (if kH h r0 = 19 then (if kH h (rH h r0 10) = 1 then (if inB 1 (lH h (rH h r0 10)) = true then (some (.inr xIA, nwH (h.1, (upI h.2 (rH h r0 10) 1 ((h.2 (rH h r0 10) 1) + 1))) 30 0 6)) else none) else none) else none)))
theorem uX9_testRange_0 {G : GG} {d : Nat} (hd : 8 ≤ d)   {r0  x1  x2  x3 } {h : Hp} {o : OU} {h' : Hp} (e : kX9_testRange_0  r0 x1 x2 x3 h = some (o, h')) : VM G mX9_testRange d [.ref r0, .int x1, .int x2, .int x3] h o h' := by
  unfold kX9_testRange_0 at e
  refine eX9_testRange r0 x1 x2 x3 (by omega) ?_
  refine ⟨fun c1 => ?_, fun c1 => ?_⟩
  · have e := if_t e c1
    obtain ⟨q2, e⟩ := ob_e e
    refine ⟨q2, ?_⟩
    obtain ⟨q3, e⟩ := ob_e e
    refine ⟨q3, ?_⟩
    obtain ⟨q4, e⟩ := ob_in e
    refine ⟨q4, ?_⟩
    cases e
    exact ⟨rfl, rfl⟩
  · have e := if_f e c1
    refine ⟨fun c5 => ?_, fun c5 => ?_⟩
    · have e := if_t e c5
      cases e
      exact ⟨rfl, rfl⟩
    · have e := if_f e c5
      obtain ⟨q6, e⟩ := ob_e e
      refine ⟨q6, ?_⟩
      obtain ⟨q7, e⟩ := ob_e e
      refine ⟨q7, ?_⟩
      obtain ⟨q8, e⟩ := ob_in e
      refine ⟨q8, ?_⟩
      cases e
      exact ⟨rfl, rfl⟩
def fX9_testRange (r0 : Nat) (x1 : Int32) (x2 : Int32) (x3 : Int32) (h : Hp) : RS := kX9_testRange_0 r0 x1 x2 x3 h
theorem tX9_testRange {G : GG} {d : Nat} {r0 x1 x2 x3} {h : Hp} {o : OU} {h' : Hp} (e : fX9_testRange r0 x1 x2 x3 h = some (o, h')) (hd : 8 ≤ d) : VM G mX9_testRange d [.ref r0, .int x1, .int x2, .int x3] h o h' := uX9_testRange_0 hd e
def kX9_testBlock_0  (r0 : Nat) (x1 : Int32) (h : Hp) : RS := (if x1 < 0 then (if kH h r0 = 19 then (if kH h (rH h r0 10) = 1 then (if inB 3 (lH h (rH h r0 10)) = true then (some (.inr xIO, nwH (h.1, (upI h.2 (rH h r0 10) 3 ((h.2 (rH h r0 10) 3) + 1))) 30 0 6)) else none) else none) else none) else (if kH h r0 = 19 then (if kH h (rH h r0 0) = 15 then (if x1 < (h.2 (rH h r0 0) 0) then (some (.inl none, h)) else (if kH h (rH h r0 10) = 1 then (if inB 3 (lH h (rH h r0 10)) = true then (some (.inr xIO, nwH (h.1, (upI h.2 (rH h r0 10) 3 ((h.2 (rH h r0 10) 3) + 1))) 30 0 6)) else none) else none)) else none) else none))
theorem uX9_testBlock_0 {G : GG} {d : Nat} (hd : 8 ≤ d)   {r0  x1 } {h : Hp} {o : OU} {h' : Hp} (e : kX9_testBlock_0  r0 x1 h = some (o, h')) : VM G mX9_testBlock d [.ref r0, .int x1] h o h' := by
  unfold kX9_testBlock_0 at e
  refine eX9_testBlock r0 x1 (by omega) ?_
  refine ⟨fun c1 => ?_, fun c1 => ?_⟩
  · have e := if_t e c1
    obtain ⟨q2, e⟩ := ob_e e
    refine ⟨q2, ?_⟩
    obtain ⟨q3, e⟩ := ob_e e
    refine ⟨q3, ?_⟩
    obtain ⟨q4, e⟩ := ob_in e
    refine ⟨q4, ?_⟩
    cases e
    exact ⟨rfl, rfl⟩
  · have e := if_f e c1
    obtain ⟨q5, e⟩ := ob_e e
    refine ⟨q5, ?_⟩
    obtain ⟨q6, e⟩ := ob_e e
    refine ⟨q6, ?_⟩
    refine ⟨fun c7 => ?_, fun c7 => ?_⟩
    · have e := if_t e c7
      cases e
      exact ⟨rfl, rfl⟩
    · have e := if_f e c7
      obtain ⟨q8, e⟩ := ob_e e
      refine ⟨q8, ?_⟩
      obtain ⟨q9, e⟩ := ob_in e
      refine ⟨q9, ?_⟩
      cases e
      exact ⟨rfl, rfl⟩
def fX9_testBlock (r0 : Nat) (x1 : Int32) (h : Hp) : RS := kX9_testBlock_0 r0 x1 h
theorem tX9_testBlock {G : GG} {d : Nat} {r0 x1} {h : Hp} {o : OU} {h' : Hp} (e : fX9_testBlock r0 x1 h = some (o, h')) (hd : 8 ≤ d) : VM G mX9_testBlock d [.ref r0, .int x1] h o h' := uX9_testBlock_0 hd e
def kX9_testPlace_0  (r0 : Nat) (x1 : Int32) (h : Hp) : RS := (if x1 < 0 then (if kH h r0 = 19 then (if kH h (rH h r0 10) = 1 then (if inB 3 (lH h (rH h r0 10)) = true then (some (.inr xIO, nwH (h.1, (upI h.2 (rH h r0 10) 3 ((h.2 (rH h r0 10) 3) + 1))) 30 0 6)) else none) else none) else none) else (if x1 < 16 then (some (.inl none, h)) else (if kH h r0 = 19 then (if kH h (rH h r0 10) = 1 then (if inB 3 (lH h (rH h r0 10)) = true then (some (.inr xIO, nwH (h.1, (upI h.2 (rH h r0 10) 3 ((h.2 (rH h r0 10) 3) + 1))) 30 0 6)) else none) else none) else none)))
theorem uX9_testPlace_0 {G : GG} {d : Nat} (hd : 8 ≤ d)   {r0  x1 } {h : Hp} {o : OU} {h' : Hp} (e : kX9_testPlace_0  r0 x1 h = some (o, h')) : VM G mX9_testPlace d [.ref r0, .int x1] h o h' := by
  unfold kX9_testPlace_0 at e
  refine eX9_testPlace r0 x1 (by omega) ?_
  refine ⟨fun c1 => ?_, fun c1 => ?_⟩
  · have e := if_t e c1
    obtain ⟨q2, e⟩ := ob_e e
    refine ⟨q2, ?_⟩
    obtain ⟨q3, e⟩ := ob_e e
    refine ⟨q3, ?_⟩
    obtain ⟨q4, e⟩ := ob_in e
    refine ⟨q4, ?_⟩
    cases e
    exact ⟨rfl, rfl⟩
  · have e := if_f e c1
    refine ⟨fun c5 => ?_, fun c5 => ?_⟩
    · have e := if_t e c5
      cases e
      exact ⟨rfl, rfl⟩
    · have e := if_f e c5
      obtain ⟨q6, e⟩ := ob_e e
      refine ⟨q6, ?_⟩
      obtain ⟨q7, e⟩ := ob_e e
      refine ⟨q7, ?_⟩
      obtain ⟨q8, e⟩ := ob_in e
      refine ⟨q8, ?_⟩
      cases e
      exact ⟨rfl, rfl⟩
def fX9_testPlace (r0 : Nat) (x1 : Int32) (h : Hp) : RS := kX9_testPlace_0 r0 x1 h
theorem tX9_testPlace {G : GG} {d : Nat} {r0 x1} {h : Hp} {o : OU} {h' : Hp} (e : fX9_testPlace r0 x1 h = some (o, h')) (hd : 8 ≤ d) : VM G mX9_testPlace d [.ref r0, .int x1] h o h' := uX9_testPlace_0 hd e
def kX3_readWord_0 (rec : Nat → List Value → List Value → Hp → RS)  (r0 : Nat) (h : Hp) : RS := (if kH h r0 = 13 then (rec 5 [.ref r0, .int (h.2 r0 7), uV] [] h) else none)
theorem uX3_readWord_0 {G : GG} {d : Nat} (hd : 5 ≤ d) (rec : Nat → List Value → List Value → Hp → RS) (hrec : ∀ pc loc st h o h', rec pc loc st h = some (o, h') → V G mX3_readWord d pc loc st h o h')   {r0 } {h : Hp} {o : OU} {h' : Hp} (e : kX3_readWord_0 rec  r0 h = some (o, h')) : VM G mX3_readWord d [.ref r0] h o h' := by
  unfold kX3_readWord_0 at e
  refine eX3_readWord r0 ?_
  obtain ⟨q1, e⟩ := ob_e e
  refine ⟨q1, ?_⟩
  exact hrec _ _ _ _ _ _ e
def kX3_readWord_5 (rec : Nat → List Value → List Value → Hp → RS)  (r0 : Nat) (x1 : Int32) (h : Hp) : RS := (if kH h r0 = 13 then (if (h.2 r0 6) ≤ (h.2 r0 7) then (rec 59 [.ref r0, .int x1, .int 0] [] h) else (if kH h (rH h r0 5) = 2 then (if inB (h.2 r0 7) (lH h (rH h r0 5)) = true then (if (h.2 (rH h r0 5) (h.2 r0 7).toNatClampNeg) < 97 then (rec 59 [.ref r0, .int x1, .int 0] [] h) else (if 122 < (h.2 (rH h r0 5) (h.2 r0 7).toNatClampNeg) then (rec 59 [.ref r0, .int x1, .int 0] [] h) else (rec 5 [.ref r0, .int x1, uV] [] (h.1, (upI h.2 r0 7 ((h.2 r0 7) + 1)))))) else none) else none)) else none)
theorem uX3_readWord_5 {G : GG} {d : Nat} (hd : 5 ≤ d) (rec : Nat → List Value → List Value → Hp → RS) (hrec : ∀ pc loc st h o h', rec pc loc st h = some (o, h') → V G mX3_readWord d pc loc st h o h')   {r0  x1 } {h : Hp} {o : OU} {h' : Hp} (e : kX3_readWord_5 rec  r0 x1 h = some (o, h')) : V G mX3_readWord d 5 [.ref r0, .int x1, uV] [] h o h' := by
  unfold kX3_readWord_5 at e
  refine bX3_readWord_5 r0 x1 ?_
  obtain ⟨q1, e⟩ := ob_e e
  refine ⟨q1, ?_⟩
  refine ⟨fun c2 => ?_, fun c2 => ?_⟩
  · have e := if_t e c2
    exact hrec _ _ _ _ _ _ e
  · have e := if_f e c2
    obtain ⟨q3, e⟩ := ob_e e
    refine ⟨q3, ?_⟩
    obtain ⟨q4, e⟩ := ob_in e
    refine ⟨q4, ?_⟩
    refine ⟨fun c5 => ?_, fun c5 => ?_⟩
    · have e := if_t e c5
      exact hrec _ _ _ _ _ _ e
    · have e := if_f e c5
      refine ⟨fun c6 => ?_, fun c6 => ?_⟩
      · have e := if_t e c6
        exact hrec _ _ _ _ _ _ e
      · have e := if_f e c6
        exact hrec _ _ _ _ _ _ e
def kX3_readWord_59 (rec : Nat → List Value → List Value → Hp → RS)  (r0 : Nat) (x1 : Int32) (x2 : Int32) (h : Hp) : RS := (if 12 < x2 then (if kH h r0 = 13 then (bV (fX3_blame r0 1 x1 h) fun h2 => (some (.inl (some (.int (-1))), h2))) else none) else (if kH h r0 = 13 then (bI (fX3_isSpelled r0 x2 x1 h) fun z6 h5 => (if z6 = 0 then (rec 59 [.ref r0, .int x1, .int (x2 + 1)] [] h5) else (some (.inl (some (.int x2)), h5)))) else none))
theorem uX3_readWord_59 {G : GG} {d : Nat} (hd : 5 ≤ d) (rec : Nat → List Value → List Value → Hp → RS) (hrec : ∀ pc loc st h o h', rec pc loc st h = some (o, h') → V G mX3_readWord d pc loc st h o h')   {r0  x1  x2 } {h : Hp} {o : OU} {h' : Hp} (e : kX3_readWord_59 rec  r0 x1 x2 h = some (o, h')) : V G mX3_readWord d 59 [.ref r0, .int x1, .int x2] [] h o h' := by
  unfold kX3_readWord_59 at e
  refine bX3_readWord_59 r0 x1 x2 (by omega) ?_
  refine ⟨fun c1 => ?_, fun c1 => ?_⟩
  · have e := if_t e c1
    obtain ⟨q2, e⟩ := ob_e e
    refine ⟨q2, ?_⟩
    obtain ⟨h2, e3, e⟩ := bV_e e
    refine ⟨h2, (tX3_blame e3 (by omega)), ?_⟩
    cases e
    exact ⟨rfl, rfl⟩
  · have e := if_f e c1
    obtain ⟨q4, e⟩ := ob_e e
    refine ⟨q4, ?_⟩
    obtain ⟨z6, h5, e5, e⟩ := bI_e e
    refine ⟨z6, h5, (tX3_isSpelled e5 (by omega)), ?_⟩
    refine ⟨fun c6 => ?_, fun c6 => ?_⟩
    · have e := if_t e c6
      exact hrec _ _ _ _ _ _ e
    · have e := if_f e c6
      cases e
      exact ⟨rfl, rfl⟩
def sX3_readWord  (rec : Nat → List Value → List Value → Hp → RS) (pc : Nat) (loc st : List Value) (h : Hp) : RS := match pc, loc, st with
  | 5, [.ref r0, .int x1, _], [] => kX3_readWord_5 rec  r0 x1 h
  | 59, [.ref r0, .int x1, .int x2], [] => kX3_readWord_59 rec  r0 x1 x2 h
  | _, _, _ => none
def gX3_readWord  : Nat → Nat → List Value → List Value → Hp → RS
  | 0 => fun _ _ _ _ => none
  | n + 1 => sX3_readWord  (gX3_readWord  n)
theorem wX3_readWord {G : GG} {d : Nat} (hd : 5 ≤ d)   : ∀ (n pc : Nat) (loc st : List Value) (h : Hp) (o : OU) (h' : Hp), gX3_readWord  n pc loc st h = some (o, h') → V G mX3_readWord d pc loc st h o h' := by
  intro n
  induction n with
  | zero => intro pc loc st h o h' e; cases e
  | succ n ih =>
    intro pc loc st h o h' e
    unfold gX3_readWord sX3_readWord at e
    split at e
    · exact V.drop (llp_r (llp_r (llp_u llp_nil))) (uX3_readWord_5 hd _ ih   e)
    · exact uX3_readWord_59 hd _ ih   e
    · cases e
theorem zX3_readWord_5  (n : Nat) (r0 : Nat) (x1 : Int32) (y2 : Value) (h : Hp) : gX3_readWord  (n + 1) 5 [.ref r0, .int x1, y2] [] h = kX3_readWord_5 (gX3_readWord  n)  r0 x1 h := rfl
theorem zX3_readWord_59  (n : Nat) (r0 : Nat) (x1 : Int32) (x2 : Int32)  (h : Hp) : gX3_readWord  (n + 1) 59 [.ref r0, .int x1, .int x2] [] h = kX3_readWord_59 (gX3_readWord  n)  r0 x1 x2 h := rfl
def fX3_readWord (r0 : Nat) (h : Hp) : RS := kX3_readWord_0 (gX3_readWord FF) r0 h
theorem tX3_readWord {G : GG} {d : Nat} {r0} {h : Hp} {o : OU} {h' : Hp} (e : fX3_readWord r0 h = some (o, h')) (hd : 5 ≤ d) : VM G mX3_readWord d [.ref r0] h o h' := uX3_readWord_0 hd _ (wX3_readWord hd FF) e
def kX9_book_0  (r0 : Nat) (x1 : Int32) (h : Hp) : RS := (if kH h r0 = 19 then (bVx (fX9_testLength r0 x1 60 h) fun h1 => (if kH h1 r0 = 19 then (if kH h1 (rH h1 r0 7) = 13 then (bI (fX3_readBook (rH h1 r0 7) (rH h1 r0 6) x1 h1) fun z6 h5 => (if kH h5 r0 = 19 then (bV (fX9_textRead r0 z6 h5) fun h9 => (if z6 = 0 then (if kH h9 r0 = 19 then (if kH h9 (rH h9 r0 7) = 13 then (if kH h9 (rH h9 (rH h9 r0 7) 1) = 1 then (if kH h9 (rH h9 r0 8) = 1 then (if 0 + 16 ≤ lH h9 (rH h9 (rH h9 r0 7) 1) then (if 0 + 16 ≤ lH h9 (rH h9 r0 8) then (letH (upI (cpI h9.2 (rH h9 (rH h9 r0 7) 1) (rH h9 r0 8) 0 0 16) r0 13 ((cpI h9.2 (rH h9 (rH h9 r0 7) 1) (rH h9 r0 8) 0 0 16) (rH h9 r0 7) 2)) fun (i19 : Nat → Nat → Int32) => (some (.inl (some (.int (i19 r0 13))), (h9.1, i19)))) else none) else none) else none) else none) else none) else none) else (some (.inl (some (.int (z6 - 10))), h9)))) else none)) else none) else none)) else none)
theorem uX9_book_0 {G : GG} {d : Nat} (hd : 9 ≤ d)   {r0  x1 } {h : Hp} {o : OU} {h' : Hp} (e : kX9_book_0  r0 x1 h = some (o, h')) : VM G mX9_book d [.ref r0, .int x1] h o h' := by
  unfold kX9_book_0 at e
  refine eX9_book r0 x1 (by omega) ?_
  obtain ⟨q1, e⟩ := ob_e e
  refine ⟨q1, ?_⟩
  rcases bVx_e e with ⟨h1, e2, e⟩ | ⟨E, rfl, e2⟩
  · refine Or.inl ⟨h1, (tX9_testLength e2 (by omega)), ?_⟩
    obtain ⟨q3, e⟩ := ob_e e
    refine ⟨q3, ?_⟩
    obtain ⟨q4, e⟩ := ob_e e
    refine ⟨q4, ?_⟩
    obtain ⟨z6, h5, e5, e⟩ := bI_e e
    refine ⟨z6, h5, (tX3_readBook e5 (by omega)), ?_⟩
    obtain ⟨q6, e⟩ := ob_e e
    refine ⟨q6, ?_⟩
    obtain ⟨h9, e7, e⟩ := bV_e e
    refine ⟨h9, (tX9_textRead e7 (by omega)), ?_⟩
    refine ⟨fun c8 => ?_, fun c8 => ?_⟩
    · have e := if_t e c8
      obtain ⟨q9, e⟩ := ob_e e
      refine ⟨q9, ?_⟩
      obtain ⟨q10, e⟩ := ob_e e
      refine ⟨q10, ?_⟩
      obtain ⟨q11, e⟩ := ob_e e
      refine ⟨q11, ?_⟩
      obtain ⟨q12, e⟩ := ob_e e
      refine ⟨q12, ?_⟩
      obtain ⟨q13, e⟩ := ob_e e
      refine ⟨q13, ?_⟩
      obtain ⟨q14, e⟩ := ob_e e
      refine ⟨q14, ?_⟩
      intro i19 evi19
      have e := lt_e evi19 e
      cases e
      exact ⟨rfl, rfl⟩
    · have e := if_f e c8
      cases e
      exact ⟨rfl, rfl⟩
  · exact Or.inr ⟨E, rfl, (tX9_testLength e2 (by omega))⟩
def fX9_book (r0 : Nat) (x1 : Int32) (h : Hp) : RS := kX9_book_0 r0 x1 h
theorem tX9_book {G : GG} {d : Nat} {r0 x1} {h : Hp} {o : OU} {h' : Hp} (e : fX9_book r0 x1 h = some (o, h')) (hd : 9 ≤ d) : VM G mX9_book d [.ref r0, .int x1] h o h' := uX9_book_0 hd e
def kX9_unlike_0 (rec : Nat → List Value → List Value → Hp → RS)  (r0 : Nat) (x1 : Int32) (h : Hp) : RS := (if kH h r0 = 19 then (bVx (fX9_testBlock r0 x1 h) fun h1 => (rec 9 [.ref r0, .int x1, .int 0, .int 0] [] h1)) else none)
theorem uX9_unlike_0 {G : GG} {d : Nat} (hd : 9 ≤ d) (rec : Nat → List Value → List Value → Hp → RS) (hrec : ∀ pc loc st h o h', rec pc loc st h = some (o, h') → V G mX9_unlike d pc loc st h o h')   {r0  x1 } {h : Hp} {o : OU} {h' : Hp} (e : kX9_unlike_0 rec  r0 x1 h = some (o, h')) : VM G mX9_unlike d [.ref r0, .int x1] h o h' := by
  unfold kX9_unlike_0 at e
  refine eX9_unlike r0 x1 (by omega) ?_
  obtain ⟨q1, e⟩ := ob_e e
  refine ⟨q1, ?_⟩
  rcases bVx_e e with ⟨h1, e2, e⟩ | ⟨E, rfl, e2⟩
  · refine Or.inl ⟨h1, (tX9_testBlock e2 (by omega)), ?_⟩
    exact hrec _ _ _ _ _ _ e
  · exact Or.inr ⟨E, rfl, (tX9_testBlock e2 (by omega))⟩
def kX9_unlike_9 (rec : Nat → List Value → List Value → Hp → RS)  (r0 : Nat) (x1 : Int32) (x2 : Int32) (x3 : Int32) (h : Hp) : RS := (if 16 ≤ x3 then (some (.inl (some (.int x2)), h)) else (if kH h r0 = 19 then (if kH h (rH h r0 0) = 15 then (bI (fX5_at (rH h r0 0) 0 x1 x3 h) fun z4 h3 => (if kH h3 r0 = 19 then (if kH h3 (rH h3 r0 0) = 15 then (bI (fX5_at (rH h3 r0 0) 1 x1 x3 h3) fun z9 h8 => (if z4 = z9 then (rec 9 [.ref r0, .int x1, .int x2, .int (x3 + 1)] [] h8) else (rec 9 [.ref r0, .int x1, .int (x2 + 1), .int (x3 + 1)] [] h8))) else none) else none)) else none) else none))
theorem uX9_unlike_9 {G : GG} {d : Nat} (hd : 9 ≤ d) (rec : Nat → List Value → List Value → Hp → RS) (hrec : ∀ pc loc st h o h', rec pc loc st h = some (o, h') → V G mX9_unlike d pc loc st h o h')   {r0  x1  x2  x3 } {h : Hp} {o : OU} {h' : Hp} (e : kX9_unlike_9 rec  r0 x1 x2 x3 h = some (o, h')) : V G mX9_unlike d 9 [.ref r0, .int x1, .int x2, .int x3] [] h o h' := by
  unfold kX9_unlike_9 at e
  refine bX9_unlike_9 r0 x1 x2 x3 (by omega) ?_
  refine ⟨fun c1 => ?_, fun c1 => ?_⟩
  · have e := if_t e c1
    cases e
    exact ⟨rfl, rfl⟩
  · have e := if_f e c1
    obtain ⟨q2, e⟩ := ob_e e
    refine ⟨q2, ?_⟩
    obtain ⟨q3, e⟩ := ob_e e
    refine ⟨q3, ?_⟩
    obtain ⟨z4, h3, e4, e⟩ := bI_e e
    refine ⟨z4, h3, (tX5_at e4 (by omega)), ?_⟩
    obtain ⟨q5, e⟩ := ob_e e
    refine ⟨q5, ?_⟩
    obtain ⟨q6, e⟩ := ob_e e
    refine ⟨q6, ?_⟩
    obtain ⟨z9, h8, e7, e⟩ := bI_e e
    refine ⟨z9, h8, (tX5_at e7 (by omega)), ?_⟩
    refine ⟨fun c8 => ?_, fun c8 => ?_⟩
    · have e := if_t e c8
      exact hrec _ _ _ _ _ _ e
    · have e := if_f e c8
      exact hrec _ _ _ _ _ _ e
def sX9_unlike  (rec : Nat → List Value → List Value → Hp → RS) (pc : Nat) (loc st : List Value) (h : Hp) : RS := match pc, loc, st with
  | 9, [.ref r0, .int x1, .int x2, .int x3], [] => kX9_unlike_9 rec  r0 x1 x2 x3 h
  | _, _, _ => none
def gX9_unlike  : Nat → Nat → List Value → List Value → Hp → RS
  | 0 => fun _ _ _ _ => none
  | n + 1 => sX9_unlike  (gX9_unlike  n)
theorem wX9_unlike {G : GG} {d : Nat} (hd : 9 ≤ d)   : ∀ (n pc : Nat) (loc st : List Value) (h : Hp) (o : OU) (h' : Hp), gX9_unlike  n pc loc st h = some (o, h') → V G mX9_unlike d pc loc st h o h' := by
  intro n
  induction n with
  | zero => intro pc loc st h o h' e; cases e
  | succ n ih =>
    intro pc loc st h o h' e
    unfold gX9_unlike sX9_unlike at e
    split at e
    · exact uX9_unlike_9 hd _ ih   e
    · cases e
theorem zX9_unlike_9  (n : Nat) (r0 : Nat) (x1 : Int32) (x2 : Int32) (x3 : Int32)  (h : Hp) : gX9_unlike  (n + 1) 9 [.ref r0, .int x1, .int x2, .int x3] [] h = kX9_unlike_9 (gX9_unlike  n)  r0 x1 x2 x3 h := rfl
def fX9_unlike (r0 : Nat) (x1 : Int32) (h : Hp) : RS := kX9_unlike_0 (gX9_unlike FF) r0 x1 h
theorem tX9_unlike {G : GG} {d : Nat} {r0 x1} {h : Hp} {o : OU} {h' : Hp} (e : fX9_unlike r0 x1 h = some (o, h')) (hd : 9 ≤ d) : VM G mX9_unlike d [.ref r0, .int x1] h o h' := uX9_unlike_0 hd _ (wX9_unlike hd FF) e
def kX9_held_0  (r0 : Nat) (x1 : Int32) (h : Hp) : RS := (if kH h r0 = 19 then (bVx (fX9_testBlock r0 x1 h) fun h1 => (if kH h1 r0 = 19 then (if kH h1 (rH h1 r0 4) = 12 then (bV (fX2_weigh (rH h1 r0 4) (rH h1 r0 0) x1 h1) fun h5 => (if kH h5 r0 = 19 then (if kH h5 (rH h5 r0 4) = 12 then (some (.inl (some (.int (h5.2 (rH h5 r0 4) 5))), h5)) else none) else none)) else none) else none)) else none)
theorem uX9_held_0 {G : GG} {d : Nat} (hd : 9 ≤ d)   {r0  x1 } {h : Hp} {o : OU} {h' : Hp} (e : kX9_held_0  r0 x1 h = some (o, h')) : VM G mX9_held d [.ref r0, .int x1] h o h' := by
  unfold kX9_held_0 at e
  refine eX9_held r0 x1 (by omega) ?_
  obtain ⟨q1, e⟩ := ob_e e
  refine ⟨q1, ?_⟩
  rcases bVx_e e with ⟨h1, e2, e⟩ | ⟨E, rfl, e2⟩
  · refine Or.inl ⟨h1, (tX9_testBlock e2 (by omega)), ?_⟩
    obtain ⟨q3, e⟩ := ob_e e
    refine ⟨q3, ?_⟩
    obtain ⟨q4, e⟩ := ob_e e
    refine ⟨q4, ?_⟩
    obtain ⟨h5, e5, e⟩ := bV_e e
    refine ⟨h5, (tX2_weigh e5 (by omega)), ?_⟩
    obtain ⟨q6, e⟩ := ob_e e
    refine ⟨q6, ?_⟩
    obtain ⟨q7, e⟩ := ob_e e
    refine ⟨q7, ?_⟩
    cases e
    exact ⟨rfl, rfl⟩
  · exact Or.inr ⟨E, rfl, (tX9_testBlock e2 (by omega))⟩
def fX9_held (r0 : Nat) (x1 : Int32) (h : Hp) : RS := kX9_held_0 r0 x1 h
theorem tX9_held {G : GG} {d : Nat} {r0 x1} {h : Hp} {o : OU} {h' : Hp} (e : fX9_held r0 x1 h = some (o, h')) (hd : 9 ≤ d) : VM G mX9_held d [.ref r0, .int x1] h o h' := uX9_held_0 hd e
def kX9_copy_0  (r0 : Nat) (x1 : Int32) (x2 : Int32) (h : Hp) : RS := (if kH h r0 = 19 then (bVx (fX9_testBlock r0 x1 h) fun h1 => (if kH h1 r0 = 19 then (bVx (fX9_testPlace r0 x2 h1) fun h4 => (if kH h4 r0 = 19 then (if kH h4 (rH h4 r0 4) = 12 then (bV (fX2_draft (rH h4 r0 4) (rH h4 r0 0) x1 h4) fun h8 => (if kH h8 r0 = 19 then (if kH h8 (rH h8 r0 4) = 12 then (if kH h8 (rH h8 (rH h8 r0 4) 2) = 2 then (if inB x2 (lH h8 (rH h8 (rH h8 r0 4) 2)) = true then (some (.inl (some (.int (h8.2 (rH h8 (rH h8 r0 4) 2) x2.toNatClampNeg))), h8)) else none) else none) else none) else none)) else none) else none)) else none)) else none)
theorem uX9_copy_0 {G : GG} {d : Nat} (hd : 9 ≤ d)   {r0  x1  x2 } {h : Hp} {o : OU} {h' : Hp} (e : kX9_copy_0  r0 x1 x2 h = some (o, h')) : VM G mX9_copy d [.ref r0, .int x1, .int x2] h o h' := by
  unfold kX9_copy_0 at e
  refine eX9_copy r0 x1 x2 (by omega) ?_
  obtain ⟨q1, e⟩ := ob_e e
  refine ⟨q1, ?_⟩
  rcases bVx_e e with ⟨h1, e2, e⟩ | ⟨E, rfl, e2⟩
  · refine Or.inl ⟨h1, (tX9_testBlock e2 (by omega)), ?_⟩
    obtain ⟨q3, e⟩ := ob_e e
    refine ⟨q3, ?_⟩
    rcases bVx_e e with ⟨h4, e4, e⟩ | ⟨E, rfl, e4⟩
    · refine Or.inl ⟨h4, (tX9_testPlace e4 (by omega)), ?_⟩
      obtain ⟨q5, e⟩ := ob_e e
      refine ⟨q5, ?_⟩
      obtain ⟨q6, e⟩ := ob_e e
      refine ⟨q6, ?_⟩
      obtain ⟨h8, e7, e⟩ := bV_e e
      refine ⟨h8, (tX2_draft e7 (by omega)), ?_⟩
      obtain ⟨q8, e⟩ := ob_e e
      refine ⟨q8, ?_⟩
      obtain ⟨q9, e⟩ := ob_e e
      refine ⟨q9, ?_⟩
      obtain ⟨q10, e⟩ := ob_e e
      refine ⟨q10, ?_⟩
      obtain ⟨q11, e⟩ := ob_in e
      refine ⟨q11, ?_⟩
      cases e
      exact ⟨rfl, rfl⟩
    · exact Or.inr ⟨E, rfl, (tX9_testPlace e4 (by omega))⟩
  · exact Or.inr ⟨E, rfl, (tX9_testBlock e2 (by omega))⟩
def fX9_copy (r0 : Nat) (x1 : Int32) (x2 : Int32) (h : Hp) : RS := kX9_copy_0 r0 x1 x2 h
theorem tX9_copy {G : GG} {d : Nat} {r0 x1 x2} {h : Hp} {o : OU} {h' : Hp} (e : fX9_copy r0 x1 x2 h = some (o, h')) (hd : 9 ≤ d) : VM G mX9_copy d [.ref r0, .int x1, .int x2] h o h' := uX9_copy_0 hd e
def kX9_waits_0  (r0 : Nat) (x1 : Int32) (h : Hp) : RS := (if kH h r0 = 19 then (bVx (fX9_testBlock r0 x1 h) fun h1 => (if kH h1 r0 = 19 then (if kH h1 (rH h1 r0 0) = 15 then (bI (fX5_blocksNeededBy (rH h1 r0 0) x1 h1) fun z6 h5 => (some (.inl (some (.int z6)), h5))) else none) else none)) else none)
theorem uX9_waits_0 {G : GG} {d : Nat} (hd : 9 ≤ d)   {r0  x1 } {h : Hp} {o : OU} {h' : Hp} (e : kX9_waits_0  r0 x1 h = some (o, h')) : VM G mX9_waits d [.ref r0, .int x1] h o h' := by
  unfold kX9_waits_0 at e
  refine eX9_waits r0 x1 (by omega) ?_
  obtain ⟨q1, e⟩ := ob_e e
  refine ⟨q1, ?_⟩
  rcases bVx_e e with ⟨h1, e2, e⟩ | ⟨E, rfl, e2⟩
  · refine Or.inl ⟨h1, (tX9_testBlock e2 (by omega)), ?_⟩
    obtain ⟨q3, e⟩ := ob_e e
    refine ⟨q3, ?_⟩
    obtain ⟨q4, e⟩ := ob_e e
    refine ⟨q4, ?_⟩
    obtain ⟨z6, h5, e5, e⟩ := bI_e e
    refine ⟨z6, h5, (tX5_blocksNeededBy e5 (by omega)), ?_⟩
    cases e
    exact ⟨rfl, rfl⟩
  · exact Or.inr ⟨E, rfl, (tX9_testBlock e2 (by omega))⟩
def fX9_waits (r0 : Nat) (x1 : Int32) (h : Hp) : RS := kX9_waits_0 r0 x1 h
theorem tX9_waits {G : GG} {d : Nat} {r0 x1} {h : Hp} {o : OU} {h' : Hp} (e : fX9_waits r0 x1 h = some (o, h')) (hd : 9 ≤ d) : VM G mX9_waits d [.ref r0, .int x1] h o h' := uX9_waits_0 hd e
def kX9_testWhat_0  (r0 : Nat) (x1 : Int32) (x2 : Int32) (h : Hp) : RS := (if kH h r0 = 19 then (bVx (fX9_testRange r0 x1 0 x2 h) fun h1 => (some (.inl none, h1))) else none)
theorem uX9_testWhat_0 {G : GG} {d : Nat} (hd : 9 ≤ d)   {r0  x1  x2 } {h : Hp} {o : OU} {h' : Hp} (e : kX9_testWhat_0  r0 x1 x2 h = some (o, h')) : VM G mX9_testWhat d [.ref r0, .int x1, .int x2] h o h' := by
  unfold kX9_testWhat_0 at e
  refine eX9_testWhat r0 x1 x2 (by omega) ?_
  obtain ⟨q1, e⟩ := ob_e e
  refine ⟨q1, ?_⟩
  rcases bVx_e e with ⟨h1, e2, e⟩ | ⟨E, rfl, e2⟩
  · refine Or.inl ⟨h1, (tX9_testRange e2 (by omega)), ?_⟩
    cases e
    exact ⟨rfl, rfl⟩
  · exact Or.inr ⟨E, rfl, (tX9_testRange e2 (by omega))⟩
def fX9_testWhat (r0 : Nat) (x1 : Int32) (x2 : Int32) (h : Hp) : RS := kX9_testWhat_0 r0 x1 x2 h
theorem tX9_testWhat {G : GG} {d : Nat} {r0 x1 x2} {h : Hp} {o : OU} {h' : Hp} (e : fX9_testWhat r0 x1 x2 h = some (o, h')) (hd : 9 ≤ d) : VM G mX9_testWhat d [.ref r0, .int x1, .int x2] h o h' := uX9_testWhat_0 hd e
def kX9_testWhere_0  (r0 : Nat) (x1 : Int32) (h : Hp) : RS := (if kH h r0 = 19 then (bVx (fX9_testRange r0 x1 0 1 h) fun h1 => (some (.inl none, h1))) else none)
theorem uX9_testWhere_0 {G : GG} {d : Nat} (hd : 9 ≤ d)   {r0  x1 } {h : Hp} {o : OU} {h' : Hp} (e : kX9_testWhere_0  r0 x1 h = some (o, h')) : VM G mX9_testWhere d [.ref r0, .int x1] h o h' := by
  unfold kX9_testWhere_0 at e
  refine eX9_testWhere r0 x1 (by omega) ?_
  obtain ⟨q1, e⟩ := ob_e e
  refine ⟨q1, ?_⟩
  rcases bVx_e e with ⟨h1, e2, e⟩ | ⟨E, rfl, e2⟩
  · refine Or.inl ⟨h1, (tX9_testRange e2 (by omega)), ?_⟩
    cases e
    exact ⟨rfl, rfl⟩
  · exact Or.inr ⟨E, rfl, (tX9_testRange e2 (by omega))⟩
def fX9_testWhere (r0 : Nat) (x1 : Int32) (h : Hp) : RS := kX9_testWhere_0 r0 x1 h
theorem tX9_testWhere {G : GG} {d : Nat} {r0 x1} {h : Hp} {o : OU} {h' : Hp} (e : fX9_testWhere r0 x1 h = some (o, h')) (hd : 9 ≤ d) : VM G mX9_testWhere d [.ref r0, .int x1] h o h' := uX9_testWhere_0 hd e
def kL_book_0  (r0 : Nat) (x1 : Int32) (r2 : Nat) (h : Hp) : RS := (if kH h r0 = 19 then (bC (fX9_book r0 x1 h) (fun z2 h1 => (if kH h1 r2 = 4 then (if inB 0 (lH h1 r2) = true then (some (.inl (some (.int 0)), (h1.1, (upI h1.2 r2 0 z2)))) else none) else none)) (fun E hE => (if E = xIA then (letH hE fun (h7 : Hp) => (some (.inl (some (.int 1)), h7))) else none))) else none)
theorem uL_book_0 {G : GG} {d : Nat} (hd : 10 ≤ d)   {r0  x1  r2 } {h : Hp} {o : OU} {h' : Hp} (e : kL_book_0  r0 x1 r2 h = some (o, h')) : VMW G mL_book d [.ref r0, .int x1, .ref r2] h o h' := by
  unfold kL_book_0 at e
  refine eL_book r0 x1 r2 (by omega) ?_
  obtain ⟨q1, e⟩ := ob_e e
  refine ⟨q1, ?_⟩
  rcases bC_e e with ⟨z2, h1, e2, e⟩ | ⟨E, hE, e2, e⟩
  · exact Or.inl ⟨z2, h1, tX9_book e2 (by omega), by
      obtain ⟨q3, e⟩ := ob_e e
      refine ⟨q3, ?_⟩
      obtain ⟨q4, e⟩ := ob_in e
      refine ⟨q4, ?_⟩
      cases e
      exact ⟨rfl, rfl⟩⟩
  · by_cases c0 : E = xIA
    · have e := if_t e c0
      subst c0
      exact Or.inr ( ⟨hE, tX9_book e2 (by omega), by
        have e := lt_e rfl e
        cases e
        exact ⟨rfl, rfl⟩⟩)
    have e := if_f e c0
    cases e
def fL_book (r0 : Nat) (x1 : Int32) (r2 : Nat) (h : Hp) : RS := kL_book_0 r0 x1 r2 h
theorem tL_book {G : GG} {d : Nat} {r0 x1 r2} {h : Hp} {o : OU} {h' : Hp} (e : fL_book r0 x1 r2 h = some (o, h')) (hd : 10 ≤ d) : VMW G mL_book d [.ref r0, .int x1, .ref r2] h o h' := uL_book_0 hd e
def kL_held_0  (r0 : Nat) (x1 : Int32) (r2 : Nat) (h : Hp) : RS := (if kH h r0 = 19 then (bC (fX9_held r0 x1 h) (fun z2 h1 => (if kH h1 r2 = 4 then (if inB 0 (lH h1 r2) = true then (some (.inl (some (.int 0)), (h1.1, (upI h1.2 r2 0 z2)))) else none) else none)) (fun E hE => (if E = xIO then (letH hE fun (h7 : Hp) => (some (.inl (some (.int 1)), h7))) else none))) else none)
theorem uL_held_0 {G : GG} {d : Nat} (hd : 10 ≤ d)   {r0  x1  r2 } {h : Hp} {o : OU} {h' : Hp} (e : kL_held_0  r0 x1 r2 h = some (o, h')) : VMW G mL_held d [.ref r0, .int x1, .ref r2] h o h' := by
  unfold kL_held_0 at e
  refine eL_held r0 x1 r2 (by omega) ?_
  obtain ⟨q1, e⟩ := ob_e e
  refine ⟨q1, ?_⟩
  rcases bC_e e with ⟨z2, h1, e2, e⟩ | ⟨E, hE, e2, e⟩
  · exact Or.inl ⟨z2, h1, tX9_held e2 (by omega), by
      obtain ⟨q3, e⟩ := ob_e e
      refine ⟨q3, ?_⟩
      obtain ⟨q4, e⟩ := ob_in e
      refine ⟨q4, ?_⟩
      cases e
      exact ⟨rfl, rfl⟩⟩
  · by_cases c0 : E = xIO
    · have e := if_t e c0
      subst c0
      exact Or.inr ( ⟨hE, tX9_held e2 (by omega), by
        have e := lt_e rfl e
        cases e
        exact ⟨rfl, rfl⟩⟩)
    have e := if_f e c0
    cases e
def fL_held (r0 : Nat) (x1 : Int32) (r2 : Nat) (h : Hp) : RS := kL_held_0 r0 x1 r2 h
theorem tL_held {G : GG} {d : Nat} {r0 x1 r2} {h : Hp} {o : OU} {h' : Hp} (e : fL_held r0 x1 r2 h = some (o, h')) (hd : 10 ≤ d) : VMW G mL_held d [.ref r0, .int x1, .ref r2] h o h' := uL_held_0 hd e
def kL_copy_0  (r0 : Nat) (x1 : Int32) (x2 : Int32) (r3 : Nat) (h : Hp) : RS := (if kH h r0 = 19 then (bC (fX9_copy r0 x1 x2 h) (fun z2 h1 => (if kH h1 r3 = 4 then (if inB 0 (lH h1 r3) = true then (some (.inl (some (.int 0)), (h1.1, (upI h1.2 r3 0 z2)))) else none) else none)) (fun E hE => (if E = xIO then (letH hE fun (h7 : Hp) => (some (.inl (some (.int 1)), h7))) else none))) else none)
theorem uL_copy_0 {G : GG} {d : Nat} (hd : 10 ≤ d)   {r0  x1  x2  r3 } {h : Hp} {o : OU} {h' : Hp} (e : kL_copy_0  r0 x1 x2 r3 h = some (o, h')) : VMW G mL_copy d [.ref r0, .int x1, .int x2, .ref r3] h o h' := by
  unfold kL_copy_0 at e
  refine eL_copy r0 x1 x2 r3 (by omega) ?_
  obtain ⟨q1, e⟩ := ob_e e
  refine ⟨q1, ?_⟩
  rcases bC_e e with ⟨z2, h1, e2, e⟩ | ⟨E, hE, e2, e⟩
  · exact Or.inl ⟨z2, h1, tX9_copy e2 (by omega), by
      obtain ⟨q3, e⟩ := ob_e e
      refine ⟨q3, ?_⟩
      obtain ⟨q4, e⟩ := ob_in e
      refine ⟨q4, ?_⟩
      cases e
      exact ⟨rfl, rfl⟩⟩
  · by_cases c0 : E = xIO
    · have e := if_t e c0
      subst c0
      exact Or.inr ( ⟨hE, tX9_copy e2 (by omega), by
        have e := lt_e rfl e
        cases e
        exact ⟨rfl, rfl⟩⟩)
    have e := if_f e c0
    cases e
def fL_copy (r0 : Nat) (x1 : Int32) (x2 : Int32) (r3 : Nat) (h : Hp) : RS := kL_copy_0 r0 x1 x2 r3 h
theorem tL_copy {G : GG} {d : Nat} {r0 x1 x2 r3} {h : Hp} {o : OU} {h' : Hp} (e : fL_copy r0 x1 x2 r3 h = some (o, h')) (hd : 10 ≤ d) : VMW G mL_copy d [.ref r0, .int x1, .int x2, .ref r3] h o h' := uL_copy_0 hd e
def kL_waits_0  (r0 : Nat) (x1 : Int32) (r2 : Nat) (h : Hp) : RS := (if kH h r0 = 19 then (bC (fX9_waits r0 x1 h) (fun z2 h1 => (if kH h1 r2 = 4 then (if inB 0 (lH h1 r2) = true then (some (.inl (some (.int 0)), (h1.1, (upI h1.2 r2 0 z2)))) else none) else none)) (fun E hE => (if E = xIO then (letH hE fun (h7 : Hp) => (some (.inl (some (.int 1)), h7))) else none))) else none)
theorem uL_waits_0 {G : GG} {d : Nat} (hd : 10 ≤ d)   {r0  x1  r2 } {h : Hp} {o : OU} {h' : Hp} (e : kL_waits_0  r0 x1 r2 h = some (o, h')) : VMW G mL_waits d [.ref r0, .int x1, .ref r2] h o h' := by
  unfold kL_waits_0 at e
  refine eL_waits r0 x1 r2 (by omega) ?_
  obtain ⟨q1, e⟩ := ob_e e
  refine ⟨q1, ?_⟩
  rcases bC_e e with ⟨z2, h1, e2, e⟩ | ⟨E, hE, e2, e⟩
  · exact Or.inl ⟨z2, h1, tX9_waits e2 (by omega), by
      obtain ⟨q3, e⟩ := ob_e e
      refine ⟨q3, ?_⟩
      obtain ⟨q4, e⟩ := ob_in e
      refine ⟨q4, ?_⟩
      cases e
      exact ⟨rfl, rfl⟩⟩
  · by_cases c0 : E = xIO
    · have e := if_t e c0
      subst c0
      exact Or.inr ( ⟨hE, tX9_waits e2 (by omega), by
        have e := lt_e rfl e
        cases e
        exact ⟨rfl, rfl⟩⟩)
    have e := if_f e c0
    cases e
def fL_waits (r0 : Nat) (x1 : Int32) (r2 : Nat) (h : Hp) : RS := kL_waits_0 r0 x1 r2 h
theorem tL_waits {G : GG} {d : Nat} {r0 x1 r2} {h : Hp} {o : OU} {h' : Hp} (e : fL_waits r0 x1 r2 h = some (o, h')) (hd : 10 ≤ d) : VMW G mL_waits d [.ref r0, .int x1, .ref r2] h o h' := uL_waits_0 hd e
def kL_unlike_0  (r0 : Nat) (x1 : Int32) (r2 : Nat) (h : Hp) : RS := (if kH h r0 = 19 then (bC (fX9_unlike r0 x1 h) (fun z2 h1 => (if kH h1 r2 = 4 then (if inB 0 (lH h1 r2) = true then (some (.inl (some (.int 0)), (h1.1, (upI h1.2 r2 0 z2)))) else none) else none)) (fun E hE => (if E = xIO then (letH hE fun (h7 : Hp) => (some (.inl (some (.int 1)), h7))) else none))) else none)
theorem uL_unlike_0 {G : GG} {d : Nat} (hd : 10 ≤ d)   {r0  x1  r2 } {h : Hp} {o : OU} {h' : Hp} (e : kL_unlike_0  r0 x1 r2 h = some (o, h')) : VMW G mL_unlike d [.ref r0, .int x1, .ref r2] h o h' := by
  unfold kL_unlike_0 at e
  refine eL_unlike r0 x1 r2 (by omega) ?_
  obtain ⟨q1, e⟩ := ob_e e
  refine ⟨q1, ?_⟩
  rcases bC_e e with ⟨z2, h1, e2, e⟩ | ⟨E, hE, e2, e⟩
  · exact Or.inl ⟨z2, h1, tX9_unlike e2 (by omega), by
      obtain ⟨q3, e⟩ := ob_e e
      refine ⟨q3, ?_⟩
      obtain ⟨q4, e⟩ := ob_in e
      refine ⟨q4, ?_⟩
      cases e
      exact ⟨rfl, rfl⟩⟩
  · by_cases c0 : E = xIO
    · have e := if_t e c0
      subst c0
      exact Or.inr ( ⟨hE, tX9_unlike e2 (by omega), by
        have e := lt_e rfl e
        cases e
        exact ⟨rfl, rfl⟩⟩)
    have e := if_f e c0
    cases e
def fL_unlike (r0 : Nat) (x1 : Int32) (r2 : Nat) (h : Hp) : RS := kL_unlike_0 r0 x1 r2 h
theorem tL_unlike {G : GG} {d : Nat} {r0 x1 r2} {h : Hp} {o : OU} {h' : Hp} (e : fL_unlike r0 x1 r2 h = some (o, h')) (hd : 10 ≤ d) : VMW G mL_unlike d [.ref r0, .int x1, .ref r2] h o h' := uL_unlike_0 hd e
def kX3_readStore_0 (rec : Nat → List Value → List Value → Hp → RS)  (r0 : Nat) (r1 : Nat) (x2 : Int32) (h : Hp) : RS := (if kH h r0 = 13 then (bV (fX3_begin r0 r1 x2 h) fun h1 => (rec 8 [.ref r0, uV, uV, .int 0, uV, uV] [] h1)) else none)
theorem uX3_readStore_0 {G : GG} {d : Nat} (hd : 6 ≤ d) (rec : Nat → List Value → List Value → Hp → RS) (hrec : ∀ pc loc st h o h', rec pc loc st h = some (o, h') → V G mX3_readStore d pc loc st h o h')   {r0  r1  x2 } {h : Hp} {o : OU} {h' : Hp} (e : kX3_readStore_0 rec  r0 r1 x2 h = some (o, h')) : VM G mX3_readStore d [.ref r0, .ref r1, .int x2] h o h' := by
  unfold kX3_readStore_0 at e
  refine eX3_readStore r0 r1 x2 (by omega) ?_
  obtain ⟨q1, e⟩ := ob_e e
  refine ⟨q1, ?_⟩
  obtain ⟨h1, e2, e⟩ := bV_e e
  refine ⟨h1, (tX3_begin e2 (by omega)), ?_⟩
  exact hrec _ _ _ _ _ _ e
def kX3_readStore_8 (rec : Nat → List Value → List Value → Hp → RS)  (r0 : Nat) (x3 : Int32) (h : Hp) : RS := (if kH h r0 = 13 then (if ¬ (h.2 r0 4) = 0 then (some (.inl (some (.int (h.2 r0 4))), h)) else (bI (fX3_atEnd r0 h) fun z4 h3 => (if ¬ z4 = 0 then (if kH h3 r0 = 13 then (some (.inl (some (.int (h3.2 r0 4))), h3)) else none) else (if 60 < x3 then (if kH h3 r0 = 13 then (some (.inl (some (.int (h3.2 r0 4))), h3)) else none) else (if kH h3 r0 = 13 then (bI (fX3_readWord r0 h3) fun z12 h11 => (if z12 ≤ 4 then (if ¬ x3 = 60 then (if kH h11 r0 = 13 then (bV (fX3_readNumbers r0 z12 h11) fun h16 => (if kH h16 r0 = 13 then (bV (fX3_readSign r0 59 h16) fun h19 => (rec 8 [.ref r0, uV, uV, .int (x3 + 1), uV, uV] [] h19)) else none)) else none) else (if kH h11 r0 = 13 then (bV (fX3_blame r0 3 (h3.2 r0 7) h11) fun h22 => (if kH h22 r0 = 13 then (bV (fX3_readNumbers r0 z12 h22) fun h25 => (if kH h25 r0 = 13 then (bV (fX3_readSign r0 59 h25) fun h28 => (rec 8 [.ref r0, uV, uV, .int (x3 + 1), uV, uV] [] h28)) else none)) else none)) else none)) else (if z12 = 12 then (if ¬ x3 = 60 then (if kH h11 r0 = 13 then (bV (fX3_readNumbers r0 z12 h11) fun h33 => (if kH h33 r0 = 13 then (bV (fX3_readSign r0 59 h33) fun h36 => (rec 8 [.ref r0, uV, uV, .int (x3 + 1), uV, uV] [] h36)) else none)) else none) else (if kH h11 r0 = 13 then (bV (fX3_blame r0 3 (h3.2 r0 7) h11) fun h39 => (if kH h39 r0 = 13 then (bV (fX3_readNumbers r0 z12 h39) fun h42 => (if kH h42 r0 = 13 then (bV (fX3_readSign r0 59 h42) fun h45 => (rec 8 [.ref r0, uV, uV, .int (x3 + 1), uV, uV] [] h45)) else none)) else none)) else none)) else (if kH h11 r0 = 13 then (bV (fX3_blame r0 1 (h3.2 r0 7) h11) fun h48 => (if kH h48 r0 = 13 then (bV (fX3_readNumbers r0 z12 h48) fun h51 => (if kH h51 r0 = 13 then (bV (fX3_readSign r0 59 h51) fun h54 => (rec 8 [.ref r0, uV, uV, .int (x3 + 1), uV, uV] [] h54)) else none)) else none)) else none)))) else none))))) else none)
theorem uX3_readStore_8 {G : GG} {d : Nat} (hd : 6 ≤ d) (rec : Nat → List Value → List Value → Hp → RS) (hrec : ∀ pc loc st h o h', rec pc loc st h = some (o, h') → V G mX3_readStore d pc loc st h o h')   {r0  x3 } {h : Hp} {o : OU} {h' : Hp} (e : kX3_readStore_8 rec  r0 x3 h = some (o, h')) : V G mX3_readStore d 8 [.ref r0, uV, uV, .int x3, uV, uV] [] h o h' := by
  unfold kX3_readStore_8 at e
  refine bX3_readStore_8 r0 x3 (by omega) ?_
  obtain ⟨q1, e⟩ := ob_e e
  refine ⟨q1, ?_⟩
  refine ⟨fun c2 => ?_, fun c2 => ?_⟩
  · have e := if_t e c2
    cases e
    exact ⟨rfl, rfl⟩
  · have e := if_n e c2
    obtain ⟨z4, h3, e3, e⟩ := bI_e e
    refine ⟨z4, h3, (tX3_atEnd e3 (by omega)), ?_⟩
    refine ⟨fun c4 => ?_, fun c4 => ?_⟩
    · have e := if_t e c4
      obtain ⟨q5, e⟩ := ob_e e
      refine ⟨q5, ?_⟩
      cases e
      exact ⟨rfl, rfl⟩
    · have e := if_n e c4
      refine ⟨fun c6 => ?_, fun c6 => ?_⟩
      · have e := if_t e c6
        obtain ⟨q7, e⟩ := ob_e e
        refine ⟨q7, ?_⟩
        cases e
        exact ⟨rfl, rfl⟩
      · have e := if_f e c6
        obtain ⟨q8, e⟩ := ob_e e
        refine ⟨q8, ?_⟩
        obtain ⟨z12, h11, e9, e⟩ := bI_e e
        refine ⟨z12, h11, (tX3_readWord e9 (by omega)), ?_⟩
        refine ⟨fun c10 => ?_, fun c10 => ?_⟩
        · have e := if_t e c10
          refine ⟨fun c11 => ?_, fun c11 => ?_⟩
          · have e := if_t e c11
            obtain ⟨q12, e⟩ := ob_e e
            refine ⟨q12, ?_⟩
            obtain ⟨h16, e13, e⟩ := bV_e e
            refine ⟨h16, (tX3_readNumbers e13 (by omega)), ?_⟩
            obtain ⟨q14, e⟩ := ob_e e
            refine ⟨q14, ?_⟩
            obtain ⟨h19, e15, e⟩ := bV_e e
            refine ⟨h19, (tX3_readSign e15 (by omega)), ?_⟩
            exact hrec _ _ _ _ _ _ e
          · have e := if_n e c11
            obtain ⟨q16, e⟩ := ob_e e
            refine ⟨q16, ?_⟩
            obtain ⟨h22, e17, e⟩ := bV_e e
            refine ⟨h22, (tX3_blame e17 (by omega)), ?_⟩
            obtain ⟨q18, e⟩ := ob_e e
            refine ⟨q18, ?_⟩
            obtain ⟨h25, e19, e⟩ := bV_e e
            refine ⟨h25, (tX3_readNumbers e19 (by omega)), ?_⟩
            obtain ⟨q20, e⟩ := ob_e e
            refine ⟨q20, ?_⟩
            obtain ⟨h28, e21, e⟩ := bV_e e
            refine ⟨h28, (tX3_readSign e21 (by omega)), ?_⟩
            exact hrec _ _ _ _ _ _ e
        · have e := if_f e c10
          refine ⟨fun c22 => ?_, fun c22 => ?_⟩
          · have e := if_t e c22
            refine ⟨fun c23 => ?_, fun c23 => ?_⟩
            · have e := if_t e c23
              obtain ⟨q24, e⟩ := ob_e e
              refine ⟨q24, ?_⟩
              obtain ⟨h33, e25, e⟩ := bV_e e
              refine ⟨h33, (tX3_readNumbers e25 (by omega)), ?_⟩
              obtain ⟨q26, e⟩ := ob_e e
              refine ⟨q26, ?_⟩
              obtain ⟨h36, e27, e⟩ := bV_e e
              refine ⟨h36, (tX3_readSign e27 (by omega)), ?_⟩
              exact hrec _ _ _ _ _ _ e
            · have e := if_n e c23
              obtain ⟨q28, e⟩ := ob_e e
              refine ⟨q28, ?_⟩
              obtain ⟨h39, e29, e⟩ := bV_e e
              refine ⟨h39, (tX3_blame e29 (by omega)), ?_⟩
              obtain ⟨q30, e⟩ := ob_e e
              refine ⟨q30, ?_⟩
              obtain ⟨h42, e31, e⟩ := bV_e e
              refine ⟨h42, (tX3_readNumbers e31 (by omega)), ?_⟩
              obtain ⟨q32, e⟩ := ob_e e
              refine ⟨q32, ?_⟩
              obtain ⟨h45, e33, e⟩ := bV_e e
              refine ⟨h45, (tX3_readSign e33 (by omega)), ?_⟩
              exact hrec _ _ _ _ _ _ e
          · have e := if_f e c22
            obtain ⟨q34, e⟩ := ob_e e
            refine ⟨q34, ?_⟩
            obtain ⟨h48, e35, e⟩ := bV_e e
            refine ⟨h48, (tX3_blame e35 (by omega)), ?_⟩
            obtain ⟨q36, e⟩ := ob_e e
            refine ⟨q36, ?_⟩
            obtain ⟨h51, e37, e⟩ := bV_e e
            refine ⟨h51, (tX3_readNumbers e37 (by omega)), ?_⟩
            obtain ⟨q38, e⟩ := ob_e e
            refine ⟨q38, ?_⟩
            obtain ⟨h54, e39, e⟩ := bV_e e
            refine ⟨h54, (tX3_readSign e39 (by omega)), ?_⟩
            exact hrec _ _ _ _ _ _ e
def sX3_readStore  (rec : Nat → List Value → List Value → Hp → RS) (pc : Nat) (loc st : List Value) (h : Hp) : RS := match pc, loc, st with
  | 8, [.ref r0, _, _, .int x3, _, _], [] => kX3_readStore_8 rec  r0 x3 h
  | _, _, _ => none
def gX3_readStore  : Nat → Nat → List Value → List Value → Hp → RS
  | 0 => fun _ _ _ _ => none
  | n + 1 => sX3_readStore  (gX3_readStore  n)
theorem wX3_readStore {G : GG} {d : Nat} (hd : 6 ≤ d)   : ∀ (n pc : Nat) (loc st : List Value) (h : Hp) (o : OU) (h' : Hp), gX3_readStore  n pc loc st h = some (o, h') → V G mX3_readStore d pc loc st h o h' := by
  intro n
  induction n with
  | zero => intro pc loc st h o h' e; cases e
  | succ n ih =>
    intro pc loc st h o h' e
    unfold gX3_readStore sX3_readStore at e
    split at e
    · exact V.drop (llp_r (llp_u (llp_u (llp_r (llp_u (llp_u llp_nil)))))) (uX3_readStore_8 hd _ ih   e)
    · cases e
theorem zX3_readStore_8  (n : Nat) (r0 : Nat) (x3 : Int32) (y1 : Value) (y2 : Value) (y4 : Value) (y5 : Value) (h : Hp) : gX3_readStore  (n + 1) 8 [.ref r0, y1, y2, .int x3, y4, y5] [] h = kX3_readStore_8 (gX3_readStore  n)  r0 x3 h := rfl
def fX3_readStore (r0 : Nat) (r1 : Nat) (x2 : Int32) (h : Hp) : RS := kX3_readStore_0 (gX3_readStore FF) r0 r1 x2 h
theorem tX3_readStore {G : GG} {d : Nat} {r0 r1 x2} {h : Hp} {o : OU} {h' : Hp} (e : fX3_readStore r0 r1 x2 h = some (o, h')) (hd : 6 ≤ d) : VM G mX3_readStore d [.ref r0, .ref r1, .int x2] h o h' := uX3_readStore_0 hd _ (wX3_readStore hd FF) e
def kX3_readStep_0 (rec : Nat → List Value → List Value → Hp → RS)  (r0 : Nat) (h : Hp) : RS := (if kH h r0 = 13 then (bI (fX3_readWord r0 h) fun z3 h2 => (if ¬ z3 = 12 then (if ¬ z3 = 11 then (rec 46 [.ref r0, uV, .int z3] [] h2) else (if kH h2 r0 = 13 then (if (h2.2 r0 9) < 6 then (rec 46 [.ref r0, uV, .int z3] [] h2) else (bV (fX3_blame r0 3 (h.2 r0 7) h2) fun h9 => (rec 46 [.ref r0, uV, .int z3] [] h9))) else none)) else (if kH h2 r0 = 13 then (bV (fX3_blame r0 1 (h.2 r0 7) h2) fun h11 => (rec 46 [.ref r0, uV, .int z3] [] h11)) else none))) else none)
theorem uX3_readStep_0 {G : GG} {d : Nat} (hd : 6 ≤ d) (rec : Nat → List Value → List Value → Hp → RS) (hrec : ∀ pc loc st h o h', rec pc loc st h = some (o, h') → V G mX3_readStep d pc loc st h o h')   {r0 } {h : Hp} {o : OU} {h' : Hp} (e : kX3_readStep_0 rec  r0 h = some (o, h')) : VM G mX3_readStep d [.ref r0] h o h' := by
  unfold kX3_readStep_0 at e
  refine eX3_readStep r0 (by omega) ?_
  obtain ⟨q1, e⟩ := ob_e e
  refine ⟨q1, ?_⟩
  obtain ⟨z3, h2, e2, e⟩ := bI_e e
  refine ⟨z3, h2, (tX3_readWord e2 (by omega)), ?_⟩
  refine ⟨fun c3 => ?_, fun c3 => ?_⟩
  · have e := if_t e c3
    refine ⟨fun c4 => ?_, fun c4 => ?_⟩
    · have e := if_t e c4
      exact hrec _ _ _ _ _ _ e
    · have e := if_n e c4
      obtain ⟨q5, e⟩ := ob_e e
      refine ⟨q5, ?_⟩
      refine ⟨fun c6 => ?_, fun c6 => ?_⟩
      · have e := if_t e c6
        exact hrec _ _ _ _ _ _ e
      · have e := if_f e c6
        obtain ⟨h9, e7, e⟩ := bV_e e
        refine ⟨h9, (tX3_blame e7 (by omega)), ?_⟩
        exact hrec _ _ _ _ _ _ e
  · have e := if_n e c3
    obtain ⟨q8, e⟩ := ob_e e
    refine ⟨q8, ?_⟩
    obtain ⟨h11, e9, e⟩ := bV_e e
    refine ⟨h11, (tX3_blame e9 (by omega)), ?_⟩
    exact hrec _ _ _ _ _ _ e
def kX3_readStep_46 (rec : Nat → List Value → List Value → Hp → RS)  (r0 : Nat) (x2 : Int32) (h : Hp) : RS := (if kH h r0 = 13 then (bV (fX3_readNumbers r0 x2 h) fun h1 => (if ¬ x2 = 11 then (if kH h1 r0 = 13 then (bV (fX3_readSign r0 59 h1) fun h5 => (some (.inl none, h5))) else none) else (if kH h1 r0 = 13 then (bV (fX3_readSign r0 91 h1) fun h8 => (if kH h8 r0 = 13 then (if ¬ (h8.2 r0 4) = 0 then (some (.inl none, h8)) else (if kH h8 (rH h8 r0 0) = 14 then (if kH h8 (rH h8 r0 8) = 1 then (if inB (h8.2 r0 9) (lH h8 (rH h8 r0 8)) = true then (letH (upI (upI h8.2 (rH h8 r0 8) (h8.2 r0 9).toNatClampNeg ((h8.2 (rH h8 r0 0) 1) - 1)) r0 9 (((upI h8.2 (rH h8 r0 8) (h8.2 r0 9).toNatClampNeg ((h8.2 (rH h8 r0 0) 1) - 1)) r0 9) + 1)) fun (i16 : Nat → Nat → Int32) => (some (.inl none, (h8.1, i16)))) else none) else none) else none)) else none)) else none))) else none)
theorem uX3_readStep_46 {G : GG} {d : Nat} (hd : 6 ≤ d) (rec : Nat → List Value → List Value → Hp → RS) (hrec : ∀ pc loc st h o h', rec pc loc st h = some (o, h') → V G mX3_readStep d pc loc st h o h')   {r0  x2 } {h : Hp} {o : OU} {h' : Hp} (e : kX3_readStep_46 rec  r0 x2 h = some (o, h')) : V G mX3_readStep d 46 [.ref r0, uV, .int x2] [] h o h' := by
  unfold kX3_readStep_46 at e
  refine bX3_readStep_46 r0 x2 (by omega) ?_
  obtain ⟨q1, e⟩ := ob_e e
  refine ⟨q1, ?_⟩
  obtain ⟨h1, e2, e⟩ := bV_e e
  refine ⟨h1, (tX3_readNumbers e2 (by omega)), ?_⟩
  refine ⟨fun c3 => ?_, fun c3 => ?_⟩
  · have e := if_t e c3
    obtain ⟨q4, e⟩ := ob_e e
    refine ⟨q4, ?_⟩
    obtain ⟨h5, e5, e⟩ := bV_e e
    refine ⟨h5, (tX3_readSign e5 (by omega)), ?_⟩
    cases e
    exact ⟨rfl, rfl⟩
  · have e := if_n e c3
    obtain ⟨q6, e⟩ := ob_e e
    refine ⟨q6, ?_⟩
    obtain ⟨h8, e7, e⟩ := bV_e e
    refine ⟨h8, (tX3_readSign e7 (by omega)), ?_⟩
    obtain ⟨q8, e⟩ := ob_e e
    refine ⟨q8, ?_⟩
    refine ⟨fun c9 => ?_, fun c9 => ?_⟩
    · have e := if_t e c9
      cases e
      exact ⟨rfl, rfl⟩
    · have e := if_n e c9
      obtain ⟨q10, e⟩ := ob_e e
      refine ⟨q10, ?_⟩
      obtain ⟨q11, e⟩ := ob_e e
      refine ⟨q11, ?_⟩
      obtain ⟨q12, e⟩ := ob_in e
      refine ⟨q12, ?_⟩
      intro i16 evi16
      have e := lt_e evi16 e
      cases e
      exact ⟨rfl, rfl⟩
def sX3_readStep  (rec : Nat → List Value → List Value → Hp → RS) (pc : Nat) (loc st : List Value) (h : Hp) : RS := match pc, loc, st with
  | 46, [.ref r0, _, .int x2], [] => kX3_readStep_46 rec  r0 x2 h
  | _, _, _ => none
def gX3_readStep  : Nat → Nat → List Value → List Value → Hp → RS
  | 0 => fun _ _ _ _ => none
  | n + 1 => sX3_readStep  (gX3_readStep  n)
theorem wX3_readStep {G : GG} {d : Nat} (hd : 6 ≤ d)   : ∀ (n pc : Nat) (loc st : List Value) (h : Hp) (o : OU) (h' : Hp), gX3_readStep  n pc loc st h = some (o, h') → V G mX3_readStep d pc loc st h o h' := by
  intro n
  induction n with
  | zero => intro pc loc st h o h' e; cases e
  | succ n ih =>
    intro pc loc st h o h' e
    unfold gX3_readStep sX3_readStep at e
    split at e
    · exact V.drop (llp_r (llp_u (llp_r llp_nil))) (uX3_readStep_46 hd _ ih   e)
    · cases e
theorem zX3_readStep_46  (n : Nat) (r0 : Nat) (x2 : Int32) (y1 : Value) (h : Hp) : gX3_readStep  (n + 1) 46 [.ref r0, y1, .int x2] [] h = kX3_readStep_46 (gX3_readStep  n)  r0 x2 h := rfl
def fX3_readStep (r0 : Nat) (h : Hp) : RS := kX3_readStep_0 (gX3_readStep FF) r0 h
theorem tX3_readStep {G : GG} {d : Nat} {r0} {h : Hp} {o : OU} {h' : Hp} (e : fX3_readStep r0 h = some (o, h')) (hd : 6 ≤ d) : VM G mX3_readStep d [.ref r0] h o h' := uX3_readStep_0 hd _ (wX3_readStep hd FF) e
def kX9_store_0  (r0 : Nat) (x1 : Int32) (h : Hp) : RS := (if kH h r0 = 19 then (bVx (fX9_testLength r0 x1 600 h) fun h1 => (if kH h1 r0 = 19 then (if kH h1 (rH h1 r0 7) = 13 then (bI (fX3_readStore (rH h1 r0 7) (rH h1 r0 6) x1 h1) fun z6 h5 => (if kH h5 r0 = 19 then (bV (fX9_textRead r0 z6 h5) fun h9 => (if z6 = 0 then (if kH h9 r0 = 19 then (if kH h9 (rH h9 r0 7) = 13 then (bV (fX9_buildStore r0 (rH h9 (rH h9 r0 7) 0) h9) fun h15 => (if kH h15 r0 = 19 then (bV (fX9_clearBook r0 h15) fun h17 => (if kH h17 r0 = 19 then (if kH h17 (rH h17 r0 1) = 10 then (if kH h17 (rH h17 r0 0) = 15 then (some (.inl (some (.int ((upI (upI (upI h17.2 (rH h17 r0 1) 1 0) r0 11 0) r0 15 0) (rH h17 r0 0) 0))), (h17.1, (upI (upI (upI h17.2 (rH h17 r0 1) 1 0) r0 11 0) r0 15 0)))) else none) else none) else none)) else none)) else none) else none) else (some (.inl (some (.int (z6 - 10))), h9)))) else none)) else none) else none)) else none)
theorem uX9_store_0 {G : GG} {d : Nat} (hd : 9 ≤ d)   {r0  x1 } {h : Hp} {o : OU} {h' : Hp} (e : kX9_store_0  r0 x1 h = some (o, h')) : VM G mX9_store d [.ref r0, .int x1] h o h' := by
  unfold kX9_store_0 at e
  refine eX9_store r0 x1 (by omega) ?_
  obtain ⟨q1, e⟩ := ob_e e
  refine ⟨q1, ?_⟩
  rcases bVx_e e with ⟨h1, e2, e⟩ | ⟨E, rfl, e2⟩
  · refine Or.inl ⟨h1, (tX9_testLength e2 (by omega)), ?_⟩
    obtain ⟨q3, e⟩ := ob_e e
    refine ⟨q3, ?_⟩
    obtain ⟨q4, e⟩ := ob_e e
    refine ⟨q4, ?_⟩
    obtain ⟨z6, h5, e5, e⟩ := bI_e e
    refine ⟨z6, h5, (tX3_readStore e5 (by omega)), ?_⟩
    obtain ⟨q6, e⟩ := ob_e e
    refine ⟨q6, ?_⟩
    obtain ⟨h9, e7, e⟩ := bV_e e
    refine ⟨h9, (tX9_textRead e7 (by omega)), ?_⟩
    refine ⟨fun c8 => ?_, fun c8 => ?_⟩
    · have e := if_t e c8
      obtain ⟨q9, e⟩ := ob_e e
      refine ⟨q9, ?_⟩
      obtain ⟨q10, e⟩ := ob_e e
      refine ⟨q10, ?_⟩
      obtain ⟨h15, e11, e⟩ := bV_e e
      refine ⟨h15, (tX9_buildStore e11 (by omega)), ?_⟩
      obtain ⟨q12, e⟩ := ob_e e
      refine ⟨q12, ?_⟩
      obtain ⟨h17, e13, e⟩ := bV_e e
      refine ⟨h17, (tX9_clearBook e13 (by omega)), ?_⟩
      obtain ⟨q14, e⟩ := ob_e e
      refine ⟨q14, ?_⟩
      obtain ⟨q15, e⟩ := ob_e e
      refine ⟨q15, ?_⟩
      obtain ⟨q16, e⟩ := ob_e e
      refine ⟨q16, ?_⟩
      cases e
      exact ⟨rfl, rfl⟩
    · have e := if_f e c8
      cases e
      exact ⟨rfl, rfl⟩
  · exact Or.inr ⟨E, rfl, (tX9_testLength e2 (by omega))⟩
def fX9_store (r0 : Nat) (x1 : Int32) (h : Hp) : RS := kX9_store_0 r0 x1 h
theorem tX9_store {G : GG} {d : Nat} {r0 x1} {h : Hp} {o : OU} {h' : Hp} (e : fX9_store r0 x1 h = some (o, h')) (hd : 9 ≤ d) : VM G mX9_store d [.ref r0, .int x1] h o h' := uX9_store_0 hd e
def kX9_told_0  (r0 : Nat) (x1 : Int32) (h : Hp) : RS := (if kH h r0 = 19 then (bVx (fX9_testWhat r0 x1 9 h) fun h1 => (if x1 = 0 then (if kH h1 r0 = 19 then (if kH h1 (rH h1 r0 0) = 15 then (some (.inl (some (.int (h1.2 (rH h1 r0 0) 0))), h1)) else none) else none) else (if x1 = 1 then (if kH h1 r0 = 19 then (if kH h1 (rH h1 r0 0) = 15 then (some (.inl (some (.int (h1.2 (rH h1 r0 0) 2))), h1)) else none) else none) else (if x1 = 2 then (if kH h1 r0 = 19 then (if kH h1 (rH h1 r0 0) = 15 then (some (.inl (some (.int (h1.2 (rH h1 r0 0) 9))), h1)) else none) else none) else (if x1 = 3 then (if kH h1 r0 = 19 then (if kH h1 (rH h1 r0 0) = 15 then (bI (fX5_dirtyBlocks (rH h1 r0 0) h1) fun z16 h15 => (some (.inl (some (.int z16)), h15))) else none) else none) else (if x1 = 4 then (if kH h1 r0 = 19 then (if kH h1 (rH h1 r0 0) = 15 then (some (.inl (some (.int (h1.2 (rH h1 r0 0) 12))), h1)) else none) else none) else (if x1 = 5 then (if kH h1 r0 = 19 then (if kH h1 (rH h1 r0 0) = 15 then (some (.inl (some (.int (h1.2 (rH h1 r0 0) 13))), h1)) else none) else none) else (if x1 = 6 then (if kH h1 r0 = 19 then (if kH h1 (rH h1 r0 0) = 15 then (some (.inl (some (.int (h1.2 (rH h1 r0 0) 14))), h1)) else none) else none) else (if x1 = 7 then (if kH h1 r0 = 19 then (some (.inl (some (.int (h1.2 r0 13))), h1)) else none) else (if x1 = 8 then (if kH h1 r0 = 19 then (some (.inl (some (.int (h1.2 r0 15))), h1)) else none) else (if kH h1 r0 = 19 then (if kH h1 (rH h1 r0 0) = 15 then (some (.inl (some (.int (h1.2 (rH h1 r0 0) 15))), h1)) else none) else none))))))))))) else none)
theorem uX9_told_0 {G : GG} {d : Nat} (hd : 10 ≤ d)   {r0  x1 } {h : Hp} {o : OU} {h' : Hp} (e : kX9_told_0  r0 x1 h = some (o, h')) : VM G mX9_told d [.ref r0, .int x1] h o h' := by
  unfold kX9_told_0 at e
  refine eX9_told r0 x1 (by omega) ?_
  obtain ⟨q1, e⟩ := ob_e e
  refine ⟨q1, ?_⟩
  rcases bVx_e e with ⟨h1, e2, e⟩ | ⟨E, rfl, e2⟩
  · refine Or.inl ⟨h1, (tX9_testWhat e2 (by omega)), ?_⟩
    refine ⟨?_, ?_, ?_, ?_, ?_, ?_, ?_, ?_, ?_, ?_⟩
    · intro cc
      have e := if_t e cc
      obtain ⟨q3, e⟩ := ob_e e
      refine ⟨q3, ?_⟩
      obtain ⟨q4, e⟩ := ob_e e
      refine ⟨q4, ?_⟩
      cases e
      exact ⟨rfl, rfl⟩
    · intro cc
      have e := if_f e (by rw [cc]; decide)
      have e := if_t e cc
      obtain ⟨q5, e⟩ := ob_e e
      refine ⟨q5, ?_⟩
      obtain ⟨q6, e⟩ := ob_e e
      refine ⟨q6, ?_⟩
      cases e
      exact ⟨rfl, rfl⟩
    · intro cc
      have e := if_f e (by rw [cc]; decide)
      have e := if_f e (by rw [cc]; decide)
      have e := if_t e cc
      obtain ⟨q7, e⟩ := ob_e e
      refine ⟨q7, ?_⟩
      obtain ⟨q8, e⟩ := ob_e e
      refine ⟨q8, ?_⟩
      cases e
      exact ⟨rfl, rfl⟩
    · intro cc
      have e := if_f e (by rw [cc]; decide)
      have e := if_f e (by rw [cc]; decide)
      have e := if_f e (by rw [cc]; decide)
      have e := if_t e cc
      obtain ⟨q9, e⟩ := ob_e e
      refine ⟨q9, ?_⟩
      obtain ⟨q10, e⟩ := ob_e e
      refine ⟨q10, ?_⟩
      obtain ⟨z16, h15, e11, e⟩ := bI_e e
      refine ⟨z16, h15, (tX5_dirtyBlocks e11 (by omega)), ?_⟩
      cases e
      exact ⟨rfl, rfl⟩
    · intro cc
      have e := if_f e (by rw [cc]; decide)
      have e := if_f e (by rw [cc]; decide)
      have e := if_f e (by rw [cc]; decide)
      have e := if_f e (by rw [cc]; decide)
      have e := if_t e cc
      obtain ⟨q12, e⟩ := ob_e e
      refine ⟨q12, ?_⟩
      obtain ⟨q13, e⟩ := ob_e e
      refine ⟨q13, ?_⟩
      cases e
      exact ⟨rfl, rfl⟩
    · intro cc
      have e := if_f e (by rw [cc]; decide)
      have e := if_f e (by rw [cc]; decide)
      have e := if_f e (by rw [cc]; decide)
      have e := if_f e (by rw [cc]; decide)
      have e := if_f e (by rw [cc]; decide)
      have e := if_t e cc
      obtain ⟨q14, e⟩ := ob_e e
      refine ⟨q14, ?_⟩
      obtain ⟨q15, e⟩ := ob_e e
      refine ⟨q15, ?_⟩
      cases e
      exact ⟨rfl, rfl⟩
    · intro cc
      have e := if_f e (by rw [cc]; decide)
      have e := if_f e (by rw [cc]; decide)
      have e := if_f e (by rw [cc]; decide)
      have e := if_f e (by rw [cc]; decide)
      have e := if_f e (by rw [cc]; decide)
      have e := if_f e (by rw [cc]; decide)
      have e := if_t e cc
      obtain ⟨q16, e⟩ := ob_e e
      refine ⟨q16, ?_⟩
      obtain ⟨q17, e⟩ := ob_e e
      refine ⟨q17, ?_⟩
      cases e
      exact ⟨rfl, rfl⟩
    · intro cc
      have e := if_f e (by rw [cc]; decide)
      have e := if_f e (by rw [cc]; decide)
      have e := if_f e (by rw [cc]; decide)
      have e := if_f e (by rw [cc]; decide)
      have e := if_f e (by rw [cc]; decide)
      have e := if_f e (by rw [cc]; decide)
      have e := if_f e (by rw [cc]; decide)
      have e := if_t e cc
      obtain ⟨q18, e⟩ := ob_e e
      refine ⟨q18, ?_⟩
      cases e
      exact ⟨rfl, rfl⟩
    · intro cc
      have e := if_f e (by rw [cc]; decide)
      have e := if_f e (by rw [cc]; decide)
      have e := if_f e (by rw [cc]; decide)
      have e := if_f e (by rw [cc]; decide)
      have e := if_f e (by rw [cc]; decide)
      have e := if_f e (by rw [cc]; decide)
      have e := if_f e (by rw [cc]; decide)
      have e := if_f e (by rw [cc]; decide)
      have e := if_t e cc
      obtain ⟨q19, e⟩ := ob_e e
      refine ⟨q19, ?_⟩
      cases e
      exact ⟨rfl, rfl⟩
    · intro n0 n1 n2 n3 n4 n5 n6 n7 n8
      have e := if_f e n0
      have e := if_f e n1
      have e := if_f e n2
      have e := if_f e n3
      have e := if_f e n4
      have e := if_f e n5
      have e := if_f e n6
      have e := if_f e n7
      have e := if_f e n8
      obtain ⟨q20, e⟩ := ob_e e
      refine ⟨q20, ?_⟩
      obtain ⟨q21, e⟩ := ob_e e
      refine ⟨q21, ?_⟩
      cases e
      exact ⟨rfl, rfl⟩
  · exact Or.inr ⟨E, rfl, (tX9_testWhat e2 (by omega))⟩
def fX9_told (r0 : Nat) (x1 : Int32) (h : Hp) : RS := kX9_told_0 r0 x1 h
theorem tX9_told {G : GG} {d : Nat} {r0 x1} {h : Hp} {o : OU} {h' : Hp} (e : fX9_told r0 x1 h = some (o, h')) (hd : 10 ≤ d) : VM G mX9_told d [.ref r0, .int x1] h o h' := uX9_told_0 hd e
def kX9_peek_0  (r0 : Nat) (x1 : Int32) (x2 : Int32) (x3 : Int32) (h : Hp) : RS := (if kH h r0 = 19 then (bVx (fX9_testWhere r0 x3 h) fun h1 => (if kH h1 r0 = 19 then (bVx (fX9_testBlock r0 x1 h1) fun h4 => (if kH h4 r0 = 19 then (bVx (fX9_testPlace r0 x2 h4) fun h7 => (if kH h7 r0 = 19 then (if kH h7 (rH h7 r0 0) = 15 then (bI (fX5_at (rH h7 r0 0) x3 x1 x2 h7) fun z12 h11 => (some (.inl (some (.int z12)), h11))) else none) else none)) else none)) else none)) else none)
theorem uX9_peek_0 {G : GG} {d : Nat} (hd : 10 ≤ d)   {r0  x1  x2  x3 } {h : Hp} {o : OU} {h' : Hp} (e : kX9_peek_0  r0 x1 x2 x3 h = some (o, h')) : VM G mX9_peek d [.ref r0, .int x1, .int x2, .int x3] h o h' := by
  unfold kX9_peek_0 at e
  refine eX9_peek r0 x1 x2 x3 (by omega) ?_
  obtain ⟨q1, e⟩ := ob_e e
  refine ⟨q1, ?_⟩
  rcases bVx_e e with ⟨h1, e2, e⟩ | ⟨E, rfl, e2⟩
  · refine Or.inl ⟨h1, (tX9_testWhere e2 (by omega)), ?_⟩
    obtain ⟨q3, e⟩ := ob_e e
    refine ⟨q3, ?_⟩
    rcases bVx_e e with ⟨h4, e4, e⟩ | ⟨E, rfl, e4⟩
    · refine Or.inl ⟨h4, (tX9_testBlock e4 (by omega)), ?_⟩
      obtain ⟨q5, e⟩ := ob_e e
      refine ⟨q5, ?_⟩
      rcases bVx_e e with ⟨h7, e6, e⟩ | ⟨E, rfl, e6⟩
      · refine Or.inl ⟨h7, (tX9_testPlace e6 (by omega)), ?_⟩
        obtain ⟨q7, e⟩ := ob_e e
        refine ⟨q7, ?_⟩
        obtain ⟨q8, e⟩ := ob_e e
        refine ⟨q8, ?_⟩
        obtain ⟨z12, h11, e9, e⟩ := bI_e e
        refine ⟨z12, h11, (tX5_at e9 (by omega)), ?_⟩
        cases e
        exact ⟨rfl, rfl⟩
      · exact Or.inr ⟨E, rfl, (tX9_testPlace e6 (by omega))⟩
    · exact Or.inr ⟨E, rfl, (tX9_testBlock e4 (by omega))⟩
  · exact Or.inr ⟨E, rfl, (tX9_testWhere e2 (by omega))⟩
def fX9_peek (r0 : Nat) (x1 : Int32) (x2 : Int32) (x3 : Int32) (h : Hp) : RS := kX9_peek_0 r0 x1 x2 x3 h
theorem tX9_peek {G : GG} {d : Nat} {r0 x1 x2 x3} {h : Hp} {o : OU} {h' : Hp} (e : fX9_peek r0 x1 x2 x3 h = some (o, h')) (hd : 10 ≤ d) : VM G mX9_peek d [.ref r0, .int x1, .int x2, .int x3] h o h' := uX9_peek_0 hd e
def kX9_used_0  (r0 : Nat) (x1 : Int32) (h : Hp) : RS := (if kH h r0 = 19 then (bVx (fX9_testWhere r0 x1 h) fun h1 => (if kH h1 r0 = 19 then (bI (fX8_usedBlocks (rH h1 r0 0) x1 h1) fun z6 h5 => (some (.inl (some (.int z6)), h5))) else none)) else none)
theorem uX9_used_0 {G : GG} {d : Nat} (hd : 10 ≤ d)   {r0  x1 } {h : Hp} {o : OU} {h' : Hp} (e : kX9_used_0  r0 x1 h = some (o, h')) : VM G mX9_used d [.ref r0, .int x1] h o h' := by
  unfold kX9_used_0 at e
  refine eX9_used r0 x1 (by omega) ?_
  obtain ⟨q1, e⟩ := ob_e e
  refine ⟨q1, ?_⟩
  rcases bVx_e e with ⟨h1, e2, e⟩ | ⟨E, rfl, e2⟩
  · refine Or.inl ⟨h1, (tX9_testWhere e2 (by omega)), ?_⟩
    obtain ⟨q3, e⟩ := ob_e e
    refine ⟨q3, ?_⟩
    obtain ⟨z6, h5, e4, e⟩ := bI_e e
    refine ⟨z6, h5, (tX8_usedBlocks e4 (by omega)), ?_⟩
    cases e
    exact ⟨rfl, rfl⟩
  · exact Or.inr ⟨E, rfl, (tX9_testWhere e2 (by omega))⟩
def fX9_used (r0 : Nat) (x1 : Int32) (h : Hp) : RS := kX9_used_0 r0 x1 h
theorem tX9_used {G : GG} {d : Nat} {r0 x1} {h : Hp} {o : OU} {h' : Hp} (e : fX9_used r0 x1 h = some (o, h')) (hd : 10 ≤ d) : VM G mX9_used d [.ref r0, .int x1] h o h' := uX9_used_0 hd e
def kX9_leaks_0  (r0 : Nat) (x1 : Int32) (h : Hp) : RS := (if kH h r0 = 19 then (bVx (fX9_testWhere r0 x1 h) fun h1 => (if kH h1 r0 = 19 then (bI (fX8_leakedBlocks (rH h1 r0 0) x1 h1) fun z6 h5 => (some (.inl (some (.int z6)), h5))) else none)) else none)
theorem uX9_leaks_0 {G : GG} {d : Nat} (hd : 10 ≤ d)   {r0  x1 } {h : Hp} {o : OU} {h' : Hp} (e : kX9_leaks_0  r0 x1 h = some (o, h')) : VM G mX9_leaks d [.ref r0, .int x1] h o h' := by
  unfold kX9_leaks_0 at e
  refine eX9_leaks r0 x1 (by omega) ?_
  obtain ⟨q1, e⟩ := ob_e e
  refine ⟨q1, ?_⟩
  rcases bVx_e e with ⟨h1, e2, e⟩ | ⟨E, rfl, e2⟩
  · refine Or.inl ⟨h1, (tX9_testWhere e2 (by omega)), ?_⟩
    obtain ⟨q3, e⟩ := ob_e e
    refine ⟨q3, ?_⟩
    obtain ⟨z6, h5, e4, e⟩ := bI_e e
    refine ⟨z6, h5, (tX8_leakedBlocks e4 (by omega)), ?_⟩
    cases e
    exact ⟨rfl, rfl⟩
  · exact Or.inr ⟨E, rfl, (tX9_testWhere e2 (by omega))⟩
def fX9_leaks (r0 : Nat) (x1 : Int32) (h : Hp) : RS := kX9_leaks_0 r0 x1 h
theorem tX9_leaks {G : GG} {d : Nat} {r0 x1} {h : Hp} {o : OU} {h' : Hp} (e : fX9_leaks r0 x1 h = some (o, h')) (hd : 10 ≤ d) : VM G mX9_leaks d [.ref r0, .int x1] h o h' := uX9_leaks_0 hd e
def kX9_lost_0  (r0 : Nat) (x1 : Int32) (h : Hp) : RS := (if kH h r0 = 19 then (bVx (fX9_testWhere r0 x1 h) fun h1 => (if kH h1 r0 = 19 then (bI (fX8_linkedNodes (rH h1 r0 0) x1 h1) fun z6 h5 => (if kH h5 r0 = 19 then (bI (fX8_reachedNodes (rH h5 r0 0) x1 h5) fun z10 h9 => (some (.inl (some (.int (z6 &&& (z10 ^^^ (-1))))), h9))) else none)) else none)) else none)
theorem uX9_lost_0 {G : GG} {d : Nat} (hd : 10 ≤ d)   {r0  x1 } {h : Hp} {o : OU} {h' : Hp} (e : kX9_lost_0  r0 x1 h = some (o, h')) : VM G mX9_lost d [.ref r0, .int x1] h o h' := by
  unfold kX9_lost_0 at e
  refine eX9_lost r0 x1 (by omega) ?_
  obtain ⟨q1, e⟩ := ob_e e
  refine ⟨q1, ?_⟩
  rcases bVx_e e with ⟨h1, e2, e⟩ | ⟨E, rfl, e2⟩
  · refine Or.inl ⟨h1, (tX9_testWhere e2 (by omega)), ?_⟩
    obtain ⟨q3, e⟩ := ob_e e
    refine ⟨q3, ?_⟩
    obtain ⟨z6, h5, e4, e⟩ := bI_e e
    refine ⟨z6, h5, (tX8_linkedNodes e4 (by omega)), ?_⟩
    obtain ⟨q5, e⟩ := ob_e e
    refine ⟨q5, ?_⟩
    obtain ⟨z10, h9, e6, e⟩ := bI_e e
    refine ⟨z10, h9, (tX8_reachedNodes e6 (by omega)), ?_⟩
    cases e
    exact ⟨rfl, rfl⟩
  · exact Or.inr ⟨E, rfl, (tX9_testWhere e2 (by omega))⟩
def fX9_lost (r0 : Nat) (x1 : Int32) (h : Hp) : RS := kX9_lost_0 r0 x1 h
theorem tX9_lost {G : GG} {d : Nat} {r0 x1} {h : Hp} {o : OU} {h' : Hp} (e : fX9_lost r0 x1 h = some (o, h')) (hd : 10 ≤ d) : VM G mX9_lost d [.ref r0, .int x1] h o h' := uX9_lost_0 hd e
def kX9_broken_0  (r0 : Nat) (x1 : Int32) (h : Hp) : RS := (if kH h r0 = 19 then (bVx (fX9_testWhere r0 x1 h) fun h1 => (if kH h1 r0 = 19 then (bI (fX8_brokenEntries (rH h1 r0 0) x1 h1) fun z6 h5 => (if kH h5 r0 = 19 then (bI (fX8_brokenPointers (rH h5 r0 0) x1 h5) fun z10 h9 => (some (.inl (some (.int (z6 + z10))), h9))) else none)) else none)) else none)
theorem uX9_broken_0 {G : GG} {d : Nat} (hd : 10 ≤ d)   {r0  x1 } {h : Hp} {o : OU} {h' : Hp} (e : kX9_broken_0  r0 x1 h = some (o, h')) : VM G mX9_broken d [.ref r0, .int x1] h o h' := by
  unfold kX9_broken_0 at e
  refine eX9_broken r0 x1 (by omega) ?_
  obtain ⟨q1, e⟩ := ob_e e
  refine ⟨q1, ?_⟩
  rcases bVx_e e with ⟨h1, e2, e⟩ | ⟨E, rfl, e2⟩
  · refine Or.inl ⟨h1, (tX9_testWhere e2 (by omega)), ?_⟩
    obtain ⟨q3, e⟩ := ob_e e
    refine ⟨q3, ?_⟩
    obtain ⟨z6, h5, e4, e⟩ := bI_e e
    refine ⟨z6, h5, (tX8_brokenEntries e4 (by omega)), ?_⟩
    obtain ⟨q5, e⟩ := ob_e e
    refine ⟨q5, ?_⟩
    obtain ⟨z10, h9, e6, e⟩ := bI_e e
    refine ⟨z10, h9, (tX8_brokenPointers e6 (by omega)), ?_⟩
    cases e
    exact ⟨rfl, rfl⟩
  · exact Or.inr ⟨E, rfl, (tX9_testWhere e2 (by omega))⟩
def fX9_broken (r0 : Nat) (x1 : Int32) (h : Hp) : RS := kX9_broken_0 r0 x1 h
theorem tX9_broken {G : GG} {d : Nat} {r0 x1} {h : Hp} {o : OU} {h' : Hp} (e : fX9_broken r0 x1 h = some (o, h')) (hd : 10 ≤ d) : VM G mX9_broken d [.ref r0, .int x1] h o h' := uX9_broken_0 hd e
def kX9_owner_0  (r0 : Nat) (x1 : Int32) (x2 : Int32) (h : Hp) : RS := (if kH h r0 = 19 then (bVx (fX9_testWhere r0 x2 h) fun h1 => (if kH h1 r0 = 19 then (bVx (fX9_testBlock r0 x1 h1) fun h4 => (if kH h4 r0 = 19 then (bI (fX8_ownerOf (rH h4 r0 0) x2 x1 h4) fun z9 h8 => (some (.inl (some (.int z9)), h8))) else none)) else none)) else none)
theorem uX9_owner_0 {G : GG} {d : Nat} (hd : 10 ≤ d)   {r0  x1  x2 } {h : Hp} {o : OU} {h' : Hp} (e : kX9_owner_0  r0 x1 x2 h = some (o, h')) : VM G mX9_owner d [.ref r0, .int x1, .int x2] h o h' := by
  unfold kX9_owner_0 at e
  refine eX9_owner r0 x1 x2 (by omega) ?_
  obtain ⟨q1, e⟩ := ob_e e
  refine ⟨q1, ?_⟩
  rcases bVx_e e with ⟨h1, e2, e⟩ | ⟨E, rfl, e2⟩
  · refine Or.inl ⟨h1, (tX9_testWhere e2 (by omega)), ?_⟩
    obtain ⟨q3, e⟩ := ob_e e
    refine ⟨q3, ?_⟩
    rcases bVx_e e with ⟨h4, e4, e⟩ | ⟨E, rfl, e4⟩
    · refine Or.inl ⟨h4, (tX9_testBlock e4 (by omega)), ?_⟩
      obtain ⟨q5, e⟩ := ob_e e
      refine ⟨q5, ?_⟩
      obtain ⟨z9, h8, e6, e⟩ := bI_e e
      refine ⟨z9, h8, (tX8_ownerOf e6 (by omega)), ?_⟩
      cases e
      exact ⟨rfl, rfl⟩
    · exact Or.inr ⟨E, rfl, (tX9_testBlock e4 (by omega))⟩
  · exact Or.inr ⟨E, rfl, (tX9_testWhere e2 (by omega))⟩
def fX9_owner (r0 : Nat) (x1 : Int32) (x2 : Int32) (h : Hp) : RS := kX9_owner_0 r0 x1 x2 h
theorem tX9_owner {G : GG} {d : Nat} {r0 x1 x2} {h : Hp} {o : OU} {h' : Hp} (e : fX9_owner r0 x1 x2 h = some (o, h')) (hd : 10 ≤ d) : VM G mX9_owner d [.ref r0, .int x1, .int x2] h o h' := uX9_owner_0 hd e
def kX9_spill_0 (rec : Nat → List Value → List Value → Hp → RS)  (r0 : Nat) (x1 : Int32) (h : Hp) : RS := (if kH h r0 = 19 then (bVx (fX9_testWhat r0 x1 1 h) fun h1 => (if kH h1 r0 = 19 then (if kH h1 (rH h1 r0 3) = 5 then (if inB 0 (lH h1 (rH h1 r0 3)) = true then (if kH h1 (rH h1 (rH h1 r0 3) 0) = 15 then (bV (fX5_copyFrom (rH h1 (rH h1 r0 3) 0) (rH h1 r0 0) h1) fun h7 => (bI (fX8_leakedBlocks (rH h1 (rH h1 r0 3) 0) 1 h7) fun z11 h10 => (bI (fJ6_bitCount_0f7a4 z11 h10) fun z14 h13 => (rec 39 [.ref r0, .int x1, .ref (rH h1 (rH h1 r0 3) 0), .int z14, .int 0, .int 0, .int 0, uV, uV] [] h13)))) else none) else none) else none) else none)) else none)
theorem uX9_spill_0 {G : GG} {d : Nat} (hd : 10 ≤ d) (rec : Nat → List Value → List Value → Hp → RS) (hrec : ∀ pc loc st h o h', rec pc loc st h = some (o, h') → V G mX9_spill d pc loc st h o h')   {r0  x1 } {h : Hp} {o : OU} {h' : Hp} (e : kX9_spill_0 rec  r0 x1 h = some (o, h')) : VM G mX9_spill d [.ref r0, .int x1] h o h' := by
  unfold kX9_spill_0 at e
  refine eX9_spill r0 x1 (by omega) ?_
  obtain ⟨q1, e⟩ := ob_e e
  refine ⟨q1, ?_⟩
  rcases bVx_e e with ⟨h1, e2, e⟩ | ⟨E, rfl, e2⟩
  · refine Or.inl ⟨h1, (tX9_testWhat e2 (by omega)), ?_⟩
    obtain ⟨q3, e⟩ := ob_e e
    refine ⟨q3, ?_⟩
    obtain ⟨q4, e⟩ := ob_e e
    refine ⟨q4, ?_⟩
    obtain ⟨q5, e⟩ := ob_in e
    refine ⟨q5, ?_⟩
    obtain ⟨q6, e⟩ := ob_e e
    refine ⟨q6, ?_⟩
    obtain ⟨h7, e7, e⟩ := bV_e e
    refine ⟨h7, (tX5_copyFrom e7 (by omega)), ?_⟩
    obtain ⟨z11, h10, e8, e⟩ := bI_e e
    refine ⟨z11, h10, (tX8_leakedBlocks e8 (by omega)), ?_⟩
    obtain ⟨z14, h13, e9, e⟩ := bI_e e
    refine ⟨z14, h13, (tJ6_bitCount_0f7a4 e9 (by omega)), ?_⟩
    exact hrec _ _ _ _ _ _ e
  · exact Or.inr ⟨E, rfl, (tX9_testWhat e2 (by omega))⟩
def kX9_spill_39 (rec : Nat → List Value → List Value → Hp → RS)  (r0 : Nat) (x1 : Int32) (r2 : Nat) (x3 : Int32) (x4 : Int32) (x5 : Int32) (x6 : Int32) (h : Hp) : RS := (if 10000 ≤ x6 then (if ¬ x1 = 0 then (some (.inl (some (.int x4)), h)) else (some (.inl (some (.int x3)), h))) else (if kH h r2 = 15 then (if (h.2 r2 2) ≤ 0 then (if ¬ x1 = 0 then (some (.inl (some (.int x4)), h)) else (some (.inl (some (.int x3)), h))) else (rec 57 [.ref r0, .int x1, .ref r2, .int x3, .int x4, .int x5, .int x6, .int 0, uV] [] h)) else none))
theorem uX9_spill_39 {G : GG} {d : Nat} (hd : 10 ≤ d) (rec : Nat → List Value → List Value → Hp → RS) (hrec : ∀ pc loc st h o h', rec pc loc st h = some (o, h') → V G mX9_spill d pc loc st h o h')   {r0  x1  r2  x3  x4  x5  x6 } {h : Hp} {o : OU} {h' : Hp} (e : kX9_spill_39 rec  r0 x1 r2 x3 x4 x5 x6 h = some (o, h')) : V G mX9_spill d 39 [.ref r0, .int x1, .ref r2, .int x3, .int x4, .int x5, .int x6, uV, uV] [] h o h' := by
  unfold kX9_spill_39 at e
  refine bX9_spill_39 r0 x1 r2 x3 x4 x5 x6 ?_
  refine ⟨fun c1 => ?_, fun c1 => ?_⟩
  · have e := if_t e c1
    refine ⟨fun c2 => ?_, fun c2 => ?_⟩
    · have e := if_t e c2
      cases e
      exact ⟨rfl, rfl⟩
    · have e := if_n e c2
      cases e
      exact ⟨rfl, rfl⟩
  · have e := if_f e c1
    obtain ⟨q3, e⟩ := ob_e e
    refine ⟨q3, ?_⟩
    refine ⟨fun c4 => ?_, fun c4 => ?_⟩
    · have e := if_t e c4
      refine ⟨fun c5 => ?_, fun c5 => ?_⟩
      · have e := if_t e c5
        cases e
        exact ⟨rfl, rfl⟩
      · have e := if_n e c5
        cases e
        exact ⟨rfl, rfl⟩
    · have e := if_f e c4
      exact hrec _ _ _ _ _ _ e
def kX9_spill_57 (rec : Nat → List Value → List Value → Hp → RS)  (r0 : Nat) (x1 : Int32) (r2 : Nat) (x3 : Int32) (x4 : Int32) (x5 : Int32) (x6 : Int32) (x7 : Int32) (h : Hp) : RS := (if kH h r2 = 15 then (if (h.2 r2 0) ≤ x7 then (rec 39 [.ref r0, .int x1, .ref r2, .int x3, .int x4, .int x5, .int (x6 + 1), uV, uV] [] h) else (if kH h r0 = 19 then (if kH h (rH h r0 4) = 12 then (bI (fX2_writeBlock (rH h r0 4) r2 x7 h) fun z5 h4 => (if z5 = 0 then (rec 57 [.ref r0, .int x1, .ref r2, .int x3, .int x4, .int x5, .int x6, .int (x7 + 1), uV] [] h4) else (bI (fX8_leakedBlocks r2 1 h4) fun z10 h9 => (bI (fJ6_bitCount_0f7a4 z10 h9) fun z13 h12 => (if z13 ≤ x3 then (rec 57 [.ref r0, .int x1, .ref r2, .int x3, .int x4, .int (x5 + 1), .int x6, .int (x7 + 1), uV] [] h12) else (rec 57 [.ref r0, .int x1, .ref r2, .int z13, .int (x5 + 1), .int (x5 + 1), .int x6, .int (x7 + 1), uV] [] h12)))))) else none) else none)) else none)
theorem uX9_spill_57 {G : GG} {d : Nat} (hd : 10 ≤ d) (rec : Nat → List Value → List Value → Hp → RS) (hrec : ∀ pc loc st h o h', rec pc loc st h = some (o, h') → V G mX9_spill d pc loc st h o h')   {r0  x1  r2  x3  x4  x5  x6  x7 } {h : Hp} {o : OU} {h' : Hp} (e : kX9_spill_57 rec  r0 x1 r2 x3 x4 x5 x6 x7 h = some (o, h')) : V G mX9_spill d 57 [.ref r0, .int x1, .ref r2, .int x3, .int x4, .int x5, .int x6, .int x7, uV] [] h o h' := by
  unfold kX9_spill_57 at e
  refine bX9_spill_57 r0 x1 r2 x3 x4 x5 x6 x7 (by omega) ?_
  obtain ⟨q1, e⟩ := ob_e e
  refine ⟨q1, ?_⟩
  refine ⟨fun c2 => ?_, fun c2 => ?_⟩
  · have e := if_t e c2
    exact hrec _ _ _ _ _ _ e
  · have e := if_f e c2
    obtain ⟨q3, e⟩ := ob_e e
    refine ⟨q3, ?_⟩
    obtain ⟨q4, e⟩ := ob_e e
    refine ⟨q4, ?_⟩
    obtain ⟨z5, h4, e5, e⟩ := bI_e e
    refine ⟨z5, h4, (tX2_writeBlock e5 (by omega)), ?_⟩
    refine ⟨fun c6 => ?_, fun c6 => ?_⟩
    · have e := if_t e c6
      exact hrec _ _ _ _ _ _ e
    · have e := if_f e c6
      obtain ⟨z10, h9, e7, e⟩ := bI_e e
      refine ⟨z10, h9, (tX8_leakedBlocks e7 (by omega)), ?_⟩
      obtain ⟨z13, h12, e8, e⟩ := bI_e e
      refine ⟨z13, h12, (tJ6_bitCount_0f7a4 e8 (by omega)), ?_⟩
      refine ⟨fun c9 => ?_, fun c9 => ?_⟩
      · have e := if_t e c9
        exact hrec _ _ _ _ _ _ e
      · have e := if_f e c9
        exact hrec _ _ _ _ _ _ e
def sX9_spill  (rec : Nat → List Value → List Value → Hp → RS) (pc : Nat) (loc st : List Value) (h : Hp) : RS := match pc, loc, st with
  | 39, [.ref r0, .int x1, .ref r2, .int x3, .int x4, .int x5, .int x6, _, _], [] => kX9_spill_39 rec  r0 x1 r2 x3 x4 x5 x6 h
  | 57, [.ref r0, .int x1, .ref r2, .int x3, .int x4, .int x5, .int x6, .int x7, _], [] => kX9_spill_57 rec  r0 x1 r2 x3 x4 x5 x6 x7 h
  | _, _, _ => none
def gX9_spill  : Nat → Nat → List Value → List Value → Hp → RS
  | 0 => fun _ _ _ _ => none
  | n + 1 => sX9_spill  (gX9_spill  n)
theorem wX9_spill {G : GG} {d : Nat} (hd : 10 ≤ d)   : ∀ (n pc : Nat) (loc st : List Value) (h : Hp) (o : OU) (h' : Hp), gX9_spill  n pc loc st h = some (o, h') → V G mX9_spill d pc loc st h o h' := by
  intro n
  induction n with
  | zero => intro pc loc st h o h' e; cases e
  | succ n ih =>
    intro pc loc st h o h' e
    unfold gX9_spill sX9_spill at e
    split at e
    · exact V.drop (llp_r (llp_r (llp_r (llp_r (llp_r (llp_r (llp_r (llp_u (llp_u llp_nil))))))))) (uX9_spill_39 hd _ ih   e)
    · exact V.drop (llp_r (llp_r (llp_r (llp_r (llp_r (llp_r (llp_r (llp_r (llp_u llp_nil))))))))) (uX9_spill_57 hd _ ih   e)
    · cases e
theorem zX9_spill_39  (n : Nat) (r0 : Nat) (x1 : Int32) (r2 : Nat) (x3 : Int32) (x4 : Int32) (x5 : Int32) (x6 : Int32) (y7 : Value) (y8 : Value) (h : Hp) : gX9_spill  (n + 1) 39 [.ref r0, .int x1, .ref r2, .int x3, .int x4, .int x5, .int x6, y7, y8] [] h = kX9_spill_39 (gX9_spill  n)  r0 x1 r2 x3 x4 x5 x6 h := rfl
theorem zX9_spill_57  (n : Nat) (r0 : Nat) (x1 : Int32) (r2 : Nat) (x3 : Int32) (x4 : Int32) (x5 : Int32) (x6 : Int32) (x7 : Int32) (y8 : Value) (h : Hp) : gX9_spill  (n + 1) 57 [.ref r0, .int x1, .ref r2, .int x3, .int x4, .int x5, .int x6, .int x7, y8] [] h = kX9_spill_57 (gX9_spill  n)  r0 x1 r2 x3 x4 x5 x6 x7 h := rfl
def fX9_spill (r0 : Nat) (x1 : Int32) (h : Hp) : RS := kX9_spill_0 (gX9_spill FF) r0 x1 h
theorem tX9_spill {G : GG} {d : Nat} {r0 x1} {h : Hp} {o : OU} {h' : Hp} (e : fX9_spill r0 x1 h = some (o, h')) (hd : 10 ≤ d) : VM G mX9_spill d [.ref r0, .int x1] h o h' := uX9_spill_0 hd _ (wX9_spill hd FF) e
def kX9_look_0 (rec : Nat → List Value → List Value → Hp → RS)  (r0 : Nat) (x1 : Int32) (h : Hp) : RS := (if kH h r0 = 19 then (bVx (fX9_testWhat r0 x1 1 h) fun h1 => (if kH h1 r0 = 19 then (bI (fX9_fittingBlocks r0 h1) fun z5 h4 => (rec 19 [.ref r0, .int x1, .int z5, .int (-1), .int (-1), .int 0, uV] [] h4)) else none)) else none)
theorem uX9_look_0 {G : GG} {d : Nat} (hd : 10 ≤ d) (rec : Nat → List Value → List Value → Hp → RS) (hrec : ∀ pc loc st h o h', rec pc loc st h = some (o, h') → V G mX9_look d pc loc st h o h')   {r0  x1 } {h : Hp} {o : OU} {h' : Hp} (e : kX9_look_0 rec  r0 x1 h = some (o, h')) : VM G mX9_look d [.ref r0, .int x1] h o h' := by
  unfold kX9_look_0 at e
  refine eX9_look r0 x1 (by omega) ?_
  obtain ⟨q1, e⟩ := ob_e e
  refine ⟨q1, ?_⟩
  rcases bVx_e e with ⟨h1, e2, e⟩ | ⟨E, rfl, e2⟩
  · refine Or.inl ⟨h1, (tX9_testWhat e2 (by omega)), ?_⟩
    obtain ⟨q3, e⟩ := ob_e e
    refine ⟨q3, ?_⟩
    obtain ⟨z5, h4, e4, e⟩ := bI_e e
    refine ⟨z5, h4, (tX9_fittingBlocks e4 (by omega)), ?_⟩
    exact hrec _ _ _ _ _ _ e
  · exact Or.inr ⟨E, rfl, (tX9_testWhat e2 (by omega))⟩
def kX9_look_19 (rec : Nat → List Value → List Value → Hp → RS)  (r0 : Nat) (x1 : Int32) (x2 : Int32) (x3 : Int32) (x4 : Int32) (x5 : Int32) (h : Hp) : RS := (if 16 ≤ x5 then (if ¬ x1 = 0 then (some (.inl (some (.int x4)), h)) else (some (.inl (some (.int x3)), h))) else (if kH h r0 = 19 then (if kH h (rH h r0 8) = 1 then (if inB x5 (lH h (rH h r0 8)) = true then (if ¬ (h.2 (rH h r0 8) x5.toNatClampNeg) = (-1) then (rec 19 [.ref r0, .int x1, .int x2, .int x3, .int x4, .int (x5 + 1), uV] [] h) else (bI (fX9_mostAlike r0 x2 x5 h) fun z8 h7 => (if x3 = (-1) then (rec 19 [.ref r0, .int x1, .int x2, .int x5, .int z8, .int (x5 + 1), uV] [] h7) else (if x4 ≤ z8 then (rec 19 [.ref r0, .int x1, .int x2, .int x3, .int x4, .int (x5 + 1), uV] [] h7) else (rec 19 [.ref r0, .int x1, .int x2, .int x5, .int z8, .int (x5 + 1), uV] [] h7))))) else none) else none) else none))
theorem uX9_look_19 {G : GG} {d : Nat} (hd : 10 ≤ d) (rec : Nat → List Value → List Value → Hp → RS) (hrec : ∀ pc loc st h o h', rec pc loc st h = some (o, h') → V G mX9_look d pc loc st h o h')   {r0  x1  x2  x3  x4  x5 } {h : Hp} {o : OU} {h' : Hp} (e : kX9_look_19 rec  r0 x1 x2 x3 x4 x5 h = some (o, h')) : V G mX9_look d 19 [.ref r0, .int x1, .int x2, .int x3, .int x4, .int x5, uV] [] h o h' := by
  unfold kX9_look_19 at e
  refine bX9_look_19 r0 x1 x2 x3 x4 x5 (by omega) ?_
  refine ⟨fun c1 => ?_, fun c1 => ?_⟩
  · have e := if_t e c1
    refine ⟨fun c2 => ?_, fun c2 => ?_⟩
    · have e := if_t e c2
      cases e
      exact ⟨rfl, rfl⟩
    · have e := if_n e c2
      cases e
      exact ⟨rfl, rfl⟩
  · have e := if_f e c1
    obtain ⟨q3, e⟩ := ob_e e
    refine ⟨q3, ?_⟩
    obtain ⟨q4, e⟩ := ob_e e
    refine ⟨q4, ?_⟩
    obtain ⟨q5, e⟩ := ob_in e
    refine ⟨q5, ?_⟩
    refine ⟨fun c6 => ?_, fun c6 => ?_⟩
    · have e := if_t e c6
      exact hrec _ _ _ _ _ _ e
    · have e := if_n e c6
      obtain ⟨z8, h7, e7, e⟩ := bI_e e
      refine ⟨z8, h7, (tX9_mostAlike e7 (by omega)), ?_⟩
      refine ⟨fun c8 => ?_, fun c8 => ?_⟩
      · have e := if_t e c8
        exact hrec _ _ _ _ _ _ e
      · have e := if_f e c8
        refine ⟨fun c9 => ?_, fun c9 => ?_⟩
        · have e := if_t e c9
          exact hrec _ _ _ _ _ _ e
        · have e := if_f e c9
          exact hrec _ _ _ _ _ _ e
def sX9_look  (rec : Nat → List Value → List Value → Hp → RS) (pc : Nat) (loc st : List Value) (h : Hp) : RS := match pc, loc, st with
  | 19, [.ref r0, .int x1, .int x2, .int x3, .int x4, .int x5, _], [] => kX9_look_19 rec  r0 x1 x2 x3 x4 x5 h
  | _, _, _ => none
def gX9_look  : Nat → Nat → List Value → List Value → Hp → RS
  | 0 => fun _ _ _ _ => none
  | n + 1 => sX9_look  (gX9_look  n)
theorem wX9_look {G : GG} {d : Nat} (hd : 10 ≤ d)   : ∀ (n pc : Nat) (loc st : List Value) (h : Hp) (o : OU) (h' : Hp), gX9_look  n pc loc st h = some (o, h') → V G mX9_look d pc loc st h o h' := by
  intro n
  induction n with
  | zero => intro pc loc st h o h' e; cases e
  | succ n ih =>
    intro pc loc st h o h' e
    unfold gX9_look sX9_look at e
    split at e
    · exact V.drop (llp_r (llp_r (llp_r (llp_r (llp_r (llp_r (llp_u llp_nil))))))) (uX9_look_19 hd _ ih   e)
    · cases e
theorem zX9_look_19  (n : Nat) (r0 : Nat) (x1 : Int32) (x2 : Int32) (x3 : Int32) (x4 : Int32) (x5 : Int32) (y6 : Value) (h : Hp) : gX9_look  (n + 1) 19 [.ref r0, .int x1, .int x2, .int x3, .int x4, .int x5, y6] [] h = kX9_look_19 (gX9_look  n)  r0 x1 x2 x3 x4 x5 h := rfl
def fX9_look (r0 : Nat) (x1 : Int32) (h : Hp) : RS := kX9_look_0 (gX9_look FF) r0 x1 h
theorem tX9_look {G : GG} {d : Nat} {r0 x1} {h : Hp} {o : OU} {h' : Hp} (e : fX9_look r0 x1 h = some (o, h')) (hd : 10 ≤ d) : VM G mX9_look d [.ref r0, .int x1] h o h' := uX9_look_0 hd _ (wX9_look hd FF) e
def kX9_storm_0  (r0 : Nat) (x1 : Int32) (x2 : Int32) (x3 : Int32) (x4 : Int32) (h : Hp) : RS := (if kH h r0 = 19 then (bVx (fX9_testRange r0 x2 1 96 h) fun h1 => (if kH h1 r0 = 19 then (bVx (fX9_testRange r0 x3 0 16 h1) fun h4 => (if kH h4 r0 = 19 then (bVx (fX9_testWhat r0 x4 3 h4) fun h7 => (if kH h7 r0 = 19 then (bR (fX9_blow r0 x1 x2 x3 h7) fun z11 h10 => (if x4 = 0 then (bI (fX8_leakedBlocks z11 1 h10) fun z16 h15 => (bI (fJ6_bitCount_0f7a4 z16 h15) fun z19 h18 => (some (.inl (some (.int z19)), h18)))) else (if x4 = 1 then (bI (fX8_linkedNodes z11 1 h10) fun z23 h22 => (some (.inl (some (.int z23)), h22))) else (if x4 = 2 then (if kH h10 z11 = 15 then (if kH h10 r0 = 19 then (if kH h10 (rH h10 r0 0) = 15 then (some (.inl (some (.int ((h10.2 z11 12) - (h10.2 (rH h10 r0 0) 12)))), h10)) else none) else none) else none) else (bI (fX8_brokenEntries z11 1 h10) fun z30 h29 => (bI (fX8_brokenPointers z11 1 h29) fun z33 h32 => (some (.inl (some (.int (z30 + z33))), h32)))))))) else none)) else none)) else none)) else none)
theorem uX9_storm_0 {G : GG} {d : Nat} (hd : 10 ≤ d)   {r0  x1  x2  x3  x4 } {h : Hp} {o : OU} {h' : Hp} (e : kX9_storm_0  r0 x1 x2 x3 x4 h = some (o, h')) : VM G mX9_storm d [.ref r0, .int x1, .int x2, .int x3, .int x4] h o h' := by
  unfold kX9_storm_0 at e
  refine eX9_storm r0 x1 x2 x3 x4 (by omega) ?_
  obtain ⟨q1, e⟩ := ob_e e
  refine ⟨q1, ?_⟩
  rcases bVx_e e with ⟨h1, e2, e⟩ | ⟨E, rfl, e2⟩
  · refine Or.inl ⟨h1, (tX9_testRange e2 (by omega)), ?_⟩
    obtain ⟨q3, e⟩ := ob_e e
    refine ⟨q3, ?_⟩
    rcases bVx_e e with ⟨h4, e4, e⟩ | ⟨E, rfl, e4⟩
    · refine Or.inl ⟨h4, (tX9_testRange e4 (by omega)), ?_⟩
      obtain ⟨q5, e⟩ := ob_e e
      refine ⟨q5, ?_⟩
      rcases bVx_e e with ⟨h7, e6, e⟩ | ⟨E, rfl, e6⟩
      · refine Or.inl ⟨h7, (tX9_testWhat e6 (by omega)), ?_⟩
        obtain ⟨q7, e⟩ := ob_e e
        refine ⟨q7, ?_⟩
        obtain ⟨z11, h10, e8, e⟩ := bR_e e
        refine ⟨z11, h10, (tX9_blow e8 (by omega)), ?_⟩
        refine ⟨?_, ?_, ?_, ?_⟩
        · intro cc
          have e := if_t e cc
          obtain ⟨z16, h15, e9, e⟩ := bI_e e
          refine ⟨z16, h15, (tX8_leakedBlocks e9 (by omega)), ?_⟩
          obtain ⟨z19, h18, e10, e⟩ := bI_e e
          refine ⟨z19, h18, (tJ6_bitCount_0f7a4 e10 (by omega)), ?_⟩
          cases e
          exact ⟨rfl, rfl⟩
        · intro cc
          have e := if_f e (by rw [cc]; decide)
          have e := if_t e cc
          obtain ⟨z23, h22, e11, e⟩ := bI_e e
          refine ⟨z23, h22, (tX8_linkedNodes e11 (by omega)), ?_⟩
          cases e
          exact ⟨rfl, rfl⟩
        · intro cc
          have e := if_f e (by rw [cc]; decide)
          have e := if_f e (by rw [cc]; decide)
          have e := if_t e cc
          obtain ⟨q12, e⟩ := ob_e e
          refine ⟨q12, ?_⟩
          obtain ⟨q13, e⟩ := ob_e e
          refine ⟨q13, ?_⟩
          obtain ⟨q14, e⟩ := ob_e e
          refine ⟨q14, ?_⟩
          cases e
          exact ⟨rfl, rfl⟩
        · intro n0 n1 n2
          have e := if_f e n0
          have e := if_f e n1
          have e := if_f e n2
          obtain ⟨z30, h29, e15, e⟩ := bI_e e
          refine ⟨z30, h29, (tX8_brokenEntries e15 (by omega)), ?_⟩
          obtain ⟨z33, h32, e16, e⟩ := bI_e e
          refine ⟨z33, h32, (tX8_brokenPointers e16 (by omega)), ?_⟩
          cases e
          exact ⟨rfl, rfl⟩
      · exact Or.inr ⟨E, rfl, (tX9_testWhat e6 (by omega))⟩
    · exact Or.inr ⟨E, rfl, (tX9_testRange e4 (by omega))⟩
  · exact Or.inr ⟨E, rfl, (tX9_testRange e2 (by omega))⟩
def fX9_storm (r0 : Nat) (x1 : Int32) (x2 : Int32) (x3 : Int32) (x4 : Int32) (h : Hp) : RS := kX9_storm_0 r0 x1 x2 x3 x4 h
theorem tX9_storm {G : GG} {d : Nat} {r0 x1 x2 x3 x4} {h : Hp} {o : OU} {h' : Hp} (e : fX9_storm r0 x1 x2 x3 x4 h = some (o, h')) (hd : 10 ≤ d) : VM G mX9_storm d [.ref r0, .int x1, .int x2, .int x3, .int x4] h o h' := uX9_storm_0 hd e
def kL_store_0  (r0 : Nat) (x1 : Int32) (r2 : Nat) (h : Hp) : RS := (if kH h r0 = 19 then (bC (fX9_store r0 x1 h) (fun z2 h1 => (if kH h1 r2 = 4 then (if inB 0 (lH h1 r2) = true then (some (.inl (some (.int 0)), (h1.1, (upI h1.2 r2 0 z2)))) else none) else none)) (fun E hE => (if E = xIA then (letH hE fun (h7 : Hp) => (some (.inl (some (.int 1)), h7))) else none))) else none)
theorem uL_store_0 {G : GG} {d : Nat} (hd : 10 ≤ d)   {r0  x1  r2 } {h : Hp} {o : OU} {h' : Hp} (e : kL_store_0  r0 x1 r2 h = some (o, h')) : VMW G mL_store d [.ref r0, .int x1, .ref r2] h o h' := by
  unfold kL_store_0 at e
  refine eL_store r0 x1 r2 (by omega) ?_
  obtain ⟨q1, e⟩ := ob_e e
  refine ⟨q1, ?_⟩
  rcases bC_e e with ⟨z2, h1, e2, e⟩ | ⟨E, hE, e2, e⟩
  · exact Or.inl ⟨z2, h1, tX9_store e2 (by omega), by
      obtain ⟨q3, e⟩ := ob_e e
      refine ⟨q3, ?_⟩
      obtain ⟨q4, e⟩ := ob_in e
      refine ⟨q4, ?_⟩
      cases e
      exact ⟨rfl, rfl⟩⟩
  · by_cases c0 : E = xIA
    · have e := if_t e c0
      subst c0
      exact Or.inr ( ⟨hE, tX9_store e2 (by omega), by
        have e := lt_e rfl e
        cases e
        exact ⟨rfl, rfl⟩⟩)
    have e := if_f e c0
    cases e
def fL_store (r0 : Nat) (x1 : Int32) (r2 : Nat) (h : Hp) : RS := kL_store_0 r0 x1 r2 h
theorem tL_store {G : GG} {d : Nat} {r0 x1 r2} {h : Hp} {o : OU} {h' : Hp} (e : fL_store r0 x1 r2 h = some (o, h')) (hd : 10 ≤ d) : VMW G mL_store d [.ref r0, .int x1, .ref r2] h o h' := uL_store_0 hd e
def kL_told_0  (r0 : Nat) (x1 : Int32) (r2 : Nat) (h : Hp) : RS := (if kH h r0 = 19 then (bC (fX9_told r0 x1 h) (fun z2 h1 => (if kH h1 r2 = 4 then (if inB 0 (lH h1 r2) = true then (some (.inl (some (.int 0)), (h1.1, (upI h1.2 r2 0 z2)))) else none) else none)) (fun E hE => (if E = xIA then (letH hE fun (h7 : Hp) => (some (.inl (some (.int 1)), h7))) else none))) else none)
theorem uL_told_0 {G : GG} {d : Nat} (hd : 11 ≤ d)   {r0  x1  r2 } {h : Hp} {o : OU} {h' : Hp} (e : kL_told_0  r0 x1 r2 h = some (o, h')) : VMW G mL_told d [.ref r0, .int x1, .ref r2] h o h' := by
  unfold kL_told_0 at e
  refine eL_told r0 x1 r2 (by omega) ?_
  obtain ⟨q1, e⟩ := ob_e e
  refine ⟨q1, ?_⟩
  rcases bC_e e with ⟨z2, h1, e2, e⟩ | ⟨E, hE, e2, e⟩
  · exact Or.inl ⟨z2, h1, tX9_told e2 (by omega), by
      obtain ⟨q3, e⟩ := ob_e e
      refine ⟨q3, ?_⟩
      obtain ⟨q4, e⟩ := ob_in e
      refine ⟨q4, ?_⟩
      cases e
      exact ⟨rfl, rfl⟩⟩
  · by_cases c0 : E = xIA
    · have e := if_t e c0
      subst c0
      exact Or.inr ( ⟨hE, tX9_told e2 (by omega), by
        have e := lt_e rfl e
        cases e
        exact ⟨rfl, rfl⟩⟩)
    have e := if_f e c0
    cases e
def fL_told (r0 : Nat) (x1 : Int32) (r2 : Nat) (h : Hp) : RS := kL_told_0 r0 x1 r2 h
theorem tL_told {G : GG} {d : Nat} {r0 x1 r2} {h : Hp} {o : OU} {h' : Hp} (e : fL_told r0 x1 r2 h = some (o, h')) (hd : 11 ≤ d) : VMW G mL_told d [.ref r0, .int x1, .ref r2] h o h' := uL_told_0 hd e
def kL_peek_0  (r0 : Nat) (x1 : Int32) (x2 : Int32) (x3 : Int32) (r4 : Nat) (h : Hp) : RS := (if kH h r0 = 19 then (bC (fX9_peek r0 x1 x2 x3 h) (fun z2 h1 => (if kH h1 r4 = 4 then (if inB 0 (lH h1 r4) = true then (some (.inl (some (.int 0)), (h1.1, (upI h1.2 r4 0 z2)))) else none) else none)) (fun E hE => (if E = xIA then (letH hE fun (h7 : Hp) => (some (.inl (some (.int 1)), h7))) else (if E = xIO then (letH hE fun (h9 : Hp) => (some (.inl (some (.int 2)), h9))) else none)))) else none)
theorem uL_peek_0 {G : GG} {d : Nat} (hd : 11 ≤ d)   {r0  x1  x2  x3  r4 } {h : Hp} {o : OU} {h' : Hp} (e : kL_peek_0  r0 x1 x2 x3 r4 h = some (o, h')) : VMW G mL_peek d [.ref r0, .int x1, .int x2, .int x3, .ref r4] h o h' := by
  unfold kL_peek_0 at e
  refine eL_peek r0 x1 x2 x3 r4 (by omega) ?_
  obtain ⟨q1, e⟩ := ob_e e
  refine ⟨q1, ?_⟩
  rcases bC_e e with ⟨z2, h1, e2, e⟩ | ⟨E, hE, e2, e⟩
  · exact Or.inl ⟨z2, h1, tX9_peek e2 (by omega), by
      obtain ⟨q3, e⟩ := ob_e e
      refine ⟨q3, ?_⟩
      obtain ⟨q4, e⟩ := ob_in e
      refine ⟨q4, ?_⟩
      cases e
      exact ⟨rfl, rfl⟩⟩
  · by_cases c0 : E = xIA
    · have e := if_t e c0
      subst c0
      exact Or.inr (Or.inl  ⟨hE, tX9_peek e2 (by omega), by
        have e := lt_e rfl e
        cases e
        exact ⟨rfl, rfl⟩⟩)
    have e := if_f e c0
    by_cases c1 : E = xIO
    · have e := if_t e c1
      subst c1
      exact Or.inr (Or.inr ( ⟨hE, tX9_peek e2 (by omega), by
        have e := lt_e rfl e
        cases e
        exact ⟨rfl, rfl⟩⟩))
    have e := if_f e c1
    cases e
def fL_peek (r0 : Nat) (x1 : Int32) (x2 : Int32) (x3 : Int32) (r4 : Nat) (h : Hp) : RS := kL_peek_0 r0 x1 x2 x3 r4 h
theorem tL_peek {G : GG} {d : Nat} {r0 x1 x2 x3 r4} {h : Hp} {o : OU} {h' : Hp} (e : fL_peek r0 x1 x2 x3 r4 h = some (o, h')) (hd : 11 ≤ d) : VMW G mL_peek d [.ref r0, .int x1, .int x2, .int x3, .ref r4] h o h' := uL_peek_0 hd e
def kL_used_0  (r0 : Nat) (x1 : Int32) (r2 : Nat) (h : Hp) : RS := (if kH h r0 = 19 then (bC (fX9_used r0 x1 h) (fun z2 h1 => (if kH h1 r2 = 4 then (if inB 0 (lH h1 r2) = true then (some (.inl (some (.int 0)), (h1.1, (upI h1.2 r2 0 z2)))) else none) else none)) (fun E hE => (if E = xIA then (letH hE fun (h7 : Hp) => (some (.inl (some (.int 1)), h7))) else none))) else none)
theorem uL_used_0 {G : GG} {d : Nat} (hd : 11 ≤ d)   {r0  x1  r2 } {h : Hp} {o : OU} {h' : Hp} (e : kL_used_0  r0 x1 r2 h = some (o, h')) : VMW G mL_used d [.ref r0, .int x1, .ref r2] h o h' := by
  unfold kL_used_0 at e
  refine eL_used r0 x1 r2 (by omega) ?_
  obtain ⟨q1, e⟩ := ob_e e
  refine ⟨q1, ?_⟩
  rcases bC_e e with ⟨z2, h1, e2, e⟩ | ⟨E, hE, e2, e⟩
  · exact Or.inl ⟨z2, h1, tX9_used e2 (by omega), by
      obtain ⟨q3, e⟩ := ob_e e
      refine ⟨q3, ?_⟩
      obtain ⟨q4, e⟩ := ob_in e
      refine ⟨q4, ?_⟩
      cases e
      exact ⟨rfl, rfl⟩⟩
  · by_cases c0 : E = xIA
    · have e := if_t e c0
      subst c0
      exact Or.inr ( ⟨hE, tX9_used e2 (by omega), by
        have e := lt_e rfl e
        cases e
        exact ⟨rfl, rfl⟩⟩)
    have e := if_f e c0
    cases e
def fL_used (r0 : Nat) (x1 : Int32) (r2 : Nat) (h : Hp) : RS := kL_used_0 r0 x1 r2 h
theorem tL_used {G : GG} {d : Nat} {r0 x1 r2} {h : Hp} {o : OU} {h' : Hp} (e : fL_used r0 x1 r2 h = some (o, h')) (hd : 11 ≤ d) : VMW G mL_used d [.ref r0, .int x1, .ref r2] h o h' := uL_used_0 hd e
def kL_leaks_0  (r0 : Nat) (x1 : Int32) (r2 : Nat) (h : Hp) : RS := (if kH h r0 = 19 then (bC (fX9_leaks r0 x1 h) (fun z2 h1 => (if kH h1 r2 = 4 then (if inB 0 (lH h1 r2) = true then (some (.inl (some (.int 0)), (h1.1, (upI h1.2 r2 0 z2)))) else none) else none)) (fun E hE => (if E = xIA then (letH hE fun (h7 : Hp) => (some (.inl (some (.int 1)), h7))) else none))) else none)
theorem uL_leaks_0 {G : GG} {d : Nat} (hd : 11 ≤ d)   {r0  x1  r2 } {h : Hp} {o : OU} {h' : Hp} (e : kL_leaks_0  r0 x1 r2 h = some (o, h')) : VMW G mL_leaks d [.ref r0, .int x1, .ref r2] h o h' := by
  unfold kL_leaks_0 at e
  refine eL_leaks r0 x1 r2 (by omega) ?_
  obtain ⟨q1, e⟩ := ob_e e
  refine ⟨q1, ?_⟩
  rcases bC_e e with ⟨z2, h1, e2, e⟩ | ⟨E, hE, e2, e⟩
  · exact Or.inl ⟨z2, h1, tX9_leaks e2 (by omega), by
      obtain ⟨q3, e⟩ := ob_e e
      refine ⟨q3, ?_⟩
      obtain ⟨q4, e⟩ := ob_in e
      refine ⟨q4, ?_⟩
      cases e
      exact ⟨rfl, rfl⟩⟩
  · by_cases c0 : E = xIA
    · have e := if_t e c0
      subst c0
      exact Or.inr ( ⟨hE, tX9_leaks e2 (by omega), by
        have e := lt_e rfl e
        cases e
        exact ⟨rfl, rfl⟩⟩)
    have e := if_f e c0
    cases e
def fL_leaks (r0 : Nat) (x1 : Int32) (r2 : Nat) (h : Hp) : RS := kL_leaks_0 r0 x1 r2 h
theorem tL_leaks {G : GG} {d : Nat} {r0 x1 r2} {h : Hp} {o : OU} {h' : Hp} (e : fL_leaks r0 x1 r2 h = some (o, h')) (hd : 11 ≤ d) : VMW G mL_leaks d [.ref r0, .int x1, .ref r2] h o h' := uL_leaks_0 hd e
def kL_lost_0  (r0 : Nat) (x1 : Int32) (r2 : Nat) (h : Hp) : RS := (if kH h r0 = 19 then (bC (fX9_lost r0 x1 h) (fun z2 h1 => (if kH h1 r2 = 4 then (if inB 0 (lH h1 r2) = true then (some (.inl (some (.int 0)), (h1.1, (upI h1.2 r2 0 z2)))) else none) else none)) (fun E hE => (if E = xIA then (letH hE fun (h7 : Hp) => (some (.inl (some (.int 1)), h7))) else none))) else none)
theorem uL_lost_0 {G : GG} {d : Nat} (hd : 11 ≤ d)   {r0  x1  r2 } {h : Hp} {o : OU} {h' : Hp} (e : kL_lost_0  r0 x1 r2 h = some (o, h')) : VMW G mL_lost d [.ref r0, .int x1, .ref r2] h o h' := by
  unfold kL_lost_0 at e
  refine eL_lost r0 x1 r2 (by omega) ?_
  obtain ⟨q1, e⟩ := ob_e e
  refine ⟨q1, ?_⟩
  rcases bC_e e with ⟨z2, h1, e2, e⟩ | ⟨E, hE, e2, e⟩
  · exact Or.inl ⟨z2, h1, tX9_lost e2 (by omega), by
      obtain ⟨q3, e⟩ := ob_e e
      refine ⟨q3, ?_⟩
      obtain ⟨q4, e⟩ := ob_in e
      refine ⟨q4, ?_⟩
      cases e
      exact ⟨rfl, rfl⟩⟩
  · by_cases c0 : E = xIA
    · have e := if_t e c0
      subst c0
      exact Or.inr ( ⟨hE, tX9_lost e2 (by omega), by
        have e := lt_e rfl e
        cases e
        exact ⟨rfl, rfl⟩⟩)
    have e := if_f e c0
    cases e
def fL_lost (r0 : Nat) (x1 : Int32) (r2 : Nat) (h : Hp) : RS := kL_lost_0 r0 x1 r2 h
theorem tL_lost {G : GG} {d : Nat} {r0 x1 r2} {h : Hp} {o : OU} {h' : Hp} (e : fL_lost r0 x1 r2 h = some (o, h')) (hd : 11 ≤ d) : VMW G mL_lost d [.ref r0, .int x1, .ref r2] h o h' := uL_lost_0 hd e
def kL_broken_0  (r0 : Nat) (x1 : Int32) (r2 : Nat) (h : Hp) : RS := (if kH h r0 = 19 then (bC (fX9_broken r0 x1 h) (fun z2 h1 => (if kH h1 r2 = 4 then (if inB 0 (lH h1 r2) = true then (some (.inl (some (.int 0)), (h1.1, (upI h1.2 r2 0 z2)))) else none) else none)) (fun E hE => (if E = xIA then (letH hE fun (h7 : Hp) => (some (.inl (some (.int 1)), h7))) else none))) else none)
theorem uL_broken_0 {G : GG} {d : Nat} (hd : 11 ≤ d)   {r0  x1  r2 } {h : Hp} {o : OU} {h' : Hp} (e : kL_broken_0  r0 x1 r2 h = some (o, h')) : VMW G mL_broken d [.ref r0, .int x1, .ref r2] h o h' := by
  unfold kL_broken_0 at e
  refine eL_broken r0 x1 r2 (by omega) ?_
  obtain ⟨q1, e⟩ := ob_e e
  refine ⟨q1, ?_⟩
  rcases bC_e e with ⟨z2, h1, e2, e⟩ | ⟨E, hE, e2, e⟩
  · exact Or.inl ⟨z2, h1, tX9_broken e2 (by omega), by
      obtain ⟨q3, e⟩ := ob_e e
      refine ⟨q3, ?_⟩
      obtain ⟨q4, e⟩ := ob_in e
      refine ⟨q4, ?_⟩
      cases e
      exact ⟨rfl, rfl⟩⟩
  · by_cases c0 : E = xIA
    · have e := if_t e c0
      subst c0
      exact Or.inr ( ⟨hE, tX9_broken e2 (by omega), by
        have e := lt_e rfl e
        cases e
        exact ⟨rfl, rfl⟩⟩)
    have e := if_f e c0
    cases e
def fL_broken (r0 : Nat) (x1 : Int32) (r2 : Nat) (h : Hp) : RS := kL_broken_0 r0 x1 r2 h
theorem tL_broken {G : GG} {d : Nat} {r0 x1 r2} {h : Hp} {o : OU} {h' : Hp} (e : fL_broken r0 x1 r2 h = some (o, h')) (hd : 11 ≤ d) : VMW G mL_broken d [.ref r0, .int x1, .ref r2] h o h' := uL_broken_0 hd e
def kL_spill_0  (r0 : Nat) (x1 : Int32) (r2 : Nat) (h : Hp) : RS := (if kH h r0 = 19 then (bC (fX9_spill r0 x1 h) (fun z2 h1 => (if kH h1 r2 = 4 then (if inB 0 (lH h1 r2) = true then (some (.inl (some (.int 0)), (h1.1, (upI h1.2 r2 0 z2)))) else none) else none)) (fun E hE => (if E = xIA then (letH hE fun (h7 : Hp) => (some (.inl (some (.int 1)), h7))) else none))) else none)
theorem uL_spill_0 {G : GG} {d : Nat} (hd : 11 ≤ d)   {r0  x1  r2 } {h : Hp} {o : OU} {h' : Hp} (e : kL_spill_0  r0 x1 r2 h = some (o, h')) : VMW G mL_spill d [.ref r0, .int x1, .ref r2] h o h' := by
  unfold kL_spill_0 at e
  refine eL_spill r0 x1 r2 (by omega) ?_
  obtain ⟨q1, e⟩ := ob_e e
  refine ⟨q1, ?_⟩
  rcases bC_e e with ⟨z2, h1, e2, e⟩ | ⟨E, hE, e2, e⟩
  · exact Or.inl ⟨z2, h1, tX9_spill e2 (by omega), by
      obtain ⟨q3, e⟩ := ob_e e
      refine ⟨q3, ?_⟩
      obtain ⟨q4, e⟩ := ob_in e
      refine ⟨q4, ?_⟩
      cases e
      exact ⟨rfl, rfl⟩⟩
  · by_cases c0 : E = xIA
    · have e := if_t e c0
      subst c0
      exact Or.inr ( ⟨hE, tX9_spill e2 (by omega), by
        have e := lt_e rfl e
        cases e
        exact ⟨rfl, rfl⟩⟩)
    have e := if_f e c0
    cases e
def fL_spill (r0 : Nat) (x1 : Int32) (r2 : Nat) (h : Hp) : RS := kL_spill_0 r0 x1 r2 h
theorem tL_spill {G : GG} {d : Nat} {r0 x1 r2} {h : Hp} {o : OU} {h' : Hp} (e : fL_spill r0 x1 r2 h = some (o, h')) (hd : 11 ≤ d) : VMW G mL_spill d [.ref r0, .int x1, .ref r2] h o h' := uL_spill_0 hd e
def kL_look_0  (r0 : Nat) (x1 : Int32) (r2 : Nat) (h : Hp) : RS := (if kH h r0 = 19 then (bC (fX9_look r0 x1 h) (fun z2 h1 => (if kH h1 r2 = 4 then (if inB 0 (lH h1 r2) = true then (some (.inl (some (.int 0)), (h1.1, (upI h1.2 r2 0 z2)))) else none) else none)) (fun E hE => (if E = xIA then (letH hE fun (h7 : Hp) => (some (.inl (some (.int 1)), h7))) else none))) else none)
theorem uL_look_0 {G : GG} {d : Nat} (hd : 11 ≤ d)   {r0  x1  r2 } {h : Hp} {o : OU} {h' : Hp} (e : kL_look_0  r0 x1 r2 h = some (o, h')) : VMW G mL_look d [.ref r0, .int x1, .ref r2] h o h' := by
  unfold kL_look_0 at e
  refine eL_look r0 x1 r2 (by omega) ?_
  obtain ⟨q1, e⟩ := ob_e e
  refine ⟨q1, ?_⟩
  rcases bC_e e with ⟨z2, h1, e2, e⟩ | ⟨E, hE, e2, e⟩
  · exact Or.inl ⟨z2, h1, tX9_look e2 (by omega), by
      obtain ⟨q3, e⟩ := ob_e e
      refine ⟨q3, ?_⟩
      obtain ⟨q4, e⟩ := ob_in e
      refine ⟨q4, ?_⟩
      cases e
      exact ⟨rfl, rfl⟩⟩
  · by_cases c0 : E = xIA
    · have e := if_t e c0
      subst c0
      exact Or.inr ( ⟨hE, tX9_look e2 (by omega), by
        have e := lt_e rfl e
        cases e
        exact ⟨rfl, rfl⟩⟩)
    have e := if_f e c0
    cases e
def fL_look (r0 : Nat) (x1 : Int32) (r2 : Nat) (h : Hp) : RS := kL_look_0 r0 x1 r2 h
theorem tL_look {G : GG} {d : Nat} {r0 x1 r2} {h : Hp} {o : OU} {h' : Hp} (e : fL_look r0 x1 r2 h = some (o, h')) (hd : 11 ≤ d) : VMW G mL_look d [.ref r0, .int x1, .ref r2] h o h' := uL_look_0 hd e
def kL_owner_0  (r0 : Nat) (x1 : Int32) (x2 : Int32) (r3 : Nat) (h : Hp) : RS := (if kH h r0 = 19 then (bC (fX9_owner r0 x1 x2 h) (fun z2 h1 => (if kH h1 r3 = 4 then (if inB 0 (lH h1 r3) = true then (some (.inl (some (.int 0)), (h1.1, (upI h1.2 r3 0 z2)))) else none) else none)) (fun E hE => (if E = xIA then (letH hE fun (h7 : Hp) => (some (.inl (some (.int 1)), h7))) else (if E = xIO then (letH hE fun (h9 : Hp) => (some (.inl (some (.int 2)), h9))) else none)))) else none)
theorem uL_owner_0 {G : GG} {d : Nat} (hd : 11 ≤ d)   {r0  x1  x2  r3 } {h : Hp} {o : OU} {h' : Hp} (e : kL_owner_0  r0 x1 x2 r3 h = some (o, h')) : VMW G mL_owner d [.ref r0, .int x1, .int x2, .ref r3] h o h' := by
  unfold kL_owner_0 at e
  refine eL_owner r0 x1 x2 r3 (by omega) ?_
  obtain ⟨q1, e⟩ := ob_e e
  refine ⟨q1, ?_⟩
  rcases bC_e e with ⟨z2, h1, e2, e⟩ | ⟨E, hE, e2, e⟩
  · exact Or.inl ⟨z2, h1, tX9_owner e2 (by omega), by
      obtain ⟨q3, e⟩ := ob_e e
      refine ⟨q3, ?_⟩
      obtain ⟨q4, e⟩ := ob_in e
      refine ⟨q4, ?_⟩
      cases e
      exact ⟨rfl, rfl⟩⟩
  · by_cases c0 : E = xIA
    · have e := if_t e c0
      subst c0
      exact Or.inr (Or.inl  ⟨hE, tX9_owner e2 (by omega), by
        have e := lt_e rfl e
        cases e
        exact ⟨rfl, rfl⟩⟩)
    have e := if_f e c0
    by_cases c1 : E = xIO
    · have e := if_t e c1
      subst c1
      exact Or.inr (Or.inr ( ⟨hE, tX9_owner e2 (by omega), by
        have e := lt_e rfl e
        cases e
        exact ⟨rfl, rfl⟩⟩))
    have e := if_f e c1
    cases e
def fL_owner (r0 : Nat) (x1 : Int32) (x2 : Int32) (r3 : Nat) (h : Hp) : RS := kL_owner_0 r0 x1 x2 r3 h
theorem tL_owner {G : GG} {d : Nat} {r0 x1 x2 r3} {h : Hp} {o : OU} {h' : Hp} (e : fL_owner r0 x1 x2 r3 h = some (o, h')) (hd : 11 ≤ d) : VMW G mL_owner d [.ref r0, .int x1, .int x2, .ref r3] h o h' := uL_owner_0 hd e
def kL_storm_0  (r0 : Nat) (x1 : Int32) (x2 : Int32) (x3 : Int32) (x4 : Int32) (r5 : Nat) (h : Hp) : RS := (if kH h r0 = 19 then (bC (fX9_storm r0 x1 x2 x3 x4 h) (fun z2 h1 => (if kH h1 r5 = 4 then (if inB 0 (lH h1 r5) = true then (some (.inl (some (.int 0)), (h1.1, (upI h1.2 r5 0 z2)))) else none) else none)) (fun E hE => (if E = xIA then (letH hE fun (h7 : Hp) => (some (.inl (some (.int 1)), h7))) else none))) else none)
theorem uL_storm_0 {G : GG} {d : Nat} (hd : 11 ≤ d)   {r0  x1  x2  x3  x4  r5 } {h : Hp} {o : OU} {h' : Hp} (e : kL_storm_0  r0 x1 x2 x3 x4 r5 h = some (o, h')) : VMW G mL_storm d [.ref r0, .int x1, .int x2, .int x3, .int x4, .ref r5] h o h' := by
  unfold kL_storm_0 at e
  refine eL_storm r0 x1 x2 x3 x4 r5 (by omega) ?_
  obtain ⟨q1, e⟩ := ob_e e
  refine ⟨q1, ?_⟩
  rcases bC_e e with ⟨z2, h1, e2, e⟩ | ⟨E, hE, e2, e⟩
  · exact Or.inl ⟨z2, h1, tX9_storm e2 (by omega), by
      obtain ⟨q3, e⟩ := ob_e e
      refine ⟨q3, ?_⟩
      obtain ⟨q4, e⟩ := ob_in e
      refine ⟨q4, ?_⟩
      cases e
      exact ⟨rfl, rfl⟩⟩
  · by_cases c0 : E = xIA
    · have e := if_t e c0
      subst c0
      exact Or.inr ( ⟨hE, tX9_storm e2 (by omega), by
        have e := lt_e rfl e
        cases e
        exact ⟨rfl, rfl⟩⟩)
    have e := if_f e c0
    cases e
def fL_storm (r0 : Nat) (x1 : Int32) (x2 : Int32) (x3 : Int32) (x4 : Int32) (r5 : Nat) (h : Hp) : RS := kL_storm_0 r0 x1 x2 x3 x4 r5 h
theorem tL_storm {G : GG} {d : Nat} {r0 x1 x2 x3 x4 r5} {h : Hp} {o : OU} {h' : Hp} (e : fL_storm r0 x1 x2 x3 x4 r5 h = some (o, h')) (hd : 11 ≤ d) : VMW G mL_storm d [.ref r0, .int x1, .int x2, .int x3, .int x4, .ref r5] h o h' := uL_storm_0 hd e
def kX3_readWork_0 (rec : Nat → List Value → List Value → Hp → RS)  (r0 : Nat) (r1 : Nat) (x2 : Int32) (h : Hp) : RS := (if kH h r0 = 13 then (bV (fX3_begin r0 r1 x2 h) fun h1 => (rec 8 [.ref r0, uV, uV, .int 0] [] h1)) else none)
theorem uX3_readWork_0 {G : GG} {d : Nat} (hd : 7 ≤ d) (rec : Nat → List Value → List Value → Hp → RS) (hrec : ∀ pc loc st h o h', rec pc loc st h = some (o, h') → V G mX3_readWork d pc loc st h o h')   {r0  r1  x2 } {h : Hp} {o : OU} {h' : Hp} (e : kX3_readWork_0 rec  r0 r1 x2 h = some (o, h')) : VM G mX3_readWork d [.ref r0, .ref r1, .int x2] h o h' := by
  unfold kX3_readWork_0 at e
  refine eX3_readWork r0 r1 x2 (by omega) ?_
  obtain ⟨q1, e⟩ := ob_e e
  refine ⟨q1, ?_⟩
  obtain ⟨h1, e2, e⟩ := bV_e e
  refine ⟨h1, (tX3_begin e2 (by omega)), ?_⟩
  exact hrec _ _ _ _ _ _ e
def kX3_readWork_8 (rec : Nat → List Value → List Value → Hp → RS)  (r0 : Nat) (x3 : Int32) (h : Hp) : RS := (if kH h r0 = 13 then (if (h.2 r0 6) < x3 then (rec 106 [.ref r0, uV, uV, uV] [] h) else (if ¬ (h.2 r0 4) = 0 then (rec 106 [.ref r0, uV, uV, uV] [] h) else (bI (fX3_atEnd r0 h) fun z5 h4 => (if ¬ z5 = 0 then (rec 106 [.ref r0, uV, uV, uV] [] h4) else (if kH h4 r0 = 13 then (if (h4.2 r0 9) ≤ 0 then (bV (fX3_readStep r0 h4) fun h10 => (rec 8 [.ref r0, uV, uV, .int (x3 + 1)] [] h10)) else (if kH h4 (rH h4 r0 5) = 2 then (if inB (h4.2 r0 7) (lH h4 (rH h4 r0 5)) = true then (if ¬ (h4.2 (rH h4 r0 5) (h4.2 r0 7).toNatClampNeg) = 93 then (bV (fX3_readStep r0 h4) fun h15 => (rec 8 [.ref r0, uV, uV, .int (x3 + 1)] [] h15)) else (if kH h4 (rH h4 r0 8) = 1 then (if inB ((upI (upI h4.2 r0 7 ((h4.2 r0 7) + 1)) r0 9 (((upI h4.2 r0 7 ((h4.2 r0 7) + 1)) r0 9) - 1)) r0 9) (lH h4 (rH h4 r0 8)) = true then (if kH h4 (rH h4 r0 0) = 14 then (bV (fX4_addEnd (rH h4 r0 0) ((upI (upI h4.2 r0 7 ((h4.2 r0 7) + 1)) r0 9 (((upI h4.2 r0 7 ((h4.2 r0 7) + 1)) r0 9) - 1)) (rH h4 r0 8) ((upI (upI h4.2 r0 7 ((h4.2 r0 7) + 1)) r0 9 (((upI h4.2 r0 7 ((h4.2 r0 7) + 1)) r0 9) - 1)) r0 9).toNatClampNeg) (h4.1, (upI (upI h4.2 r0 7 ((h4.2 r0 7) + 1)) r0 9 (((upI h4.2 r0 7 ((h4.2 r0 7) + 1)) r0 9) - 1)))) fun h19 => (if kH h19 r0 = 13 then (bV (fX3_readSign r0 59 h19) fun h22 => (rec 8 [.ref r0, uV, uV, .int (x3 + 1)] [] h22)) else none)) else none) else none) else none)) else none) else none)) else none))))) else none)
theorem uX3_readWork_8 {G : GG} {d : Nat} (hd : 7 ≤ d) (rec : Nat → List Value → List Value → Hp → RS) (hrec : ∀ pc loc st h o h', rec pc loc st h = some (o, h') → V G mX3_readWork d pc loc st h o h')   {r0  x3 } {h : Hp} {o : OU} {h' : Hp} (e : kX3_readWork_8 rec  r0 x3 h = some (o, h')) : V G mX3_readWork d 8 [.ref r0, uV, uV, .int x3] [] h o h' := by
  unfold kX3_readWork_8 at e
  refine bX3_readWork_8 r0 x3 (by omega) ?_
  obtain ⟨q1, e⟩ := ob_e e
  refine ⟨q1, ?_⟩
  refine ⟨fun c2 => ?_, fun c2 => ?_⟩
  · have e := if_t e c2
    exact hrec _ _ _ _ _ _ e
  · have e := if_f e c2
    refine ⟨fun c3 => ?_, fun c3 => ?_⟩
    · have e := if_t e c3
      exact hrec _ _ _ _ _ _ e
    · have e := if_n e c3
      obtain ⟨z5, h4, e4, e⟩ := bI_e e
      refine ⟨z5, h4, (tX3_atEnd e4 (by omega)), ?_⟩
      refine ⟨fun c5 => ?_, fun c5 => ?_⟩
      · have e := if_t e c5
        exact hrec _ _ _ _ _ _ e
      · have e := if_n e c5
        obtain ⟨q6, e⟩ := ob_e e
        refine ⟨q6, ?_⟩
        refine ⟨fun c7 => ?_, fun c7 => ?_⟩
        · have e := if_t e c7
          obtain ⟨h10, e8, e⟩ := bV_e e
          refine ⟨h10, (tX3_readStep e8 (by omega)), ?_⟩
          exact hrec _ _ _ _ _ _ e
        · have e := if_f e c7
          obtain ⟨q9, e⟩ := ob_e e
          refine ⟨q9, ?_⟩
          obtain ⟨q10, e⟩ := ob_in e
          refine ⟨q10, ?_⟩
          refine ⟨fun c11 => ?_, fun c11 => ?_⟩
          · have e := if_t e c11
            obtain ⟨h15, e12, e⟩ := bV_e e
            refine ⟨h15, (tX3_readStep e12 (by omega)), ?_⟩
            exact hrec _ _ _ _ _ _ e
          · have e := if_n e c11
            obtain ⟨q13, e⟩ := ob_e e
            refine ⟨q13, ?_⟩
            obtain ⟨q14, e⟩ := ob_in e
            refine ⟨q14, ?_⟩
            obtain ⟨q15, e⟩ := ob_e e
            refine ⟨q15, ?_⟩
            obtain ⟨h19, e16, e⟩ := bV_e e
            refine ⟨h19, (tX4_addEnd e16 (by omega)), ?_⟩
            obtain ⟨q17, e⟩ := ob_e e
            refine ⟨q17, ?_⟩
            obtain ⟨h22, e18, e⟩ := bV_e e
            refine ⟨h22, (tX3_readSign e18 (by omega)), ?_⟩
            exact hrec _ _ _ _ _ _ e
def kX3_readWork_106 (rec : Nat → List Value → List Value → Hp → RS)  (r0 : Nat) (h : Hp) : RS := (if kH h r0 = 13 then (if (h.2 r0 9) ≤ 0 then (some (.inl (some (.int (h.2 r0 4))), h)) else (bV (fX3_blame r0 1 (h.2 r0 6) h) fun h3 => (if kH h3 r0 = 13 then (some (.inl (some (.int (h3.2 r0 4))), h3)) else none))) else none)
theorem uX3_readWork_106 {G : GG} {d : Nat} (hd : 7 ≤ d) (rec : Nat → List Value → List Value → Hp → RS) (hrec : ∀ pc loc st h o h', rec pc loc st h = some (o, h') → V G mX3_readWork d pc loc st h o h')   {r0 } {h : Hp} {o : OU} {h' : Hp} (e : kX3_readWork_106 rec  r0 h = some (o, h')) : V G mX3_readWork d 106 [.ref r0, uV, uV, uV] [] h o h' := by
  unfold kX3_readWork_106 at e
  refine bX3_readWork_106 r0 (by omega) ?_
  obtain ⟨q1, e⟩ := ob_e e
  refine ⟨q1, ?_⟩
  refine ⟨fun c2 => ?_, fun c2 => ?_⟩
  · have e := if_t e c2
    cases e
    exact ⟨rfl, rfl⟩
  · have e := if_f e c2
    obtain ⟨h3, e3, e⟩ := bV_e e
    refine ⟨h3, (tX3_blame e3 (by omega)), ?_⟩
    obtain ⟨q4, e⟩ := ob_e e
    refine ⟨q4, ?_⟩
    cases e
    exact ⟨rfl, rfl⟩
def sX3_readWork  (rec : Nat → List Value → List Value → Hp → RS) (pc : Nat) (loc st : List Value) (h : Hp) : RS := match pc, loc, st with
  | 8, [.ref r0, _, _, .int x3], [] => kX3_readWork_8 rec  r0 x3 h
  | 106, [.ref r0, _, _, _], [] => kX3_readWork_106 rec  r0 h
  | _, _, _ => none
def gX3_readWork  : Nat → Nat → List Value → List Value → Hp → RS
  | 0 => fun _ _ _ _ => none
  | n + 1 => sX3_readWork  (gX3_readWork  n)
theorem wX3_readWork {G : GG} {d : Nat} (hd : 7 ≤ d)   : ∀ (n pc : Nat) (loc st : List Value) (h : Hp) (o : OU) (h' : Hp), gX3_readWork  n pc loc st h = some (o, h') → V G mX3_readWork d pc loc st h o h' := by
  intro n
  induction n with
  | zero => intro pc loc st h o h' e; cases e
  | succ n ih =>
    intro pc loc st h o h' e
    unfold gX3_readWork sX3_readWork at e
    split at e
    · exact V.drop (llp_r (llp_u (llp_u (llp_r llp_nil)))) (uX3_readWork_8 hd _ ih   e)
    · exact V.drop (llp_r (llp_u (llp_u (llp_u llp_nil)))) (uX3_readWork_106 hd _ ih   e)
    · cases e
theorem zX3_readWork_8  (n : Nat) (r0 : Nat) (x3 : Int32) (y1 : Value) (y2 : Value) (h : Hp) : gX3_readWork  (n + 1) 8 [.ref r0, y1, y2, .int x3] [] h = kX3_readWork_8 (gX3_readWork  n)  r0 x3 h := rfl
theorem zX3_readWork_106  (n : Nat) (r0 : Nat) (y1 : Value) (y2 : Value) (y3 : Value) (h : Hp) : gX3_readWork  (n + 1) 106 [.ref r0, y1, y2, y3] [] h = kX3_readWork_106 (gX3_readWork  n)  r0 h := rfl
def fX3_readWork (r0 : Nat) (r1 : Nat) (x2 : Int32) (h : Hp) : RS := kX3_readWork_0 (gX3_readWork FF) r0 r1 x2 h
theorem tX3_readWork {G : GG} {d : Nat} {r0 r1 x2} {h : Hp} {o : OU} {h' : Hp} (e : fX3_readWork r0 r1 x2 h = some (o, h')) (hd : 7 ≤ d) : VM G mX3_readWork d [.ref r0, .ref r1, .int x2] h o h' := uX3_readWork_0 hd _ (wX3_readWork hd FF) e
def kX9_work_0  (r0 : Nat) (x1 : Int32) (h : Hp) : RS := (if kH h r0 = 19 then (bVx (fX9_testLength r0 x1 150 h) fun h1 => (if kH h1 r0 = 19 then (if kH h1 (rH h1 r0 1) = 10 then (if (h1.2 (rH h1 r0 1) 1) < 16 then (if kH h1 (rH h1 r0 7) = 13 then (bI (fX3_readWork (rH h1 r0 7) (rH h1 r0 6) x1 h1) fun z8 h7 => (if kH h7 r0 = 19 then (bV (fX9_textRead r0 z8 h7) fun h11 => (if z8 = 0 then (if kH h11 r0 = 19 then (if kH h11 (rH h11 r0 1) = 10 then (bV (fX0_push (rH h11 r0 1) (rH h11 r0 0) h11) fun h16 => (if kH h16 r0 = 19 then (if kH h16 (rH h16 r0 7) = 13 then (bI (fX9_runScript r0 (rH h16 (rH h16 r0 7) 0) h16) fun z22 h21 => (some (.inl (some (.int z22)), h21))) else none) else none)) else none) else none) else (some (.inl (some (.int (z8 - 10))), h11)))) else none)) else none) else (bV (fX9_textRead r0 0 h1) fun h24 => (some (.inl (some (.int (-20))), h24)))) else none) else none)) else none)
theorem uX9_work_0 {G : GG} {d : Nat} (hd : 9 ≤ d)   {r0  x1 } {h : Hp} {o : OU} {h' : Hp} (e : kX9_work_0  r0 x1 h = some (o, h')) : VM G mX9_work d [.ref r0, .int x1] h o h' := by
  unfold kX9_work_0 at e
  refine eX9_work r0 x1 (by omega) ?_
  obtain ⟨q1, e⟩ := ob_e e
  refine ⟨q1, ?_⟩
  rcases bVx_e e with ⟨h1, e2, e⟩ | ⟨E, rfl, e2⟩
  · refine Or.inl ⟨h1, (tX9_testLength e2 (by omega)), ?_⟩
    obtain ⟨q3, e⟩ := ob_e e
    refine ⟨q3, ?_⟩
    obtain ⟨q4, e⟩ := ob_e e
    refine ⟨q4, ?_⟩
    refine ⟨fun c5 => ?_, fun c5 => ?_⟩
    · have e := if_t e c5
      obtain ⟨q6, e⟩ := ob_e e
      refine ⟨q6, ?_⟩
      obtain ⟨z8, h7, e7, e⟩ := bI_e e
      refine ⟨z8, h7, (tX3_readWork e7 (by omega)), ?_⟩
      obtain ⟨q8, e⟩ := ob_e e
      refine ⟨q8, ?_⟩
      obtain ⟨h11, e9, e⟩ := bV_e e
      refine ⟨h11, (tX9_textRead e9 (by omega)), ?_⟩
      refine ⟨fun c10 => ?_, fun c10 => ?_⟩
      · have e := if_t e c10
        obtain ⟨q11, e⟩ := ob_e e
        refine ⟨q11, ?_⟩
        obtain ⟨q12, e⟩ := ob_e e
        refine ⟨q12, ?_⟩
        obtain ⟨h16, e13, e⟩ := bV_e e
        refine ⟨h16, (tX0_push e13 (by omega)), ?_⟩
        obtain ⟨q14, e⟩ := ob_e e
        refine ⟨q14, ?_⟩
        obtain ⟨q15, e⟩ := ob_e e
        refine ⟨q15, ?_⟩
        obtain ⟨z22, h21, e16, e⟩ := bI_e e
        refine ⟨z22, h21, (tX9_runScript e16 (by omega)), ?_⟩
        cases e
        exact ⟨rfl, rfl⟩
      · have e := if_f e c10
        cases e
        exact ⟨rfl, rfl⟩
    · have e := if_f e c5
      obtain ⟨h24, e17, e⟩ := bV_e e
      refine ⟨h24, (tX9_textRead e17 (by omega)), ?_⟩
      cases e
      exact ⟨rfl, rfl⟩
  · exact Or.inr ⟨E, rfl, (tX9_testLength e2 (by omega))⟩
def fX9_work (r0 : Nat) (x1 : Int32) (h : Hp) : RS := kX9_work_0 r0 x1 h
theorem tX9_work {G : GG} {d : Nat} {r0 x1} {h : Hp} {o : OU} {h' : Hp} (e : fX9_work r0 x1 h = some (o, h')) (hd : 9 ≤ d) : VM G mX9_work d [.ref r0, .int x1] h o h' := uX9_work_0 hd e
def kL_work_0  (r0 : Nat) (x1 : Int32) (r2 : Nat) (h : Hp) : RS := (if kH h r0 = 19 then (bC (fX9_work r0 x1 h) (fun z2 h1 => (if kH h1 r2 = 4 then (if inB 0 (lH h1 r2) = true then (some (.inl (some (.int 0)), (h1.1, (upI h1.2 r2 0 z2)))) else none) else none)) (fun E hE => (if E = xIA then (letH hE fun (h7 : Hp) => (some (.inl (some (.int 1)), h7))) else none))) else none)
theorem uL_work_0 {G : GG} {d : Nat} (hd : 10 ≤ d)   {r0  x1  r2 } {h : Hp} {o : OU} {h' : Hp} (e : kL_work_0  r0 x1 r2 h = some (o, h')) : VMW G mL_work d [.ref r0, .int x1, .ref r2] h o h' := by
  unfold kL_work_0 at e
  refine eL_work r0 x1 r2 (by omega) ?_
  obtain ⟨q1, e⟩ := ob_e e
  refine ⟨q1, ?_⟩
  rcases bC_e e with ⟨z2, h1, e2, e⟩ | ⟨E, hE, e2, e⟩
  · exact Or.inl ⟨z2, h1, tX9_work e2 (by omega), by
      obtain ⟨q3, e⟩ := ob_e e
      refine ⟨q3, ?_⟩
      obtain ⟨q4, e⟩ := ob_in e
      refine ⟨q4, ?_⟩
      cases e
      exact ⟨rfl, rfl⟩⟩
  · by_cases c0 : E = xIA
    · have e := if_t e c0
      subst c0
      exact Or.inr ( ⟨hE, tX9_work e2 (by omega), by
        have e := lt_e rfl e
        cases e
        exact ⟨rfl, rfl⟩⟩)
    have e := if_f e c0
    cases e
def fL_work (r0 : Nat) (x1 : Int32) (r2 : Nat) (h : Hp) : RS := kL_work_0 r0 x1 r2 h
theorem tL_work {G : GG} {d : Nat} {r0 x1 r2} {h : Hp} {o : OU} {h' : Hp} (e : fL_work r0 x1 r2 h = some (o, h')) (hd : 10 ≤ d) : VMW G mL_work d [.ref r0, .int x1, .ref r2] h o h' := uL_work_0 hd e
