def kX5_isDirectory_0  (r0 : Nat) (x1 : Int32) (x2 : Int32) (h : Hp) : RS := (if x1 < 0 then (some (.inl (some (.int 0)), h)) else (if 1 < x1 then (some (.inl (some (.int 0)), h)) else (if x2 < 0 then (some (.inl (some (.int 0)), h)) else (if x2 < 12 then (if kH h r0 = 15 then (if kH h (rH h r0 1) = 2 then (if inB ((((x1 * 256) + 16) + (x2 * 4)) + 0) (lH h (rH h r0 1)) = true then (if (h.2 (rH h r0 1) ((((x1 * 256) + 16) + (x2 * 4)) + 0).toNatClampNeg) = 0 then (some (.inl (some (.int 0)), h)) else (if inB ((((x1 * 256) + 16) + (x2 * 4)) + 1) (lH h (rH h r0 1)) = true then (if ¬ (h.2 (rH h r0 1) ((((x1 * 256) + 16) + (x2 * 4)) + 1).toNatClampNeg) = 2 then (some (.inl (some (.int 0)), h)) else (some (.inl (some (.int 1)), h))) else none)) else none) else none) else none) else (some (.inl (some (.int 0)), h))))))
theorem uX5_isDirectory_0 {G : GG} {d : Nat} (hd : 1 ≤ d)   {r0  x1  x2 } {h : Hp} {o : OU} {h' : Hp} (e : kX5_isDirectory_0  r0 x1 x2 h = some (o, h')) : VM G mX5_isDirectory d [.ref r0, .int x1, .int x2] h o h' := by
  unfold kX5_isDirectory_0 at e
  refine eX5_isDirectory r0 x1 x2 ?_
  refine ⟨fun c1 => ?_, fun c1 => ?_⟩
  · have e := if_t e c1
    cases e
    exact ⟨rfl, rfl⟩
  · have e := if_f e c1
    refine ⟨fun c2 => ?_, fun c2 => ?_⟩
    · have e := if_t e c2
      cases e
      exact ⟨rfl, rfl⟩
    · have e := if_f e c2
      refine ⟨fun c3 => ?_, fun c3 => ?_⟩
      · have e := if_t e c3
        cases e
        exact ⟨rfl, rfl⟩
      · have e := if_f e c3
        refine ⟨fun c4 => ?_, fun c4 => ?_⟩
        · have e := if_t e c4
          obtain ⟨q5, e⟩ := ob_e e
          refine ⟨q5, ?_⟩
          obtain ⟨q6, e⟩ := ob_e e
          refine ⟨q6, ?_⟩
          obtain ⟨q7, e⟩ := ob_in e
          refine ⟨q7, ?_⟩
          refine ⟨fun c8 => ?_, fun c8 => ?_⟩
          · have e := if_t e c8
            cases e
            exact ⟨rfl, rfl⟩
          · have e := if_f e c8
            obtain ⟨q9, e⟩ := ob_in e
            refine ⟨q9, ?_⟩
            refine ⟨fun c10 => ?_, fun c10 => ?_⟩
            · have e := if_t e c10
              cases e
              exact ⟨rfl, rfl⟩
            · have e := if_n e c10
              cases e
              exact ⟨rfl, rfl⟩
        · have e := if_f e c4
          cases e
          exact ⟨rfl, rfl⟩
def fX5_isDirectory (r0 : Nat) (x1 : Int32) (x2 : Int32) (h : Hp) : RS := kX5_isDirectory_0 r0 x1 x2 h
theorem tX5_isDirectory {G : GG} {d : Nat} {r0 x1 x2} {h : Hp} {o : OU} {h' : Hp} (e : fX5_isDirectory r0 x1 x2 h = some (o, h')) (hd : 1 ≤ d) : VM G mX5_isDirectory d [.ref r0, .int x1, .int x2] h o h' := uX5_isDirectory_0 hd e
def kX5_putField_0  (r0 : Nat) (x1 : Int32) (x2 : Int32) (x3 : Int32) (h : Hp) : RS := (if kH h r0 = 15 then (bI (fX5_put r0 (1 + (x1 / 4)) (((x1 - x1 / 4 * 4) * 4) + x2) x3 h) fun z2 h1 => (some (.inl (some (.int z2)), h1))) else none)
theorem uX5_putField_0 {G : GG} {d : Nat} (hd : 2 ≤ d)   {r0  x1  x2  x3 } {h : Hp} {o : OU} {h' : Hp} (e : kX5_putField_0  r0 x1 x2 x3 h = some (o, h')) : VM G mX5_putField d [.ref r0, .int x1, .int x2, .int x3] h o h' := by
  unfold kX5_putField_0 at e
  refine eX5_putField r0 x1 x2 x3 (by omega) ?_
  obtain ⟨q1, e⟩ := ob_e e
  refine ⟨q1, ?_⟩
  obtain ⟨z2, h1, e2, e⟩ := bI_e e
  refine ⟨z2, h1, (tX5_put e2 (by omega)), ?_⟩
  cases e
  exact ⟨rfl, rfl⟩
def fX5_putField (r0 : Nat) (x1 : Int32) (x2 : Int32) (x3 : Int32) (h : Hp) : RS := kX5_putField_0 r0 x1 x2 x3 h
theorem tX5_putField {G : GG} {d : Nat} {r0 x1 x2 x3} {h : Hp} {o : OU} {h' : Hp} (e : fX5_putField r0 x1 x2 x3 h = some (o, h')) (hd : 2 ≤ d) : VM G mX5_putField d [.ref r0, .int x1, .int x2, .int x3] h o h' := uX5_putField_0 hd e
def kX5_need_0 (rec : Nat → List Value → List Value → Hp → RS)  (r0 : Nat) (x1 : Int32) (x2 : Int32) (h : Hp) : RS := (if x1 < 0 then (some (.inl none, h)) else (if kH h r0 = 15 then (if (h.2 r0 2) ≤ x1 then (some (.inl none, h)) else (if x2 < 0 then (some (.inl none, h)) else (if x2 < x1 then (rec 26 [.ref r0, .int x1, .int x2, .int (x1 * 4)] [] h) else (some (.inl none, h))))) else none))
theorem uX5_need_0 {G : GG} {d : Nat} (hd : 1 ≤ d) (rec : Nat → List Value → List Value → Hp → RS) (hrec : ∀ pc loc st h o h', rec pc loc st h = some (o, h') → V G mX5_need d pc loc st h o h')   {r0  x1  x2 } {h : Hp} {o : OU} {h' : Hp} (e : kX5_need_0 rec  r0 x1 x2 h = some (o, h')) : VM G mX5_need d [.ref r0, .int x1, .int x2] h o h' := by
  unfold kX5_need_0 at e
  refine eX5_need r0 x1 x2 ?_
  refine ⟨fun c1 => ?_, fun c1 => ?_⟩
  · have e := if_t e c1
    cases e
    exact ⟨rfl, rfl⟩
  · have e := if_f e c1
    obtain ⟨q2, e⟩ := ob_e e
    refine ⟨q2, ?_⟩
    refine ⟨fun c3 => ?_, fun c3 => ?_⟩
    · have e := if_t e c3
      cases e
      exact ⟨rfl, rfl⟩
    · have e := if_f e c3
      refine ⟨fun c4 => ?_, fun c4 => ?_⟩
      · have e := if_t e c4
        cases e
        exact ⟨rfl, rfl⟩
      · have e := if_f e c4
        refine ⟨fun c5 => ?_, fun c5 => ?_⟩
        · have e := if_t e c5
          exact hrec _ _ _ _ _ _ e
        · have e := if_f e c5
          cases e
          exact ⟨rfl, rfl⟩
def kX5_need_26 (rec : Nat → List Value → List Value → Hp → RS)  (r0 : Nat) (x1 : Int32) (x2 : Int32) (x3 : Int32) (h : Hp) : RS := (if ((x1 + 1) * 4) ≤ x3 then (some (.inl none, h)) else (if kH h r0 = 15 then (if kH h (rH h r0 7) = 1 then (if inB x3 (lH h (rH h r0 7)) = true then (if ¬ (h.2 (rH h r0 7) x3.toNatClampNeg) = (-1) then (rec 26 [.ref r0, .int x1, .int x2, .int (x3 + 1)] [] h) else (some (.inl none, (h.1, (upI h.2 (rH h r0 7) x3.toNatClampNeg x2))))) else none) else none) else none))
theorem uX5_need_26 {G : GG} {d : Nat} (hd : 1 ≤ d) (rec : Nat → List Value → List Value → Hp → RS) (hrec : ∀ pc loc st h o h', rec pc loc st h = some (o, h') → V G mX5_need d pc loc st h o h')   {r0  x1  x2  x3 } {h : Hp} {o : OU} {h' : Hp} (e : kX5_need_26 rec  r0 x1 x2 x3 h = some (o, h')) : V G mX5_need d 26 [.ref r0, .int x1, .int x2, .int x3] [] h o h' := by
  unfold kX5_need_26 at e
  refine bX5_need_26 r0 x1 x2 x3 ?_
  refine ⟨fun c1 => ?_, fun c1 => ?_⟩
  · have e := if_t e c1
    cases e
    exact ⟨rfl, rfl⟩
  · have e := if_f e c1
    obtain ⟨q2, e⟩ := ob_e e
    refine ⟨q2, ?_⟩
    obtain ⟨q3, e⟩ := ob_e e
    refine ⟨q3, ?_⟩
    obtain ⟨q4, e⟩ := ob_in e
    refine ⟨q4, ?_⟩
    refine ⟨fun c5 => ?_, fun c5 => ?_⟩
    · have e := if_t e c5
      exact hrec _ _ _ _ _ _ e
    · have e := if_n e c5
      cases e
      exact ⟨rfl, rfl⟩
def sX5_need  (rec : Nat → List Value → List Value → Hp → RS) (pc : Nat) (loc st : List Value) (h : Hp) : RS := match pc, loc, st with
  | 26, [.ref r0, .int x1, .int x2, .int x3], [] => kX5_need_26 rec  r0 x1 x2 x3 h
  | _, _, _ => none
def gX5_need  : Nat → Nat → List Value → List Value → Hp → RS
  | 0 => fun _ _ _ _ => none
  | n + 1 => sX5_need  (gX5_need  n)
theorem wX5_need {G : GG} {d : Nat} (hd : 1 ≤ d)   : ∀ (n pc : Nat) (loc st : List Value) (h : Hp) (o : OU) (h' : Hp), gX5_need  n pc loc st h = some (o, h') → V G mX5_need d pc loc st h o h' := by
  intro n
  induction n with
  | zero => intro pc loc st h o h' e; cases e
  | succ n ih =>
    intro pc loc st h o h' e
    unfold gX5_need sX5_need at e
    split at e
    · exact uX5_need_26 hd _ ih   e
    · cases e
theorem zX5_need_26  (n : Nat) (r0 : Nat) (x1 : Int32) (x2 : Int32) (x3 : Int32)  (h : Hp) : gX5_need  (n + 1) 26 [.ref r0, .int x1, .int x2, .int x3] [] h = kX5_need_26 (gX5_need  n)  r0 x1 x2 x3 h := rfl
def fX5_need (r0 : Nat) (x1 : Int32) (x2 : Int32) (h : Hp) : RS := kX5_need_0 (gX5_need FF) r0 x1 x2 h
theorem tX5_need {G : GG} {d : Nat} {r0 x1 x2} {h : Hp} {o : OU} {h' : Hp} (e : fX5_need r0 x1 x2 h = some (o, h')) (hd : 1 ≤ d) : VM G mX5_need d [.ref r0, .int x1, .int x2] h o h' := uX5_need_0 hd _ (wX5_need hd FF) e
def kX5_needAllOf_0  (r0 : Nat) (x1 : Int32) (x2 : Int32) (h : Hp) : RS := (if x1 < 0 then (some (.inl none, h)) else (if kH h r0 = 15 then (if (h.2 r0 2) ≤ x1 then (some (.inl none, h)) else (if kH h (rH h r0 8) = 1 then (if inB x1 (lH h (rH h r0 8)) = true then (some (.inl none, (h.1, (upI h.2 (rH h r0 8) x1.toNatClampNeg x2)))) else none) else none)) else none))
theorem uX5_needAllOf_0 {G : GG} {d : Nat} (hd : 1 ≤ d)   {r0  x1  x2 } {h : Hp} {o : OU} {h' : Hp} (e : kX5_needAllOf_0  r0 x1 x2 h = some (o, h')) : VM G mX5_needAllOf d [.ref r0, .int x1, .int x2] h o h' := by
  unfold kX5_needAllOf_0 at e
  refine eX5_needAllOf r0 x1 x2 ?_
  refine ⟨fun c1 => ?_, fun c1 => ?_⟩
  · have e := if_t e c1
    cases e
    exact ⟨rfl, rfl⟩
  · have e := if_f e c1
    obtain ⟨q2, e⟩ := ob_e e
    refine ⟨q2, ?_⟩
    refine ⟨fun c3 => ?_, fun c3 => ?_⟩
    · have e := if_t e c3
      cases e
      exact ⟨rfl, rfl⟩
    · have e := if_f e c3
      obtain ⟨q4, e⟩ := ob_e e
      refine ⟨q4, ?_⟩
      obtain ⟨q5, e⟩ := ob_in e
      refine ⟨q5, ?_⟩
      cases e
      exact ⟨rfl, rfl⟩
def fX5_needAllOf (r0 : Nat) (x1 : Int32) (x2 : Int32) (h : Hp) : RS := kX5_needAllOf_0 r0 x1 x2 h
theorem tX5_needAllOf {G : GG} {d : Nat} {r0 x1 x2} {h : Hp} {o : OU} {h' : Hp} (e : fX5_needAllOf r0 x1 x2 h = some (o, h')) (hd : 1 ≤ d) : VM G mX5_needAllOf d [.ref r0, .int x1, .int x2] h o h' := uX5_needAllOf_0 hd e
def kX5_countPutOff_0 (rec : Nat → List Value → List Value → Hp → RS)  (r0 : Nat) (x1 : Int32) (h : Hp) : RS := (rec 4 [.ref r0, .int x1, .int 0, .int 0] [] h)
theorem uX5_countPutOff_0 {G : GG} {d : Nat} (hd : 1 ≤ d) (rec : Nat → List Value → List Value → Hp → RS) (hrec : ∀ pc loc st h o h', rec pc loc st h = some (o, h') → V G mX5_countPutOff d pc loc st h o h')   {r0  x1 } {h : Hp} {o : OU} {h' : Hp} (e : kX5_countPutOff_0 rec  r0 x1 h = some (o, h')) : VM G mX5_countPutOff d [.ref r0, .int x1] h o h' := by
  unfold kX5_countPutOff_0 at e
  refine eX5_countPutOff r0 x1 ?_
  exact hrec _ _ _ _ _ _ e
def kX5_countPutOff_4 (rec : Nat → List Value → List Value → Hp → RS)  (r0 : Nat) (x1 : Int32) (x2 : Int32) (x3 : Int32) (h : Hp) : RS := (if kH h r0 = 15 then (if (h.2 r0 9) ≤ x3 then (some (.inl (some (.int x2)), h)) else (if kH h (rH h r0 11) = 1 then (if inB x3 (lH h (rH h r0 11)) = true then (if ¬ (h.2 (rH h r0 11) x3.toNatClampNeg) = x1 then (rec 4 [.ref r0, .int x1, .int x2, .int (x3 + 1)] [] h) else (rec 4 [.ref r0, .int x1, .int (x2 + 1), .int (x3 + 1)] [] h)) else none) else none)) else none)
theorem uX5_countPutOff_4 {G : GG} {d : Nat} (hd : 1 ≤ d) (rec : Nat → List Value → List Value → Hp → RS) (hrec : ∀ pc loc st h o h', rec pc loc st h = some (o, h') → V G mX5_countPutOff d pc loc st h o h')   {r0  x1  x2  x3 } {h : Hp} {o : OU} {h' : Hp} (e : kX5_countPutOff_4 rec  r0 x1 x2 x3 h = some (o, h')) : V G mX5_countPutOff d 4 [.ref r0, .int x1, .int x2, .int x3] [] h o h' := by
  unfold kX5_countPutOff_4 at e
  refine bX5_countPutOff_4 r0 x1 x2 x3 ?_
  obtain ⟨q1, e⟩ := ob_e e
  refine ⟨q1, ?_⟩
  refine ⟨fun c2 => ?_, fun c2 => ?_⟩
  · have e := if_t e c2
    cases e
    exact ⟨rfl, rfl⟩
  · have e := if_f e c2
    obtain ⟨q3, e⟩ := ob_e e
    refine ⟨q3, ?_⟩
    obtain ⟨q4, e⟩ := ob_in e
    refine ⟨q4, ?_⟩
    refine ⟨fun c5 => ?_, fun c5 => ?_⟩
    · have e := if_t e c5
      exact hrec _ _ _ _ _ _ e
    · have e := if_n e c5
      exact hrec _ _ _ _ _ _ e
def sX5_countPutOff  (rec : Nat → List Value → List Value → Hp → RS) (pc : Nat) (loc st : List Value) (h : Hp) : RS := match pc, loc, st with
  | 4, [.ref r0, .int x1, .int x2, .int x3], [] => kX5_countPutOff_4 rec  r0 x1 x2 x3 h
  | _, _, _ => none
def gX5_countPutOff  : Nat → Nat → List Value → List Value → Hp → RS
  | 0 => fun _ _ _ _ => none
  | n + 1 => sX5_countPutOff  (gX5_countPutOff  n)
theorem wX5_countPutOff {G : GG} {d : Nat} (hd : 1 ≤ d)   : ∀ (n pc : Nat) (loc st : List Value) (h : Hp) (o : OU) (h' : Hp), gX5_countPutOff  n pc loc st h = some (o, h') → V G mX5_countPutOff d pc loc st h o h' := by
  intro n
  induction n with
  | zero => intro pc loc st h o h' e; cases e
  | succ n ih =>
    intro pc loc st h o h' e
    unfold gX5_countPutOff sX5_countPutOff at e
    split at e
    · exact uX5_countPutOff_4 hd _ ih   e
    · cases e
theorem zX5_countPutOff_4  (n : Nat) (r0 : Nat) (x1 : Int32) (x2 : Int32) (x3 : Int32)  (h : Hp) : gX5_countPutOff  (n + 1) 4 [.ref r0, .int x1, .int x2, .int x3] [] h = kX5_countPutOff_4 (gX5_countPutOff  n)  r0 x1 x2 x3 h := rfl
def fX5_countPutOff (r0 : Nat) (x1 : Int32) (h : Hp) : RS := kX5_countPutOff_0 (gX5_countPutOff FF) r0 x1 h
theorem tX5_countPutOff {G : GG} {d : Nat} {r0 x1} {h : Hp} {o : OU} {h' : Hp} (e : fX5_countPutOff r0 x1 h = some (o, h')) (hd : 1 ≤ d) : VM G mX5_countPutOff d [.ref r0, .int x1] h o h' := uX5_countPutOff_0 hd _ (wX5_countPutOff hd FF) e
def kX5_latestOf_0 (rec : Nat → List Value → List Value → Hp → RS)  (r0 : Nat) (x1 : Int32) (x2 : Int32) (h : Hp) : RS := (if kH h r0 = 15 then (rec 7 [.ref r0, .int x1, .int x2, .int ((h.2 r0 2) - 1)] [] h) else none)
theorem uX5_latestOf_0 {G : GG} {d : Nat} (hd : 1 ≤ d) (rec : Nat → List Value → List Value → Hp → RS) (hrec : ∀ pc loc st h o h', rec pc loc st h = some (o, h') → V G mX5_latestOf d pc loc st h o h')   {r0  x1  x2 } {h : Hp} {o : OU} {h' : Hp} (e : kX5_latestOf_0 rec  r0 x1 x2 h = some (o, h')) : VM G mX5_latestOf d [.ref r0, .int x1, .int x2] h o h' := by
  unfold kX5_latestOf_0 at e
  refine eX5_latestOf r0 x1 x2 ?_
  obtain ⟨q1, e⟩ := ob_e e
  refine ⟨q1, ?_⟩
  exact hrec _ _ _ _ _ _ e
def kX5_latestOf_7 (rec : Nat → List Value → List Value → Hp → RS)  (r0 : Nat) (x1 : Int32) (x2 : Int32) (x3 : Int32) (h : Hp) : RS := (if x3 < 0 then (some (.inl (some (.int (-1))), h)) else (if kH h r0 = 15 then (if kH h (rH h r0 3) = 1 then (if inB x3 (lH h (rH h r0 3)) = true then (if ¬ (h.2 (rH h r0 3) x3.toNatClampNeg) = x1 then (rec 7 [.ref r0, .int x1, .int x2, .int (x3 + (-1))] [] h) else (if kH h (rH h r0 4) = 1 then (if inB x3 (lH h (rH h r0 4)) = true then (if ¬ (h.2 (rH h r0 4) x3.toNatClampNeg) = x2 then (rec 7 [.ref r0, .int x1, .int x2, .int (x3 + (-1))] [] h) else (some (.inl (some (.int x3)), h))) else none) else none)) else none) else none) else none))
theorem uX5_latestOf_7 {G : GG} {d : Nat} (hd : 1 ≤ d) (rec : Nat → List Value → List Value → Hp → RS) (hrec : ∀ pc loc st h o h', rec pc loc st h = some (o, h') → V G mX5_latestOf d pc loc st h o h')   {r0  x1  x2  x3 } {h : Hp} {o : OU} {h' : Hp} (e : kX5_latestOf_7 rec  r0 x1 x2 x3 h = some (o, h')) : V G mX5_latestOf d 7 [.ref r0, .int x1, .int x2, .int x3] [] h o h' := by
  unfold kX5_latestOf_7 at e
  refine bX5_latestOf_7 r0 x1 x2 x3 ?_
  refine ⟨fun c1 => ?_, fun c1 => ?_⟩
  · have e := if_t e c1
    cases e
    exact ⟨rfl, rfl⟩
  · have e := if_f e c1
    obtain ⟨q2, e⟩ := ob_e e
    refine ⟨q2, ?_⟩
    obtain ⟨q3, e⟩ := ob_e e
    refine ⟨q3, ?_⟩
    obtain ⟨q4, e⟩ := ob_in e
    refine ⟨q4, ?_⟩
    refine ⟨fun c5 => ?_, fun c5 => ?_⟩
    · have e := if_t e c5
      exact hrec _ _ _ _ _ _ e
    · have e := if_n e c5
      obtain ⟨q6, e⟩ := ob_e e
      refine ⟨q6, ?_⟩
      obtain ⟨q7, e⟩ := ob_in e
      refine ⟨q7, ?_⟩
      refine ⟨fun c8 => ?_, fun c8 => ?_⟩
      · have e := if_t e c8
        exact hrec _ _ _ _ _ _ e
      · have e := if_n e c8
        cases e
        exact ⟨rfl, rfl⟩
def sX5_latestOf  (rec : Nat → List Value → List Value → Hp → RS) (pc : Nat) (loc st : List Value) (h : Hp) : RS := match pc, loc, st with
  | 7, [.ref r0, .int x1, .int x2, .int x3], [] => kX5_latestOf_7 rec  r0 x1 x2 x3 h
  | _, _, _ => none
def gX5_latestOf  : Nat → Nat → List Value → List Value → Hp → RS
  | 0 => fun _ _ _ _ => none
  | n + 1 => sX5_latestOf  (gX5_latestOf  n)
theorem wX5_latestOf {G : GG} {d : Nat} (hd : 1 ≤ d)   : ∀ (n pc : Nat) (loc st : List Value) (h : Hp) (o : OU) (h' : Hp), gX5_latestOf  n pc loc st h = some (o, h') → V G mX5_latestOf d pc loc st h o h' := by
  intro n
  induction n with
  | zero => intro pc loc st h o h' e; cases e
  | succ n ih =>
    intro pc loc st h o h' e
    unfold gX5_latestOf sX5_latestOf at e
    split at e
    · exact uX5_latestOf_7 hd _ ih   e
    · cases e
theorem zX5_latestOf_7  (n : Nat) (r0 : Nat) (x1 : Int32) (x2 : Int32) (x3 : Int32)  (h : Hp) : gX5_latestOf  (n + 1) 7 [.ref r0, .int x1, .int x2, .int x3] [] h = kX5_latestOf_7 (gX5_latestOf  n)  r0 x1 x2 x3 h := rfl
def fX5_latestOf (r0 : Nat) (x1 : Int32) (x2 : Int32) (h : Hp) : RS := kX5_latestOf_0 (gX5_latestOf FF) r0 x1 x2 h
theorem tX5_latestOf {G : GG} {d : Nat} {r0 x1 x2} {h : Hp} {o : OU} {h' : Hp} (e : fX5_latestOf r0 x1 x2 h = some (o, h')) (hd : 1 ≤ d) : VM G mX5_latestOf d [.ref r0, .int x1, .int x2] h o h' := uX5_latestOf_0 hd _ (wX5_latestOf hd FF) e
def kX5_dirtyBlocks_0 (rec : Nat → List Value → List Value → Hp → RS)  (r0 : Nat) (h : Hp) : RS := (rec 4 [.ref r0, .int 0, .int 0] [] h)
theorem uX5_dirtyBlocks_0 {G : GG} {d : Nat} (hd : 1 ≤ d) (rec : Nat → List Value → List Value → Hp → RS) (hrec : ∀ pc loc st h o h', rec pc loc st h = some (o, h') → V G mX5_dirtyBlocks d pc loc st h o h')   {r0 } {h : Hp} {o : OU} {h' : Hp} (e : kX5_dirtyBlocks_0 rec  r0 h = some (o, h')) : VM G mX5_dirtyBlocks d [.ref r0] h o h' := by
  unfold kX5_dirtyBlocks_0 at e
  refine eX5_dirtyBlocks r0 ?_
  exact hrec _ _ _ _ _ _ e
def kX5_dirtyBlocks_4 (rec : Nat → List Value → List Value → Hp → RS)  (r0 : Nat) (x1 : Int32) (x2 : Int32) (h : Hp) : RS := (if kH h r0 = 15 then (if (h.2 r0 2) ≤ x2 then (some (.inl (some (.int x1)), h)) else (if kH h (rH h r0 3) = 1 then (if inB x2 (lH h (rH h r0 3)) = true then (rec 4 [.ref r0, .int (x1 ||| (1 <<< ((h.2 (rH h r0 3) x2.toNatClampNeg) &&& 31))), .int (x2 + 1)] [] h) else none) else none)) else none)
theorem uX5_dirtyBlocks_4 {G : GG} {d : Nat} (hd : 1 ≤ d) (rec : Nat → List Value → List Value → Hp → RS) (hrec : ∀ pc loc st h o h', rec pc loc st h = some (o, h') → V G mX5_dirtyBlocks d pc loc st h o h')   {r0  x1  x2 } {h : Hp} {o : OU} {h' : Hp} (e : kX5_dirtyBlocks_4 rec  r0 x1 x2 h = some (o, h')) : V G mX5_dirtyBlocks d 4 [.ref r0, .int x1, .int x2] [] h o h' := by
  unfold kX5_dirtyBlocks_4 at e
  refine bX5_dirtyBlocks_4 r0 x1 x2 ?_
  obtain ⟨q1, e⟩ := ob_e e
  refine ⟨q1, ?_⟩
  refine ⟨fun c2 => ?_, fun c2 => ?_⟩
  · have e := if_t e c2
    cases e
    exact ⟨rfl, rfl⟩
  · have e := if_f e c2
    obtain ⟨q3, e⟩ := ob_e e
    refine ⟨q3, ?_⟩
    obtain ⟨q4, e⟩ := ob_in e
    refine ⟨q4, ?_⟩
    exact hrec _ _ _ _ _ _ e
def sX5_dirtyBlocks  (rec : Nat → List Value → List Value → Hp → RS) (pc : Nat) (loc st : List Value) (h : Hp) : RS := match pc, loc, st with
  | 4, [.ref r0, .int x1, .int x2], [] => kX5_dirtyBlocks_4 rec  r0 x1 x2 h
  | _, _, _ => none
def gX5_dirtyBlocks  : Nat → Nat → List Value → List Value → Hp → RS
  | 0 => fun _ _ _ _ => none
  | n + 1 => sX5_dirtyBlocks  (gX5_dirtyBlocks  n)
theorem wX5_dirtyBlocks {G : GG} {d : Nat} (hd : 1 ≤ d)   : ∀ (n pc : Nat) (loc st : List Value) (h : Hp) (o : OU) (h' : Hp), gX5_dirtyBlocks  n pc loc st h = some (o, h') → V G mX5_dirtyBlocks d pc loc st h o h' := by
  intro n
  induction n with
  | zero => intro pc loc st h o h' e; cases e
  | succ n ih =>
    intro pc loc st h o h' e
    unfold gX5_dirtyBlocks sX5_dirtyBlocks at e
    split at e
    · exact uX5_dirtyBlocks_4 hd _ ih   e
    · cases e
theorem zX5_dirtyBlocks_4  (n : Nat) (r0 : Nat) (x1 : Int32) (x2 : Int32)  (h : Hp) : gX5_dirtyBlocks  (n + 1) 4 [.ref r0, .int x1, .int x2] [] h = kX5_dirtyBlocks_4 (gX5_dirtyBlocks  n)  r0 x1 x2 h := rfl
def fX5_dirtyBlocks (r0 : Nat) (h : Hp) : RS := kX5_dirtyBlocks_0 (gX5_dirtyBlocks FF) r0 h
theorem tX5_dirtyBlocks {G : GG} {d : Nat} {r0} {h : Hp} {o : OU} {h' : Hp} (e : fX5_dirtyBlocks r0 h = some (o, h')) (hd : 1 ≤ d) : VM G mX5_dirtyBlocks d [.ref r0] h o h' := uX5_dirtyBlocks_0 hd _ (wX5_dirtyBlocks hd FF) e
def kX5_countNeeds_0 (rec : Nat → List Value → List Value → Hp → RS)  (r0 : Nat) (x1 : Int32) (h : Hp) : RS := (rec 6 [.ref r0, .int x1, .int 0, .int (x1 * 4)] [] h)
theorem uX5_countNeeds_0 {G : GG} {d : Nat} (hd : 1 ≤ d) (rec : Nat → List Value → List Value → Hp → RS) (hrec : ∀ pc loc st h o h', rec pc loc st h = some (o, h') → V G mX5_countNeeds d pc loc st h o h')   {r0  x1 } {h : Hp} {o : OU} {h' : Hp} (e : kX5_countNeeds_0 rec  r0 x1 h = some (o, h')) : VM G mX5_countNeeds d [.ref r0, .int x1] h o h' := by
  unfold kX5_countNeeds_0 at e
  refine eX5_countNeeds r0 x1 ?_
  exact hrec _ _ _ _ _ _ e
def kX5_countNeeds_6 (rec : Nat → List Value → List Value → Hp → RS)  (r0 : Nat) (x1 : Int32) (x2 : Int32) (x3 : Int32) (h : Hp) : RS := (if ((x1 + 1) * 4) ≤ x3 then (rec 36 [.ref r0, .int x1, .int x2, .int 0] [] h) else (if kH h r0 = 15 then (if kH h (rH h r0 7) = 1 then (if inB x3 (lH h (rH h r0 7)) = true then (if (h.2 (rH h r0 7) x3.toNatClampNeg) = (-1) then (rec 6 [.ref r0, .int x1, .int x2, .int (x3 + 1)] [] h) else (rec 6 [.ref r0, .int x1, .int (x2 + 1), .int (x3 + 1)] [] h)) else none) else none) else none))
theorem uX5_countNeeds_6 {G : GG} {d : Nat} (hd : 1 ≤ d) (rec : Nat → List Value → List Value → Hp → RS) (hrec : ∀ pc loc st h o h', rec pc loc st h = some (o, h') → V G mX5_countNeeds d pc loc st h o h')   {r0  x1  x2  x3 } {h : Hp} {o : OU} {h' : Hp} (e : kX5_countNeeds_6 rec  r0 x1 x2 x3 h = some (o, h')) : V G mX5_countNeeds d 6 [.ref r0, .int x1, .int x2, .int x3] [] h o h' := by
  unfold kX5_countNeeds_6 at e
  refine bX5_countNeeds_6 r0 x1 x2 x3 ?_
  refine ⟨fun c1 => ?_, fun c1 => ?_⟩
  · have e := if_t e c1
    exact hrec _ _ _ _ _ _ e
  · have e := if_f e c1
    obtain ⟨q2, e⟩ := ob_e e
    refine ⟨q2, ?_⟩
    obtain ⟨q3, e⟩ := ob_e e
    refine ⟨q3, ?_⟩
    obtain ⟨q4, e⟩ := ob_in e
    refine ⟨q4, ?_⟩
    refine ⟨fun c5 => ?_, fun c5 => ?_⟩
    · have e := if_t e c5
      exact hrec _ _ _ _ _ _ e
    · have e := if_f e c5
      exact hrec _ _ _ _ _ _ e
def kX5_countNeeds_36 (rec : Nat → List Value → List Value → Hp → RS)  (r0 : Nat) (x1 : Int32) (x2 : Int32) (x3 : Int32) (h : Hp) : RS := (if kH h r0 = 15 then (if kH h (rH h r0 8) = 1 then (if inB x1 (lH h (rH h r0 8)) = true then (if (h.2 (rH h r0 8) x1.toNatClampNeg) = (-1) then (some (.inl (some (.int x2)), h)) else (if x1 ≤ x3 then (some (.inl (some (.int x2)), h)) else (if kH h (rH h r0 3) = 1 then (if inB x3 (lH h (rH h r0 3)) = true then (if ¬ (h.2 (rH h r0 3) x3.toNatClampNeg) = (h.2 (rH h r0 8) x1.toNatClampNeg) then (rec 36 [.ref r0, .int x1, .int x2, .int (x3 + 1)] [] h) else (rec 36 [.ref r0, .int x1, .int (x2 + 1), .int (x3 + 1)] [] h)) else none) else none))) else none) else none) else none)
theorem uX5_countNeeds_36 {G : GG} {d : Nat} (hd : 1 ≤ d) (rec : Nat → List Value → List Value → Hp → RS) (hrec : ∀ pc loc st h o h', rec pc loc st h = some (o, h') → V G mX5_countNeeds d pc loc st h o h')   {r0  x1  x2  x3 } {h : Hp} {o : OU} {h' : Hp} (e : kX5_countNeeds_36 rec  r0 x1 x2 x3 h = some (o, h')) : V G mX5_countNeeds d 36 [.ref r0, .int x1, .int x2, .int x3] [] h o h' := by
  unfold kX5_countNeeds_36 at e
  refine bX5_countNeeds_36 r0 x1 x2 x3 ?_
  obtain ⟨q1, e⟩ := ob_e e
  refine ⟨q1, ?_⟩
  obtain ⟨q2, e⟩ := ob_e e
  refine ⟨q2, ?_⟩
  obtain ⟨q3, e⟩ := ob_in e
  refine ⟨q3, ?_⟩
  refine ⟨fun c4 => ?_, fun c4 => ?_⟩
  · have e := if_t e c4
    cases e
    exact ⟨rfl, rfl⟩
  · have e := if_f e c4
    refine ⟨fun c5 => ?_, fun c5 => ?_⟩
    · have e := if_t e c5
      cases e
      exact ⟨rfl, rfl⟩
    · have e := if_f e c5
      obtain ⟨q6, e⟩ := ob_e e
      refine ⟨q6, ?_⟩
      obtain ⟨q7, e⟩ := ob_in e
      refine ⟨q7, ?_⟩
      refine ⟨fun c8 => ?_, fun c8 => ?_⟩
      · have e := if_t e c8
        exact hrec _ _ _ _ _ _ e
      · have e := if_n e c8
        exact hrec _ _ _ _ _ _ e
def sX5_countNeeds  (rec : Nat → List Value → List Value → Hp → RS) (pc : Nat) (loc st : List Value) (h : Hp) : RS := match pc, loc, st with
  | 6, [.ref r0, .int x1, .int x2, .int x3], [] => kX5_countNeeds_6 rec  r0 x1 x2 x3 h
  | 36, [.ref r0, .int x1, .int x2, .int x3], [] => kX5_countNeeds_36 rec  r0 x1 x2 x3 h
  | _, _, _ => none
def gX5_countNeeds  : Nat → Nat → List Value → List Value → Hp → RS
  | 0 => fun _ _ _ _ => none
  | n + 1 => sX5_countNeeds  (gX5_countNeeds  n)
theorem wX5_countNeeds {G : GG} {d : Nat} (hd : 1 ≤ d)   : ∀ (n pc : Nat) (loc st : List Value) (h : Hp) (o : OU) (h' : Hp), gX5_countNeeds  n pc loc st h = some (o, h') → V G mX5_countNeeds d pc loc st h o h' := by
  intro n
  induction n with
  | zero => intro pc loc st h o h' e; cases e
  | succ n ih =>
    intro pc loc st h o h' e
    unfold gX5_countNeeds sX5_countNeeds at e
    split at e
    · exact uX5_countNeeds_6 hd _ ih   e
    · exact uX5_countNeeds_36 hd _ ih   e
    · cases e
theorem zX5_countNeeds_6  (n : Nat) (r0 : Nat) (x1 : Int32) (x2 : Int32) (x3 : Int32)  (h : Hp) : gX5_countNeeds  (n + 1) 6 [.ref r0, .int x1, .int x2, .int x3] [] h = kX5_countNeeds_6 (gX5_countNeeds  n)  r0 x1 x2 x3 h := rfl
theorem zX5_countNeeds_36  (n : Nat) (r0 : Nat) (x1 : Int32) (x2 : Int32) (x3 : Int32)  (h : Hp) : gX5_countNeeds  (n + 1) 36 [.ref r0, .int x1, .int x2, .int x3] [] h = kX5_countNeeds_36 (gX5_countNeeds  n)  r0 x1 x2 x3 h := rfl
def fX5_countNeeds (r0 : Nat) (x1 : Int32) (h : Hp) : RS := kX5_countNeeds_0 (gX5_countNeeds FF) r0 x1 h
theorem tX5_countNeeds {G : GG} {d : Nat} {r0 x1} {h : Hp} {o : OU} {h' : Hp} (e : fX5_countNeeds r0 x1 h = some (o, h')) (hd : 1 ≤ d) : VM G mX5_countNeeds d [.ref r0, .int x1] h o h' := uX5_countNeeds_0 hd _ (wX5_countNeeds hd FF) e
def kX5_blocksNeededBy_0 (rec : Nat → List Value → List Value → Hp → RS)  (r0 : Nat) (x1 : Int32) (h : Hp) : RS := (rec 7 [.ref r0, .int x1, .int 0, .int 0, .int 0, uV] [] h)
theorem uX5_blocksNeededBy_0 {G : GG} {d : Nat} (hd : 1 ≤ d) (rec : Nat → List Value → List Value → Hp → RS) (hrec : ∀ pc loc st h o h', rec pc loc st h = some (o, h') → V G mX5_blocksNeededBy d pc loc st h o h')   {r0  x1 } {h : Hp} {o : OU} {h' : Hp} (e : kX5_blocksNeededBy_0 rec  r0 x1 h = some (o, h')) : VM G mX5_blocksNeededBy d [.ref r0, .int x1] h o h' := by
  unfold kX5_blocksNeededBy_0 at e
  refine eX5_blocksNeededBy r0 x1 ?_
  exact hrec _ _ _ _ _ _ e
def kX5_blocksNeededBy_7 (rec : Nat → List Value → List Value → Hp → RS)  (r0 : Nat) (x1 : Int32) (x2 : Int32) (x3 : Int32) (x4 : Int32) (h : Hp) : RS := (if kH h r0 = 15 then (if (h.2 r0 2) ≤ x4 then (some (.inl (some (.int (x2 &&& ((1 <<< (x1 &&& 31)) ^^^ (-1))))), h)) else (if kH h (rH h r0 3) = 1 then (if inB x4 (lH h (rH h r0 3)) = true then (if ¬ (h.2 (rH h r0 3) x4.toNatClampNeg) = x1 then (rec 7 [.ref r0, .int x1, .int x2, .int (x3 ||| (1 <<< ((h.2 (rH h r0 3) x4.toNatClampNeg) &&& 31))), .int (x4 + 1), uV] [] h) else (rec 33 [.ref r0, .int x1, .int x2, .int x3, .int x4, .int (x4 * 4)] [] h)) else none) else none)) else none)
theorem uX5_blocksNeededBy_7 {G : GG} {d : Nat} (hd : 1 ≤ d) (rec : Nat → List Value → List Value → Hp → RS) (hrec : ∀ pc loc st h o h', rec pc loc st h = some (o, h') → V G mX5_blocksNeededBy d pc loc st h o h')   {r0  x1  x2  x3  x4 } {h : Hp} {o : OU} {h' : Hp} (e : kX5_blocksNeededBy_7 rec  r0 x1 x2 x3 x4 h = some (o, h')) : V G mX5_blocksNeededBy d 7 [.ref r0, .int x1, .int x2, .int x3, .int x4, uV] [] h o h' := by
  unfold kX5_blocksNeededBy_7 at e
  refine bX5_blocksNeededBy_7 r0 x1 x2 x3 x4 ?_
  obtain ⟨q1, e⟩ := ob_e e
  refine ⟨q1, ?_⟩
  refine ⟨fun c2 => ?_, fun c2 => ?_⟩
  · have e := if_t e c2
    cases e
    exact ⟨rfl, rfl⟩
  · have e := if_f e c2
    obtain ⟨q3, e⟩ := ob_e e
    refine ⟨q3, ?_⟩
    obtain ⟨q4, e⟩ := ob_in e
    refine ⟨q4, ?_⟩
    refine ⟨fun c5 => ?_, fun c5 => ?_⟩
    · have e := if_t e c5
      exact hrec _ _ _ _ _ _ e
    · have e := if_n e c5
      exact hrec _ _ _ _ _ _ e
def kX5_blocksNeededBy_33 (rec : Nat → List Value → List Value → Hp → RS)  (r0 : Nat) (x1 : Int32) (x2 : Int32) (x3 : Int32) (x4 : Int32) (x5 : Int32) (h : Hp) : RS := (if ((x4 + 1) * 4) ≤ x5 then (if kH h r0 = 15 then (if kH h (rH h r0 8) = 1 then (if inB x4 (lH h (rH h r0 8)) = true then (if ¬ (h.2 (rH h r0 8) x4.toNatClampNeg) = (-1) then (if kH h (rH h r0 3) = 1 then (if inB x4 (lH h (rH h r0 3)) = true then (rec 7 [.ref r0, .int x1, .int (x2 ||| (x3 &&& (1 <<< ((h.2 (rH h r0 8) x4.toNatClampNeg) &&& 31)))), .int (x3 ||| (1 <<< ((h.2 (rH h r0 3) x4.toNatClampNeg) &&& 31))), .int (x4 + 1), uV] [] h) else none) else none) else (if kH h (rH h r0 3) = 1 then (if inB x4 (lH h (rH h r0 3)) = true then (rec 7 [.ref r0, .int x1, .int (x2 ||| 0), .int (x3 ||| (1 <<< ((h.2 (rH h r0 3) x4.toNatClampNeg) &&& 31))), .int (x4 + 1), uV] [] h) else none) else none)) else none) else none) else none) else (if kH h r0 = 15 then (if kH h (rH h r0 7) = 1 then (if inB x5 (lH h (rH h r0 7)) = true then (if ¬ (h.2 (rH h r0 7) x5.toNatClampNeg) = (-1) then (if kH h (rH h r0 3) = 1 then (if inB (h.2 (rH h r0 7) x5.toNatClampNeg) (lH h (rH h r0 3)) = true then (rec 33 [.ref r0, .int x1, .int (x2 ||| (1 <<< ((h.2 (rH h r0 3) (h.2 (rH h r0 7) x5.toNatClampNeg).toNatClampNeg) &&& 31))), .int x3, .int x4, .int (x5 + 1)] [] h) else none) else none) else (rec 33 [.ref r0, .int x1, .int (x2 ||| 0), .int x3, .int x4, .int (x5 + 1)] [] h)) else none) else none) else none))
theorem uX5_blocksNeededBy_33 {G : GG} {d : Nat} (hd : 1 ≤ d) (rec : Nat → List Value → List Value → Hp → RS) (hrec : ∀ pc loc st h o h', rec pc loc st h = some (o, h') → V G mX5_blocksNeededBy d pc loc st h o h')   {r0  x1  x2  x3  x4  x5 } {h : Hp} {o : OU} {h' : Hp} (e : kX5_blocksNeededBy_33 rec  r0 x1 x2 x3 x4 x5 h = some (o, h')) : V G mX5_blocksNeededBy d 33 [.ref r0, .int x1, .int x2, .int x3, .int x4, .int x5] [] h o h' := by
  unfold kX5_blocksNeededBy_33 at e
  refine bX5_blocksNeededBy_33 r0 x1 x2 x3 x4 x5 ?_
  refine ⟨fun c1 => ?_, fun c1 => ?_⟩
  · have e := if_t e c1
    obtain ⟨q2, e⟩ := ob_e e
    refine ⟨q2, ?_⟩
    obtain ⟨q3, e⟩ := ob_e e
    refine ⟨q3, ?_⟩
    obtain ⟨q4, e⟩ := ob_in e
    refine ⟨q4, ?_⟩
    refine ⟨fun c5 => ?_, fun c5 => ?_⟩
    · have e := if_t e c5
      obtain ⟨q6, e⟩ := ob_e e
      refine ⟨q6, ?_⟩
      obtain ⟨q7, e⟩ := ob_in e
      refine ⟨q7, ?_⟩
      exact hrec _ _ _ _ _ _ e
    · have e := if_n e c5
      obtain ⟨q8, e⟩ := ob_e e
      refine ⟨q8, ?_⟩
      obtain ⟨q9, e⟩ := ob_in e
      refine ⟨q9, ?_⟩
      exact hrec _ _ _ _ _ _ e
  · have e := if_f e c1
    obtain ⟨q10, e⟩ := ob_e e
    refine ⟨q10, ?_⟩
    obtain ⟨q11, e⟩ := ob_e e
    refine ⟨q11, ?_⟩
    obtain ⟨q12, e⟩ := ob_in e
    refine ⟨q12, ?_⟩
    refine ⟨fun c13 => ?_, fun c13 => ?_⟩
    · have e := if_t e c13
      obtain ⟨q14, e⟩ := ob_e e
      refine ⟨q14, ?_⟩
      obtain ⟨q15, e⟩ := ob_in e
      refine ⟨q15, ?_⟩
      exact hrec _ _ _ _ _ _ e
    · have e := if_n e c13
      exact hrec _ _ _ _ _ _ e
def sX5_blocksNeededBy  (rec : Nat → List Value → List Value → Hp → RS) (pc : Nat) (loc st : List Value) (h : Hp) : RS := match pc, loc, st with
  | 7, [.ref r0, .int x1, .int x2, .int x3, .int x4, _], [] => kX5_blocksNeededBy_7 rec  r0 x1 x2 x3 x4 h
  | 33, [.ref r0, .int x1, .int x2, .int x3, .int x4, .int x5], [] => kX5_blocksNeededBy_33 rec  r0 x1 x2 x3 x4 x5 h
  | _, _, _ => none
def gX5_blocksNeededBy  : Nat → Nat → List Value → List Value → Hp → RS
  | 0 => fun _ _ _ _ => none
  | n + 1 => sX5_blocksNeededBy  (gX5_blocksNeededBy  n)
theorem wX5_blocksNeededBy {G : GG} {d : Nat} (hd : 1 ≤ d)   : ∀ (n pc : Nat) (loc st : List Value) (h : Hp) (o : OU) (h' : Hp), gX5_blocksNeededBy  n pc loc st h = some (o, h') → V G mX5_blocksNeededBy d pc loc st h o h' := by
  intro n
  induction n with
  | zero => intro pc loc st h o h' e; cases e
  | succ n ih =>
    intro pc loc st h o h' e
    unfold gX5_blocksNeededBy sX5_blocksNeededBy at e
    split at e
    · exact V.drop (llp_r (llp_r (llp_r (llp_r (llp_r (llp_u llp_nil)))))) (uX5_blocksNeededBy_7 hd _ ih   e)
    · exact uX5_blocksNeededBy_33 hd _ ih   e
    · cases e
theorem zX5_blocksNeededBy_7  (n : Nat) (r0 : Nat) (x1 : Int32) (x2 : Int32) (x3 : Int32) (x4 : Int32) (y5 : Value) (h : Hp) : gX5_blocksNeededBy  (n + 1) 7 [.ref r0, .int x1, .int x2, .int x3, .int x4, y5] [] h = kX5_blocksNeededBy_7 (gX5_blocksNeededBy  n)  r0 x1 x2 x3 x4 h := rfl
theorem zX5_blocksNeededBy_33  (n : Nat) (r0 : Nat) (x1 : Int32) (x2 : Int32) (x3 : Int32) (x4 : Int32) (x5 : Int32)  (h : Hp) : gX5_blocksNeededBy  (n + 1) 33 [.ref r0, .int x1, .int x2, .int x3, .int x4, .int x5] [] h = kX5_blocksNeededBy_33 (gX5_blocksNeededBy  n)  r0 x1 x2 x3 x4 x5 h := rfl
def fX5_blocksNeededBy (r0 : Nat) (x1 : Int32) (h : Hp) : RS := kX5_blocksNeededBy_0 (gX5_blocksNeededBy FF) r0 x1 h
theorem tX5_blocksNeededBy {G : GG} {d : Nat} {r0 x1} {h : Hp} {o : OU} {h' : Hp} (e : fX5_blocksNeededBy r0 x1 h = some (o, h')) (hd : 1 ≤ d) : VM G mX5_blocksNeededBy d [.ref r0, .int x1] h o h' := uX5_blocksNeededBy_0 hd _ (wX5_blocksNeededBy hd FF) e
def kX6_init_0  (r0 : Nat) (h : Hp) : RS := (if r0 ≠ 0 then (letH (nwH h 12 0 6) fun (h2 : Hp) => (if (nH h) ≠ 0 then (bV (fX2_init (nH h) h2) fun h4 => (if kH h4 r0 = 16 then (letH (sR h4 r0 0 (nH h)) fun (h8 : Hp) => (some (.inl none, h8))) else none)) else none)) else none)
theorem uX6_init_0 {G : GG} {d : Nat} (hd : 2 ≤ d)   {r0 } {h : Hp} {o : OU} {h' : Hp} (e : kX6_init_0  r0 h = some (o, h')) : VM G mX6_init d [.ref r0] h o h' := by
  unfold kX6_init_0 at e
  refine eX6_init r0 (by omega) ?_
  obtain ⟨q1, e⟩ := ob_e e
  refine ⟨q1, ?_⟩
  intro h2 evh2
  have e := lt_e evh2 e
  obtain ⟨q2, e⟩ := ob_e e
  refine ⟨q2, ?_⟩
  obtain ⟨h4, e3, e⟩ := bV_e e
  refine ⟨h4, (tX2_init e3 (by omega)), ?_⟩
  obtain ⟨q4, e⟩ := ob_e e
  refine ⟨q4, ?_⟩
  intro h8 evh8
  have e := lt_e evh8 e
  cases e
  exact ⟨rfl, rfl⟩
def fX6_init (r0 : Nat) (h : Hp) : RS := kX6_init_0 r0 h
theorem tX6_init {G : GG} {d : Nat} {r0} {h : Hp} {o : OU} {h' : Hp} (e : fX6_init r0 h = some (o, h')) (hd : 2 ≤ d) : VM G mX6_init d [.ref r0] h o h' := uX6_init_0 hd e
def kX8_entryNamed_0 (rec : Nat → List Value → List Value → Hp → RS)  (r0 : Nat) (x1 : Int32) (x2 : Int32) (x3 : Int32) (h : Hp) : RS := (if kH h r0 = 15 then (bI (fX5_isDirectory r0 x1 x2 h) fun z2 h1 => (if ¬ z2 = 0 then (rec 14 [.ref r0, .int x1, .int x2, .int x3, .int 2, uV, uV] [] h1) else (some (.inl (some (.int (-1))), h1)))) else none)
theorem uX8_entryNamed_0 {G : GG} {d : Nat} (hd : 2 ≤ d) (rec : Nat → List Value → List Value → Hp → RS) (hrec : ∀ pc loc st h o h', rec pc loc st h = some (o, h') → V G mX8_entryNamed d pc loc st h o h')   {r0  x1  x2  x3 } {h : Hp} {o : OU} {h' : Hp} (e : kX8_entryNamed_0 rec  r0 x1 x2 x3 h = some (o, h')) : VM G mX8_entryNamed d [.ref r0, .int x1, .int x2, .int x3] h o h' := by
  unfold kX8_entryNamed_0 at e
  refine eX8_entryNamed r0 x1 x2 x3 (by omega) ?_
  obtain ⟨q1, e⟩ := ob_e e
  refine ⟨q1, ?_⟩
  obtain ⟨z2, h1, e2, e⟩ := bI_e e
  refine ⟨z2, h1, (tX5_isDirectory e2 (by omega)), ?_⟩
  refine ⟨fun c3 => ?_, fun c3 => ?_⟩
  · have e := if_t e c3
    exact hrec _ _ _ _ _ _ e
  · have e := if_n e c3
    cases e
    exact ⟨rfl, rfl⟩
def kX8_entryNamed_14 (rec : Nat → List Value → List Value → Hp → RS)  (r0 : Nat) (x1 : Int32) (x2 : Int32) (x3 : Int32) (x4 : Int32) (h : Hp) : RS := (if 3 < x4 then (some (.inl (some (.int (-1))), h)) else (if kH h r0 = 15 then (bI (fX5_nodeField r0 x1 x2 x4 h) fun z3 h2 => (rec 33 [.ref r0, .int x1, .int x2, .int x3, .int x4, .int z3, .int 0] [] h2)) else none))
theorem uX8_entryNamed_14 {G : GG} {d : Nat} (hd : 2 ≤ d) (rec : Nat → List Value → List Value → Hp → RS) (hrec : ∀ pc loc st h o h', rec pc loc st h = some (o, h') → V G mX8_entryNamed d pc loc st h o h')   {r0  x1  x2  x3  x4 } {h : Hp} {o : OU} {h' : Hp} (e : kX8_entryNamed_14 rec  r0 x1 x2 x3 x4 h = some (o, h')) : V G mX8_entryNamed d 14 [.ref r0, .int x1, .int x2, .int x3, .int x4, uV, uV] [] h o h' := by
  unfold kX8_entryNamed_14 at e
  refine bX8_entryNamed_14 r0 x1 x2 x3 x4 (by omega) ?_
  refine ⟨fun c1 => ?_, fun c1 => ?_⟩
  · have e := if_t e c1
    cases e
    exact ⟨rfl, rfl⟩
  · have e := if_f e c1
    obtain ⟨q2, e⟩ := ob_e e
    refine ⟨q2, ?_⟩
    obtain ⟨z3, h2, e3, e⟩ := bI_e e
    refine ⟨z3, h2, (tX5_nodeField e3 (by omega)), ?_⟩
    exact hrec _ _ _ _ _ _ e
def kX8_entryNamed_33 (rec : Nat → List Value → List Value → Hp → RS)  (r0 : Nat) (x1 : Int32) (x2 : Int32) (x3 : Int32) (x4 : Int32) (x5 : Int32) (x6 : Int32) (h : Hp) : RS := (if x5 = 0 then (rec 14 [.ref r0, .int x1, .int x2, .int x3, .int (x4 + 1), uV, uV] [] h) else (if 8 ≤ x6 then (rec 14 [.ref r0, .int x1, .int x2, .int x3, .int (x4 + 1), uV, uV] [] h) else (if kH h r0 = 15 then (bI (fX5_at r0 x1 x5 (2 * x6) h) fun z4 h3 => (if ¬ z4 = x3 then (rec 33 [.ref r0, .int x1, .int x2, .int x3, .int x4, .int x5, .int (x6 + 1)] [] h3) else (some (.inl (some (.int ((x5 * 8) + x6))), h3)))) else none)))
theorem uX8_entryNamed_33 {G : GG} {d : Nat} (hd : 2 ≤ d) (rec : Nat → List Value → List Value → Hp → RS) (hrec : ∀ pc loc st h o h', rec pc loc st h = some (o, h') → V G mX8_entryNamed d pc loc st h o h')   {r0  x1  x2  x3  x4  x5  x6 } {h : Hp} {o : OU} {h' : Hp} (e : kX8_entryNamed_33 rec  r0 x1 x2 x3 x4 x5 x6 h = some (o, h')) : V G mX8_entryNamed d 33 [.ref r0, .int x1, .int x2, .int x3, .int x4, .int x5, .int x6] [] h o h' := by
  unfold kX8_entryNamed_33 at e
  refine bX8_entryNamed_33 r0 x1 x2 x3 x4 x5 x6 (by omega) ?_
  refine ⟨fun c1 => ?_, fun c1 => ?_⟩
  · have e := if_t e c1
    exact hrec _ _ _ _ _ _ e
  · have e := if_f e c1
    refine ⟨fun c2 => ?_, fun c2 => ?_⟩
    · have e := if_t e c2
      exact hrec _ _ _ _ _ _ e
    · have e := if_f e c2
      obtain ⟨q3, e⟩ := ob_e e
      refine ⟨q3, ?_⟩
      obtain ⟨z4, h3, e4, e⟩ := bI_e e
      refine ⟨z4, h3, (tX5_at e4 (by omega)), ?_⟩
      refine ⟨fun c5 => ?_, fun c5 => ?_⟩
      · have e := if_t e c5
        exact hrec _ _ _ _ _ _ e
      · have e := if_n e c5
        cases e
        exact ⟨rfl, rfl⟩
def sX8_entryNamed  (rec : Nat → List Value → List Value → Hp → RS) (pc : Nat) (loc st : List Value) (h : Hp) : RS := match pc, loc, st with
  | 14, [.ref r0, .int x1, .int x2, .int x3, .int x4, _, _], [] => kX8_entryNamed_14 rec  r0 x1 x2 x3 x4 h
  | 33, [.ref r0, .int x1, .int x2, .int x3, .int x4, .int x5, .int x6], [] => kX8_entryNamed_33 rec  r0 x1 x2 x3 x4 x5 x6 h
  | _, _, _ => none
def gX8_entryNamed  : Nat → Nat → List Value → List Value → Hp → RS
  | 0 => fun _ _ _ _ => none
  | n + 1 => sX8_entryNamed  (gX8_entryNamed  n)
theorem wX8_entryNamed {G : GG} {d : Nat} (hd : 2 ≤ d)   : ∀ (n pc : Nat) (loc st : List Value) (h : Hp) (o : OU) (h' : Hp), gX8_entryNamed  n pc loc st h = some (o, h') → V G mX8_entryNamed d pc loc st h o h' := by
  intro n
  induction n with
  | zero => intro pc loc st h o h' e; cases e
  | succ n ih =>
    intro pc loc st h o h' e
    unfold gX8_entryNamed sX8_entryNamed at e
    split at e
    · exact V.drop (llp_r (llp_r (llp_r (llp_r (llp_r (llp_u (llp_u llp_nil))))))) (uX8_entryNamed_14 hd _ ih   e)
    · exact uX8_entryNamed_33 hd _ ih   e
    · cases e
theorem zX8_entryNamed_14  (n : Nat) (r0 : Nat) (x1 : Int32) (x2 : Int32) (x3 : Int32) (x4 : Int32) (y5 : Value) (y6 : Value) (h : Hp) : gX8_entryNamed  (n + 1) 14 [.ref r0, .int x1, .int x2, .int x3, .int x4, y5, y6] [] h = kX8_entryNamed_14 (gX8_entryNamed  n)  r0 x1 x2 x3 x4 h := rfl
theorem zX8_entryNamed_33  (n : Nat) (r0 : Nat) (x1 : Int32) (x2 : Int32) (x3 : Int32) (x4 : Int32) (x5 : Int32) (x6 : Int32)  (h : Hp) : gX8_entryNamed  (n + 1) 33 [.ref r0, .int x1, .int x2, .int x3, .int x4, .int x5, .int x6] [] h = kX8_entryNamed_33 (gX8_entryNamed  n)  r0 x1 x2 x3 x4 x5 x6 h := rfl
def fX8_entryNamed (r0 : Nat) (x1 : Int32) (x2 : Int32) (x3 : Int32) (h : Hp) : RS := kX8_entryNamed_0 (gX8_entryNamed FF) r0 x1 x2 x3 h
theorem tX8_entryNamed {G : GG} {d : Nat} {r0 x1 x2 x3} {h : Hp} {o : OU} {h' : Hp} (e : fX8_entryNamed r0 x1 x2 x3 h = some (o, h')) (hd : 2 ≤ d) : VM G mX8_entryNamed d [.ref r0, .int x1, .int x2, .int x3] h o h' := uX8_entryNamed_0 hd _ (wX8_entryNamed hd FF) e
def kJ6_numberOfTrailingZeros_0f7a4_0 (rec : Nat → List Value → List Value → Hp → RS)  (x0 : Int32) (h : Hp) : RS := (if 0 < ((x0 ^^^ (-1)) &&& (x0 - 1)) then (if ((x0 ^^^ (-1)) &&& (x0 - 1)) ≤ 65536 then (rec 34 [.int ((x0 ^^^ (-1)) &&& (x0 - 1)), .int 1] [] h) else (rec 34 [.int (ushr ((x0 ^^^ (-1)) &&& (x0 - 1)) 16), .int (1 + 16)] [] h)) else (some (.inl (some (.int (((x0 ^^^ (-1)) &&& (x0 - 1)) &&& 32))), h)))
theorem uJ6_numberOfTrailingZeros_0f7a4_0 {G : GG} {d : Nat} (hd : 1 ≤ d) (rec : Nat → List Value → List Value → Hp → RS) (hrec : ∀ pc loc st h o h', rec pc loc st h = some (o, h') → V G mJ6_numberOfTrailingZeros_0f7a4 d pc loc st h o h')   {x0 } {h : Hp} {o : OU} {h' : Hp} (e : kJ6_numberOfTrailingZeros_0f7a4_0 rec  x0 h = some (o, h')) : VM G mJ6_numberOfTrailingZeros_0f7a4 d [.int x0] h o h' := by
  unfold kJ6_numberOfTrailingZeros_0f7a4_0 at e
  refine eJ6_numberOfTrailingZeros_0f7a4 x0 ?_
  refine ⟨fun c1 => ?_, fun c1 => ?_⟩
  · have e := if_t e c1
    refine ⟨fun c2 => ?_, fun c2 => ?_⟩
    · have e := if_t e c2
      exact hrec _ _ _ _ _ _ e
    · have e := if_f e c2
      exact hrec _ _ _ _ _ _ e
  · have e := if_f e c1
    cases e
    exact ⟨rfl, rfl⟩
def kJ6_numberOfTrailingZeros_0f7a4_34 (rec : Nat → List Value → List Value → Hp → RS)  (x0 : Int32) (x1 : Int32) (h : Hp) : RS := (if x0 ≤ 256 then (rec 49 [.int x0, .int x1] [] h) else (rec 49 [.int (ushr x0 8), .int (x1 + 8)] [] h))
theorem uJ6_numberOfTrailingZeros_0f7a4_34 {G : GG} {d : Nat} (hd : 1 ≤ d) (rec : Nat → List Value → List Value → Hp → RS) (hrec : ∀ pc loc st h o h', rec pc loc st h = some (o, h') → V G mJ6_numberOfTrailingZeros_0f7a4 d pc loc st h o h')   {x0  x1 } {h : Hp} {o : OU} {h' : Hp} (e : kJ6_numberOfTrailingZeros_0f7a4_34 rec  x0 x1 h = some (o, h')) : V G mJ6_numberOfTrailingZeros_0f7a4 d 34 [.int x0, .int x1] [] h o h' := by
  unfold kJ6_numberOfTrailingZeros_0f7a4_34 at e
  refine bJ6_numberOfTrailingZeros_0f7a4_34 x0 x1 ?_
  refine ⟨fun c1 => ?_, fun c1 => ?_⟩
  · have e := if_t e c1
    exact hrec _ _ _ _ _ _ e
  · have e := if_f e c1
    exact hrec _ _ _ _ _ _ e
def kJ6_numberOfTrailingZeros_0f7a4_49 (rec : Nat → List Value → List Value → Hp → RS)  (x0 : Int32) (x1 : Int32) (h : Hp) : RS := (if x0 ≤ 16 then (if x0 ≤ 4 then (some (.inl (some (.int (x1 + (ushr x0 1)))), h)) else (some (.inl (some (.int ((x1 + 2) + (ushr (ushr x0 2) 1)))), h))) else (if (ushr x0 4) ≤ 4 then (some (.inl (some (.int ((x1 + 4) + (ushr (ushr x0 4) 1)))), h)) else (some (.inl (some (.int (((x1 + 4) + 2) + (ushr (ushr (ushr x0 4) 2) 1)))), h))))
theorem uJ6_numberOfTrailingZeros_0f7a4_49 {G : GG} {d : Nat} (hd : 1 ≤ d) (rec : Nat → List Value → List Value → Hp → RS) (hrec : ∀ pc loc st h o h', rec pc loc st h = some (o, h') → V G mJ6_numberOfTrailingZeros_0f7a4 d pc loc st h o h')   {x0  x1 } {h : Hp} {o : OU} {h' : Hp} (e : kJ6_numberOfTrailingZeros_0f7a4_49 rec  x0 x1 h = some (o, h')) : V G mJ6_numberOfTrailingZeros_0f7a4 d 49 [.int x0, .int x1] [] h o h' := by
  unfold kJ6_numberOfTrailingZeros_0f7a4_49 at e
  refine bJ6_numberOfTrailingZeros_0f7a4_49 x0 x1 ?_
  refine ⟨fun c1 => ?_, fun c1 => ?_⟩
  · have e := if_t e c1
    refine ⟨fun c2 => ?_, fun c2 => ?_⟩
    · have e := if_t e c2
      cases e
      exact ⟨rfl, rfl⟩
    · have e := if_f e c2
      cases e
      exact ⟨rfl, rfl⟩
  · have e := if_f e c1
    refine ⟨fun c3 => ?_, fun c3 => ?_⟩
    · have e := if_t e c3
      cases e
      exact ⟨rfl, rfl⟩
    · have e := if_f e c3
      cases e
      exact ⟨rfl, rfl⟩
def sJ6_numberOfTrailingZeros_0f7a4  (rec : Nat → List Value → List Value → Hp → RS) (pc : Nat) (loc st : List Value) (h : Hp) : RS := match pc, loc, st with
  | 34, [.int x0, .int x1], [] => kJ6_numberOfTrailingZeros_0f7a4_34 rec  x0 x1 h
  | 49, [.int x0, .int x1], [] => kJ6_numberOfTrailingZeros_0f7a4_49 rec  x0 x1 h
  | _, _, _ => none
def gJ6_numberOfTrailingZeros_0f7a4  : Nat → Nat → List Value → List Value → Hp → RS
  | 0 => fun _ _ _ _ => none
  | n + 1 => sJ6_numberOfTrailingZeros_0f7a4  (gJ6_numberOfTrailingZeros_0f7a4  n)
theorem wJ6_numberOfTrailingZeros_0f7a4 {G : GG} {d : Nat} (hd : 1 ≤ d)   : ∀ (n pc : Nat) (loc st : List Value) (h : Hp) (o : OU) (h' : Hp), gJ6_numberOfTrailingZeros_0f7a4  n pc loc st h = some (o, h') → V G mJ6_numberOfTrailingZeros_0f7a4 d pc loc st h o h' := by
  intro n
  induction n with
  | zero => intro pc loc st h o h' e; cases e
  | succ n ih =>
    intro pc loc st h o h' e
    unfold gJ6_numberOfTrailingZeros_0f7a4 sJ6_numberOfTrailingZeros_0f7a4 at e
    split at e
    · exact uJ6_numberOfTrailingZeros_0f7a4_34 hd _ ih   e
    · exact uJ6_numberOfTrailingZeros_0f7a4_49 hd _ ih   e
    · cases e
theorem zJ6_numberOfTrailingZeros_0f7a4_34  (n : Nat) (x0 : Int32) (x1 : Int32)  (h : Hp) : gJ6_numberOfTrailingZeros_0f7a4  (n + 1) 34 [.int x0, .int x1] [] h = kJ6_numberOfTrailingZeros_0f7a4_34 (gJ6_numberOfTrailingZeros_0f7a4  n)  x0 x1 h := rfl
theorem zJ6_numberOfTrailingZeros_0f7a4_49  (n : Nat) (x0 : Int32) (x1 : Int32)  (h : Hp) : gJ6_numberOfTrailingZeros_0f7a4  (n + 1) 49 [.int x0, .int x1] [] h = kJ6_numberOfTrailingZeros_0f7a4_49 (gJ6_numberOfTrailingZeros_0f7a4  n)  x0 x1 h := rfl
def fJ6_numberOfTrailingZeros_0f7a4 (x0 : Int32) (h : Hp) : RS := kJ6_numberOfTrailingZeros_0f7a4_0 (gJ6_numberOfTrailingZeros_0f7a4 FF) x0 h
theorem tJ6_numberOfTrailingZeros_0f7a4 {G : GG} {d : Nat} {x0} {h : Hp} {o : OU} {h' : Hp} (e : fJ6_numberOfTrailingZeros_0f7a4 x0 h = some (o, h')) (hd : 1 ≤ d) : VM G mJ6_numberOfTrailingZeros_0f7a4 d [.int x0] h o h' := uJ6_numberOfTrailingZeros_0f7a4_0 hd _ (wJ6_numberOfTrailingZeros_0f7a4 hd FF) e
def kX8_namedNodes_0 (rec : Nat → List Value → List Value → Hp → RS)  (r0 : Nat) (x1 : Int32) (x2 : Int32) (h : Hp) : RS := (rec 5 [.ref r0, .int x1, .int x2, .int 0, .int 2, uV, uV] [] h)
theorem uX8_namedNodes_0 {G : GG} {d : Nat} (hd : 2 ≤ d) (rec : Nat → List Value → List Value → Hp → RS) (hrec : ∀ pc loc st h o h', rec pc loc st h = some (o, h') → V G mX8_namedNodes d pc loc st h o h')   {r0  x1  x2 } {h : Hp} {o : OU} {h' : Hp} (e : kX8_namedNodes_0 rec  r0 x1 x2 h = some (o, h')) : VM G mX8_namedNodes d [.ref r0, .int x1, .int x2] h o h' := by
  unfold kX8_namedNodes_0 at e
  refine eX8_namedNodes r0 x1 x2 ?_
  exact hrec _ _ _ _ _ _ e
def kX8_namedNodes_5 (rec : Nat → List Value → List Value → Hp → RS)  (r0 : Nat) (x1 : Int32) (x2 : Int32) (x3 : Int32) (x4 : Int32) (h : Hp) : RS := (if kH h r0 = 15 then (bI (fX5_isDirectory r0 x1 x2 h) fun z2 h1 => (if z2 = 0 then (some (.inl (some (.int x3)), h1)) else (if 3 < x4 then (some (.inl (some (.int x3)), h1)) else (if kH h1 r0 = 15 then (bI (fX5_nodeField r0 x1 x2 x4 h1) fun z8 h7 => (rec 33 [.ref r0, .int x1, .int x2, .int x3, .int x4, .int z8, .int 0] [] h7)) else none)))) else none)
theorem uX8_namedNodes_5 {G : GG} {d : Nat} (hd : 2 ≤ d) (rec : Nat → List Value → List Value → Hp → RS) (hrec : ∀ pc loc st h o h', rec pc loc st h = some (o, h') → V G mX8_namedNodes d pc loc st h o h')   {r0  x1  x2  x3  x4 } {h : Hp} {o : OU} {h' : Hp} (e : kX8_namedNodes_5 rec  r0 x1 x2 x3 x4 h = some (o, h')) : V G mX8_namedNodes d 5 [.ref r0, .int x1, .int x2, .int x3, .int x4, uV, uV] [] h o h' := by
  unfold kX8_namedNodes_5 at e
  refine bX8_namedNodes_5 r0 x1 x2 x3 x4 (by omega) ?_
  obtain ⟨q1, e⟩ := ob_e e
  refine ⟨q1, ?_⟩
  obtain ⟨z2, h1, e2, e⟩ := bI_e e
  refine ⟨z2, h1, (tX5_isDirectory e2 (by omega)), ?_⟩
  refine ⟨fun c3 => ?_, fun c3 => ?_⟩
  · have e := if_t e c3
    cases e
    exact ⟨rfl, rfl⟩
  · have e := if_f e c3
    refine ⟨fun c4 => ?_, fun c4 => ?_⟩
    · have e := if_t e c4
      cases e
      exact ⟨rfl, rfl⟩
    · have e := if_f e c4
      obtain ⟨q5, e⟩ := ob_e e
      refine ⟨q5, ?_⟩
      obtain ⟨z8, h7, e6, e⟩ := bI_e e
      refine ⟨z8, h7, (tX5_nodeField e6 (by omega)), ?_⟩
      exact hrec _ _ _ _ _ _ e
def kX8_namedNodes_33 (rec : Nat → List Value → List Value → Hp → RS)  (r0 : Nat) (x1 : Int32) (x2 : Int32) (x3 : Int32) (x4 : Int32) (x5 : Int32) (x6 : Int32) (h : Hp) : RS := (if x5 = 0 then (rec 5 [.ref r0, .int x1, .int x2, .int x3, .int (x4 + 1), uV, uV] [] h) else (if 8 ≤ x6 then (rec 5 [.ref r0, .int x1, .int x2, .int x3, .int (x4 + 1), uV, uV] [] h) else (if kH h r0 = 15 then (bI (fX5_at r0 x1 x5 (2 * x6) h) fun z4 h3 => (if z4 = 0 then (rec 33 [.ref r0, .int x1, .int x2, .int x3, .int x4, .int x5, .int (x6 + 1)] [] h3) else (if kH h3 r0 = 15 then (bI (fX5_at r0 x1 x5 ((2 * x6) + 1) h3) fun z9 h8 => (rec 33 [.ref r0, .int x1, .int x2, .int (x3 ||| (1 <<< (z9 &&& 31))), .int x4, .int x5, .int (x6 + 1)] [] h8)) else none))) else none)))
theorem uX8_namedNodes_33 {G : GG} {d : Nat} (hd : 2 ≤ d) (rec : Nat → List Value → List Value → Hp → RS) (hrec : ∀ pc loc st h o h', rec pc loc st h = some (o, h') → V G mX8_namedNodes d pc loc st h o h')   {r0  x1  x2  x3  x4  x5  x6 } {h : Hp} {o : OU} {h' : Hp} (e : kX8_namedNodes_33 rec  r0 x1 x2 x3 x4 x5 x6 h = some (o, h')) : V G mX8_namedNodes d 33 [.ref r0, .int x1, .int x2, .int x3, .int x4, .int x5, .int x6] [] h o h' := by
  unfold kX8_namedNodes_33 at e
  refine bX8_namedNodes_33 r0 x1 x2 x3 x4 x5 x6 (by omega) ?_
  refine ⟨fun c1 => ?_, fun c1 => ?_⟩
  · have e := if_t e c1
    exact hrec _ _ _ _ _ _ e
  · have e := if_f e c1
    refine ⟨fun c2 => ?_, fun c2 => ?_⟩
    · have e := if_t e c2
      exact hrec _ _ _ _ _ _ e
    · have e := if_f e c2
      obtain ⟨q3, e⟩ := ob_e e
      refine ⟨q3, ?_⟩
      obtain ⟨z4, h3, e4, e⟩ := bI_e e
      refine ⟨z4, h3, (tX5_at e4 (by omega)), ?_⟩
      refine ⟨fun c5 => ?_, fun c5 => ?_⟩
      · have e := if_t e c5
        exact hrec _ _ _ _ _ _ e
      · have e := if_f e c5
        obtain ⟨q6, e⟩ := ob_e e
        refine ⟨q6, ?_⟩
        obtain ⟨z9, h8, e7, e⟩ := bI_e e
        refine ⟨z9, h8, (tX5_at e7 (by omega)), ?_⟩
        exact hrec _ _ _ _ _ _ e
def sX8_namedNodes  (rec : Nat → List Value → List Value → Hp → RS) (pc : Nat) (loc st : List Value) (h : Hp) : RS := match pc, loc, st with
  | 5, [.ref r0, .int x1, .int x2, .int x3, .int x4, _, _], [] => kX8_namedNodes_5 rec  r0 x1 x2 x3 x4 h
  | 33, [.ref r0, .int x1, .int x2, .int x3, .int x4, .int x5, .int x6], [] => kX8_namedNodes_33 rec  r0 x1 x2 x3 x4 x5 x6 h
  | _, _, _ => none
def gX8_namedNodes  : Nat → Nat → List Value → List Value → Hp → RS
  | 0 => fun _ _ _ _ => none
  | n + 1 => sX8_namedNodes  (gX8_namedNodes  n)
theorem wX8_namedNodes {G : GG} {d : Nat} (hd : 2 ≤ d)   : ∀ (n pc : Nat) (loc st : List Value) (h : Hp) (o : OU) (h' : Hp), gX8_namedNodes  n pc loc st h = some (o, h') → V G mX8_namedNodes d pc loc st h o h' := by
  intro n
  induction n with
  | zero => intro pc loc st h o h' e; cases e
  | succ n ih =>
    intro pc loc st h o h' e
    unfold gX8_namedNodes sX8_namedNodes at e
    split at e
    · exact V.drop (llp_r (llp_r (llp_r (llp_r (llp_r (llp_u (llp_u llp_nil))))))) (uX8_namedNodes_5 hd _ ih   e)
    · exact uX8_namedNodes_33 hd _ ih   e
    · cases e
theorem zX8_namedNodes_5  (n : Nat) (r0 : Nat) (x1 : Int32) (x2 : Int32) (x3 : Int32) (x4 : Int32) (y5 : Value) (y6 : Value) (h : Hp) : gX8_namedNodes  (n + 1) 5 [.ref r0, .int x1, .int x2, .int x3, .int x4, y5, y6] [] h = kX8_namedNodes_5 (gX8_namedNodes  n)  r0 x1 x2 x3 x4 h := rfl
theorem zX8_namedNodes_33  (n : Nat) (r0 : Nat) (x1 : Int32) (x2 : Int32) (x3 : Int32) (x4 : Int32) (x5 : Int32) (x6 : Int32)  (h : Hp) : gX8_namedNodes  (n + 1) 33 [.ref r0, .int x1, .int x2, .int x3, .int x4, .int x5, .int x6] [] h = kX8_namedNodes_33 (gX8_namedNodes  n)  r0 x1 x2 x3 x4 x5 x6 h := rfl
def fX8_namedNodes (r0 : Nat) (x1 : Int32) (x2 : Int32) (h : Hp) : RS := kX8_namedNodes_0 (gX8_namedNodes FF) r0 x1 x2 h
theorem tX8_namedNodes {G : GG} {d : Nat} {r0 x1 x2} {h : Hp} {o : OU} {h' : Hp} (e : fX8_namedNodes r0 x1 x2 h = some (o, h')) (hd : 2 ≤ d) : VM G mX8_namedNodes d [.ref r0, .int x1, .int x2] h o h' := uX8_namedNodes_0 hd _ (wX8_namedNodes hd FF) e
def kX8_reachedNodes_0 (rec : Nat → List Value → List Value → Hp → RS)  (r0 : Nat) (x1 : Int32) (h : Hp) : RS := (rec 7 [.ref r0, .int x1, .int 1, .int 1, .int 0, uV, uV] [] h)
theorem uX8_reachedNodes_0 {G : GG} {d : Nat} (hd : 3 ≤ d) (rec : Nat → List Value → List Value → Hp → RS) (hrec : ∀ pc loc st h o h', rec pc loc st h = some (o, h') → V G mX8_reachedNodes d pc loc st h o h')   {r0  x1 } {h : Hp} {o : OU} {h' : Hp} (e : kX8_reachedNodes_0 rec  r0 x1 h = some (o, h')) : VM G mX8_reachedNodes d [.ref r0, .int x1] h o h' := by
  unfold kX8_reachedNodes_0 at e
  refine eX8_reachedNodes r0 x1 ?_
  exact hrec _ _ _ _ _ _ e
def kX8_reachedNodes_7 (rec : Nat → List Value → List Value → Hp → RS)  (r0 : Nat) (x1 : Int32) (x2 : Int32) (x3 : Int32) (x4 : Int32) (h : Hp) : RS := (if 12 ≤ x4 then (some (.inl (some (.int x2)), h)) else (if x3 = 0 then (some (.inl (some (.int x2)), h)) else (bI (fJ6_numberOfTrailingZeros_0f7a4 x3 h) fun z4 h3 => (bI (fX8_namedNodes r0 x1 z4 h3) fun z7 h6 => (rec 7 [.ref r0, .int x1, .int (x2 ||| (z7 &&& (x2 ^^^ (-1)))), .int ((x3 &&& (x3 - 1)) ||| (z7 &&& (x2 ^^^ (-1)))), .int (x4 + 1), uV, uV] [] h6)))))
theorem uX8_reachedNodes_7 {G : GG} {d : Nat} (hd : 3 ≤ d) (rec : Nat → List Value → List Value → Hp → RS) (hrec : ∀ pc loc st h o h', rec pc loc st h = some (o, h') → V G mX8_reachedNodes d pc loc st h o h')   {r0  x1  x2  x3  x4 } {h : Hp} {o : OU} {h' : Hp} (e : kX8_reachedNodes_7 rec  r0 x1 x2 x3 x4 h = some (o, h')) : V G mX8_reachedNodes d 7 [.ref r0, .int x1, .int x2, .int x3, .int x4, uV, uV] [] h o h' := by
  unfold kX8_reachedNodes_7 at e
  refine bX8_reachedNodes_7 r0 x1 x2 x3 x4 (by omega) ?_
  refine ⟨fun c1 => ?_, fun c1 => ?_⟩
  · have e := if_t e c1
    cases e
    exact ⟨rfl, rfl⟩
  · have e := if_f e c1
    refine ⟨fun c2 => ?_, fun c2 => ?_⟩
    · have e := if_t e c2
      cases e
      exact ⟨rfl, rfl⟩
    · have e := if_f e c2
      obtain ⟨z4, h3, e3, e⟩ := bI_e e
      refine ⟨z4, h3, (tJ6_numberOfTrailingZeros_0f7a4 e3 (by omega)), ?_⟩
      obtain ⟨z7, h6, e4, e⟩ := bI_e e
      refine ⟨z7, h6, (tX8_namedNodes e4 (by omega)), ?_⟩
      exact hrec _ _ _ _ _ _ e
def sX8_reachedNodes  (rec : Nat → List Value → List Value → Hp → RS) (pc : Nat) (loc st : List Value) (h : Hp) : RS := match pc, loc, st with
  | 7, [.ref r0, .int x1, .int x2, .int x3, .int x4, _, _], [] => kX8_reachedNodes_7 rec  r0 x1 x2 x3 x4 h
  | _, _, _ => none
def gX8_reachedNodes  : Nat → Nat → List Value → List Value → Hp → RS
  | 0 => fun _ _ _ _ => none
  | n + 1 => sX8_reachedNodes  (gX8_reachedNodes  n)
theorem wX8_reachedNodes {G : GG} {d : Nat} (hd : 3 ≤ d)   : ∀ (n pc : Nat) (loc st : List Value) (h : Hp) (o : OU) (h' : Hp), gX8_reachedNodes  n pc loc st h = some (o, h') → V G mX8_reachedNodes d pc loc st h o h' := by
  intro n
  induction n with
  | zero => intro pc loc st h o h' e; cases e
  | succ n ih =>
    intro pc loc st h o h' e
    unfold gX8_reachedNodes sX8_reachedNodes at e
    split at e
    · exact V.drop (llp_r (llp_r (llp_r (llp_r (llp_r (llp_u (llp_u llp_nil))))))) (uX8_reachedNodes_7 hd _ ih   e)
    · cases e
theorem zX8_reachedNodes_7  (n : Nat) (r0 : Nat) (x1 : Int32) (x2 : Int32) (x3 : Int32) (x4 : Int32) (y5 : Value) (y6 : Value) (h : Hp) : gX8_reachedNodes  (n + 1) 7 [.ref r0, .int x1, .int x2, .int x3, .int x4, y5, y6] [] h = kX8_reachedNodes_7 (gX8_reachedNodes  n)  r0 x1 x2 x3 x4 h := rfl
def fX8_reachedNodes (r0 : Nat) (x1 : Int32) (h : Hp) : RS := kX8_reachedNodes_0 (gX8_reachedNodes FF) r0 x1 h
theorem tX8_reachedNodes {G : GG} {d : Nat} {r0 x1} {h : Hp} {o : OU} {h' : Hp} (e : fX8_reachedNodes r0 x1 h = some (o, h')) (hd : 3 ≤ d) : VM G mX8_reachedNodes d [.ref r0, .int x1] h o h' := uX8_reachedNodes_0 hd _ (wX8_reachedNodes hd FF) e
def kX6_entryFor_0  (r0 : Nat) (r1 : Nat) (x2 : Int32) (x3 : Int32) (h : Hp) : RS := (bI (fX8_entryNamed r1 0 x2 x3 h) fun z2 h1 => (if ¬ z2 = (-1) then (some (.inl (some (.int (-1))), h1)) else (bI (fX8_reachedNodes r1 0 h1) fun z6 h5 => (if ¬ ((z6 >>> (x2 &&& 31)) &&& 1) = 0 then (bI (fX8_entryNamed r1 0 x2 0 h5) fun z10 h9 => (some (.inl (some (.int z10)), h9))) else (some (.inl (some (.int (-1))), h5))))))
theorem uX6_entryFor_0 {G : GG} {d : Nat} (hd : 4 ≤ d)   {r0  r1  x2  x3 } {h : Hp} {o : OU} {h' : Hp} (e : kX6_entryFor_0  r0 r1 x2 x3 h = some (o, h')) : VM G mX6_entryFor d [.ref r0, .ref r1, .int x2, .int x3] h o h' := by
  unfold kX6_entryFor_0 at e
  refine eX6_entryFor r0 r1 x2 x3 (by omega) ?_
  obtain ⟨z2, h1, e1, e⟩ := bI_e e
  refine ⟨z2, h1, (tX8_entryNamed e1 (by omega)), ?_⟩
  refine ⟨fun c2 => ?_, fun c2 => ?_⟩
  · have e := if_t e c2
    cases e
    exact ⟨rfl, rfl⟩
  · have e := if_n e c2
    obtain ⟨z6, h5, e3, e⟩ := bI_e e
    refine ⟨z6, h5, (tX8_reachedNodes e3 (by omega)), ?_⟩
    refine ⟨fun c4 => ?_, fun c4 => ?_⟩
    · have e := if_t e c4
      obtain ⟨z10, h9, e5, e⟩ := bI_e e
      refine ⟨z10, h9, (tX8_entryNamed e5 (by omega)), ?_⟩
      cases e
      exact ⟨rfl, rfl⟩
    · have e := if_n e c4
      cases e
      exact ⟨rfl, rfl⟩
def fX6_entryFor (r0 : Nat) (r1 : Nat) (x2 : Int32) (x3 : Int32) (h : Hp) : RS := kX6_entryFor_0 r0 r1 x2 x3 h
theorem tX6_entryFor {G : GG} {d : Nat} {r0 r1 x2 x3} {h : Hp} {o : OU} {h' : Hp} (e : fX6_entryFor r0 r1 x2 x3 h = some (o, h')) (hd : 4 ≤ d) : VM G mX6_entryFor d [.ref r0, .ref r1, .int x2, .int x3] h o h' := uX6_entryFor_0 hd e
def kX6_freeNode_0 (rec : Nat → List Value → List Value → Hp → RS)  (r0 : Nat) (r1 : Nat) (h : Hp) : RS := (rec 2 [uV, .ref r1, .int 0] [] h)
theorem uX6_freeNode_0 {G : GG} {d : Nat} (hd : 2 ≤ d) (rec : Nat → List Value → List Value → Hp → RS) (hrec : ∀ pc loc st h o h', rec pc loc st h = some (o, h') → V G mX6_freeNode d pc loc st h o h')   {r0  r1 } {h : Hp} {o : OU} {h' : Hp} (e : kX6_freeNode_0 rec  r0 r1 h = some (o, h')) : VM G mX6_freeNode d [.ref r0, .ref r1] h o h' := by
  unfold kX6_freeNode_0 at e
  refine eX6_freeNode r0 r1 ?_
  exact hrec _ _ _ _ _ _ e
def kX6_freeNode_2 (rec : Nat → List Value → List Value → Hp → RS)  (r1 : Nat) (x2 : Int32) (h : Hp) : RS := (if 12 ≤ x2 then (some (.inl (some (.int (-1))), h)) else (if kH h r1 = 15 then (bI (fX5_nodeField r1 0 x2 0 h) fun z3 h2 => (if ¬ z3 = 0 then (rec 2 [uV, .ref r1, .int (x2 + 1)] [] h2) else (if kH h2 r1 = 15 then (bI (fX5_nodeField r1 0 x2 1 h2) fun z8 h7 => (if ¬ z8 = 0 then (rec 2 [uV, .ref r1, .int (x2 + 1)] [] h7) else (some (.inl (some (.int x2)), h7)))) else none))) else none))
theorem uX6_freeNode_2 {G : GG} {d : Nat} (hd : 2 ≤ d) (rec : Nat → List Value → List Value → Hp → RS) (hrec : ∀ pc loc st h o h', rec pc loc st h = some (o, h') → V G mX6_freeNode d pc loc st h o h')   {r1  x2 } {h : Hp} {o : OU} {h' : Hp} (e : kX6_freeNode_2 rec  r1 x2 h = some (o, h')) : V G mX6_freeNode d 2 [uV, .ref r1, .int x2] [] h o h' := by
  unfold kX6_freeNode_2 at e
  refine bX6_freeNode_2 r1 x2 (by omega) ?_
  refine ⟨fun c1 => ?_, fun c1 => ?_⟩
  · have e := if_t e c1
    cases e
    exact ⟨rfl, rfl⟩
  · have e := if_f e c1
    obtain ⟨q2, e⟩ := ob_e e
    refine ⟨q2, ?_⟩
    obtain ⟨z3, h2, e3, e⟩ := bI_e e
    refine ⟨z3, h2, (tX5_nodeField e3 (by omega)), ?_⟩
    refine ⟨fun c4 => ?_, fun c4 => ?_⟩
    · have e := if_t e c4
      exact hrec _ _ _ _ _ _ e
    · have e := if_n e c4
      obtain ⟨q5, e⟩ := ob_e e
      refine ⟨q5, ?_⟩
      obtain ⟨z8, h7, e6, e⟩ := bI_e e
      refine ⟨z8, h7, (tX5_nodeField e6 (by omega)), ?_⟩
      refine ⟨fun c7 => ?_, fun c7 => ?_⟩
      · have e := if_t e c7
        exact hrec _ _ _ _ _ _ e
      · have e := if_n e c7
        cases e
        exact ⟨rfl, rfl⟩
def sX6_freeNode  (rec : Nat → List Value → List Value → Hp → RS) (pc : Nat) (loc st : List Value) (h : Hp) : RS := match pc, loc, st with
  | 2, [_, .ref r1, .int x2], [] => kX6_freeNode_2 rec  r1 x2 h
  | _, _, _ => none
def gX6_freeNode  : Nat → Nat → List Value → List Value → Hp → RS
  | 0 => fun _ _ _ _ => none
  | n + 1 => sX6_freeNode  (gX6_freeNode  n)
theorem wX6_freeNode {G : GG} {d : Nat} (hd : 2 ≤ d)   : ∀ (n pc : Nat) (loc st : List Value) (h : Hp) (o : OU) (h' : Hp), gX6_freeNode  n pc loc st h = some (o, h') → V G mX6_freeNode d pc loc st h o h' := by
  intro n
  induction n with
  | zero => intro pc loc st h o h' e; cases e
  | succ n ih =>
    intro pc loc st h o h' e
    unfold gX6_freeNode sX6_freeNode at e
    split at e
    · exact V.drop (llp_u (llp_r (llp_r llp_nil))) (uX6_freeNode_2 hd _ ih   e)
    · cases e
theorem zX6_freeNode_2  (n : Nat) (r1 : Nat) (x2 : Int32) (y0 : Value) (h : Hp) : gX6_freeNode  (n + 1) 2 [y0, .ref r1, .int x2] [] h = kX6_freeNode_2 (gX6_freeNode  n)  r1 x2 h := rfl
def fX6_freeNode (r0 : Nat) (r1 : Nat) (h : Hp) : RS := kX6_freeNode_0 (gX6_freeNode FF) r0 r1 h
theorem tX6_freeNode {G : GG} {d : Nat} {r0 r1} {h : Hp} {o : OU} {h' : Hp} (e : fX6_freeNode r0 r1 h = some (o, h')) (hd : 2 ≤ d) : VM G mX6_freeNode d [.ref r0, .ref r1] h o h' := uX6_freeNode_0 hd _ (wX6_freeNode hd FF) e
def kX6_nameEntry_0  (r0 : Nat) (r1 : Nat) (x2 : Int32) (x3 : Int32) (x4 : Int32) (h : Hp) : RS := (if kH h r1 = 15 then (bI (fX5_latestOf r1 (x2 / 8) ((x2 - x2 / 8 * 8) * 2) h) fun z2 h1 => (if kH h1 r1 = 15 then (bI (fX5_put r1 (x2 / 8) (((x2 - x2 / 8 * 8) * 2) + 1) x3 h1) fun z6 h5 => (if kH h5 r1 = 15 then (bV (fX5_need r1 z6 z2 h5) fun h9 => (if kH h9 r1 = 15 then (bI (fX5_put r1 (x2 / 8) ((x2 - x2 / 8 * 8) * 2) x4 h9) fun z13 h12 => (if kH h12 r1 = 15 then (bV (fX5_need r1 z13 z6 h12) fun h16 => (some (.inl (some (.int z13)), h16))) else none)) else none)) else none)) else none)) else none)
theorem uX6_nameEntry_0 {G : GG} {d : Nat} (hd : 2 ≤ d)   {r0  r1  x2  x3  x4 } {h : Hp} {o : OU} {h' : Hp} (e : kX6_nameEntry_0  r0 r1 x2 x3 x4 h = some (o, h')) : VM G mX6_nameEntry d [.ref r0, .ref r1, .int x2, .int x3, .int x4] h o h' := by
  unfold kX6_nameEntry_0 at e
  refine eX6_nameEntry r0 r1 x2 x3 x4 (by omega) ?_
  obtain ⟨q1, e⟩ := ob_e e
  refine ⟨q1, ?_⟩
  obtain ⟨z2, h1, e2, e⟩ := bI_e e
  refine ⟨z2, h1, (tX5_latestOf e2 (by omega)), ?_⟩
  obtain ⟨q3, e⟩ := ob_e e
  refine ⟨q3, ?_⟩
  obtain ⟨z6, h5, e4, e⟩ := bI_e e
  refine ⟨z6, h5, (tX5_put e4 (by omega)), ?_⟩
  obtain ⟨q5, e⟩ := ob_e e
  refine ⟨q5, ?_⟩
  obtain ⟨h9, e6, e⟩ := bV_e e
  refine ⟨h9, (tX5_need e6 (by omega)), ?_⟩
  obtain ⟨q7, e⟩ := ob_e e
  refine ⟨q7, ?_⟩
  obtain ⟨z13, h12, e8, e⟩ := bI_e e
  refine ⟨z13, h12, (tX5_put e8 (by omega)), ?_⟩
  obtain ⟨q9, e⟩ := ob_e e
  refine ⟨q9, ?_⟩
  obtain ⟨h16, e10, e⟩ := bV_e e
  refine ⟨h16, (tX5_need e10 (by omega)), ?_⟩
  cases e
  exact ⟨rfl, rfl⟩
def fX6_nameEntry (r0 : Nat) (r1 : Nat) (x2 : Int32) (x3 : Int32) (x4 : Int32) (h : Hp) : RS := kX6_nameEntry_0 r0 r1 x2 x3 x4 h
theorem tX6_nameEntry {G : GG} {d : Nat} {r0 r1 x2 x3 x4} {h : Hp} {o : OU} {h' : Hp} (e : fX6_nameEntry r0 r1 x2 x3 x4 h = some (o, h')) (hd : 2 ≤ d) : VM G mX6_nameEntry d [.ref r0, .ref r1, .int x2, .int x3, .int x4] h o h' := uX6_nameEntry_0 hd e
def kX6_makeFile_0  (r0 : Nat) (r1 : Nat) (x2 : Int32) (x3 : Int32) (h : Hp) : RS := (if kH h r0 = 16 then (bI (fX6_entryFor r0 r1 x2 x3 h) fun z2 h1 => (if kH h1 r0 = 16 then (bI (fX6_freeNode r0 r1 h1) fun z6 h5 => (if z2 = (-1) then (some (.inl (some (.int 0)), h5)) else (if ¬ z6 = (-1) then (if kH h5 r1 = 15 then (bI (fX5_putField r1 z6 0 1 h5) fun z12 h11 => (if kH h11 r1 = 15 then (bI (fX5_putField r1 z6 1 1 h11) fun z16 h15 => (if kH h15 r0 = 16 then (bI (fX6_nameEntry r0 r1 z2 z6 x3 h15) fun z20 h19 => (if kH h19 r1 = 15 then (bV (fX5_need r1 z20 z12 h19) fun h23 => (if kH h23 r1 = 15 then (bV (fX5_need r1 z20 z16 h23) fun h26 => (some (.inl (some (.int 1)), h26))) else none)) else none)) else none)) else none)) else none) else (some (.inl (some (.int 0)), h5))))) else none)) else none)
theorem uX6_makeFile_0 {G : GG} {d : Nat} (hd : 5 ≤ d)   {r0  r1  x2  x3 } {h : Hp} {o : OU} {h' : Hp} (e : kX6_makeFile_0  r0 r1 x2 x3 h = some (o, h')) : VM G mX6_makeFile d [.ref r0, .ref r1, .int x2, .int x3] h o h' := by
  unfold kX6_makeFile_0 at e
  refine eX6_makeFile r0 r1 x2 x3 (by omega) ?_
  obtain ⟨q1, e⟩ := ob_e e
  refine ⟨q1, ?_⟩
  obtain ⟨z2, h1, e2, e⟩ := bI_e e
  refine ⟨z2, h1, (tX6_entryFor e2 (by omega)), ?_⟩
  obtain ⟨q3, e⟩ := ob_e e
  refine ⟨q3, ?_⟩
  obtain ⟨z6, h5, e4, e⟩ := bI_e e
  refine ⟨z6, h5, (tX6_freeNode e4 (by omega)), ?_⟩
  refine ⟨fun c5 => ?_, fun c5 => ?_⟩
  · have e := if_t e c5
    cases e
    exact ⟨rfl, rfl⟩
  · have e := if_f e c5
    refine ⟨fun c6 => ?_, fun c6 => ?_⟩
    · have e := if_t e c6
      obtain ⟨q7, e⟩ := ob_e e
      refine ⟨q7, ?_⟩
      obtain ⟨z12, h11, e8, e⟩ := bI_e e
      refine ⟨z12, h11, (tX5_putField e8 (by omega)), ?_⟩
      obtain ⟨q9, e⟩ := ob_e e
      refine ⟨q9, ?_⟩
      obtain ⟨z16, h15, e10, e⟩ := bI_e e
      refine ⟨z16, h15, (tX5_putField e10 (by omega)), ?_⟩
      obtain ⟨q11, e⟩ := ob_e e
      refine ⟨q11, ?_⟩
      obtain ⟨z20, h19, e12, e⟩ := bI_e e
      refine ⟨z20, h19, (tX6_nameEntry e12 (by omega)), ?_⟩
      obtain ⟨q13, e⟩ := ob_e e
      refine ⟨q13, ?_⟩
      obtain ⟨h23, e14, e⟩ := bV_e e
      refine ⟨h23, (tX5_need e14 (by omega)), ?_⟩
      obtain ⟨q15, e⟩ := ob_e e
      refine ⟨q15, ?_⟩
      obtain ⟨h26, e16, e⟩ := bV_e e
      refine ⟨h26, (tX5_need e16 (by omega)), ?_⟩
      cases e
      exact ⟨rfl, rfl⟩
    · have e := if_n e c6
      cases e
      exact ⟨rfl, rfl⟩
def fX6_makeFile (r0 : Nat) (r1 : Nat) (x2 : Int32) (x3 : Int32) (h : Hp) : RS := kX6_makeFile_0 r0 r1 x2 x3 h
theorem tX6_makeFile {G : GG} {d : Nat} {r0 r1 x2 x3} {h : Hp} {o : OU} {h' : Hp} (e : fX6_makeFile r0 r1 x2 x3 h = some (o, h')) (hd : 5 ≤ d) : VM G mX6_makeFile d [.ref r0, .ref r1, .int x2, .int x3] h o h' := uX6_makeFile_0 hd e
def kX6_freeBlock_0 (rec : Nat → List Value → List Value → Hp → RS)  (r0 : Nat) (r1 : Nat) (h : Hp) : RS := (rec 2 [uV, .ref r1, .int 4] [] h)
theorem uX6_freeBlock_0 {G : GG} {d : Nat} (hd : 2 ≤ d) (rec : Nat → List Value → List Value → Hp → RS) (hrec : ∀ pc loc st h o h', rec pc loc st h = some (o, h') → V G mX6_freeBlock d pc loc st h o h')   {r0  r1 } {h : Hp} {o : OU} {h' : Hp} (e : kX6_freeBlock_0 rec  r0 r1 h = some (o, h')) : VM G mX6_freeBlock d [.ref r0, .ref r1] h o h' := by
  unfold kX6_freeBlock_0 at e
  refine eX6_freeBlock r0 r1 ?_
  exact hrec _ _ _ _ _ _ e
def kX6_freeBlock_2 (rec : Nat → List Value → List Value → Hp → RS)  (r1 : Nat) (x2 : Int32) (h : Hp) : RS := (if kH h r1 = 15 then (if (h.2 r1 0) ≤ x2 then (some (.inl (some (.int (-1))), h)) else (bI (fX5_at r1 0 0 x2 h) fun z4 h3 => (if ¬ z4 = 0 then (rec 2 [uV, .ref r1, .int (x2 + 1)] [] h3) else (some (.inl (some (.int x2)), h3))))) else none)
theorem uX6_freeBlock_2 {G : GG} {d : Nat} (hd : 2 ≤ d) (rec : Nat → List Value → List Value → Hp → RS) (hrec : ∀ pc loc st h o h', rec pc loc st h = some (o, h') → V G mX6_freeBlock d pc loc st h o h')   {r1  x2 } {h : Hp} {o : OU} {h' : Hp} (e : kX6_freeBlock_2 rec  r1 x2 h = some (o, h')) : V G mX6_freeBlock d 2 [uV, .ref r1, .int x2] [] h o h' := by
  unfold kX6_freeBlock_2 at e
  refine bX6_freeBlock_2 r1 x2 (by omega) ?_
  obtain ⟨q1, e⟩ := ob_e e
  refine ⟨q1, ?_⟩
  refine ⟨fun c2 => ?_, fun c2 => ?_⟩
  · have e := if_t e c2
    cases e
    exact ⟨rfl, rfl⟩
  · have e := if_f e c2
    obtain ⟨z4, h3, e3, e⟩ := bI_e e
    refine ⟨z4, h3, (tX5_at e3 (by omega)), ?_⟩
    refine ⟨fun c4 => ?_, fun c4 => ?_⟩
    · have e := if_t e c4
      exact hrec _ _ _ _ _ _ e
    · have e := if_n e c4
      cases e
      exact ⟨rfl, rfl⟩
def sX6_freeBlock  (rec : Nat → List Value → List Value → Hp → RS) (pc : Nat) (loc st : List Value) (h : Hp) : RS := match pc, loc, st with
  | 2, [_, .ref r1, .int x2], [] => kX6_freeBlock_2 rec  r1 x2 h
  | _, _, _ => none
def gX6_freeBlock  : Nat → Nat → List Value → List Value → Hp → RS
  | 0 => fun _ _ _ _ => none
  | n + 1 => sX6_freeBlock  (gX6_freeBlock  n)
theorem wX6_freeBlock {G : GG} {d : Nat} (hd : 2 ≤ d)   : ∀ (n pc : Nat) (loc st : List Value) (h : Hp) (o : OU) (h' : Hp), gX6_freeBlock  n pc loc st h = some (o, h') → V G mX6_freeBlock d pc loc st h o h' := by
  intro n
  induction n with
  | zero => intro pc loc st h o h' e; cases e
  | succ n ih =>
    intro pc loc st h o h' e
    unfold gX6_freeBlock sX6_freeBlock at e
    split at e
    · exact V.drop (llp_u (llp_r (llp_r llp_nil))) (uX6_freeBlock_2 hd _ ih   e)
    · cases e
theorem zX6_freeBlock_2  (n : Nat) (r1 : Nat) (x2 : Int32) (y0 : Value) (h : Hp) : gX6_freeBlock  (n + 1) 2 [y0, .ref r1, .int x2] [] h = kX6_freeBlock_2 (gX6_freeBlock  n)  r1 x2 h := rfl
def fX6_freeBlock (r0 : Nat) (r1 : Nat) (h : Hp) : RS := kX6_freeBlock_0 (gX6_freeBlock FF) r0 r1 h
theorem tX6_freeBlock {G : GG} {d : Nat} {r0 r1} {h : Hp} {o : OU} {h' : Hp} (e : fX6_freeBlock r0 r1 h = some (o, h')) (hd : 2 ≤ d) : VM G mX6_freeBlock d [.ref r0, .ref r1] h o h' := uX6_freeBlock_0 hd _ (wX6_freeBlock hd FF) e
def kX6_giveBlock_0  (r0 : Nat) (r1 : Nat) (x2 : Int32) (x3 : Int32) (x4 : Int32) (x5 : Int32) (h : Hp) : RS := (if kH h r1 = 15 then (bI (fX5_put r1 0 x4 1 h) fun z2 h1 => (if kH h1 r1 = 15 then (bI (fX5_put r1 x4 16 x5 h1) fun z6 h5 => (if kH h5 r1 = 15 then (bI (fX5_putField r1 x2 x3 x4 h5) fun z10 h9 => (if kH h9 r1 = 15 then (bV (fX5_need r1 z10 z2 h9) fun h13 => (if ¬ z6 = (-1) then (if kH h13 r1 = 15 then (bV (fX5_need r1 z10 z6 h13) fun h17 => (some (.inl (some (.int z10)), h17))) else none) else (if kH h13 r1 = 15 then (bV (fX5_needAllOf r1 z10 x4 h13) fun h20 => (some (.inl (some (.int z10)), h20))) else none))) else none)) else none)) else none)) else none)
theorem uX6_giveBlock_0 {G : GG} {d : Nat} (hd : 3 ≤ d)   {r0  r1  x2  x3  x4  x5 } {h : Hp} {o : OU} {h' : Hp} (e : kX6_giveBlock_0  r0 r1 x2 x3 x4 x5 h = some (o, h')) : VM G mX6_giveBlock d [.ref r0, .ref r1, .int x2, .int x3, .int x4, .int x5] h o h' := by
  unfold kX6_giveBlock_0 at e
  refine eX6_giveBlock r0 r1 x2 x3 x4 x5 (by omega) ?_
  obtain ⟨q1, e⟩ := ob_e e
  refine ⟨q1, ?_⟩
  obtain ⟨z2, h1, e2, e⟩ := bI_e e
  refine ⟨z2, h1, (tX5_put e2 (by omega)), ?_⟩
  obtain ⟨q3, e⟩ := ob_e e
  refine ⟨q3, ?_⟩
  obtain ⟨z6, h5, e4, e⟩ := bI_e e
  refine ⟨z6, h5, (tX5_put e4 (by omega)), ?_⟩
  obtain ⟨q5, e⟩ := ob_e e
  refine ⟨q5, ?_⟩
  obtain ⟨z10, h9, e6, e⟩ := bI_e e
  refine ⟨z10, h9, (tX5_putField e6 (by omega)), ?_⟩
  obtain ⟨q7, e⟩ := ob_e e
  refine ⟨q7, ?_⟩
  obtain ⟨h13, e8, e⟩ := bV_e e
  refine ⟨h13, (tX5_need e8 (by omega)), ?_⟩
  refine ⟨fun c9 => ?_, fun c9 => ?_⟩
  · have e := if_t e c9
    obtain ⟨q10, e⟩ := ob_e e
    refine ⟨q10, ?_⟩
    obtain ⟨h17, e11, e⟩ := bV_e e
    refine ⟨h17, (tX5_need e11 (by omega)), ?_⟩
    cases e
    exact ⟨rfl, rfl⟩
  · have e := if_n e c9
    obtain ⟨q12, e⟩ := ob_e e
    refine ⟨q12, ?_⟩
    obtain ⟨h20, e13, e⟩ := bV_e e
    refine ⟨h20, (tX5_needAllOf e13 (by omega)), ?_⟩
    cases e
    exact ⟨rfl, rfl⟩
def fX6_giveBlock (r0 : Nat) (r1 : Nat) (x2 : Int32) (x3 : Int32) (x4 : Int32) (x5 : Int32) (h : Hp) : RS := kX6_giveBlock_0 r0 r1 x2 x3 x4 x5 h
theorem tX6_giveBlock {G : GG} {d : Nat} {r0 r1 x2 x3 x4 x5} {h : Hp} {o : OU} {h' : Hp} (e : fX6_giveBlock r0 r1 x2 x3 x4 x5 h = some (o, h')) (hd : 3 ≤ d) : VM G mX6_giveBlock d [.ref r0, .ref r1, .int x2, .int x3, .int x4, .int x5] h o h' := uX6_giveBlock_0 hd e
def kX6_makeDirectory_0  (r0 : Nat) (r1 : Nat) (x2 : Int32) (x3 : Int32) (h : Hp) : RS := (if kH h r0 = 16 then (bI (fX6_entryFor r0 r1 x2 x3 h) fun z2 h1 => (if kH h1 r0 = 16 then (bI (fX6_freeNode r0 r1 h1) fun z6 h5 => (if kH h5 r0 = 16 then (bI (fX6_freeBlock r0 r1 h5) fun z10 h9 => (if z2 = (-1) then (some (.inl (some (.int 0)), h9)) else (if z6 = (-1) then (some (.inl (some (.int 0)), h9)) else (if ¬ z10 = (-1) then (if kH h9 r1 = 15 then (bI (fX5_putField r1 z6 0 1 h9) fun z17 h16 => (if kH h16 r1 = 15 then (bI (fX5_putField r1 z6 1 2 h16) fun z21 h20 => (if kH h20 r0 = 16 then (bI (fX6_giveBlock r0 r1 z6 2 z10 0 h20) fun z25 h24 => (if kH h24 r0 = 16 then (bI (fX6_nameEntry r0 r1 z2 z6 x3 h24) fun z29 h28 => (if kH h28 r1 = 15 then (bV (fX5_need r1 z29 z17 h28) fun h32 => (if kH h32 r1 = 15 then (bV (fX5_need r1 z29 z21 h32) fun h35 => (if kH h35 r1 = 15 then (bV (fX5_need r1 z29 z25 h35) fun h38 => (some (.inl (some (.int 1)), h38))) else none)) else none)) else none)) else none)) else none)) else none)) else none) else (some (.inl (some (.int 0)), h9)))))) else none)) else none)) else none)
theorem uX6_makeDirectory_0 {G : GG} {d : Nat} (hd : 5 ≤ d)   {r0  r1  x2  x3 } {h : Hp} {o : OU} {h' : Hp} (e : kX6_makeDirectory_0  r0 r1 x2 x3 h = some (o, h')) : VM G mX6_makeDirectory d [.ref r0, .ref r1, .int x2, .int x3] h o h' := by
  unfold kX6_makeDirectory_0 at e
  refine eX6_makeDirectory r0 r1 x2 x3 (by omega) ?_
  obtain ⟨q1, e⟩ := ob_e e
  refine ⟨q1, ?_⟩
  obtain ⟨z2, h1, e2, e⟩ := bI_e e
  refine ⟨z2, h1, (tX6_entryFor e2 (by omega)), ?_⟩
  obtain ⟨q3, e⟩ := ob_e e
  refine ⟨q3, ?_⟩
  obtain ⟨z6, h5, e4, e⟩ := bI_e e
  refine ⟨z6, h5, (tX6_freeNode e4 (by omega)), ?_⟩
  obtain ⟨q5, e⟩ := ob_e e
  refine ⟨q5, ?_⟩
  obtain ⟨z10, h9, e6, e⟩ := bI_e e
  refine ⟨z10, h9, (tX6_freeBlock e6 (by omega)), ?_⟩
  refine ⟨fun c7 => ?_, fun c7 => ?_⟩
  · have e := if_t e c7
    cases e
    exact ⟨rfl, rfl⟩
  · have e := if_f e c7
    refine ⟨fun c8 => ?_, fun c8 => ?_⟩
    · have e := if_t e c8
      cases e
      exact ⟨rfl, rfl⟩
    · have e := if_f e c8
      refine ⟨fun c9 => ?_, fun c9 => ?_⟩
      · have e := if_t e c9
        obtain ⟨q10, e⟩ := ob_e e
        refine ⟨q10, ?_⟩
        obtain ⟨z17, h16, e11, e⟩ := bI_e e
        refine ⟨z17, h16, (tX5_putField e11 (by omega)), ?_⟩
        obtain ⟨q12, e⟩ := ob_e e
        refine ⟨q12, ?_⟩
        obtain ⟨z21, h20, e13, e⟩ := bI_e e
        refine ⟨z21, h20, (tX5_putField e13 (by omega)), ?_⟩
        obtain ⟨q14, e⟩ := ob_e e
        refine ⟨q14, ?_⟩
        obtain ⟨z25, h24, e15, e⟩ := bI_e e
        refine ⟨z25, h24, (tX6_giveBlock e15 (by omega)), ?_⟩
        obtain ⟨q16, e⟩ := ob_e e
        refine ⟨q16, ?_⟩
        obtain ⟨z29, h28, e17, e⟩ := bI_e e
        refine ⟨z29, h28, (tX6_nameEntry e17 (by omega)), ?_⟩
        obtain ⟨q18, e⟩ := ob_e e
        refine ⟨q18, ?_⟩
        obtain ⟨h32, e19, e⟩ := bV_e e
        refine ⟨h32, (tX5_need e19 (by omega)), ?_⟩
        obtain ⟨q20, e⟩ := ob_e e
        refine ⟨q20, ?_⟩
        obtain ⟨h35, e21, e⟩ := bV_e e
        refine ⟨h35, (tX5_need e21 (by omega)), ?_⟩
        obtain ⟨q22, e⟩ := ob_e e
        refine ⟨q22, ?_⟩
        obtain ⟨h38, e23, e⟩ := bV_e e
        refine ⟨h38, (tX5_need e23 (by omega)), ?_⟩
        cases e
        exact ⟨rfl, rfl⟩
      · have e := if_n e c9
        cases e
        exact ⟨rfl, rfl⟩
def fX6_makeDirectory (r0 : Nat) (r1 : Nat) (x2 : Int32) (x3 : Int32) (h : Hp) : RS := kX6_makeDirectory_0 r0 r1 x2 x3 h
theorem tX6_makeDirectory {G : GG} {d : Nat} {r0 r1 x2 x3} {h : Hp} {o : OU} {h' : Hp} (e : fX6_makeDirectory r0 r1 x2 x3 h = some (o, h')) (hd : 5 ≤ d) : VM G mX6_makeDirectory d [.ref r0, .ref r1, .int x2, .int x3] h o h' := uX6_makeDirectory_0 hd e
def kX6_isFile_0  (r0 : Nat) (r1 : Nat) (x2 : Int32) (h : Hp) : RS := (if kH h r1 = 15 then (bI (fX5_nodeField r1 0 x2 0 h) fun z2 h1 => (if z2 = 0 then (some (.inl (some (.int 0)), h1)) else (if kH h1 r1 = 15 then (bI (fX5_nodeField r1 0 x2 1 h1) fun z7 h6 => (if ¬ z7 = 1 then (some (.inl (some (.int 0)), h6)) else (some (.inl (some (.int 1)), h6)))) else none))) else none)
theorem uX6_isFile_0 {G : GG} {d : Nat} (hd : 2 ≤ d)   {r0  r1  x2 } {h : Hp} {o : OU} {h' : Hp} (e : kX6_isFile_0  r0 r1 x2 h = some (o, h')) : VM G mX6_isFile d [.ref r0, .ref r1, .int x2] h o h' := by
  unfold kX6_isFile_0 at e
  refine eX6_isFile r0 r1 x2 (by omega) ?_
  obtain ⟨q1, e⟩ := ob_e e
  refine ⟨q1, ?_⟩
  obtain ⟨z2, h1, e2, e⟩ := bI_e e
  refine ⟨z2, h1, (tX5_nodeField e2 (by omega)), ?_⟩
  refine ⟨fun c3 => ?_, fun c3 => ?_⟩
  · have e := if_t e c3
    cases e
    exact ⟨rfl, rfl⟩
  · have e := if_f e c3
    obtain ⟨q4, e⟩ := ob_e e
    refine ⟨q4, ?_⟩
    obtain ⟨z7, h6, e5, e⟩ := bI_e e
    refine ⟨z7, h6, (tX5_nodeField e5 (by omega)), ?_⟩
    refine ⟨fun c6 => ?_, fun c6 => ?_⟩
    · have e := if_t e c6
      cases e
      exact ⟨rfl, rfl⟩
    · have e := if_n e c6
      cases e
      exact ⟨rfl, rfl⟩
def fX6_isFile (r0 : Nat) (r1 : Nat) (x2 : Int32) (h : Hp) : RS := kX6_isFile_0 r0 r1 x2 h
theorem tX6_isFile {G : GG} {d : Nat} {r0 r1 x2} {h : Hp} {o : OU} {h' : Hp} (e : fX6_isFile r0 r1 x2 h = some (o, h')) (hd : 2 ≤ d) : VM G mX6_isFile d [.ref r0, .ref r1, .int x2] h o h' := uX6_isFile_0 hd e
def kX6_linkFile_0  (r0 : Nat) (r1 : Nat) (x2 : Int32) (x3 : Int32) (x4 : Int32) (h : Hp) : RS := (if kH h r0 = 16 then (bI (fX6_entryFor r0 r1 x2 x3 h) fun z2 h1 => (if kH h1 r1 = 15 then (bI (fX5_nodeField r1 0 x4 0 h1) fun z6 h5 => (if z2 = (-1) then (some (.inl (some (.int 0)), h5)) else (if kH h5 r0 = 16 then (bI (fX6_isFile r0 r1 x4 h5) fun z11 h10 => (if z11 = 0 then (some (.inl (some (.int 0)), h10)) else (if z6 ≤ 8 then (if kH h10 r1 = 15 then (bI (fX5_putField r1 x4 0 (z6 + 1) h10) fun z17 h16 => (if kH h16 r0 = 16 then (bI (fX6_nameEntry r0 r1 z2 x4 x3 h16) fun z21 h20 => (if kH h20 r1 = 15 then (bV (fX5_need r1 z21 z17 h20) fun h24 => (some (.inl (some (.int 1)), h24))) else none)) else none)) else none) else (some (.inl (some (.int 0)), h10))))) else none))) else none)) else none)
theorem uX6_linkFile_0 {G : GG} {d : Nat} (hd : 5 ≤ d)   {r0  r1  x2  x3  x4 } {h : Hp} {o : OU} {h' : Hp} (e : kX6_linkFile_0  r0 r1 x2 x3 x4 h = some (o, h')) : VM G mX6_linkFile d [.ref r0, .ref r1, .int x2, .int x3, .int x4] h o h' := by
  unfold kX6_linkFile_0 at e
  refine eX6_linkFile r0 r1 x2 x3 x4 (by omega) ?_
  obtain ⟨q1, e⟩ := ob_e e
  refine ⟨q1, ?_⟩
  obtain ⟨z2, h1, e2, e⟩ := bI_e e
  refine ⟨z2, h1, (tX6_entryFor e2 (by omega)), ?_⟩
  obtain ⟨q3, e⟩ := ob_e e
  refine ⟨q3, ?_⟩
  obtain ⟨z6, h5, e4, e⟩ := bI_e e
  refine ⟨z6, h5, (tX5_nodeField e4 (by omega)), ?_⟩
  refine ⟨fun c5 => ?_, fun c5 => ?_⟩
  · have e := if_t e c5
    cases e
    exact ⟨rfl, rfl⟩
  · have e := if_f e c5
    obtain ⟨q6, e⟩ := ob_e e
    refine ⟨q6, ?_⟩
    obtain ⟨z11, h10, e7, e⟩ := bI_e e
    refine ⟨z11, h10, (tX6_isFile e7 (by omega)), ?_⟩
    refine ⟨fun c8 => ?_, fun c8 => ?_⟩
    · have e := if_t e c8
      cases e
      exact ⟨rfl, rfl⟩
    · have e := if_f e c8
      refine ⟨fun c9 => ?_, fun c9 => ?_⟩
      · have e := if_t e c9
        obtain ⟨q10, e⟩ := ob_e e
        refine ⟨q10, ?_⟩
        obtain ⟨z17, h16, e11, e⟩ := bI_e e
        refine ⟨z17, h16, (tX5_putField e11 (by omega)), ?_⟩
        obtain ⟨q12, e⟩ := ob_e e
        refine ⟨q12, ?_⟩
        obtain ⟨z21, h20, e13, e⟩ := bI_e e
        refine ⟨z21, h20, (tX6_nameEntry e13 (by omega)), ?_⟩
        obtain ⟨q14, e⟩ := ob_e e
        refine ⟨q14, ?_⟩
        obtain ⟨h24, e15, e⟩ := bV_e e
        refine ⟨h24, (tX5_need e15 (by omega)), ?_⟩
        cases e
        exact ⟨rfl, rfl⟩
      · have e := if_f e c9
        cases e
        exact ⟨rfl, rfl⟩
def fX6_linkFile (r0 : Nat) (r1 : Nat) (x2 : Int32) (x3 : Int32) (x4 : Int32) (h : Hp) : RS := kX6_linkFile_0 r0 r1 x2 x3 x4 h
theorem tX6_linkFile {G : GG} {d : Nat} {r0 r1 x2 x3 x4} {h : Hp} {o : OU} {h' : Hp} (e : fX6_linkFile r0 r1 x2 x3 x4 h = some (o, h')) (hd : 5 ≤ d) : VM G mX6_linkFile d [.ref r0, .ref r1, .int x2, .int x3, .int x4] h o h' := uX6_linkFile_0 hd e
def kX6_growNode_0 (rec : Nat → List Value → List Value → Hp → RS)  (r0 : Nat) (r1 : Nat) (x2 : Int32) (x3 : Int32) (h : Hp) : RS := (if kH h r0 = 16 then (bI (fX6_freeBlock r0 r1 h) fun z2 h1 => (if kH h1 r1 = 15 then (bI (fX5_nodeField r1 0 x2 2 h1) fun z6 h5 => (if kH h5 r1 = 15 then (bI (fX5_nodeField r1 0 x2 3 h5) fun z10 h9 => (if z2 = (-1) then (some (.inl (some (.int 0)), h9)) else (if kH h9 r1 = 15 then (bI (fX5_nodeField r1 0 x2 0 h9) fun z15 h14 => (if z15 = 0 then (some (.inl (some (.int 0)), h14)) else (if z6 = 0 then (rec 53 [.ref r0, .ref r1, .int x2, .int x3, .int z2, .int z6, uV, uV] [] h14) else (if z10 = 0 then (rec 53 [.ref r0, .ref r1, .int x2, .int x3, .int z2, .int z6, uV, uV] [] h14) else (some (.inl (some (.int 0)), h14)))))) else none))) else none)) else none)) else none)
theorem uX6_growNode_0 {G : GG} {d : Nat} (hd : 4 ≤ d) (rec : Nat → List Value → List Value → Hp → RS) (hrec : ∀ pc loc st h o h', rec pc loc st h = some (o, h') → V G mX6_growNode d pc loc st h o h')   {r0  r1  x2  x3 } {h : Hp} {o : OU} {h' : Hp} (e : kX6_growNode_0 rec  r0 r1 x2 x3 h = some (o, h')) : VM G mX6_growNode d [.ref r0, .ref r1, .int x2, .int x3] h o h' := by
  unfold kX6_growNode_0 at e
  refine eX6_growNode r0 r1 x2 x3 (by omega) ?_
  obtain ⟨q1, e⟩ := ob_e e
  refine ⟨q1, ?_⟩
  obtain ⟨z2, h1, e2, e⟩ := bI_e e
  refine ⟨z2, h1, (tX6_freeBlock e2 (by omega)), ?_⟩
  obtain ⟨q3, e⟩ := ob_e e
  refine ⟨q3, ?_⟩
  obtain ⟨z6, h5, e4, e⟩ := bI_e e
  refine ⟨z6, h5, (tX5_nodeField e4 (by omega)), ?_⟩
  obtain ⟨q5, e⟩ := ob_e e
  refine ⟨q5, ?_⟩
  obtain ⟨z10, h9, e6, e⟩ := bI_e e
  refine ⟨z10, h9, (tX5_nodeField e6 (by omega)), ?_⟩
  refine ⟨fun c7 => ?_, fun c7 => ?_⟩
  · have e := if_t e c7
    cases e
    exact ⟨rfl, rfl⟩
  · have e := if_f e c7
    obtain ⟨q8, e⟩ := ob_e e
    refine ⟨q8, ?_⟩
    obtain ⟨z15, h14, e9, e⟩ := bI_e e
    refine ⟨z15, h14, (tX5_nodeField e9 (by omega)), ?_⟩
    refine ⟨fun c10 => ?_, fun c10 => ?_⟩
    · have e := if_t e c10
      cases e
      exact ⟨rfl, rfl⟩
    · have e := if_f e c10
      refine ⟨fun c11 => ?_, fun c11 => ?_⟩
      · have e := if_t e c11
        exact hrec _ _ _ _ _ _ e
      · have e := if_f e c11
        refine ⟨fun c12 => ?_, fun c12 => ?_⟩
        · have e := if_t e c12
          exact hrec _ _ _ _ _ _ e
        · have e := if_f e c12
          cases e
          exact ⟨rfl, rfl⟩
def kX6_growNode_53 (rec : Nat → List Value → List Value → Hp → RS)  (r0 : Nat) (r1 : Nat) (x2 : Int32) (x3 : Int32) (x4 : Int32) (x5 : Int32) (h : Hp) : RS := (if kH h r1 = 15 then (bI (fX5_nodeField r1 0 x2 1 h) fun z2 h1 => (if ¬ z2 = 2 then (if ¬ x5 = 0 then (if kH h1 r0 = 16 then (bI (fX6_giveBlock r0 r1 x2 3 x4 x3 h1) fun z8 h7 => (some (.inl (some (.int 1)), h7))) else none) else (if kH h1 r0 = 16 then (bI (fX6_giveBlock r0 r1 x2 2 x4 x3 h1) fun z12 h11 => (some (.inl (some (.int 1)), h11))) else none)) else (if ¬ x5 = 0 then (if kH h1 r0 = 16 then (bI (fX6_giveBlock r0 r1 x2 3 x4 0 h1) fun z17 h16 => (some (.inl (some (.int 1)), h16))) else none) else (if kH h1 r0 = 16 then (bI (fX6_giveBlock r0 r1 x2 2 x4 0 h1) fun z21 h20 => (some (.inl (some (.int 1)), h20))) else none)))) else none)
theorem uX6_growNode_53 {G : GG} {d : Nat} (hd : 4 ≤ d) (rec : Nat → List Value → List Value → Hp → RS) (hrec : ∀ pc loc st h o h', rec pc loc st h = some (o, h') → V G mX6_growNode d pc loc st h o h')   {r0  r1  x2  x3  x4  x5 } {h : Hp} {o : OU} {h' : Hp} (e : kX6_growNode_53 rec  r0 r1 x2 x3 x4 x5 h = some (o, h')) : V G mX6_growNode d 53 [.ref r0, .ref r1, .int x2, .int x3, .int x4, .int x5, uV, uV] [] h o h' := by
  unfold kX6_growNode_53 at e
  refine bX6_growNode_53 r0 r1 x2 x3 x4 x5 (by omega) ?_
  obtain ⟨q1, e⟩ := ob_e e
  refine ⟨q1, ?_⟩
  obtain ⟨z2, h1, e2, e⟩ := bI_e e
  refine ⟨z2, h1, (tX5_nodeField e2 (by omega)), ?_⟩
  refine ⟨fun c3 => ?_, fun c3 => ?_⟩
  · have e := if_t e c3
    refine ⟨fun c4 => ?_, fun c4 => ?_⟩
    · have e := if_t e c4
      obtain ⟨q5, e⟩ := ob_e e
      refine ⟨q5, ?_⟩
      obtain ⟨z8, h7, e6, e⟩ := bI_e e
      refine ⟨z8, h7, (tX6_giveBlock e6 (by omega)), ?_⟩
      cases e
      exact ⟨rfl, rfl⟩
    · have e := if_n e c4
      obtain ⟨q7, e⟩ := ob_e e
      refine ⟨q7, ?_⟩
      obtain ⟨z12, h11, e8, e⟩ := bI_e e
      refine ⟨z12, h11, (tX6_giveBlock e8 (by omega)), ?_⟩
      cases e
      exact ⟨rfl, rfl⟩
  · have e := if_n e c3
    refine ⟨fun c9 => ?_, fun c9 => ?_⟩
    · have e := if_t e c9
      obtain ⟨q10, e⟩ := ob_e e
      refine ⟨q10, ?_⟩
      obtain ⟨z17, h16, e11, e⟩ := bI_e e
      refine ⟨z17, h16, (tX6_giveBlock e11 (by omega)), ?_⟩
      cases e
      exact ⟨rfl, rfl⟩
    · have e := if_n e c9
      obtain ⟨q12, e⟩ := ob_e e
      refine ⟨q12, ?_⟩
      obtain ⟨z21, h20, e13, e⟩ := bI_e e
      refine ⟨z21, h20, (tX6_giveBlock e13 (by omega)), ?_⟩
      cases e
      exact ⟨rfl, rfl⟩
def sX6_growNode  (rec : Nat → List Value → List Value → Hp → RS) (pc : Nat) (loc st : List Value) (h : Hp) : RS := match pc, loc, st with
  | 53, [.ref r0, .ref r1, .int x2, .int x3, .int x4, .int x5, _, _], [] => kX6_growNode_53 rec  r0 r1 x2 x3 x4 x5 h
  | _, _, _ => none
def gX6_growNode  : Nat → Nat → List Value → List Value → Hp → RS
  | 0 => fun _ _ _ _ => none
  | n + 1 => sX6_growNode  (gX6_growNode  n)
theorem wX6_growNode {G : GG} {d : Nat} (hd : 4 ≤ d)   : ∀ (n pc : Nat) (loc st : List Value) (h : Hp) (o : OU) (h' : Hp), gX6_growNode  n pc loc st h = some (o, h') → V G mX6_growNode d pc loc st h o h' := by
  intro n
  induction n with
  | zero => intro pc loc st h o h' e; cases e
  | succ n ih =>
    intro pc loc st h o h' e
    unfold gX6_growNode sX6_growNode at e
    split at e
    · exact V.drop (llp_r (llp_r (llp_r (llp_r (llp_r (llp_r (llp_u (llp_u llp_nil)))))))) (uX6_growNode_53 hd _ ih   e)
    · cases e
theorem zX6_growNode_53  (n : Nat) (r0 : Nat) (r1 : Nat) (x2 : Int32) (x3 : Int32) (x4 : Int32) (x5 : Int32) (y6 : Value) (y7 : Value) (h : Hp) : gX6_growNode  (n + 1) 53 [.ref r0, .ref r1, .int x2, .int x3, .int x4, .int x5, y6, y7] [] h = kX6_growNode_53 (gX6_growNode  n)  r0 r1 x2 x3 x4 x5 h := rfl
def fX6_growNode (r0 : Nat) (r1 : Nat) (x2 : Int32) (x3 : Int32) (h : Hp) : RS := kX6_growNode_0 (gX6_growNode FF) r0 r1 x2 x3 h
theorem tX6_growNode {G : GG} {d : Nat} {r0 r1 x2 x3} {h : Hp} {o : OU} {h' : Hp} (e : fX6_growNode r0 r1 x2 x3 h = some (o, h')) (hd : 4 ≤ d) : VM G mX6_growNode d [.ref r0, .ref r1, .int x2, .int x3] h o h' := uX6_growNode_0 hd _ (wX6_growNode hd FF) e
def kX6_putInFile_0  (r0 : Nat) (r1 : Nat) (x2 : Int32) (x3 : Int32) (x4 : Int32) (h : Hp) : RS := (if kH h r0 = 16 then (bI (fX6_isFile r0 r1 x2 h) fun z2 h1 => (if ¬ z2 = 0 then (if 16 ≤ x3 then (if kH h1 r1 = 15 then (bI (fX5_nodeField r1 0 x2 3 h1) fun z8 h7 => (if z8 = 0 then (some (.inl (some (.int 0)), h7)) else (if kH h7 r1 = 15 then (bI (fX5_put r1 z8 (x3 - x3 / 16 * 16) x4 h7) fun z13 h12 => (if z13 = (-1) then (some (.inl (some (.int 0)), h12)) else (some (.inl (some (.int 1)), h12)))) else none))) else none) else (if kH h1 r1 = 15 then (bI (fX5_nodeField r1 0 x2 2 h1) fun z18 h17 => (if z18 = 0 then (some (.inl (some (.int 0)), h17)) else (if kH h17 r1 = 15 then (bI (fX5_put r1 z18 (x3 - x3 / 16 * 16) x4 h17) fun z23 h22 => (if z23 = (-1) then (some (.inl (some (.int 0)), h22)) else (some (.inl (some (.int 1)), h22)))) else none))) else none)) else (some (.inl (some (.int 0)), h1)))) else none)
theorem uX6_putInFile_0 {G : GG} {d : Nat} (hd : 3 ≤ d)   {r0  r1  x2  x3  x4 } {h : Hp} {o : OU} {h' : Hp} (e : kX6_putInFile_0  r0 r1 x2 x3 x4 h = some (o, h')) : VM G mX6_putInFile d [.ref r0, .ref r1, .int x2, .int x3, .int x4] h o h' := by
  unfold kX6_putInFile_0 at e
  refine eX6_putInFile r0 r1 x2 x3 x4 (by omega) ?_
  obtain ⟨q1, e⟩ := ob_e e
  refine ⟨q1, ?_⟩
  obtain ⟨z2, h1, e2, e⟩ := bI_e e
  refine ⟨z2, h1, (tX6_isFile e2 (by omega)), ?_⟩
  refine ⟨fun c3 => ?_, fun c3 => ?_⟩
  · have e := if_t e c3
    refine ⟨fun c4 => ?_, fun c4 => ?_⟩
    · have e := if_t e c4
      obtain ⟨q5, e⟩ := ob_e e
      refine ⟨q5, ?_⟩
      obtain ⟨z8, h7, e6, e⟩ := bI_e e
      refine ⟨z8, h7, (tX5_nodeField e6 (by omega)), ?_⟩
      refine ⟨fun c7 => ?_, fun c7 => ?_⟩
      · have e := if_t e c7
        cases e
        exact ⟨rfl, rfl⟩
      · have e := if_f e c7
        obtain ⟨q8, e⟩ := ob_e e
        refine ⟨q8, ?_⟩
        obtain ⟨z13, h12, e9, e⟩ := bI_e e
        refine ⟨z13, h12, (tX5_put e9 (by omega)), ?_⟩
        refine ⟨fun c10 => ?_, fun c10 => ?_⟩
        · have e := if_t e c10
          cases e
          exact ⟨rfl, rfl⟩
        · have e := if_f e c10
          cases e
          exact ⟨rfl, rfl⟩
    · have e := if_f e c4
      obtain ⟨q11, e⟩ := ob_e e
      refine ⟨q11, ?_⟩
      obtain ⟨z18, h17, e12, e⟩ := bI_e e
      refine ⟨z18, h17, (tX5_nodeField e12 (by omega)), ?_⟩
      refine ⟨fun c13 => ?_, fun c13 => ?_⟩
      · have e := if_t e c13
        cases e
        exact ⟨rfl, rfl⟩
      · have e := if_f e c13
        obtain ⟨q14, e⟩ := ob_e e
        refine ⟨q14, ?_⟩
        obtain ⟨z23, h22, e15, e⟩ := bI_e e
        refine ⟨z23, h22, (tX5_put e15 (by omega)), ?_⟩
        refine ⟨fun c16 => ?_, fun c16 => ?_⟩
        · have e := if_t e c16
          cases e
          exact ⟨rfl, rfl⟩
        · have e := if_f e c16
          cases e
          exact ⟨rfl, rfl⟩
  · have e := if_n e c3
    cases e
    exact ⟨rfl, rfl⟩
def fX6_putInFile (r0 : Nat) (r1 : Nat) (x2 : Int32) (x3 : Int32) (x4 : Int32) (h : Hp) : RS := kX6_putInFile_0 r0 r1 x2 x3 x4 h
theorem tX6_putInFile {G : GG} {d : Nat} {r0 r1 x2 x3 x4} {h : Hp} {o : OU} {h' : Hp} (e : fX6_putInFile r0 r1 x2 x3 x4 h = some (o, h')) (hd : 3 ≤ d) : VM G mX6_putInFile d [.ref r0, .ref r1, .int x2, .int x3, .int x4] h o h' := uX6_putInFile_0 hd e
def kX6_cutFile_0  (r0 : Nat) (r1 : Nat) (x2 : Int32) (h : Hp) : RS := (if kH h r0 = 16 then (bI (fX6_isFile r0 r1 x2 h) fun z2 h1 => (if ¬ z2 = 0 then (if kH h1 r1 = 15 then (bI (fX5_nodeField r1 0 x2 3 h1) fun z7 h6 => (if z7 = 0 then (if kH h6 r1 = 15 then (bI (fX5_nodeField r1 0 x2 2 h6) fun z12 h11 => (if ¬ z12 = 0 then (if kH h11 r1 = 15 then (bI (fX5_putField r1 x2 2 0 h11) fun z17 h16 => (if kH h16 r1 = 15 then (bV (fX5_putOff r1 (100 + z12) z17 h16) fun h20 => (some (.inl (some (.int 1)), h20))) else none)) else none) else (some (.inl (some (.int 0)), h11)))) else none) else (if kH h6 r1 = 15 then (bI (fX5_nodeField r1 0 x2 3 h6) fun z24 h23 => (if ¬ z24 = 0 then (if kH h23 r1 = 15 then (bI (fX5_putField r1 x2 3 0 h23) fun z29 h28 => (if kH h28 r1 = 15 then (bV (fX5_putOff r1 (100 + z24) z29 h28) fun h32 => (some (.inl (some (.int 1)), h32))) else none)) else none) else (some (.inl (some (.int 0)), h23)))) else none))) else none) else (some (.inl (some (.int 0)), h1)))) else none)
theorem uX6_cutFile_0 {G : GG} {d : Nat} (hd : 3 ≤ d)   {r0  r1  x2 } {h : Hp} {o : OU} {h' : Hp} (e : kX6_cutFile_0  r0 r1 x2 h = some (o, h')) : VM G mX6_cutFile d [.ref r0, .ref r1, .int x2] h o h' := by
  unfold kX6_cutFile_0 at e
  refine eX6_cutFile r0 r1 x2 (by omega) ?_
  obtain ⟨q1, e⟩ := ob_e e
  refine ⟨q1, ?_⟩
  obtain ⟨z2, h1, e2, e⟩ := bI_e e
  refine ⟨z2, h1, (tX6_isFile e2 (by omega)), ?_⟩
  refine ⟨fun c3 => ?_, fun c3 => ?_⟩
  · have e := if_t e c3
    obtain ⟨q4, e⟩ := ob_e e
    refine ⟨q4, ?_⟩
    obtain ⟨z7, h6, e5, e⟩ := bI_e e
    refine ⟨z7, h6, (tX5_nodeField e5 (by omega)), ?_⟩
    refine ⟨fun c6 => ?_, fun c6 => ?_⟩
    · have e := if_t e c6
      obtain ⟨q7, e⟩ := ob_e e
      refine ⟨q7, ?_⟩
      obtain ⟨z12, h11, e8, e⟩ := bI_e e
      refine ⟨z12, h11, (tX5_nodeField e8 (by omega)), ?_⟩
      refine ⟨fun c9 => ?_, fun c9 => ?_⟩
      · have e := if_t e c9
        obtain ⟨q10, e⟩ := ob_e e
        refine ⟨q10, ?_⟩
        obtain ⟨z17, h16, e11, e⟩ := bI_e e
        refine ⟨z17, h16, (tX5_putField e11 (by omega)), ?_⟩
        obtain ⟨q12, e⟩ := ob_e e
        refine ⟨q12, ?_⟩
        obtain ⟨h20, e13, e⟩ := bV_e e
        refine ⟨h20, (tX5_putOff e13 (by omega)), ?_⟩
        cases e
        exact ⟨rfl, rfl⟩
      · have e := if_n e c9
        cases e
        exact ⟨rfl, rfl⟩
    · have e := if_f e c6
      obtain ⟨q14, e⟩ := ob_e e
      refine ⟨q14, ?_⟩
      obtain ⟨z24, h23, e15, e⟩ := bI_e e
      refine ⟨z24, h23, (tX5_nodeField e15 (by omega)), ?_⟩
      refine ⟨fun c16 => ?_, fun c16 => ?_⟩
      · have e := if_t e c16
        obtain ⟨q17, e⟩ := ob_e e
        refine ⟨q17, ?_⟩
        obtain ⟨z29, h28, e18, e⟩ := bI_e e
        refine ⟨z29, h28, (tX5_putField e18 (by omega)), ?_⟩
        obtain ⟨q19, e⟩ := ob_e e
        refine ⟨q19, ?_⟩
        obtain ⟨h32, e20, e⟩ := bV_e e
        refine ⟨h32, (tX5_putOff e20 (by omega)), ?_⟩
        cases e
        exact ⟨rfl, rfl⟩
      · have e := if_n e c16
        cases e
        exact ⟨rfl, rfl⟩
  · have e := if_n e c3
    cases e
    exact ⟨rfl, rfl⟩
def fX6_cutFile (r0 : Nat) (r1 : Nat) (x2 : Int32) (h : Hp) : RS := kX6_cutFile_0 r0 r1 x2 h
theorem tX6_cutFile {G : GG} {d : Nat} {r0 r1 x2} {h : Hp} {o : OU} {h' : Hp} (e : fX6_cutFile r0 r1 x2 h = some (o, h')) (hd : 3 ≤ d) : VM G mX6_cutFile d [.ref r0, .ref r1, .int x2] h o h' := uX6_cutFile_0 hd e
def kX8_nodeOfEntry_0  (r0 : Nat) (x1 : Int32) (x2 : Int32) (h : Hp) : RS := (if kH h r0 = 15 then (bI (fX5_at r0 x1 (x2 / 8) (((x2 - x2 / 8 * 8) * 2) + 1) h) fun z2 h1 => (some (.inl (some (.int z2)), h1))) else none)
theorem uX8_nodeOfEntry_0 {G : GG} {d : Nat} (hd : 2 ≤ d)   {r0  x1  x2 } {h : Hp} {o : OU} {h' : Hp} (e : kX8_nodeOfEntry_0  r0 x1 x2 h = some (o, h')) : VM G mX8_nodeOfEntry d [.ref r0, .int x1, .int x2] h o h' := by
  unfold kX8_nodeOfEntry_0 at e
  refine eX8_nodeOfEntry r0 x1 x2 (by omega) ?_
  obtain ⟨q1, e⟩ := ob_e e
  refine ⟨q1, ?_⟩
  obtain ⟨z2, h1, e2, e⟩ := bI_e e
  refine ⟨z2, h1, (tX5_at e2 (by omega)), ?_⟩
  cases e
  exact ⟨rfl, rfl⟩
def fX8_nodeOfEntry (r0 : Nat) (x1 : Int32) (x2 : Int32) (h : Hp) : RS := kX8_nodeOfEntry_0 r0 x1 x2 h
theorem tX8_nodeOfEntry {G : GG} {d : Nat} {r0 x1 x2} {h : Hp} {o : OU} {h' : Hp} (e : fX8_nodeOfEntry r0 x1 x2 h = some (o, h')) (hd : 2 ≤ d) : VM G mX8_nodeOfEntry d [.ref r0, .int x1, .int x2] h o h' := uX8_nodeOfEntry_0 hd e
def kX6_dropEntry_0  (r0 : Nat) (r1 : Nat) (x2 : Int32) (x3 : Int32) (h : Hp) : RS := (bI (fX8_entryNamed r1 0 x2 x3 h) fun z2 h1 => (if z2 = (-1) then (some (.inl (some (.int 0)), h1)) else (bI (fX8_reachedNodes r1 0 h1) fun z6 h5 => (if ¬ ((z6 >>> (x2 &&& 31)) &&& 1) = 0 then (bI (fX8_nodeOfEntry r1 0 z2 h5) fun z10 h9 => (bI (fX8_namedNodes r1 0 z10 h9) fun z13 h12 => (if z13 = 0 then (if kH h12 r1 = 15 then (bI (fX5_put r1 (z2 / 8) ((z2 - z2 / 8 * 8) * 2) 0 h12) fun z17 h16 => (if kH h16 r1 = 15 then (bV (fX5_putOff r1 z10 z17 h16) fun h20 => (some (.inl (some (.int 1)), h20))) else none)) else none) else (some (.inl (some (.int 0)), h12))))) else (some (.inl (some (.int 0)), h5))))))
theorem uX6_dropEntry_0 {G : GG} {d : Nat} (hd : 4 ≤ d)   {r0  r1  x2  x3 } {h : Hp} {o : OU} {h' : Hp} (e : kX6_dropEntry_0  r0 r1 x2 x3 h = some (o, h')) : VM G mX6_dropEntry d [.ref r0, .ref r1, .int x2, .int x3] h o h' := by
  unfold kX6_dropEntry_0 at e
  refine eX6_dropEntry r0 r1 x2 x3 (by omega) ?_
  obtain ⟨z2, h1, e1, e⟩ := bI_e e
  refine ⟨z2, h1, (tX8_entryNamed e1 (by omega)), ?_⟩
  refine ⟨fun c2 => ?_, fun c2 => ?_⟩
  · have e := if_t e c2
    cases e
    exact ⟨rfl, rfl⟩
  · have e := if_f e c2
    obtain ⟨z6, h5, e3, e⟩ := bI_e e
    refine ⟨z6, h5, (tX8_reachedNodes e3 (by omega)), ?_⟩
    refine ⟨fun c4 => ?_, fun c4 => ?_⟩
    · have e := if_t e c4
      obtain ⟨z10, h9, e5, e⟩ := bI_e e
      refine ⟨z10, h9, (tX8_nodeOfEntry e5 (by omega)), ?_⟩
      obtain ⟨z13, h12, e6, e⟩ := bI_e e
      refine ⟨z13, h12, (tX8_namedNodes e6 (by omega)), ?_⟩
      refine ⟨fun c7 => ?_, fun c7 => ?_⟩
      · have e := if_t e c7
        obtain ⟨q8, e⟩ := ob_e e
        refine ⟨q8, ?_⟩
        obtain ⟨z17, h16, e9, e⟩ := bI_e e
        refine ⟨z17, h16, (tX5_put e9 (by omega)), ?_⟩
        obtain ⟨q10, e⟩ := ob_e e
        refine ⟨q10, ?_⟩
        obtain ⟨h20, e11, e⟩ := bV_e e
        refine ⟨h20, (tX5_putOff e11 (by omega)), ?_⟩
        cases e
        exact ⟨rfl, rfl⟩
      · have e := if_f e c7
        cases e
        exact ⟨rfl, rfl⟩
    · have e := if_n e c4
      cases e
      exact ⟨rfl, rfl⟩
def fX6_dropEntry (r0 : Nat) (r1 : Nat) (x2 : Int32) (x3 : Int32) (h : Hp) : RS := kX6_dropEntry_0 r0 r1 x2 x3 h
theorem tX6_dropEntry {G : GG} {d : Nat} {r0 r1 x2 x3} {h : Hp} {o : OU} {h' : Hp} (e : fX6_dropEntry r0 r1 x2 x3 h = some (o, h')) (hd : 4 ≤ d) : VM G mX6_dropEntry d [.ref r0, .ref r1, .int x2, .int x3] h o h' := uX6_dropEntry_0 hd e
def kX8_linkedNodes_0 (rec : Nat → List Value → List Value → Hp → RS)  (r0 : Nat) (x1 : Int32) (h : Hp) : RS := (rec 4 [.ref r0, .int x1, .int 0, .int 0] [] h)
theorem uX8_linkedNodes_0 {G : GG} {d : Nat} (hd : 2 ≤ d) (rec : Nat → List Value → List Value → Hp → RS) (hrec : ∀ pc loc st h o h', rec pc loc st h = some (o, h') → V G mX8_linkedNodes d pc loc st h o h')   {r0  x1 } {h : Hp} {o : OU} {h' : Hp} (e : kX8_linkedNodes_0 rec  r0 x1 h = some (o, h')) : VM G mX8_linkedNodes d [.ref r0, .int x1] h o h' := by
  unfold kX8_linkedNodes_0 at e
  refine eX8_linkedNodes r0 x1 ?_
  exact hrec _ _ _ _ _ _ e
def kX8_linkedNodes_4 (rec : Nat → List Value → List Value → Hp → RS)  (r0 : Nat) (x1 : Int32) (x2 : Int32) (x3 : Int32) (h : Hp) : RS := (if 12 ≤ x3 then (some (.inl (some (.int x2)), h)) else (if kH h r0 = 15 then (bI (fX5_nodeField r0 x1 x3 0 h) fun z3 h2 => (if z3 = 0 then (rec 4 [.ref r0, .int x1, .int x2, .int (x3 + 1)] [] h2) else (rec 4 [.ref r0, .int x1, .int (x2 ||| (1 <<< (x3 &&& 31))), .int (x3 + 1)] [] h2))) else none))
theorem uX8_linkedNodes_4 {G : GG} {d : Nat} (hd : 2 ≤ d) (rec : Nat → List Value → List Value → Hp → RS) (hrec : ∀ pc loc st h o h', rec pc loc st h = some (o, h') → V G mX8_linkedNodes d pc loc st h o h')   {r0  x1  x2  x3 } {h : Hp} {o : OU} {h' : Hp} (e : kX8_linkedNodes_4 rec  r0 x1 x2 x3 h = some (o, h')) : V G mX8_linkedNodes d 4 [.ref r0, .int x1, .int x2, .int x3] [] h o h' := by
  unfold kX8_linkedNodes_4 at e
  refine bX8_linkedNodes_4 r0 x1 x2 x3 (by omega) ?_
  refine ⟨fun c1 => ?_, fun c1 => ?_⟩
  · have e := if_t e c1
    cases e
    exact ⟨rfl, rfl⟩
  · have e := if_f e c1
    obtain ⟨q2, e⟩ := ob_e e
    refine ⟨q2, ?_⟩
    obtain ⟨z3, h2, e3, e⟩ := bI_e e
    refine ⟨z3, h2, (tX5_nodeField e3 (by omega)), ?_⟩
    refine ⟨fun c4 => ?_, fun c4 => ?_⟩
    · have e := if_t e c4
      exact hrec _ _ _ _ _ _ e
    · have e := if_f e c4
      exact hrec _ _ _ _ _ _ e
def sX8_linkedNodes  (rec : Nat → List Value → List Value → Hp → RS) (pc : Nat) (loc st : List Value) (h : Hp) : RS := match pc, loc, st with
  | 4, [.ref r0, .int x1, .int x2, .int x3], [] => kX8_linkedNodes_4 rec  r0 x1 x2 x3 h
  | _, _, _ => none
def gX8_linkedNodes  : Nat → Nat → List Value → List Value → Hp → RS
  | 0 => fun _ _ _ _ => none
  | n + 1 => sX8_linkedNodes  (gX8_linkedNodes  n)
theorem wX8_linkedNodes {G : GG} {d : Nat} (hd : 2 ≤ d)   : ∀ (n pc : Nat) (loc st : List Value) (h : Hp) (o : OU) (h' : Hp), gX8_linkedNodes  n pc loc st h = some (o, h') → V G mX8_linkedNodes d pc loc st h o h' := by
  intro n
  induction n with
  | zero => intro pc loc st h o h' e; cases e
  | succ n ih =>
    intro pc loc st h o h' e
    unfold gX8_linkedNodes sX8_linkedNodes at e
    split at e
    · exact uX8_linkedNodes_4 hd _ ih   e
    · cases e
theorem zX8_linkedNodes_4  (n : Nat) (r0 : Nat) (x1 : Int32) (x2 : Int32) (x3 : Int32)  (h : Hp) : gX8_linkedNodes  (n + 1) 4 [.ref r0, .int x1, .int x2, .int x3] [] h = kX8_linkedNodes_4 (gX8_linkedNodes  n)  r0 x1 x2 x3 h := rfl
def fX8_linkedNodes (r0 : Nat) (x1 : Int32) (h : Hp) : RS := kX8_linkedNodes_0 (gX8_linkedNodes FF) r0 x1 h
theorem tX8_linkedNodes {G : GG} {d : Nat} {r0 x1} {h : Hp} {o : OU} {h' : Hp} (e : fX8_linkedNodes r0 x1 h = some (o, h')) (hd : 2 ≤ d) : VM G mX8_linkedNodes d [.ref r0, .int x1] h o h' := uX8_linkedNodes_0 hd _ (wX8_linkedNodes hd FF) e
def kX8_pointedBlocks_0 (rec : Nat → List Value → List Value → Hp → RS)  (r0 : Nat) (x1 : Int32) (x2 : Int32) (h : Hp) : RS := (rec 5 [.ref r0, .int x1, .int x2, .int 0, .int 0] [] h)
theorem uX8_pointedBlocks_0 {G : GG} {d : Nat} (hd : 2 ≤ d) (rec : Nat → List Value → List Value → Hp → RS) (hrec : ∀ pc loc st h o h', rec pc loc st h = some (o, h') → V G mX8_pointedBlocks d pc loc st h o h')   {r0  x1  x2 } {h : Hp} {o : OU} {h' : Hp} (e : kX8_pointedBlocks_0 rec  r0 x1 x2 h = some (o, h')) : VM G mX8_pointedBlocks d [.ref r0, .int x1, .int x2] h o h' := by
  unfold kX8_pointedBlocks_0 at e
  refine eX8_pointedBlocks r0 x1 x2 ?_
  exact hrec _ _ _ _ _ _ e
def kX8_pointedBlocks_5 (rec : Nat → List Value → List Value → Hp → RS)  (r0 : Nat) (x1 : Int32) (x2 : Int32) (x3 : Int32) (x4 : Int32) (h : Hp) : RS := (if 12 ≤ x4 then (some (.inl (some (.int x3)), h)) else (if ((x2 >>> (x4 &&& 31)) &&& 1) = 0 then (rec 5 [.ref r0, .int x1, .int x2, .int x3, .int (x4 + 1)] [] h) else (if kH h r0 = 15 then (bI (fX5_nodeField r0 x1 x4 2 h) fun z4 h3 => (if kH h3 r0 = 15 then (bI (fX5_nodeField r0 x1 x4 3 h3) fun z8 h7 => (rec 5 [.ref r0, .int x1, .int x2, .int ((x3 ||| (1 <<< (z4 &&& 31))) ||| (1 <<< (z8 &&& 31))), .int (x4 + 1)] [] h7)) else none)) else none)))
theorem uX8_pointedBlocks_5 {G : GG} {d : Nat} (hd : 2 ≤ d) (rec : Nat → List Value → List Value → Hp → RS) (hrec : ∀ pc loc st h o h', rec pc loc st h = some (o, h') → V G mX8_pointedBlocks d pc loc st h o h')   {r0  x1  x2  x3  x4 } {h : Hp} {o : OU} {h' : Hp} (e : kX8_pointedBlocks_5 rec  r0 x1 x2 x3 x4 h = some (o, h')) : V G mX8_pointedBlocks d 5 [.ref r0, .int x1, .int x2, .int x3, .int x4] [] h o h' := by
  unfold kX8_pointedBlocks_5 at e
  refine bX8_pointedBlocks_5 r0 x1 x2 x3 x4 (by omega) ?_
  refine ⟨fun c1 => ?_, fun c1 => ?_⟩
  · have e := if_t e c1
    cases e
    exact ⟨rfl, rfl⟩
  · have e := if_f e c1
    refine ⟨fun c2 => ?_, fun c2 => ?_⟩
    · have e := if_t e c2
      exact hrec _ _ _ _ _ _ e
    · have e := if_f e c2
      obtain ⟨q3, e⟩ := ob_e e
      refine ⟨q3, ?_⟩
      obtain ⟨z4, h3, e4, e⟩ := bI_e e
      refine ⟨z4, h3, (tX5_nodeField e4 (by omega)), ?_⟩
      obtain ⟨q5, e⟩ := ob_e e
      refine ⟨q5, ?_⟩
      obtain ⟨z8, h7, e6, e⟩ := bI_e e
      refine ⟨z8, h7, (tX5_nodeField e6 (by omega)), ?_⟩
      exact hrec _ _ _ _ _ _ e
def sX8_pointedBlocks  (rec : Nat → List Value → List Value → Hp → RS) (pc : Nat) (loc st : List Value) (h : Hp) : RS := match pc, loc, st with
  | 5, [.ref r0, .int x1, .int x2, .int x3, .int x4], [] => kX8_pointedBlocks_5 rec  r0 x1 x2 x3 x4 h
  | _, _, _ => none
def gX8_pointedBlocks  : Nat → Nat → List Value → List Value → Hp → RS
  | 0 => fun _ _ _ _ => none
  | n + 1 => sX8_pointedBlocks  (gX8_pointedBlocks  n)
theorem wX8_pointedBlocks {G : GG} {d : Nat} (hd : 2 ≤ d)   : ∀ (n pc : Nat) (loc st : List Value) (h : Hp) (o : OU) (h' : Hp), gX8_pointedBlocks  n pc loc st h = some (o, h') → V G mX8_pointedBlocks d pc loc st h o h' := by
  intro n
  induction n with
  | zero => intro pc loc st h o h' e; cases e
  | succ n ih =>
    intro pc loc st h o h' e
    unfold gX8_pointedBlocks sX8_pointedBlocks at e
    split at e
    · exact uX8_pointedBlocks_5 hd _ ih   e
    · cases e
theorem zX8_pointedBlocks_5  (n : Nat) (r0 : Nat) (x1 : Int32) (x2 : Int32) (x3 : Int32) (x4 : Int32)  (h : Hp) : gX8_pointedBlocks  (n + 1) 5 [.ref r0, .int x1, .int x2, .int x3, .int x4] [] h = kX8_pointedBlocks_5 (gX8_pointedBlocks  n)  r0 x1 x2 x3 x4 h := rfl
def fX8_pointedBlocks (r0 : Nat) (x1 : Int32) (x2 : Int32) (h : Hp) : RS := kX8_pointedBlocks_0 (gX8_pointedBlocks FF) r0 x1 x2 h
theorem tX8_pointedBlocks {G : GG} {d : Nat} {r0 x1 x2} {h : Hp} {o : OU} {h' : Hp} (e : fX8_pointedBlocks r0 x1 x2 h = some (o, h')) (hd : 2 ≤ d) : VM G mX8_pointedBlocks d [.ref r0, .int x1, .int x2] h o h' := uX8_pointedBlocks_0 hd _ (wX8_pointedBlocks hd FF) e
def kX8_timesNamed_0 (rec : Nat → List Value → List Value → Hp → RS)  (r0 : Nat) (x1 : Int32) (x2 : Int32) (x3 : Int32) (h : Hp) : RS := (rec 6 [.ref r0, .int x1, .int x2, .int x3, .int 0, .int 2, uV, uV] [] h)
theorem uX8_timesNamed_0 {G : GG} {d : Nat} (hd : 2 ≤ d) (rec : Nat → List Value → List Value → Hp → RS) (hrec : ∀ pc loc st h o h', rec pc loc st h = some (o, h') → V G mX8_timesNamed d pc loc st h o h')   {r0  x1  x2  x3 } {h : Hp} {o : OU} {h' : Hp} (e : kX8_timesNamed_0 rec  r0 x1 x2 x3 h = some (o, h')) : VM G mX8_timesNamed d [.ref r0, .int x1, .int x2, .int x3] h o h' := by
  unfold kX8_timesNamed_0 at e
  refine eX8_timesNamed r0 x1 x2 x3 ?_
  exact hrec _ _ _ _ _ _ e
def kX8_timesNamed_6 (rec : Nat → List Value → List Value → Hp → RS)  (r0 : Nat) (x1 : Int32) (x2 : Int32) (x3 : Int32) (x4 : Int32) (x5 : Int32) (h : Hp) : RS := (if kH h r0 = 15 then (bI (fX5_isDirectory r0 x1 x2 h) fun z2 h1 => (if z2 = 0 then (some (.inl (some (.int x4)), h1)) else (if 3 < x5 then (some (.inl (some (.int x4)), h1)) else (if kH h1 r0 = 15 then (bI (fX5_nodeField r0 x1 x2 x5 h1) fun z8 h7 => (rec 34 [.ref r0, .int x1, .int x2, .int x3, .int x4, .int x5, .int z8, .int 0] [] h7)) else none)))) else none)
theorem uX8_timesNamed_6 {G : GG} {d : Nat} (hd : 2 ≤ d) (rec : Nat → List Value → List Value → Hp → RS) (hrec : ∀ pc loc st h o h', rec pc loc st h = some (o, h') → V G mX8_timesNamed d pc loc st h o h')   {r0  x1  x2  x3  x4  x5 } {h : Hp} {o : OU} {h' : Hp} (e : kX8_timesNamed_6 rec  r0 x1 x2 x3 x4 x5 h = some (o, h')) : V G mX8_timesNamed d 6 [.ref r0, .int x1, .int x2, .int x3, .int x4, .int x5, uV, uV] [] h o h' := by
  unfold kX8_timesNamed_6 at e
  refine bX8_timesNamed_6 r0 x1 x2 x3 x4 x5 (by omega) ?_
  obtain ⟨q1, e⟩ := ob_e e
  refine ⟨q1, ?_⟩
  obtain ⟨z2, h1, e2, e⟩ := bI_e e
  refine ⟨z2, h1, (tX5_isDirectory e2 (by omega)), ?_⟩
  refine ⟨fun c3 => ?_, fun c3 => ?_⟩
  · have e := if_t e c3
    cases e
    exact ⟨rfl, rfl⟩
  · have e := if_f e c3
    refine ⟨fun c4 => ?_, fun c4 => ?_⟩
    · have e := if_t e c4
      cases e
      exact ⟨rfl, rfl⟩
    · have e := if_f e c4
      obtain ⟨q5, e⟩ := ob_e e
      refine ⟨q5, ?_⟩
      obtain ⟨z8, h7, e6, e⟩ := bI_e e
      refine ⟨z8, h7, (tX5_nodeField e6 (by omega)), ?_⟩
      exact hrec _ _ _ _ _ _ e
def kX8_timesNamed_34 (rec : Nat → List Value → List Value → Hp → RS)  (r0 : Nat) (x1 : Int32) (x2 : Int32) (x3 : Int32) (x4 : Int32) (x5 : Int32) (x6 : Int32) (x7 : Int32) (h : Hp) : RS := (if x6 = 0 then (rec 6 [.ref r0, .int x1, .int x2, .int x3, .int x4, .int (x5 + 1), uV, uV] [] h) else (if 8 ≤ x7 then (rec 6 [.ref r0, .int x1, .int x2, .int x3, .int x4, .int (x5 + 1), uV, uV] [] h) else (if kH h r0 = 15 then (bI (fX5_at r0 x1 x6 (2 * x7) h) fun z4 h3 => (if z4 = 0 then (rec 34 [.ref r0, .int x1, .int x2, .int x3, .int x4, .int x5, .int x6, .int (x7 + 1)] [] h3) else (if kH h3 r0 = 15 then (bI (fX5_at r0 x1 x6 ((2 * x7) + 1) h3) fun z9 h8 => (if ¬ z9 = x3 then (rec 34 [.ref r0, .int x1, .int x2, .int x3, .int x4, .int x5, .int x6, .int (x7 + 1)] [] h8) else (rec 34 [.ref r0, .int x1, .int x2, .int x3, .int (x4 + 1), .int x5, .int x6, .int (x7 + 1)] [] h8))) else none))) else none)))
theorem uX8_timesNamed_34 {G : GG} {d : Nat} (hd : 2 ≤ d) (rec : Nat → List Value → List Value → Hp → RS) (hrec : ∀ pc loc st h o h', rec pc loc st h = some (o, h') → V G mX8_timesNamed d pc loc st h o h')   {r0  x1  x2  x3  x4  x5  x6  x7 } {h : Hp} {o : OU} {h' : Hp} (e : kX8_timesNamed_34 rec  r0 x1 x2 x3 x4 x5 x6 x7 h = some (o, h')) : V G mX8_timesNamed d 34 [.ref r0, .int x1, .int x2, .int x3, .int x4, .int x5, .int x6, .int x7] [] h o h' := by
  unfold kX8_timesNamed_34 at e
  refine bX8_timesNamed_34 r0 x1 x2 x3 x4 x5 x6 x7 (by omega) ?_
  refine ⟨fun c1 => ?_, fun c1 => ?_⟩
  · have e := if_t e c1
    exact hrec _ _ _ _ _ _ e
  · have e := if_f e c1
    refine ⟨fun c2 => ?_, fun c2 => ?_⟩
    · have e := if_t e c2
      exact hrec _ _ _ _ _ _ e
    · have e := if_f e c2
      obtain ⟨q3, e⟩ := ob_e e
      refine ⟨q3, ?_⟩
      obtain ⟨z4, h3, e4, e⟩ := bI_e e
      refine ⟨z4, h3, (tX5_at e4 (by omega)), ?_⟩
      refine ⟨fun c5 => ?_, fun c5 => ?_⟩
      · have e := if_t e c5
        exact hrec _ _ _ _ _ _ e
      · have e := if_f e c5
        obtain ⟨q6, e⟩ := ob_e e
        refine ⟨q6, ?_⟩
        obtain ⟨z9, h8, e7, e⟩ := bI_e e
        refine ⟨z9, h8, (tX5_at e7 (by omega)), ?_⟩
        refine ⟨fun c8 => ?_, fun c8 => ?_⟩
        · have e := if_t e c8
          exact hrec _ _ _ _ _ _ e
        · have e := if_n e c8
          exact hrec _ _ _ _ _ _ e
def sX8_timesNamed  (rec : Nat → List Value → List Value → Hp → RS) (pc : Nat) (loc st : List Value) (h : Hp) : RS := match pc, loc, st with
  | 6, [.ref r0, .int x1, .int x2, .int x3, .int x4, .int x5, _, _], [] => kX8_timesNamed_6 rec  r0 x1 x2 x3 x4 x5 h
  | 34, [.ref r0, .int x1, .int x2, .int x3, .int x4, .int x5, .int x6, .int x7], [] => kX8_timesNamed_34 rec  r0 x1 x2 x3 x4 x5 x6 x7 h
  | _, _, _ => none
def gX8_timesNamed  : Nat → Nat → List Value → List Value → Hp → RS
  | 0 => fun _ _ _ _ => none
  | n + 1 => sX8_timesNamed  (gX8_timesNamed  n)
theorem wX8_timesNamed {G : GG} {d : Nat} (hd : 2 ≤ d)   : ∀ (n pc : Nat) (loc st : List Value) (h : Hp) (o : OU) (h' : Hp), gX8_timesNamed  n pc loc st h = some (o, h') → V G mX8_timesNamed d pc loc st h o h' := by
  intro n
  induction n with
  | zero => intro pc loc st h o h' e; cases e
  | succ n ih =>
    intro pc loc st h o h' e
    unfold gX8_timesNamed sX8_timesNamed at e
    split at e
    · exact V.drop (llp_r (llp_r (llp_r (llp_r (llp_r (llp_r (llp_u (llp_u llp_nil)))))))) (uX8_timesNamed_6 hd _ ih   e)
    · exact uX8_timesNamed_34 hd _ ih   e
    · cases e
theorem zX8_timesNamed_6  (n : Nat) (r0 : Nat) (x1 : Int32) (x2 : Int32) (x3 : Int32) (x4 : Int32) (x5 : Int32) (y6 : Value) (y7 : Value) (h : Hp) : gX8_timesNamed  (n + 1) 6 [.ref r0, .int x1, .int x2, .int x3, .int x4, .int x5, y6, y7] [] h = kX8_timesNamed_6 (gX8_timesNamed  n)  r0 x1 x2 x3 x4 x5 h := rfl
theorem zX8_timesNamed_34  (n : Nat) (r0 : Nat) (x1 : Int32) (x2 : Int32) (x3 : Int32) (x4 : Int32) (x5 : Int32) (x6 : Int32) (x7 : Int32)  (h : Hp) : gX8_timesNamed  (n + 1) 34 [.ref r0, .int x1, .int x2, .int x3, .int x4, .int x5, .int x6, .int x7] [] h = kX8_timesNamed_34 (gX8_timesNamed  n)  r0 x1 x2 x3 x4 x5 x6 x7 h := rfl
def fX8_timesNamed (r0 : Nat) (x1 : Int32) (x2 : Int32) (x3 : Int32) (h : Hp) : RS := kX8_timesNamed_0 (gX8_timesNamed FF) r0 x1 x2 x3 h
theorem tX8_timesNamed {G : GG} {d : Nat} {r0 x1 x2 x3} {h : Hp} {o : OU} {h' : Hp} (e : fX8_timesNamed r0 x1 x2 x3 h = some (o, h')) (hd : 2 ≤ d) : VM G mX8_timesNamed d [.ref r0, .int x1, .int x2, .int x3] h o h' := uX8_timesNamed_0 hd _ (wX8_timesNamed hd FF) e
def kX6_linksDue_0 (rec : Nat → List Value → List Value → Hp → RS)  (r0 : Nat) (r1 : Nat) (x2 : Int32) (x3 : Int32) (h : Hp) : RS := (if kH h r1 = 15 then (bI (fX5_countPutOff r1 x3 h) fun z2 h1 => (rec 10 [uV, .ref r1, .int x2, .int x3, .int z2, .int 0] [] h1)) else none)
theorem uX6_linksDue_0 {G : GG} {d : Nat} (hd : 3 ≤ d) (rec : Nat → List Value → List Value → Hp → RS) (hrec : ∀ pc loc st h o h', rec pc loc st h = some (o, h') → V G mX6_linksDue d pc loc st h o h')   {r0  r1  x2  x3 } {h : Hp} {o : OU} {h' : Hp} (e : kX6_linksDue_0 rec  r0 r1 x2 x3 h = some (o, h')) : VM G mX6_linksDue d [.ref r0, .ref r1, .int x2, .int x3] h o h' := by
  unfold kX6_linksDue_0 at e
  refine eX6_linksDue r0 r1 x2 x3 (by omega) ?_
  obtain ⟨q1, e⟩ := ob_e e
  refine ⟨q1, ?_⟩
  obtain ⟨z2, h1, e2, e⟩ := bI_e e
  refine ⟨z2, h1, (tX5_countPutOff e2 (by omega)), ?_⟩
  exact hrec _ _ _ _ _ _ e
def kX6_linksDue_10 (rec : Nat → List Value → List Value → Hp → RS)  (r1 : Nat) (x2 : Int32) (x3 : Int32) (x4 : Int32) (x5 : Int32) (h : Hp) : RS := (if 12 ≤ x5 then (some (.inl (some (.int x4)), h)) else (if ((x2 >>> (x5 &&& 31)) &&& 1) = 0 then (rec 10 [uV, .ref r1, .int x2, .int x3, .int x4, .int (x5 + 1)] [] h) else (bI (fX8_timesNamed r1 0 x5 x3 h) fun z4 h3 => (rec 10 [uV, .ref r1, .int x2, .int x3, .int (x4 + z4), .int (x5 + 1)] [] h3))))
theorem uX6_linksDue_10 {G : GG} {d : Nat} (hd : 3 ≤ d) (rec : Nat → List Value → List Value → Hp → RS) (hrec : ∀ pc loc st h o h', rec pc loc st h = some (o, h') → V G mX6_linksDue d pc loc st h o h')   {r1  x2  x3  x4  x5 } {h : Hp} {o : OU} {h' : Hp} (e : kX6_linksDue_10 rec  r1 x2 x3 x4 x5 h = some (o, h')) : V G mX6_linksDue d 10 [uV, .ref r1, .int x2, .int x3, .int x4, .int x5] [] h o h' := by
  unfold kX6_linksDue_10 at e
  refine bX6_linksDue_10 r1 x2 x3 x4 x5 (by omega) ?_
  refine ⟨fun c1 => ?_, fun c1 => ?_⟩
  · have e := if_t e c1
    cases e
    exact ⟨rfl, rfl⟩
  · have e := if_f e c1
    refine ⟨fun c2 => ?_, fun c2 => ?_⟩
    · have e := if_t e c2
      exact hrec _ _ _ _ _ _ e
    · have e := if_f e c2
      obtain ⟨z4, h3, e3, e⟩ := bI_e e
      refine ⟨z4, h3, (tX8_timesNamed e3 (by omega)), ?_⟩
      exact hrec _ _ _ _ _ _ e
def sX6_linksDue  (rec : Nat → List Value → List Value → Hp → RS) (pc : Nat) (loc st : List Value) (h : Hp) : RS := match pc, loc, st with
  | 10, [_, .ref r1, .int x2, .int x3, .int x4, .int x5], [] => kX6_linksDue_10 rec  r1 x2 x3 x4 x5 h
  | _, _, _ => none
def gX6_linksDue  : Nat → Nat → List Value → List Value → Hp → RS
  | 0 => fun _ _ _ _ => none
  | n + 1 => sX6_linksDue  (gX6_linksDue  n)
theorem wX6_linksDue {G : GG} {d : Nat} (hd : 3 ≤ d)   : ∀ (n pc : Nat) (loc st : List Value) (h : Hp) (o : OU) (h' : Hp), gX6_linksDue  n pc loc st h = some (o, h') → V G mX6_linksDue d pc loc st h o h' := by
  intro n
  induction n with
  | zero => intro pc loc st h o h' e; cases e
  | succ n ih =>
    intro pc loc st h o h' e
    unfold gX6_linksDue sX6_linksDue at e
    split at e
    · exact V.drop (llp_u (llp_r (llp_r (llp_r (llp_r (llp_r llp_nil)))))) (uX6_linksDue_10 hd _ ih   e)
    · cases e
theorem zX6_linksDue_10  (n : Nat) (r1 : Nat) (x2 : Int32) (x3 : Int32) (x4 : Int32) (x5 : Int32) (y0 : Value) (h : Hp) : gX6_linksDue  (n + 1) 10 [y0, .ref r1, .int x2, .int x3, .int x4, .int x5] [] h = kX6_linksDue_10 (gX6_linksDue  n)  r1 x2 x3 x4 x5 h := rfl
def fX6_linksDue (r0 : Nat) (r1 : Nat) (x2 : Int32) (x3 : Int32) (h : Hp) : RS := kX6_linksDue_0 (gX6_linksDue FF) r0 r1 x2 x3 h
theorem tX6_linksDue {G : GG} {d : Nat} {r0 r1 x2 x3} {h : Hp} {o : OU} {h' : Hp} (e : fX6_linksDue r0 r1 x2 x3 h = some (o, h')) (hd : 3 ≤ d) : VM G mX6_linksDue d [.ref r0, .ref r1, .int x2, .int x3] h o h' := uX6_linksDue_0 hd _ (wX6_linksDue hd FF) e
def kX6_firstFound_0 (rec : Nat → List Value → List Value → Hp → RS)  (r0 : Nat) (r1 : Nat) (h : Hp) : RS := (bI (fX8_reachedNodes r1 0 h) fun z2 h1 => (rec 8 [.ref r0, .ref r1, .int z2, .int 1, uV] [] h1))
theorem uX6_firstFound_0 {G : GG} {d : Nat} (hd : 4 ≤ d) (rec : Nat → List Value → List Value → Hp → RS) (hrec : ∀ pc loc st h o h', rec pc loc st h = some (o, h') → V G mX6_firstFound d pc loc st h o h')   {r0  r1 } {h : Hp} {o : OU} {h' : Hp} (e : kX6_firstFound_0 rec  r0 r1 h = some (o, h')) : VM G mX6_firstFound d [.ref r0, .ref r1] h o h' := by
  unfold kX6_firstFound_0 at e
  refine eX6_firstFound r0 r1 (by omega) ?_
  obtain ⟨z2, h1, e1, e⟩ := bI_e e
  refine ⟨z2, h1, (tX8_reachedNodes e1 (by omega)), ?_⟩
  exact hrec _ _ _ _ _ _ e
def kX6_firstFound_8 (rec : Nat → List Value → List Value → Hp → RS)  (r0 : Nat) (r1 : Nat) (x2 : Int32) (x3 : Int32) (h : Hp) : RS := (if 12 ≤ x3 then (bI (fX8_linkedNodes r1 0 h) fun z3 h2 => (bI (fX8_pointedBlocks r1 0 z3 h2) fun z6 h5 => (rec 62 [uV, .ref r1, uV, .int z6, .int 4] [] h5))) else (if kH h r1 = 15 then (bI (fX5_nodeField r1 0 x3 0 h) fun z9 h8 => (if z9 ≤ 0 then (rec 8 [.ref r0, .ref r1, .int x2, .int (x3 + 1), uV] [] h8) else (if kH h8 r0 = 16 then (bI (fX6_linksDue r0 r1 x2 x3 h8) fun z14 h13 => (if z9 ≤ z14 then (rec 8 [.ref r0, .ref r1, .int x2, .int (x3 + 1), uV] [] h13) else (some (.inl (some (.int x3)), h13)))) else none))) else none))
theorem uX6_firstFound_8 {G : GG} {d : Nat} (hd : 4 ≤ d) (rec : Nat → List Value → List Value → Hp → RS) (hrec : ∀ pc loc st h o h', rec pc loc st h = some (o, h') → V G mX6_firstFound d pc loc st h o h')   {r0  r1  x2  x3 } {h : Hp} {o : OU} {h' : Hp} (e : kX6_firstFound_8 rec  r0 r1 x2 x3 h = some (o, h')) : V G mX6_firstFound d 8 [.ref r0, .ref r1, .int x2, .int x3, uV] [] h o h' := by
  unfold kX6_firstFound_8 at e
  refine bX6_firstFound_8 r0 r1 x2 x3 (by omega) ?_
  refine ⟨fun c1 => ?_, fun c1 => ?_⟩
  · have e := if_t e c1
    obtain ⟨z3, h2, e2, e⟩ := bI_e e
    refine ⟨z3, h2, (tX8_linkedNodes e2 (by omega)), ?_⟩
    obtain ⟨z6, h5, e3, e⟩ := bI_e e
    refine ⟨z6, h5, (tX8_pointedBlocks e3 (by omega)), ?_⟩
    exact hrec _ _ _ _ _ _ e
  · have e := if_f e c1
    obtain ⟨q4, e⟩ := ob_e e
    refine ⟨q4, ?_⟩
    obtain ⟨z9, h8, e5, e⟩ := bI_e e
    refine ⟨z9, h8, (tX5_nodeField e5 (by omega)), ?_⟩
    refine ⟨fun c6 => ?_, fun c6 => ?_⟩
    · have e := if_t e c6
      exact hrec _ _ _ _ _ _ e
    · have e := if_f e c6
      obtain ⟨q7, e⟩ := ob_e e
      refine ⟨q7, ?_⟩
      obtain ⟨z14, h13, e8, e⟩ := bI_e e
      refine ⟨z14, h13, (tX6_linksDue e8 (by omega)), ?_⟩
      refine ⟨fun c9 => ?_, fun c9 => ?_⟩
      · have e := if_t e c9
        exact hrec _ _ _ _ _ _ e
      · have e := if_f e c9
        cases e
        exact ⟨rfl, rfl⟩
def kX6_firstFound_62 (rec : Nat → List Value → List Value → Hp → RS)  (r1 : Nat) (x3 : Int32) (x4 : Int32) (h : Hp) : RS := (if kH h r1 = 15 then (if (h.2 r1 0) ≤ x4 then (some (.inl (some (.int (-1))), h)) else (bI (fX5_at r1 0 0 x4 h) fun z4 h3 => (if z4 = 0 then (rec 62 [uV, .ref r1, uV, .int x3, .int (x4 + 1)] [] h3) else (if ¬ ((x3 >>> (x4 &&& 31)) &&& 1) = 0 then (rec 62 [uV, .ref r1, uV, .int x3, .int (x4 + 1)] [] h3) else (if kH h3 r1 = 15 then (bI (fX5_countPutOff r1 (100 + x4) h3) fun z9 h8 => (if ¬ z9 = 0 then (rec 62 [uV, .ref r1, uV, .int x3, .int (x4 + 1)] [] h8) else (some (.inl (some (.int (100 + x4))), h8)))) else none))))) else none)
theorem uX6_firstFound_62 {G : GG} {d : Nat} (hd : 4 ≤ d) (rec : Nat → List Value → List Value → Hp → RS) (hrec : ∀ pc loc st h o h', rec pc loc st h = some (o, h') → V G mX6_firstFound d pc loc st h o h')   {r1  x3  x4 } {h : Hp} {o : OU} {h' : Hp} (e : kX6_firstFound_62 rec  r1 x3 x4 h = some (o, h')) : V G mX6_firstFound d 62 [uV, .ref r1, uV, .int x3, .int x4] [] h o h' := by
  unfold kX6_firstFound_62 at e
  refine bX6_firstFound_62 r1 x3 x4 (by omega) ?_
  obtain ⟨q1, e⟩ := ob_e e
  refine ⟨q1, ?_⟩
  refine ⟨fun c2 => ?_, fun c2 => ?_⟩
  · have e := if_t e c2
    cases e
    exact ⟨rfl, rfl⟩
  · have e := if_f e c2
    obtain ⟨z4, h3, e3, e⟩ := bI_e e
    refine ⟨z4, h3, (tX5_at e3 (by omega)), ?_⟩
    refine ⟨fun c4 => ?_, fun c4 => ?_⟩
    · have e := if_t e c4
      exact hrec _ _ _ _ _ _ e
    · have e := if_f e c4
      refine ⟨fun c5 => ?_, fun c5 => ?_⟩
      · have e := if_t e c5
        exact hrec _ _ _ _ _ _ e
      · have e := if_n e c5
        obtain ⟨q6, e⟩ := ob_e e
        refine ⟨q6, ?_⟩
        obtain ⟨z9, h8, e7, e⟩ := bI_e e
        refine ⟨z9, h8, (tX5_countPutOff e7 (by omega)), ?_⟩
        refine ⟨fun c8 => ?_, fun c8 => ?_⟩
        · have e := if_t e c8
          exact hrec _ _ _ _ _ _ e
        · have e := if_n e c8
          cases e
          exact ⟨rfl, rfl⟩
def sX6_firstFound  (rec : Nat → List Value → List Value → Hp → RS) (pc : Nat) (loc st : List Value) (h : Hp) : RS := match pc, loc, st with
  | 8, [.ref r0, .ref r1, .int x2, .int x3, _], [] => kX6_firstFound_8 rec  r0 r1 x2 x3 h
  | 62, [_, .ref r1, _, .int x3, .int x4], [] => kX6_firstFound_62 rec  r1 x3 x4 h
  | _, _, _ => none
def gX6_firstFound  : Nat → Nat → List Value → List Value → Hp → RS
  | 0 => fun _ _ _ _ => none
  | n + 1 => sX6_firstFound  (gX6_firstFound  n)
theorem wX6_firstFound {G : GG} {d : Nat} (hd : 4 ≤ d)   : ∀ (n pc : Nat) (loc st : List Value) (h : Hp) (o : OU) (h' : Hp), gX6_firstFound  n pc loc st h = some (o, h') → V G mX6_firstFound d pc loc st h o h' := by
  intro n
  induction n with
  | zero => intro pc loc st h o h' e; cases e
  | succ n ih =>
    intro pc loc st h o h' e
    unfold gX6_firstFound sX6_firstFound at e
    split at e
    · exact V.drop (llp_r (llp_r (llp_r (llp_r (llp_u llp_nil))))) (uX6_firstFound_8 hd _ ih   e)
    · exact V.drop (llp_u (llp_r (llp_u (llp_r (llp_r llp_nil))))) (uX6_firstFound_62 hd _ ih   e)
    · cases e
theorem zX6_firstFound_8  (n : Nat) (r0 : Nat) (r1 : Nat) (x2 : Int32) (x3 : Int32) (y4 : Value) (h : Hp) : gX6_firstFound  (n + 1) 8 [.ref r0, .ref r1, .int x2, .int x3, y4] [] h = kX6_firstFound_8 (gX6_firstFound  n)  r0 r1 x2 x3 h := rfl
theorem zX6_firstFound_62  (n : Nat) (r1 : Nat) (x3 : Int32) (x4 : Int32) (y0 : Value) (y2 : Value) (h : Hp) : gX6_firstFound  (n + 1) 62 [y0, .ref r1, y2, .int x3, .int x4] [] h = kX6_firstFound_62 (gX6_firstFound  n)  r1 x3 x4 h := rfl
def fX6_firstFound (r0 : Nat) (r1 : Nat) (h : Hp) : RS := kX6_firstFound_0 (gX6_firstFound FF) r0 r1 h
theorem tX6_firstFound {G : GG} {d : Nat} {r0 r1} {h : Hp} {o : OU} {h' : Hp} (e : fX6_firstFound r0 r1 h = some (o, h')) (hd : 4 ≤ d) : VM G mX6_firstFound d [.ref r0, .ref r1] h o h' := uX6_firstFound_0 hd _ (wX6_firstFound hd FF) e
def kX6_sweepOne_0  (r0 : Nat) (r1 : Nat) (h : Hp) : RS := (if kH h r0 = 16 then (bI (fX6_firstFound r0 r1 h) fun z2 h1 => (if ¬ z2 = (-1) then (if z2 < 100 then (bI (fX8_reachedNodes r1 0 h1) fun z8 h7 => (if kH h7 r0 = 16 then (bI (fX6_linksDue r0 r1 z8 z2 h7) fun z11 h10 => (if kH h10 r1 = 15 then (bV (fX5_setLinks r1 z2 z11 h10) fun h14 => (some (.inl (some (.int 1)), h14))) else none)) else none)) else (if kH h1 r1 = 15 then (bI (fX5_put r1 0 (z2 - 100) 0 h1) fun z18 h17 => (some (.inl (some (.int 1)), h17))) else none)) else (some (.inl (some (.int 0)), h1)))) else none)
theorem uX6_sweepOne_0 {G : GG} {d : Nat} (hd : 5 ≤ d)   {r0  r1 } {h : Hp} {o : OU} {h' : Hp} (e : kX6_sweepOne_0  r0 r1 h = some (o, h')) : VM G mX6_sweepOne d [.ref r0, .ref r1] h o h' := by
  unfold kX6_sweepOne_0 at e
  refine eX6_sweepOne r0 r1 (by omega) ?_
  obtain ⟨q1, e⟩ := ob_e e
  refine ⟨q1, ?_⟩
  obtain ⟨z2, h1, e2, e⟩ := bI_e e
  refine ⟨z2, h1, (tX6_firstFound e2 (by omega)), ?_⟩
  refine ⟨fun c3 => ?_, fun c3 => ?_⟩
  · have e := if_t e c3
    refine ⟨fun c4 => ?_, fun c4 => ?_⟩
    · have e := if_t e c4
      obtain ⟨z8, h7, e5, e⟩ := bI_e e
      refine ⟨z8, h7, (tX8_reachedNodes e5 (by omega)), ?_⟩
      obtain ⟨q6, e⟩ := ob_e e
      refine ⟨q6, ?_⟩
      obtain ⟨z11, h10, e7, e⟩ := bI_e e
      refine ⟨z11, h10, (tX6_linksDue e7 (by omega)), ?_⟩
      obtain ⟨q8, e⟩ := ob_e e
      refine ⟨q8, ?_⟩
      obtain ⟨h14, e9, e⟩ := bV_e e
      refine ⟨h14, (tX5_setLinks e9 (by omega)), ?_⟩
      cases e
      exact ⟨rfl, rfl⟩
    · have e := if_f e c4
      obtain ⟨q10, e⟩ := ob_e e
      refine ⟨q10, ?_⟩
      obtain ⟨z18, h17, e11, e⟩ := bI_e e
      refine ⟨z18, h17, (tX5_put e11 (by omega)), ?_⟩
      cases e
      exact ⟨rfl, rfl⟩
  · have e := if_n e c3
    cases e
    exact ⟨rfl, rfl⟩
def fX6_sweepOne (r0 : Nat) (r1 : Nat) (h : Hp) : RS := kX6_sweepOne_0 r0 r1 h
theorem tX6_sweepOne {G : GG} {d : Nat} {r0 r1} {h : Hp} {o : OU} {h' : Hp} (e : fX6_sweepOne r0 r1 h = some (o, h')) (hd : 5 ≤ d) : VM G mX6_sweepOne d [.ref r0, .ref r1] h o h' := uX6_sweepOne_0 hd e
def kX6_take_0 (rec : Nat → List Value → List Value → Hp → RS)  (r0 : Nat) (r1 : Nat) (x2 : Int32) (x3 : Int32) (x4 : Int32) (x5 : Int32) (h : Hp) : RS := (if 7 < x2 then (rec 26 [.ref r0, .ref r1, .int x2, .int x3, .int x4, .int x5] [] h) else (if kH h r1 = 15 then (if 60 ≤ (h.2 r1 2) then (some (.inl (some (.int 0)), h)) else (if (h.2 r1 9) < 30 then (rec 26 [.ref r0, .ref r1, .int x2, .int x3, .int x4, .int x5] [] h) else (some (.inl (some (.int 0)), h)))) else none))
theorem uX6_take_0 {G : GG} {d : Nat} (hd : 6 ≤ d) (rec : Nat → List Value → List Value → Hp → RS) (hrec : ∀ pc loc st h o h', rec pc loc st h = some (o, h') → V G mX6_take d pc loc st h o h')   {r0  r1  x2  x3  x4  x5 } {h : Hp} {o : OU} {h' : Hp} (e : kX6_take_0 rec  r0 r1 x2 x3 x4 x5 h = some (o, h')) : VM G mX6_take d [.ref r0, .ref r1, .int x2, .int x3, .int x4, .int x5] h o h' := by
  unfold kX6_take_0 at e
  refine eX6_take r0 r1 x2 x3 x4 x5 ?_
  refine ⟨fun c1 => ?_, fun c1 => ?_⟩
  · have e := if_t e c1
    exact hrec _ _ _ _ _ _ e
  · have e := if_f e c1
    obtain ⟨q2, e⟩ := ob_e e
    refine ⟨q2, ?_⟩
    refine ⟨fun c3 => ?_, fun c3 => ?_⟩
    · have e := if_t e c3
      cases e
      exact ⟨rfl, rfl⟩
    · have e := if_f e c3
      refine ⟨fun c4 => ?_, fun c4 => ?_⟩
      · have e := if_t e c4
        exact hrec _ _ _ _ _ _ e
      · have e := if_f e c4
        cases e
        exact ⟨rfl, rfl⟩
def kX6_take_26 (rec : Nat → List Value → List Value → Hp → RS)  (r0 : Nat) (r1 : Nat) (x2 : Int32) (x3 : Int32) (x4 : Int32) (x5 : Int32) (h : Hp) : RS := (if x2 = 0 then (if kH h r0 = 16 then (bI (fX6_makeFile r0 r1 x3 x4 h) fun z3 h2 => (if (z3 = 0 ∨ z3 = 1) then (some (.inl (some (.int z3)), h2)) else none)) else none) else (if x2 = 1 then (if kH h r0 = 16 then (bI (fX6_makeDirectory r0 r1 x3 x4 h) fun z9 h8 => (if (z9 = 0 ∨ z9 = 1) then (some (.inl (some (.int z9)), h8)) else none)) else none) else (if x2 = 2 then (if kH h r0 = 16 then (bI (fX6_linkFile r0 r1 x3 x4 x5 h) fun z15 h14 => (if (z15 = 0 ∨ z15 = 1) then (some (.inl (some (.int z15)), h14)) else none)) else none) else (if x2 = 3 then (if kH h r0 = 16 then (bI (fX6_growNode r0 r1 x3 x4 h) fun z21 h20 => (if (z21 = 0 ∨ z21 = 1) then (some (.inl (some (.int z21)), h20)) else none)) else none) else (if x2 = 4 then (if kH h r0 = 16 then (bI (fX6_putInFile r0 r1 x3 x4 x5 h) fun z27 h26 => (if (z27 = 0 ∨ z27 = 1) then (some (.inl (some (.int z27)), h26)) else none)) else none) else (if x2 = 5 then (if kH h r0 = 16 then (bI (fX6_cutFile r0 r1 x3 h) fun z33 h32 => (if (z33 = 0 ∨ z33 = 1) then (some (.inl (some (.int z33)), h32)) else none)) else none) else (if x2 = 6 then (if kH h r0 = 16 then (bI (fX6_dropEntry r0 r1 x3 x4 h) fun z39 h38 => (if (z39 = 0 ∨ z39 = 1) then (some (.inl (some (.int z39)), h38)) else none)) else none) else (if x2 = 7 then (if kH h r0 = 16 then (bI (fX6_sweepOne r0 r1 h) fun z45 h44 => (if (z45 = 0 ∨ z45 = 1) then (some (.inl (some (.int z45)), h44)) else none)) else none) else (if x2 = 8 then (if kH h r0 = 16 then (if kH h (rH h r0 0) = 12 then (bI (fX2_writeBlock (rH h r0 0) r1 x3 h) fun z52 h51 => (if (z52 = 0 ∨ z52 = 1) then (some (.inl (some (.int z52)), h51)) else none)) else none) else none) else (if x2 = 9 then (if kH h r0 = 16 then (if kH h (rH h r0 0) = 12 then (bI (fX2_syncAll (rH h r0 0) r1 h) fun z59 h58 => (if z59 ≤ 0 then (some (.inl (some (.int 0)), h58)) else (some (.inl (some (.int 1)), h58)))) else none) else none) else (if x2 = 10 then (if kH h r1 = 15 then (bV (fX5_crash r1 h) fun h64 => (some (.inl (some (.int 1)), h64))) else none) else (some (.inl (some (.int 0)), h)))))))))))))
theorem uX6_take_26 {G : GG} {d : Nat} (hd : 6 ≤ d) (rec : Nat → List Value → List Value → Hp → RS) (hrec : ∀ pc loc st h o h', rec pc loc st h = some (o, h') → V G mX6_take d pc loc st h o h')   {r0  r1  x2  x3  x4  x5 } {h : Hp} {o : OU} {h' : Hp} (e : kX6_take_26 rec  r0 r1 x2 x3 x4 x5 h = some (o, h')) : V G mX6_take d 26 [.ref r0, .ref r1, .int x2, .int x3, .int x4, .int x5] [] h o h' := by
  unfold kX6_take_26 at e
  refine bX6_take_26 r0 r1 x2 x3 x4 x5 (by omega) ?_
  refine ⟨?_, ?_, ?_, ?_, ?_, ?_, ?_, ?_, ?_, ?_, ?_, ?_⟩
  · intro cc
    have e := if_t e cc
    obtain ⟨q1, e⟩ := ob_e e
    refine ⟨q1, ?_⟩
    obtain ⟨z3, h2, e2, e⟩ := bI_e e
    refine ⟨z3, h2, (tX6_makeFile e2 (by omega)), ?_⟩
    obtain ⟨q3, e⟩ := ob_e e
    refine ⟨q3, ?_⟩
    cases e
    exact ⟨rfl, rfl⟩
  · intro cc
    have e := if_f e (by rw [cc]; decide)
    have e := if_t e cc
    obtain ⟨q4, e⟩ := ob_e e
    refine ⟨q4, ?_⟩
    obtain ⟨z9, h8, e5, e⟩ := bI_e e
    refine ⟨z9, h8, (tX6_makeDirectory e5 (by omega)), ?_⟩
    obtain ⟨q6, e⟩ := ob_e e
    refine ⟨q6, ?_⟩
    cases e
    exact ⟨rfl, rfl⟩
  · intro cc
    have e := if_f e (by rw [cc]; decide)
    have e := if_f e (by rw [cc]; decide)
    have e := if_t e cc
    obtain ⟨q7, e⟩ := ob_e e
    refine ⟨q7, ?_⟩
    obtain ⟨z15, h14, e8, e⟩ := bI_e e
    refine ⟨z15, h14, (tX6_linkFile e8 (by omega)), ?_⟩
    obtain ⟨q9, e⟩ := ob_e e
    refine ⟨q9, ?_⟩
    cases e
    exact ⟨rfl, rfl⟩
  · intro cc
    have e := if_f e (by rw [cc]; decide)
    have e := if_f e (by rw [cc]; decide)
    have e := if_f e (by rw [cc]; decide)
    have e := if_t e cc
    obtain ⟨q10, e⟩ := ob_e e
    refine ⟨q10, ?_⟩
    obtain ⟨z21, h20, e11, e⟩ := bI_e e
    refine ⟨z21, h20, (tX6_growNode e11 (by omega)), ?_⟩
    obtain ⟨q12, e⟩ := ob_e e
    refine ⟨q12, ?_⟩
    cases e
    exact ⟨rfl, rfl⟩
  · intro cc
    have e := if_f e (by rw [cc]; decide)
    have e := if_f e (by rw [cc]; decide)
    have e := if_f e (by rw [cc]; decide)
    have e := if_f e (by rw [cc]; decide)
    have e := if_t e cc
    obtain ⟨q13, e⟩ := ob_e e
    refine ⟨q13, ?_⟩
    obtain ⟨z27, h26, e14, e⟩ := bI_e e
    refine ⟨z27, h26, (tX6_putInFile e14 (by omega)), ?_⟩
    obtain ⟨q15, e⟩ := ob_e e
    refine ⟨q15, ?_⟩
    cases e
    exact ⟨rfl, rfl⟩
  · intro cc
    have e := if_f e (by rw [cc]; decide)
    have e := if_f e (by rw [cc]; decide)
    have e := if_f e (by rw [cc]; decide)
    have e := if_f e (by rw [cc]; decide)
    have e := if_f e (by rw [cc]; decide)
    have e := if_t e cc
    obtain ⟨q16, e⟩ := ob_e e
    refine ⟨q16, ?_⟩
    obtain ⟨z33, h32, e17, e⟩ := bI_e e
    refine ⟨z33, h32, (tX6_cutFile e17 (by omega)), ?_⟩
    obtain ⟨q18, e⟩ := ob_e e
    refine ⟨q18, ?_⟩
    cases e
    exact ⟨rfl, rfl⟩
  · intro cc
    have e := if_f e (by rw [cc]; decide)
    have e := if_f e (by rw [cc]; decide)
    have e := if_f e (by rw [cc]; decide)
    have e := if_f e (by rw [cc]; decide)
    have e := if_f e (by rw [cc]; decide)
    have e := if_f e (by rw [cc]; decide)
    have e := if_t e cc
    obtain ⟨q19, e⟩ := ob_e e
    refine ⟨q19, ?_⟩
    obtain ⟨z39, h38, e20, e⟩ := bI_e e
    refine ⟨z39, h38, (tX6_dropEntry e20 (by omega)), ?_⟩
    obtain ⟨q21, e⟩ := ob_e e
    refine ⟨q21, ?_⟩
    cases e
    exact ⟨rfl, rfl⟩
  · intro cc
    have e := if_f e (by rw [cc]; decide)
    have e := if_f e (by rw [cc]; decide)
    have e := if_f e (by rw [cc]; decide)
    have e := if_f e (by rw [cc]; decide)
    have e := if_f e (by rw [cc]; decide)
    have e := if_f e (by rw [cc]; decide)
    have e := if_f e (by rw [cc]; decide)
    have e := if_t e cc
    obtain ⟨q22, e⟩ := ob_e e
    refine ⟨q22, ?_⟩
    obtain ⟨z45, h44, e23, e⟩ := bI_e e
    refine ⟨z45, h44, (tX6_sweepOne e23 (by omega)), ?_⟩
    obtain ⟨q24, e⟩ := ob_e e
    refine ⟨q24, ?_⟩
    cases e
    exact ⟨rfl, rfl⟩
  · intro cc
    have e := if_f e (by rw [cc]; decide)
    have e := if_f e (by rw [cc]; decide)
    have e := if_f e (by rw [cc]; decide)
    have e := if_f e (by rw [cc]; decide)
    have e := if_f e (by rw [cc]; decide)
    have e := if_f e (by rw [cc]; decide)
    have e := if_f e (by rw [cc]; decide)
    have e := if_f e (by rw [cc]; decide)
    have e := if_t e cc
    obtain ⟨q25, e⟩ := ob_e e
    refine ⟨q25, ?_⟩
    obtain ⟨q26, e⟩ := ob_e e
    refine ⟨q26, ?_⟩
    obtain ⟨z52, h51, e27, e⟩ := bI_e e
    refine ⟨z52, h51, (tX2_writeBlock e27 (by omega)), ?_⟩
    obtain ⟨q28, e⟩ := ob_e e
    refine ⟨q28, ?_⟩
    cases e
    exact ⟨rfl, rfl⟩
  · intro cc
    have e := if_f e (by rw [cc]; decide)
    have e := if_f e (by rw [cc]; decide)
    have e := if_f e (by rw [cc]; decide)
    have e := if_f e (by rw [cc]; decide)
    have e := if_f e (by rw [cc]; decide)
    have e := if_f e (by rw [cc]; decide)
    have e := if_f e (by rw [cc]; decide)
    have e := if_f e (by rw [cc]; decide)
    have e := if_f e (by rw [cc]; decide)
    have e := if_t e cc
    obtain ⟨q29, e⟩ := ob_e e
    refine ⟨q29, ?_⟩
    obtain ⟨q30, e⟩ := ob_e e
    refine ⟨q30, ?_⟩
    obtain ⟨z59, h58, e31, e⟩ := bI_e e
    refine ⟨z59, h58, (tX2_syncAll e31 (by omega)), ?_⟩
    refine ⟨fun c32 => ?_, fun c32 => ?_⟩
    · have e := if_t e c32
      cases e
      exact ⟨rfl, rfl⟩
    · have e := if_f e c32
      cases e
      exact ⟨rfl, rfl⟩
  · intro cc
    have e := if_f e (by rw [cc]; decide)
    have e := if_f e (by rw [cc]; decide)
    have e := if_f e (by rw [cc]; decide)
    have e := if_f e (by rw [cc]; decide)
    have e := if_f e (by rw [cc]; decide)
    have e := if_f e (by rw [cc]; decide)
    have e := if_f e (by rw [cc]; decide)
    have e := if_f e (by rw [cc]; decide)
    have e := if_f e (by rw [cc]; decide)
    have e := if_f e (by rw [cc]; decide)
    have e := if_t e cc
    obtain ⟨q33, e⟩ := ob_e e
    refine ⟨q33, ?_⟩
    obtain ⟨h64, e34, e⟩ := bV_e e
    refine ⟨h64, (tX5_crash e34 (by omega)), ?_⟩
    cases e
    exact ⟨rfl, rfl⟩
  · intro n0 n1 n2 n3 n4 n5 n6 n7 n8 n9 n10
    have e := if_f e n0
    have e := if_f e n1
    have e := if_f e n2
    have e := if_f e n3
    have e := if_f e n4
    have e := if_f e n5
    have e := if_f e n6
    have e := if_f e n7
    have e := if_f e n8
    have e := if_f e n9
    have e := if_f e n10
    cases e
    exact ⟨rfl, rfl⟩
def sX6_take  (rec : Nat → List Value → List Value → Hp → RS) (pc : Nat) (loc st : List Value) (h : Hp) : RS := match pc, loc, st with
  | 26, [.ref r0, .ref r1, .int x2, .int x3, .int x4, .int x5], [] => kX6_take_26 rec  r0 r1 x2 x3 x4 x5 h
  | _, _, _ => none
def gX6_take  : Nat → Nat → List Value → List Value → Hp → RS
  | 0 => fun _ _ _ _ => none
  | n + 1 => sX6_take  (gX6_take  n)
theorem wX6_take {G : GG} {d : Nat} (hd : 6 ≤ d)   : ∀ (n pc : Nat) (loc st : List Value) (h : Hp) (o : OU) (h' : Hp), gX6_take  n pc loc st h = some (o, h') → V G mX6_take d pc loc st h o h' := by
  intro n
  induction n with
  | zero => intro pc loc st h o h' e; cases e
  | succ n ih =>
    intro pc loc st h o h' e
    unfold gX6_take sX6_take at e
    split at e
    · exact uX6_take_26 hd _ ih   e
    · cases e
theorem zX6_take_26  (n : Nat) (r0 : Nat) (r1 : Nat) (x2 : Int32) (x3 : Int32) (x4 : Int32) (x5 : Int32)  (h : Hp) : gX6_take  (n + 1) 26 [.ref r0, .ref r1, .int x2, .int x3, .int x4, .int x5] [] h = kX6_take_26 (gX6_take  n)  r0 r1 x2 x3 x4 x5 h := rfl
def fX6_take (r0 : Nat) (r1 : Nat) (x2 : Int32) (x3 : Int32) (x4 : Int32) (x5 : Int32) (h : Hp) : RS := kX6_take_0 (gX6_take FF) r0 r1 x2 x3 x4 x5 h
theorem tX6_take {G : GG} {d : Nat} {r0 r1 x2 x3 x4 x5} {h : Hp} {o : OU} {h' : Hp} (e : fX6_take r0 r1 x2 x3 x4 x5 h = some (o, h')) (hd : 6 ≤ d) : VM G mX6_take d [.ref r0, .ref r1, .int x2, .int x3, .int x4, .int x5] h o h' := uX6_take_0 hd _ (wX6_take hd FF) e
def kX7_init_0  (r0 : Nat) (x1 : Int32) (h : Hp) : RS := (if r0 ≠ 0 then (if kH h r0 = 17 then (some (.inl none, (h.1, (upI h.2 r0 0 x1)))) else none) else none)
theorem uX7_init_0 {G : GG} {d : Nat} (hd : 1 ≤ d)   {r0  x1 } {h : Hp} {o : OU} {h' : Hp} (e : kX7_init_0  r0 x1 h = some (o, h')) : VM G mX7_init d [.ref r0, .int x1] h o h' := by
  unfold kX7_init_0 at e
  refine eX7_init r0 x1 (by omega) ?_
  obtain ⟨q1, e⟩ := ob_e e
  refine ⟨q1, ?_⟩
  obtain ⟨q2, e⟩ := ob_e e
  refine ⟨q2, ?_⟩
  cases e
  exact ⟨rfl, rfl⟩
def fX7_init (r0 : Nat) (x1 : Int32) (h : Hp) : RS := kX7_init_0 r0 x1 h
theorem tX7_init {G : GG} {d : Nat} {r0 x1} {h : Hp} {o : OU} {h' : Hp} (e : fX7_init r0 x1 h = some (o, h')) (hd : 1 ≤ d) : VM G mX7_init d [.ref r0, .int x1] h o h' := uX7_init_0 hd e
def kX7_drawn_0  (r0 : Nat) (x1 : Int32) (h : Hp) : RS := (if kH h r0 = 17 then (if 0 < x1 then (if ¬ x1 = 0 then (some (.inl (some (.int (((ushr ((upI h.2 r0 0 (((h.2 r0 0) * 1103515245) + 12345)) r0 0) 16) &&& 32767) - ((ushr ((upI h.2 r0 0 (((h.2 r0 0) * 1103515245) + 12345)) r0 0) 16) &&& 32767) / x1 * x1))), (h.1, (upI h.2 r0 0 (((h.2 r0 0) * 1103515245) + 12345))))) else none) else (some (.inl (some (.int 0)), (h.1, (upI h.2 r0 0 (((h.2 r0 0) * 1103515245) + 12345)))))) else none)
theorem uX7_drawn_0 {G : GG} {d : Nat} (hd : 1 ≤ d)   {r0  x1 } {h : Hp} {o : OU} {h' : Hp} (e : kX7_drawn_0  r0 x1 h = some (o, h')) : VM G mX7_drawn d [.ref r0, .int x1] h o h' := by
  unfold kX7_drawn_0 at e
  refine eX7_drawn r0 x1 ?_
  obtain ⟨q1, e⟩ := ob_e e
  refine ⟨q1, ?_⟩
  refine ⟨fun c2 => ?_, fun c2 => ?_⟩
  · have e := if_t e c2
    obtain ⟨q3, e⟩ := ob_e e
    refine ⟨q3, ?_⟩
    cases e
    exact ⟨rfl, rfl⟩
  · have e := if_f e c2
    cases e
    exact ⟨rfl, rfl⟩
def fX7_drawn (r0 : Nat) (x1 : Int32) (h : Hp) : RS := kX7_drawn_0 r0 x1 h
theorem tX7_drawn {G : GG} {d : Nat} {r0 x1} {h : Hp} {o : OU} {h' : Hp} (e : fX7_drawn r0 x1 h = some (o, h')) (hd : 1 ≤ d) : VM G mX7_drawn d [.ref r0, .int x1] h o h' := uX7_drawn_0 hd e
def kX7_drawStep_0  (r0 : Nat) (x1 : Int32) (h : Hp) : RS := (if kH h r0 = 17 then (bI (fX7_drawn r0 8 h) fun z2 h1 => (if kH h1 r0 = 17 then (if 2 < z2 then (if ¬ z2 = 3 then (if ¬ z2 = 4 then (bI (fX7_drawn r0 x1 (h1.1, (upI (upI h1.2 r0 3 0) r0 1 8))) fun z10 h9 => (if kH h9 r0 = 17 then (some (.inl none, (h9.1, (upI h9.2 r0 2 z10)))) else none)) else (bI (fX7_drawn r0 12 (h1.1, (upI (upI h1.2 r0 3 0) r0 1 5))) fun z14 h13 => (if kH h13 r0 = 17 then (some (.inl none, (h13.1, (upI h13.2 r0 2 z14)))) else none))) else (bI (fX7_drawn r0 12 (h1.1, (upI (upI h1.2 r0 3 0) r0 1 3))) fun z18 h17 => (if kH h17 r0 = 17 then (bI (fX7_drawn r0 100 (h17.1, (upI h17.2 r0 2 z18))) fun z22 h21 => (if kH h21 r0 = 17 then (some (.inl none, (h21.1, (upI h21.2 r0 3 z22)))) else none)) else none))) else (if ¬ z2 = 2 then (bI (fX7_drawn r0 9 (h1.1, (upI (upI (upI h1.2 r0 3 0) r0 1 0) r0 2 0))) fun z27 h26 => (if kH h26 r0 = 17 then (some (.inl none, (h26.1, (upI h26.2 r0 3 (1 + z27))))) else none)) else (bI (fX7_drawn r0 9 (h1.1, (upI (upI (upI h1.2 r0 3 0) r0 1 6) r0 2 0))) fun z31 h30 => (if kH h30 r0 = 17 then (some (.inl none, (h30.1, (upI h30.2 r0 3 (1 + z31))))) else none)))) else none)) else none)
theorem uX7_drawStep_0 {G : GG} {d : Nat} (hd : 2 ≤ d)   {r0  x1 } {h : Hp} {o : OU} {h' : Hp} (e : kX7_drawStep_0  r0 x1 h = some (o, h')) : VM G mX7_drawStep d [.ref r0, .int x1] h o h' := by
  unfold kX7_drawStep_0 at e
  refine eX7_drawStep r0 x1 (by omega) ?_
  obtain ⟨q1, e⟩ := ob_e e
  refine ⟨q1, ?_⟩
  obtain ⟨z2, h1, e2, e⟩ := bI_e e
  refine ⟨z2, h1, (tX7_drawn e2 (by omega)), ?_⟩
  obtain ⟨q3, e⟩ := ob_e e
  refine ⟨q3, ?_⟩
  refine ⟨fun c4 => ?_, fun c4 => ?_⟩
  · have e := if_t e c4
    refine ⟨fun c5 => ?_, fun c5 => ?_⟩
    · have e := if_t e c5
      refine ⟨fun c6 => ?_, fun c6 => ?_⟩
      · have e := if_t e c6
        obtain ⟨z10, h9, e7, e⟩ := bI_e e
        refine ⟨z10, h9, (tX7_drawn e7 (by omega)), ?_⟩
        obtain ⟨q8, e⟩ := ob_e e
        refine ⟨q8, ?_⟩
        cases e
        exact ⟨rfl, rfl⟩
      · have e := if_n e c6
        obtain ⟨z14, h13, e9, e⟩ := bI_e e
        refine ⟨z14, h13, (tX7_drawn e9 (by omega)), ?_⟩
        obtain ⟨q10, e⟩ := ob_e e
        refine ⟨q10, ?_⟩
        cases e
        exact ⟨rfl, rfl⟩
    · have e := if_n e c5
      obtain ⟨z18, h17, e11, e⟩ := bI_e e
      refine ⟨z18, h17, (tX7_drawn e11 (by omega)), ?_⟩
      obtain ⟨q12, e⟩ := ob_e e
      refine ⟨q12, ?_⟩
      obtain ⟨z22, h21, e13, e⟩ := bI_e e
      refine ⟨z22, h21, (tX7_drawn e13 (by omega)), ?_⟩
      obtain ⟨q14, e⟩ := ob_e e
      refine ⟨q14, ?_⟩
      cases e
      exact ⟨rfl, rfl⟩
  · have e := if_f e c4
    refine ⟨fun c15 => ?_, fun c15 => ?_⟩
    · have e := if_t e c15
      obtain ⟨z27, h26, e16, e⟩ := bI_e e
      refine ⟨z27, h26, (tX7_drawn e16 (by omega)), ?_⟩
      obtain ⟨q17, e⟩ := ob_e e
      refine ⟨q17, ?_⟩
      cases e
      exact ⟨rfl, rfl⟩
    · have e := if_n e c15
      obtain ⟨z31, h30, e18, e⟩ := bI_e e
      refine ⟨z31, h30, (tX7_drawn e18 (by omega)), ?_⟩
      obtain ⟨q19, e⟩ := ob_e e
      refine ⟨q19, ?_⟩
      cases e
      exact ⟨rfl, rfl⟩
def fX7_drawStep (r0 : Nat) (x1 : Int32) (h : Hp) : RS := kX7_drawStep_0 r0 x1 h
theorem tX7_drawStep {G : GG} {d : Nat} {r0 x1} {h : Hp} {o : OU} {h' : Hp} (e : fX7_drawStep r0 x1 h = some (o, h')) (hd : 2 ≤ d) : VM G mX7_drawStep d [.ref r0, .int x1] h o h' := uX7_drawStep_0 hd e
def kX8_freeEntries_0 (rec : Nat → List Value → List Value → Hp → RS)  (r0 : Nat) (x1 : Int32) (x2 : Int32) (h : Hp) : RS := (rec 5 [.ref r0, .int x1, .int x2, .int 0, .int 2, uV, uV] [] h)
theorem uX8_freeEntries_0 {G : GG} {d : Nat} (hd : 2 ≤ d) (rec : Nat → List Value → List Value → Hp → RS) (hrec : ∀ pc loc st h o h', rec pc loc st h = some (o, h') → V G mX8_freeEntries d pc loc st h o h')   {r0  x1  x2 } {h : Hp} {o : OU} {h' : Hp} (e : kX8_freeEntries_0 rec  r0 x1 x2 h = some (o, h')) : VM G mX8_freeEntries d [.ref r0, .int x1, .int x2] h o h' := by
  unfold kX8_freeEntries_0 at e
  refine eX8_freeEntries r0 x1 x2 ?_
  exact hrec _ _ _ _ _ _ e
def kX8_freeEntries_5 (rec : Nat → List Value → List Value → Hp → RS)  (r0 : Nat) (x1 : Int32) (x2 : Int32) (x3 : Int32) (x4 : Int32) (h : Hp) : RS := (if kH h r0 = 15 then (bI (fX5_isDirectory r0 x1 x2 h) fun z2 h1 => (if z2 = 0 then (some (.inl (some (.int x3)), h1)) else (if 3 < x4 then (some (.inl (some (.int x3)), h1)) else (if kH h1 r0 = 15 then (bI (fX5_nodeField r0 x1 x2 x4 h1) fun z8 h7 => (rec 33 [.ref r0, .int x1, .int x2, .int x3, .int x4, .int z8, .int 0] [] h7)) else none)))) else none)
theorem uX8_freeEntries_5 {G : GG} {d : Nat} (hd : 2 ≤ d) (rec : Nat → List Value → List Value → Hp → RS) (hrec : ∀ pc loc st h o h', rec pc loc st h = some (o, h') → V G mX8_freeEntries d pc loc st h o h')   {r0  x1  x2  x3  x4 } {h : Hp} {o : OU} {h' : Hp} (e : kX8_freeEntries_5 rec  r0 x1 x2 x3 x4 h = some (o, h')) : V G mX8_freeEntries d 5 [.ref r0, .int x1, .int x2, .int x3, .int x4, uV, uV] [] h o h' := by
  unfold kX8_freeEntries_5 at e
  refine bX8_freeEntries_5 r0 x1 x2 x3 x4 (by omega) ?_
  obtain ⟨q1, e⟩ := ob_e e
  refine ⟨q1, ?_⟩
  obtain ⟨z2, h1, e2, e⟩ := bI_e e
  refine ⟨z2, h1, (tX5_isDirectory e2 (by omega)), ?_⟩
  refine ⟨fun c3 => ?_, fun c3 => ?_⟩
  · have e := if_t e c3
    cases e
    exact ⟨rfl, rfl⟩
  · have e := if_f e c3
    refine ⟨fun c4 => ?_, fun c4 => ?_⟩
    · have e := if_t e c4
      cases e
      exact ⟨rfl, rfl⟩
    · have e := if_f e c4
      obtain ⟨q5, e⟩ := ob_e e
      refine ⟨q5, ?_⟩
      obtain ⟨z8, h7, e6, e⟩ := bI_e e
      refine ⟨z8, h7, (tX5_nodeField e6 (by omega)), ?_⟩
      exact hrec _ _ _ _ _ _ e
def kX8_freeEntries_33 (rec : Nat → List Value → List Value → Hp → RS)  (r0 : Nat) (x1 : Int32) (x2 : Int32) (x3 : Int32) (x4 : Int32) (x5 : Int32) (x6 : Int32) (h : Hp) : RS := (if x5 = 0 then (rec 5 [.ref r0, .int x1, .int x2, .int x3, .int (x4 + 1), uV, uV] [] h) else (if 8 ≤ x6 then (rec 5 [.ref r0, .int x1, .int x2, .int x3, .int (x4 + 1), uV, uV] [] h) else (if kH h r0 = 15 then (bI (fX5_at r0 x1 x5 (2 * x6) h) fun z4 h3 => (if ¬ z4 = 0 then (rec 33 [.ref r0, .int x1, .int x2, .int x3, .int x4, .int x5, .int (x6 + 1)] [] h3) else (rec 33 [.ref r0, .int x1, .int x2, .int (x3 + 1), .int x4, .int x5, .int (x6 + 1)] [] h3))) else none)))
theorem uX8_freeEntries_33 {G : GG} {d : Nat} (hd : 2 ≤ d) (rec : Nat → List Value → List Value → Hp → RS) (hrec : ∀ pc loc st h o h', rec pc loc st h = some (o, h') → V G mX8_freeEntries d pc loc st h o h')   {r0  x1  x2  x3  x4  x5  x6 } {h : Hp} {o : OU} {h' : Hp} (e : kX8_freeEntries_33 rec  r0 x1 x2 x3 x4 x5 x6 h = some (o, h')) : V G mX8_freeEntries d 33 [.ref r0, .int x1, .int x2, .int x3, .int x4, .int x5, .int x6] [] h o h' := by
  unfold kX8_freeEntries_33 at e
  refine bX8_freeEntries_33 r0 x1 x2 x3 x4 x5 x6 (by omega) ?_
  refine ⟨fun c1 => ?_, fun c1 => ?_⟩
  · have e := if_t e c1
    exact hrec _ _ _ _ _ _ e
  · have e := if_f e c1
    refine ⟨fun c2 => ?_, fun c2 => ?_⟩
    · have e := if_t e c2
      exact hrec _ _ _ _ _ _ e
    · have e := if_f e c2
      obtain ⟨q3, e⟩ := ob_e e
      refine ⟨q3, ?_⟩
      obtain ⟨z4, h3, e4, e⟩ := bI_e e
      refine ⟨z4, h3, (tX5_at e4 (by omega)), ?_⟩
      refine ⟨fun c5 => ?_, fun c5 => ?_⟩
      · have e := if_t e c5
        exact hrec _ _ _ _ _ _ e
      · have e := if_n e c5
        exact hrec _ _ _ _ _ _ e
def sX8_freeEntries  (rec : Nat → List Value → List Value → Hp → RS) (pc : Nat) (loc st : List Value) (h : Hp) : RS := match pc, loc, st with
  | 5, [.ref r0, .int x1, .int x2, .int x3, .int x4, _, _], [] => kX8_freeEntries_5 rec  r0 x1 x2 x3 x4 h
  | 33, [.ref r0, .int x1, .int x2, .int x3, .int x4, .int x5, .int x6], [] => kX8_freeEntries_33 rec  r0 x1 x2 x3 x4 x5 x6 h
  | _, _, _ => none
def gX8_freeEntries  : Nat → Nat → List Value → List Value → Hp → RS
  | 0 => fun _ _ _ _ => none
  | n + 1 => sX8_freeEntries  (gX8_freeEntries  n)
theorem wX8_freeEntries {G : GG} {d : Nat} (hd : 2 ≤ d)   : ∀ (n pc : Nat) (loc st : List Value) (h : Hp) (o : OU) (h' : Hp), gX8_freeEntries  n pc loc st h = some (o, h') → V G mX8_freeEntries d pc loc st h o h' := by
  intro n
  induction n with
  | zero => intro pc loc st h o h' e; cases e
  | succ n ih =>
    intro pc loc st h o h' e
    unfold gX8_freeEntries sX8_freeEntries at e
    split at e
    · exact V.drop (llp_r (llp_r (llp_r (llp_r (llp_r (llp_u (llp_u llp_nil))))))) (uX8_freeEntries_5 hd _ ih   e)
    · exact uX8_freeEntries_33 hd _ ih   e
    · cases e
theorem zX8_freeEntries_5  (n : Nat) (r0 : Nat) (x1 : Int32) (x2 : Int32) (x3 : Int32) (x4 : Int32) (y5 : Value) (y6 : Value) (h : Hp) : gX8_freeEntries  (n + 1) 5 [.ref r0, .int x1, .int x2, .int x3, .int x4, y5, y6] [] h = kX8_freeEntries_5 (gX8_freeEntries  n)  r0 x1 x2 x3 x4 h := rfl
theorem zX8_freeEntries_33  (n : Nat) (r0 : Nat) (x1 : Int32) (x2 : Int32) (x3 : Int32) (x4 : Int32) (x5 : Int32) (x6 : Int32)  (h : Hp) : gX8_freeEntries  (n + 1) 33 [.ref r0, .int x1, .int x2, .int x3, .int x4, .int x5, .int x6] [] h = kX8_freeEntries_33 (gX8_freeEntries  n)  r0 x1 x2 x3 x4 x5 x6 h := rfl
def fX8_freeEntries (r0 : Nat) (x1 : Int32) (x2 : Int32) (h : Hp) : RS := kX8_freeEntries_0 (gX8_freeEntries FF) r0 x1 x2 h
theorem tX8_freeEntries {G : GG} {d : Nat} {r0 x1 x2} {h : Hp} {o : OU} {h' : Hp} (e : fX8_freeEntries r0 x1 x2 h = some (o, h')) (hd : 2 ≤ d) : VM G mX8_freeEntries d [.ref r0, .int x1, .int x2] h o h' := uX8_freeEntries_0 hd _ (wX8_freeEntries hd FF) e
def kX8_usedBlocks_0 (rec : Nat → List Value → List Value → Hp → RS)  (r0 : Nat) (x1 : Int32) (h : Hp) : RS := (rec 4 [.ref r0, .int x1, .int 0, .int 0] [] h)
theorem uX8_usedBlocks_0 {G : GG} {d : Nat} (hd : 2 ≤ d) (rec : Nat → List Value → List Value → Hp → RS) (hrec : ∀ pc loc st h o h', rec pc loc st h = some (o, h') → V G mX8_usedBlocks d pc loc st h o h')   {r0  x1 } {h : Hp} {o : OU} {h' : Hp} (e : kX8_usedBlocks_0 rec  r0 x1 h = some (o, h')) : VM G mX8_usedBlocks d [.ref r0, .int x1] h o h' := by
  unfold kX8_usedBlocks_0 at e
  refine eX8_usedBlocks r0 x1 ?_
  exact hrec _ _ _ _ _ _ e
def kX8_usedBlocks_4 (rec : Nat → List Value → List Value → Hp → RS)  (r0 : Nat) (x1 : Int32) (x2 : Int32) (x3 : Int32) (h : Hp) : RS := (if kH h r0 = 15 then (if (h.2 r0 0) ≤ x3 then (some (.inl (some (.int x2)), h)) else (bI (fX5_at r0 x1 0 x3 h) fun z4 h3 => (if z4 = 0 then (rec 4 [.ref r0, .int x1, .int x2, .int (x3 + 1)] [] h3) else (rec 4 [.ref r0, .int x1, .int (x2 ||| (1 <<< (x3 &&& 31))), .int (x3 + 1)] [] h3)))) else none)
theorem uX8_usedBlocks_4 {G : GG} {d : Nat} (hd : 2 ≤ d) (rec : Nat → List Value → List Value → Hp → RS) (hrec : ∀ pc loc st h o h', rec pc loc st h = some (o, h') → V G mX8_usedBlocks d pc loc st h o h')   {r0  x1  x2  x3 } {h : Hp} {o : OU} {h' : Hp} (e : kX8_usedBlocks_4 rec  r0 x1 x2 x3 h = some (o, h')) : V G mX8_usedBlocks d 4 [.ref r0, .int x1, .int x2, .int x3] [] h o h' := by
  unfold kX8_usedBlocks_4 at e
  refine bX8_usedBlocks_4 r0 x1 x2 x3 (by omega) ?_
  obtain ⟨q1, e⟩ := ob_e e
  refine ⟨q1, ?_⟩
  refine ⟨fun c2 => ?_, fun c2 => ?_⟩
  · have e := if_t e c2
    cases e
    exact ⟨rfl, rfl⟩
  · have e := if_f e c2
    obtain ⟨z4, h3, e3, e⟩ := bI_e e
    refine ⟨z4, h3, (tX5_at e3 (by omega)), ?_⟩
    refine ⟨fun c4 => ?_, fun c4 => ?_⟩
    · have e := if_t e c4
      exact hrec _ _ _ _ _ _ e
    · have e := if_f e c4
      exact hrec _ _ _ _ _ _ e
def sX8_usedBlocks  (rec : Nat → List Value → List Value → Hp → RS) (pc : Nat) (loc st : List Value) (h : Hp) : RS := match pc, loc, st with
  | 4, [.ref r0, .int x1, .int x2, .int x3], [] => kX8_usedBlocks_4 rec  r0 x1 x2 x3 h
  | _, _, _ => none
def gX8_usedBlocks  : Nat → Nat → List Value → List Value → Hp → RS
  | 0 => fun _ _ _ _ => none
  | n + 1 => sX8_usedBlocks  (gX8_usedBlocks  n)
theorem wX8_usedBlocks {G : GG} {d : Nat} (hd : 2 ≤ d)   : ∀ (n pc : Nat) (loc st : List Value) (h : Hp) (o : OU) (h' : Hp), gX8_usedBlocks  n pc loc st h = some (o, h') → V G mX8_usedBlocks d pc loc st h o h' := by
  intro n
  induction n with
  | zero => intro pc loc st h o h' e; cases e
  | succ n ih =>
    intro pc loc st h o h' e
    unfold gX8_usedBlocks sX8_usedBlocks at e
    split at e
    · exact uX8_usedBlocks_4 hd _ ih   e
    · cases e
theorem zX8_usedBlocks_4  (n : Nat) (r0 : Nat) (x1 : Int32) (x2 : Int32) (x3 : Int32)  (h : Hp) : gX8_usedBlocks  (n + 1) 4 [.ref r0, .int x1, .int x2, .int x3] [] h = kX8_usedBlocks_4 (gX8_usedBlocks  n)  r0 x1 x2 x3 h := rfl
def fX8_usedBlocks (r0 : Nat) (x1 : Int32) (h : Hp) : RS := kX8_usedBlocks_0 (gX8_usedBlocks FF) r0 x1 h
theorem tX8_usedBlocks {G : GG} {d : Nat} {r0 x1} {h : Hp} {o : OU} {h' : Hp} (e : fX8_usedBlocks r0 x1 h = some (o, h')) (hd : 2 ≤ d) : VM G mX8_usedBlocks d [.ref r0, .int x1] h o h' := uX8_usedBlocks_0 hd _ (wX8_usedBlocks hd FF) e
def kX8_leakedBlocks_0  (r0 : Nat) (x1 : Int32) (h : Hp) : RS := (bI (fX8_reachedNodes r0 x1 h) fun z2 h1 => (bI (fX8_pointedBlocks r0 x1 z2 h1) fun z5 h4 => (bI (fX8_usedBlocks r0 x1 h4) fun z8 h7 => (some (.inl (some (.int ((z8 &&& (z5 ^^^ (-1))) &&& (-16)))), h7)))))
theorem uX8_leakedBlocks_0 {G : GG} {d : Nat} (hd : 4 ≤ d)   {r0  x1 } {h : Hp} {o : OU} {h' : Hp} (e : kX8_leakedBlocks_0  r0 x1 h = some (o, h')) : VM G mX8_leakedBlocks d [.ref r0, .int x1] h o h' := by
  unfold kX8_leakedBlocks_0 at e
  refine eX8_leakedBlocks r0 x1 (by omega) ?_
  obtain ⟨z2, h1, e1, e⟩ := bI_e e
  refine ⟨z2, h1, (tX8_reachedNodes e1 (by omega)), ?_⟩
  obtain ⟨z5, h4, e2, e⟩ := bI_e e
  refine ⟨z5, h4, (tX8_pointedBlocks e2 (by omega)), ?_⟩
  obtain ⟨z8, h7, e3, e⟩ := bI_e e
  refine ⟨z8, h7, (tX8_usedBlocks e3 (by omega)), ?_⟩
  cases e
  exact ⟨rfl, rfl⟩
def fX8_leakedBlocks (r0 : Nat) (x1 : Int32) (h : Hp) : RS := kX8_leakedBlocks_0 r0 x1 h
theorem tX8_leakedBlocks {G : GG} {d : Nat} {r0 x1} {h : Hp} {o : OU} {h' : Hp} (e : fX8_leakedBlocks r0 x1 h = some (o, h')) (hd : 4 ≤ d) : VM G mX8_leakedBlocks d [.ref r0, .int x1] h o h' := uX8_leakedBlocks_0 hd e
def kX8_brokenEntries_0 (rec : Nat → List Value → List Value → Hp → RS)  (r0 : Nat) (x1 : Int32) (h : Hp) : RS := (bI (fX8_reachedNodes r0 x1 h) fun z2 h1 => (rec 11 [.ref r0, .int x1, .int z2, .int 0, .int 0, uV, uV] [] h1))
theorem uX8_brokenEntries_0 {G : GG} {d : Nat} (hd : 4 ≤ d) (rec : Nat → List Value → List Value → Hp → RS) (hrec : ∀ pc loc st h o h', rec pc loc st h = some (o, h') → V G mX8_brokenEntries d pc loc st h o h')   {r0  x1 } {h : Hp} {o : OU} {h' : Hp} (e : kX8_brokenEntries_0 rec  r0 x1 h = some (o, h')) : VM G mX8_brokenEntries d [.ref r0, .int x1] h o h' := by
  unfold kX8_brokenEntries_0 at e
  refine eX8_brokenEntries r0 x1 (by omega) ?_
  obtain ⟨z2, h1, e1, e⟩ := bI_e e
  refine ⟨z2, h1, (tX8_reachedNodes e1 (by omega)), ?_⟩
  exact hrec _ _ _ _ _ _ e
def kX8_brokenEntries_11 (rec : Nat → List Value → List Value → Hp → RS)  (r0 : Nat) (x1 : Int32) (x2 : Int32) (x3 : Int32) (x4 : Int32) (h : Hp) : RS := (if 12 ≤ x4 then (some (.inl (some (.int x3)), h)) else (if kH h r0 = 15 then (bI (fX5_nodeField r0 x1 x4 0 h) fun z3 h2 => (if z3 = 0 then (rec 50 [.ref r0, .int x1, .int x2, .int x3, .int x4, .int 0, .int 0] [] h2) else (if kH h2 r0 = 15 then (bI (fX5_nodeField r0 x1 x4 1 h2) fun z8 h7 => (if z8 = 0 then (rec 50 [.ref r0, .int x1, .int x2, .int x3, .int x4, .int 0, .int 0] [] h7) else (rec 50 [.ref r0, .int x1, .int x2, .int x3, .int x4, .int 1, .int 0] [] h7))) else none))) else none))
theorem uX8_brokenEntries_11 {G : GG} {d : Nat} (hd : 4 ≤ d) (rec : Nat → List Value → List Value → Hp → RS) (hrec : ∀ pc loc st h o h', rec pc loc st h = some (o, h') → V G mX8_brokenEntries d pc loc st h o h')   {r0  x1  x2  x3  x4 } {h : Hp} {o : OU} {h' : Hp} (e : kX8_brokenEntries_11 rec  r0 x1 x2 x3 x4 h = some (o, h')) : V G mX8_brokenEntries d 11 [.ref r0, .int x1, .int x2, .int x3, .int x4, uV, uV] [] h o h' := by
  unfold kX8_brokenEntries_11 at e
  refine bX8_brokenEntries_11 r0 x1 x2 x3 x4 (by omega) ?_
  refine ⟨fun c1 => ?_, fun c1 => ?_⟩
  · have e := if_t e c1
    cases e
    exact ⟨rfl, rfl⟩
  · have e := if_f e c1
    obtain ⟨q2, e⟩ := ob_e e
    refine ⟨q2, ?_⟩
    obtain ⟨z3, h2, e3, e⟩ := bI_e e
    refine ⟨z3, h2, (tX5_nodeField e3 (by omega)), ?_⟩
    refine ⟨fun c4 => ?_, fun c4 => ?_⟩
    · have e := if_t e c4
      exact hrec _ _ _ _ _ _ e
    · have e := if_f e c4
      obtain ⟨q5, e⟩ := ob_e e
      refine ⟨q5, ?_⟩
      obtain ⟨z8, h7, e6, e⟩ := bI_e e
      refine ⟨z8, h7, (tX5_nodeField e6 (by omega)), ?_⟩
      refine ⟨fun c7 => ?_, fun c7 => ?_⟩
      · have e := if_t e c7
        exact hrec _ _ _ _ _ _ e
      · have e := if_f e c7
        exact hrec _ _ _ _ _ _ e
def kX8_brokenEntries_50 (rec : Nat → List Value → List Value → Hp → RS)  (r0 : Nat) (x1 : Int32) (x2 : Int32) (x3 : Int32) (x4 : Int32) (x5 : Int32) (x6 : Int32) (h : Hp) : RS := (if ¬ x5 = 0 then (rec 11 [.ref r0, .int x1, .int x2, .int x3, .int (x4 + 1), uV, uV] [] h) else (if 12 ≤ x6 then (rec 11 [.ref r0, .int x1, .int x2, .int x3, .int (x4 + 1), uV, uV] [] h) else (if ((x2 >>> (x6 &&& 31)) &&& 1) = 0 then (rec 50 [.ref r0, .int x1, .int x2, .int x3, .int x4, .int x5, .int (x6 + 1)] [] h) else (bI (fX8_timesNamed r0 x1 x6 x4 h) fun z5 h4 => (rec 50 [.ref r0, .int x1, .int x2, .int (x3 + z5), .int x4, .int x5, .int (x6 + 1)] [] h4)))))
theorem uX8_brokenEntries_50 {G : GG} {d : Nat} (hd : 4 ≤ d) (rec : Nat → List Value → List Value → Hp → RS) (hrec : ∀ pc loc st h o h', rec pc loc st h = some (o, h') → V G mX8_brokenEntries d pc loc st h o h')   {r0  x1  x2  x3  x4  x5  x6 } {h : Hp} {o : OU} {h' : Hp} (e : kX8_brokenEntries_50 rec  r0 x1 x2 x3 x4 x5 x6 h = some (o, h')) : V G mX8_brokenEntries d 50 [.ref r0, .int x1, .int x2, .int x3, .int x4, .int x5, .int x6] [] h o h' := by
  unfold kX8_brokenEntries_50 at e
  refine bX8_brokenEntries_50 r0 x1 x2 x3 x4 x5 x6 (by omega) ?_
  refine ⟨fun c1 => ?_, fun c1 => ?_⟩
  · have e := if_t e c1
    exact hrec _ _ _ _ _ _ e
  · have e := if_n e c1
    refine ⟨fun c2 => ?_, fun c2 => ?_⟩
    · have e := if_t e c2
      exact hrec _ _ _ _ _ _ e
    · have e := if_f e c2
      refine ⟨fun c3 => ?_, fun c3 => ?_⟩
      · have e := if_t e c3
        exact hrec _ _ _ _ _ _ e
      · have e := if_f e c3
        obtain ⟨z5, h4, e4, e⟩ := bI_e e
        refine ⟨z5, h4, (tX8_timesNamed e4 (by omega)), ?_⟩
        exact hrec _ _ _ _ _ _ e
def sX8_brokenEntries  (rec : Nat → List Value → List Value → Hp → RS) (pc : Nat) (loc st : List Value) (h : Hp) : RS := match pc, loc, st with
  | 11, [.ref r0, .int x1, .int x2, .int x3, .int x4, _, _], [] => kX8_brokenEntries_11 rec  r0 x1 x2 x3 x4 h
  | 50, [.ref r0, .int x1, .int x2, .int x3, .int x4, .int x5, .int x6], [] => kX8_brokenEntries_50 rec  r0 x1 x2 x3 x4 x5 x6 h
  | _, _, _ => none
def gX8_brokenEntries  : Nat → Nat → List Value → List Value → Hp → RS
  | 0 => fun _ _ _ _ => none
  | n + 1 => sX8_brokenEntries  (gX8_brokenEntries  n)
theorem wX8_brokenEntries {G : GG} {d : Nat} (hd : 4 ≤ d)   : ∀ (n pc : Nat) (loc st : List Value) (h : Hp) (o : OU) (h' : Hp), gX8_brokenEntries  n pc loc st h = some (o, h') → V G mX8_brokenEntries d pc loc st h o h' := by
  intro n
  induction n with
  | zero => intro pc loc st h o h' e; cases e
  | succ n ih =>
    intro pc loc st h o h' e
    unfold gX8_brokenEntries sX8_brokenEntries at e
    split at e
    · exact V.drop (llp_r (llp_r (llp_r (llp_r (llp_r (llp_u (llp_u llp_nil))))))) (uX8_brokenEntries_11 hd _ ih   e)
    · exact uX8_brokenEntries_50 hd _ ih   e
    · cases e
theorem zX8_brokenEntries_11  (n : Nat) (r0 : Nat) (x1 : Int32) (x2 : Int32) (x3 : Int32) (x4 : Int32) (y5 : Value) (y6 : Value) (h : Hp) : gX8_brokenEntries  (n + 1) 11 [.ref r0, .int x1, .int x2, .int x3, .int x4, y5, y6] [] h = kX8_brokenEntries_11 (gX8_brokenEntries  n)  r0 x1 x2 x3 x4 h := rfl
theorem zX8_brokenEntries_50  (n : Nat) (r0 : Nat) (x1 : Int32) (x2 : Int32) (x3 : Int32) (x4 : Int32) (x5 : Int32) (x6 : Int32)  (h : Hp) : gX8_brokenEntries  (n + 1) 50 [.ref r0, .int x1, .int x2, .int x3, .int x4, .int x5, .int x6] [] h = kX8_brokenEntries_50 (gX8_brokenEntries  n)  r0 x1 x2 x3 x4 x5 x6 h := rfl
def fX8_brokenEntries (r0 : Nat) (x1 : Int32) (h : Hp) : RS := kX8_brokenEntries_0 (gX8_brokenEntries FF) r0 x1 h
theorem tX8_brokenEntries {G : GG} {d : Nat} {r0 x1} {h : Hp} {o : OU} {h' : Hp} (e : fX8_brokenEntries r0 x1 h = some (o, h')) (hd : 4 ≤ d) : VM G mX8_brokenEntries d [.ref r0, .int x1] h o h' := uX8_brokenEntries_0 hd _ (wX8_brokenEntries hd FF) e
def kX8_brokenPointers_0 (rec : Nat → List Value → List Value → Hp → RS)  (r0 : Nat) (x1 : Int32) (h : Hp) : RS := (bI (fX8_usedBlocks r0 x1 h) fun z2 h1 => (bI (fX8_linkedNodes r0 x1 h1) fun z5 h4 => (rec 21 [.ref r0, .int x1, .int z2, .int z5, .int 0, .int 0, .int 0, uV] [] h4)))
theorem uX8_brokenPointers_0 {G : GG} {d : Nat} (hd : 3 ≤ d) (rec : Nat → List Value → List Value → Hp → RS) (hrec : ∀ pc loc st h o h', rec pc loc st h = some (o, h') → V G mX8_brokenPointers d pc loc st h o h')   {r0  x1 } {h : Hp} {o : OU} {h' : Hp} (e : kX8_brokenPointers_0 rec  r0 x1 h = some (o, h')) : VM G mX8_brokenPointers d [.ref r0, .int x1] h o h' := by
  unfold kX8_brokenPointers_0 at e
  refine eX8_brokenPointers r0 x1 (by omega) ?_
  obtain ⟨z2, h1, e1, e⟩ := bI_e e
  refine ⟨z2, h1, (tX8_usedBlocks e1 (by omega)), ?_⟩
  obtain ⟨z5, h4, e2, e⟩ := bI_e e
  refine ⟨z5, h4, (tX8_linkedNodes e2 (by omega)), ?_⟩
  exact hrec _ _ _ _ _ _ e
def kX8_brokenPointers_21 (rec : Nat → List Value → List Value → Hp → RS)  (r0 : Nat) (x1 : Int32) (x2 : Int32) (x3 : Int32) (x4 : Int32) (x5 : Int32) (x6 : Int32) (h : Hp) : RS := (if 24 ≤ x6 then (some (.inl (some (.int x5)), h)) else (if ¬ ((x3 >>> ((x6 / 2) &&& 31)) &&& 1) = 0 then (if kH h r0 = 15 then (bI (fX5_nodeField r0 x1 (x6 / 2) (2 + (x6 - x6 / 2 * 2)) h) fun z4 h3 => (rec 58 [.ref r0, .int x1, .int x2, .int x3, .int x4, .int x5, .int x6, uV] [.int z4] h3)) else none) else (rec 58 [.ref r0, .int x1, .int x2, .int x3, .int x4, .int x5, .int x6, uV] [.int 0] h)))
theorem uX8_brokenPointers_21 {G : GG} {d : Nat} (hd : 3 ≤ d) (rec : Nat → List Value → List Value → Hp → RS) (hrec : ∀ pc loc st h o h', rec pc loc st h = some (o, h') → V G mX8_brokenPointers d pc loc st h o h')   {r0  x1  x2  x3  x4  x5  x6 } {h : Hp} {o : OU} {h' : Hp} (e : kX8_brokenPointers_21 rec  r0 x1 x2 x3 x4 x5 x6 h = some (o, h')) : V G mX8_brokenPointers d 21 [.ref r0, .int x1, .int x2, .int x3, .int x4, .int x5, .int x6, uV] [] h o h' := by
  unfold kX8_brokenPointers_21 at e
  refine bX8_brokenPointers_21 r0 x1 x2 x3 x4 x5 x6 (by omega) ?_
  refine ⟨fun c1 => ?_, fun c1 => ?_⟩
  · have e := if_t e c1
    cases e
    exact ⟨rfl, rfl⟩
  · have e := if_f e c1
    refine ⟨fun c2 => ?_, fun c2 => ?_⟩
    · have e := if_t e c2
      obtain ⟨q3, e⟩ := ob_e e
      refine ⟨q3, ?_⟩
      obtain ⟨z4, h3, e4, e⟩ := bI_e e
      refine ⟨z4, h3, (tX5_nodeField e4 (by omega)), ?_⟩
      exact hrec _ _ _ _ _ _ e
    · have e := if_n e c2
      exact hrec _ _ _ _ _ _ e
def kX8_brokenPointers_58 (rec : Nat → List Value → List Value → Hp → RS)  (r0 : Nat) (x1 : Int32) (x2 : Int32) (x3 : Int32) (x4 : Int32) (x5 : Int32) (x6 : Int32) (s0 : Int32) (h : Hp) : RS := (if s0 = 0 then (rec 21 [.ref r0, .int x1, .int x2, .int x3, .int x4, .int x5, .int (x6 + 1), uV] [] h) else (if ((x2 >>> (s0 &&& 31)) &&& 1) = 0 then (rec 21 [.ref r0, .int x1, .int x2, .int x3, .int (x4 ||| (1 <<< (s0 &&& 31))), .int (x5 + 1), .int (x6 + 1), uV] [] h) else (if ((x4 >>> (s0 &&& 31)) &&& 1) = 0 then (rec 21 [.ref r0, .int x1, .int x2, .int x3, .int (x4 ||| (1 <<< (s0 &&& 31))), .int x5, .int (x6 + 1), uV] [] h) else (rec 21 [.ref r0, .int x1, .int x2, .int x3, .int (x4 ||| (1 <<< (s0 &&& 31))), .int (x5 + 1), .int (x6 + 1), uV] [] h))))
theorem uX8_brokenPointers_58 {G : GG} {d : Nat} (hd : 3 ≤ d) (rec : Nat → List Value → List Value → Hp → RS) (hrec : ∀ pc loc st h o h', rec pc loc st h = some (o, h') → V G mX8_brokenPointers d pc loc st h o h')   {r0  x1  x2  x3  x4  x5  x6  s0 } {h : Hp} {o : OU} {h' : Hp} (e : kX8_brokenPointers_58 rec  r0 x1 x2 x3 x4 x5 x6 s0 h = some (o, h')) : V G mX8_brokenPointers d 58 [.ref r0, .int x1, .int x2, .int x3, .int x4, .int x5, .int x6, uV] [.int s0] h o h' := by
  unfold kX8_brokenPointers_58 at e
  refine bX8_brokenPointers_58 r0 x1 x2 x3 x4 x5 x6 s0 ?_
  refine ⟨fun c1 => ?_, fun c1 => ?_⟩
  · have e := if_t e c1
    exact hrec _ _ _ _ _ _ e
  · have e := if_f e c1
    refine ⟨fun c2 => ?_, fun c2 => ?_⟩
    · have e := if_t e c2
      exact hrec _ _ _ _ _ _ e
    · have e := if_f e c2
      refine ⟨fun c3 => ?_, fun c3 => ?_⟩
      · have e := if_t e c3
        exact hrec _ _ _ _ _ _ e
      · have e := if_f e c3
        exact hrec _ _ _ _ _ _ e
def sX8_brokenPointers  (rec : Nat → List Value → List Value → Hp → RS) (pc : Nat) (loc st : List Value) (h : Hp) : RS := match pc, loc, st with
  | 21, [.ref r0, .int x1, .int x2, .int x3, .int x4, .int x5, .int x6, _], [] => kX8_brokenPointers_21 rec  r0 x1 x2 x3 x4 x5 x6 h
  | 58, [.ref r0, .int x1, .int x2, .int x3, .int x4, .int x5, .int x6, _], [.int s0] => kX8_brokenPointers_58 rec  r0 x1 x2 x3 x4 x5 x6 s0 h
  | _, _, _ => none
def gX8_brokenPointers  : Nat → Nat → List Value → List Value → Hp → RS
  | 0 => fun _ _ _ _ => none
  | n + 1 => sX8_brokenPointers  (gX8_brokenPointers  n)
theorem wX8_brokenPointers {G : GG} {d : Nat} (hd : 3 ≤ d)   : ∀ (n pc : Nat) (loc st : List Value) (h : Hp) (o : OU) (h' : Hp), gX8_brokenPointers  n pc loc st h = some (o, h') → V G mX8_brokenPointers d pc loc st h o h' := by
  intro n
  induction n with
  | zero => intro pc loc st h o h' e; cases e
  | succ n ih =>
    intro pc loc st h o h' e
    unfold gX8_brokenPointers sX8_brokenPointers at e
    split at e
    · exact V.drop (llp_r (llp_r (llp_r (llp_r (llp_r (llp_r (llp_r (llp_u llp_nil)))))))) (uX8_brokenPointers_21 hd _ ih   e)
    · exact V.drop (llp_r (llp_r (llp_r (llp_r (llp_r (llp_r (llp_r (llp_u llp_nil)))))))) (uX8_brokenPointers_58 hd _ ih   e)
    · cases e
theorem zX8_brokenPointers_21  (n : Nat) (r0 : Nat) (x1 : Int32) (x2 : Int32) (x3 : Int32) (x4 : Int32) (x5 : Int32) (x6 : Int32) (y7 : Value) (h : Hp) : gX8_brokenPointers  (n + 1) 21 [.ref r0, .int x1, .int x2, .int x3, .int x4, .int x5, .int x6, y7] [] h = kX8_brokenPointers_21 (gX8_brokenPointers  n)  r0 x1 x2 x3 x4 x5 x6 h := rfl
theorem zX8_brokenPointers_58  (n : Nat) (r0 : Nat) (x1 : Int32) (x2 : Int32) (x3 : Int32) (x4 : Int32) (x5 : Int32) (x6 : Int32) (s0 : Int32) (y7 : Value) (h : Hp) : gX8_brokenPointers  (n + 1) 58 [.ref r0, .int x1, .int x2, .int x3, .int x4, .int x5, .int x6, y7] [.int s0] h = kX8_brokenPointers_58 (gX8_brokenPointers  n)  r0 x1 x2 x3 x4 x5 x6 s0 h := rfl
def fX8_brokenPointers (r0 : Nat) (x1 : Int32) (h : Hp) : RS := kX8_brokenPointers_0 (gX8_brokenPointers FF) r0 x1 h
theorem tX8_brokenPointers {G : GG} {d : Nat} {r0 x1} {h : Hp} {o : OU} {h' : Hp} (e : fX8_brokenPointers r0 x1 h = some (o, h')) (hd : 3 ≤ d) : VM G mX8_brokenPointers d [.ref r0, .int x1] h o h' := uX8_brokenPointers_0 hd _ (wX8_brokenPointers hd FF) e
def kX8_ownerOf_0 (rec : Nat → List Value → List Value → Hp → RS)  (r0 : Nat) (x1 : Int32) (x2 : Int32) (h : Hp) : RS := (rec 2 [.ref r0, .int x1, .int x2, .int 0] [] h)
theorem uX8_ownerOf_0 {G : GG} {d : Nat} (hd : 2 ≤ d) (rec : Nat → List Value → List Value → Hp → RS) (hrec : ∀ pc loc st h o h', rec pc loc st h = some (o, h') → V G mX8_ownerOf d pc loc st h o h')   {r0  x1  x2 } {h : Hp} {o : OU} {h' : Hp} (e : kX8_ownerOf_0 rec  r0 x1 x2 h = some (o, h')) : VM G mX8_ownerOf d [.ref r0, .int x1, .int x2] h o h' := by
  unfold kX8_ownerOf_0 at e
  refine eX8_ownerOf r0 x1 x2 ?_
  exact hrec _ _ _ _ _ _ e
def kX8_ownerOf_2 (rec : Nat → List Value → List Value → Hp → RS)  (r0 : Nat) (x1 : Int32) (x2 : Int32) (x3 : Int32) (h : Hp) : RS := (if x2 = 0 then (some (.inl (some (.int (-1))), h)) else (if 12 ≤ x3 then (some (.inl (some (.int (-1))), h)) else (if kH h r0 = 15 then (bI (fX5_nodeField r0 x1 x3 0 h) fun z4 h3 => (if z4 = 0 then (rec 2 [.ref r0, .int x1, .int x2, .int (x3 + 1)] [] h3) else (if kH h3 r0 = 15 then (bI (fX5_nodeField r0 x1 x3 2 h3) fun z9 h8 => (if z9 = x2 then (some (.inl (some (.int x3)), h8)) else (if kH h8 r0 = 15 then (bI (fX5_nodeField r0 x1 x3 3 h8) fun z14 h13 => (if ¬ z14 = x2 then (rec 2 [.ref r0, .int x1, .int x2, .int (x3 + 1)] [] h13) else (some (.inl (some (.int x3)), h13)))) else none))) else none))) else none)))
theorem uX8_ownerOf_2 {G : GG} {d : Nat} (hd : 2 ≤ d) (rec : Nat → List Value → List Value → Hp → RS) (hrec : ∀ pc loc st h o h', rec pc loc st h = some (o, h') → V G mX8_ownerOf d pc loc st h o h')   {r0  x1  x2  x3 } {h : Hp} {o : OU} {h' : Hp} (e : kX8_ownerOf_2 rec  r0 x1 x2 x3 h = some (o, h')) : V G mX8_ownerOf d 2 [.ref r0, .int x1, .int x2, .int x3] [] h o h' := by
  unfold kX8_ownerOf_2 at e
  refine bX8_ownerOf_2 r0 x1 x2 x3 (by omega) ?_
  refine ⟨fun c1 => ?_, fun c1 => ?_⟩
  · have e := if_t e c1
    cases e
    exact ⟨rfl, rfl⟩
  · have e := if_f e c1
    refine ⟨fun c2 => ?_, fun c2 => ?_⟩
    · have e := if_t e c2
      cases e
      exact ⟨rfl, rfl⟩
    · have e := if_f e c2
      obtain ⟨q3, e⟩ := ob_e e
      refine ⟨q3, ?_⟩
      obtain ⟨z4, h3, e4, e⟩ := bI_e e
      refine ⟨z4, h3, (tX5_nodeField e4 (by omega)), ?_⟩
      refine ⟨fun c5 => ?_, fun c5 => ?_⟩
      · have e := if_t e c5
        exact hrec _ _ _ _ _ _ e
      · have e := if_f e c5
        obtain ⟨q6, e⟩ := ob_e e
        refine ⟨q6, ?_⟩
        obtain ⟨z9, h8, e7, e⟩ := bI_e e
        refine ⟨z9, h8, (tX5_nodeField e7 (by omega)), ?_⟩
        refine ⟨fun c8 => ?_, fun c8 => ?_⟩
        · have e := if_t e c8
          cases e
          exact ⟨rfl, rfl⟩
        · have e := if_f e c8
          obtain ⟨q9, e⟩ := ob_e e
          refine ⟨q9, ?_⟩
          obtain ⟨z14, h13, e10, e⟩ := bI_e e
          refine ⟨z14, h13, (tX5_nodeField e10 (by omega)), ?_⟩
          refine ⟨fun c11 => ?_, fun c11 => ?_⟩
          · have e := if_t e c11
            exact hrec _ _ _ _ _ _ e
          · have e := if_n e c11
            cases e
            exact ⟨rfl, rfl⟩
def sX8_ownerOf  (rec : Nat → List Value → List Value → Hp → RS) (pc : Nat) (loc st : List Value) (h : Hp) : RS := match pc, loc, st with
  | 2, [.ref r0, .int x1, .int x2, .int x3], [] => kX8_ownerOf_2 rec  r0 x1 x2 x3 h
  | _, _, _ => none
def gX8_ownerOf  : Nat → Nat → List Value → List Value → Hp → RS
  | 0 => fun _ _ _ _ => none
  | n + 1 => sX8_ownerOf  (gX8_ownerOf  n)
theorem wX8_ownerOf {G : GG} {d : Nat} (hd : 2 ≤ d)   : ∀ (n pc : Nat) (loc st : List Value) (h : Hp) (o : OU) (h' : Hp), gX8_ownerOf  n pc loc st h = some (o, h') → V G mX8_ownerOf d pc loc st h o h' := by
  intro n
  induction n with
  | zero => intro pc loc st h o h' e; cases e
  | succ n ih =>
    intro pc loc st h o h' e
    unfold gX8_ownerOf sX8_ownerOf at e
    split at e
    · exact uX8_ownerOf_2 hd _ ih   e
    · cases e
theorem zX8_ownerOf_2  (n : Nat) (r0 : Nat) (x1 : Int32) (x2 : Int32) (x3 : Int32)  (h : Hp) : gX8_ownerOf  (n + 1) 2 [.ref r0, .int x1, .int x2, .int x3] [] h = kX8_ownerOf_2 (gX8_ownerOf  n)  r0 x1 x2 x3 h := rfl
def fX8_ownerOf (r0 : Nat) (x1 : Int32) (x2 : Int32) (h : Hp) : RS := kX8_ownerOf_0 (gX8_ownerOf FF) r0 x1 x2 h
theorem tX8_ownerOf {G : GG} {d : Nat} {r0 x1 x2} {h : Hp} {o : OU} {h' : Hp} (e : fX8_ownerOf r0 x1 x2 h = some (o, h')) (hd : 2 ≤ d) : VM G mX8_ownerOf d [.ref r0, .int x1, .int x2] h o h' := uX8_ownerOf_0 hd _ (wX8_ownerOf hd FF) e
def kX8_namedAt_0  (r0 : Nat) (x1 : Int32) (x2 : Int32) (x3 : Int32) (h : Hp) : RS := (if kH h r0 = 15 then (bI (fX5_isDirectory r0 x1 x2 h) fun z2 h1 => (if ¬ z2 = 0 then (if 8 ≤ x3 then (if kH h1 r0 = 15 then (bI (fX5_nodeField r0 x1 x2 3 h1) fun z8 h7 => (if z8 = 0 then (some (.inl (some (.int (-1))), h7)) else (if kH h7 r0 = 15 then (bI (fX5_at r0 x1 z8 ((x3 - x3 / 8 * 8) * 2) h7) fun z13 h12 => (if ¬ z13 = 0 then (if kH h12 r0 = 15 then (bI (fX5_at r0 x1 z8 (((x3 - x3 / 8 * 8) * 2) + 1) h12) fun z18 h17 => (some (.inl (some (.int z18)), h17))) else none) else (some (.inl (some (.int (-1))), h12)))) else none))) else none) else (if kH h1 r0 = 15 then (bI (fX5_nodeField r0 x1 x2 2 h1) fun z22 h21 => (if z22 = 0 then (some (.inl (some (.int (-1))), h21)) else (if kH h21 r0 = 15 then (bI (fX5_at r0 x1 z22 ((x3 - x3 / 8 * 8) * 2) h21) fun z27 h26 => (if ¬ z27 = 0 then (if kH h26 r0 = 15 then (bI (fX5_at r0 x1 z22 (((x3 - x3 / 8 * 8) * 2) + 1) h26) fun z32 h31 => (some (.inl (some (.int z32)), h31))) else none) else (some (.inl (some (.int (-1))), h26)))) else none))) else none)) else (some (.inl (some (.int (-1))), h1)))) else none)
theorem uX8_namedAt_0 {G : GG} {d : Nat} (hd : 2 ≤ d)   {r0  x1  x2  x3 } {h : Hp} {o : OU} {h' : Hp} (e : kX8_namedAt_0  r0 x1 x2 x3 h = some (o, h')) : VM G mX8_namedAt d [.ref r0, .int x1, .int x2, .int x3] h o h' := by
  unfold kX8_namedAt_0 at e
  refine eX8_namedAt r0 x1 x2 x3 (by omega) ?_
  obtain ⟨q1, e⟩ := ob_e e
  refine ⟨q1, ?_⟩
  obtain ⟨z2, h1, e2, e⟩ := bI_e e
  refine ⟨z2, h1, (tX5_isDirectory e2 (by omega)), ?_⟩
  refine ⟨fun c3 => ?_, fun c3 => ?_⟩
  · have e := if_t e c3
    refine ⟨fun c4 => ?_, fun c4 => ?_⟩
    · have e := if_t e c4
      obtain ⟨q5, e⟩ := ob_e e
      refine ⟨q5, ?_⟩
      obtain ⟨z8, h7, e6, e⟩ := bI_e e
      refine ⟨z8, h7, (tX5_nodeField e6 (by omega)), ?_⟩
      refine ⟨fun c7 => ?_, fun c7 => ?_⟩
      · have e := if_t e c7
        cases e
        exact ⟨rfl, rfl⟩
      · have e := if_f e c7
        obtain ⟨q8, e⟩ := ob_e e
        refine ⟨q8, ?_⟩
        obtain ⟨z13, h12, e9, e⟩ := bI_e e
        refine ⟨z13, h12, (tX5_at e9 (by omega)), ?_⟩
        refine ⟨fun c10 => ?_, fun c10 => ?_⟩
        · have e := if_t e c10
          obtain ⟨q11, e⟩ := ob_e e
          refine ⟨q11, ?_⟩
          obtain ⟨z18, h17, e12, e⟩ := bI_e e
          refine ⟨z18, h17, (tX5_at e12 (by omega)), ?_⟩
          cases e
          exact ⟨rfl, rfl⟩
        · have e := if_n e c10
          cases e
          exact ⟨rfl, rfl⟩
    · have e := if_f e c4
      obtain ⟨q13, e⟩ := ob_e e
      refine ⟨q13, ?_⟩
      obtain ⟨z22, h21, e14, e⟩ := bI_e e
      refine ⟨z22, h21, (tX5_nodeField e14 (by omega)), ?_⟩
      refine ⟨fun c15 => ?_, fun c15 => ?_⟩
      · have e := if_t e c15
        cases e
        exact ⟨rfl, rfl⟩
      · have e := if_f e c15
        obtain ⟨q16, e⟩ := ob_e e
        refine ⟨q16, ?_⟩
        obtain ⟨z27, h26, e17, e⟩ := bI_e e
        refine ⟨z27, h26, (tX5_at e17 (by omega)), ?_⟩
        refine ⟨fun c18 => ?_, fun c18 => ?_⟩
        · have e := if_t e c18
          obtain ⟨q19, e⟩ := ob_e e
          refine ⟨q19, ?_⟩
          obtain ⟨z32, h31, e20, e⟩ := bI_e e
          refine ⟨z32, h31, (tX5_at e20 (by omega)), ?_⟩
          cases e
          exact ⟨rfl, rfl⟩
        · have e := if_n e c18
          cases e
          exact ⟨rfl, rfl⟩
  · have e := if_n e c3
    cases e
    exact ⟨rfl, rfl⟩
def fX8_namedAt (r0 : Nat) (x1 : Int32) (x2 : Int32) (x3 : Int32) (h : Hp) : RS := kX8_namedAt_0 r0 x1 x2 x3 h
theorem tX8_namedAt {G : GG} {d : Nat} {r0 x1 x2 x3} {h : Hp} {o : OU} {h' : Hp} (e : fX8_namedAt r0 x1 x2 x3 h = some (o, h')) (hd : 2 ≤ d) : VM G mX8_namedAt d [.ref r0, .int x1, .int x2, .int x3] h o h' := uX8_namedAt_0 hd e
def kX8_countUnder_0 (rec : Nat → List Value → List Value → Hp → RS) (FX8_countUnder : Nat → Int32 → Int32 → Nat → Int32 → Hp → RS) (r0 : Nat) (x1 : Int32) (x2 : Int32) (r3 : Nat) (x4 : Int32) (h : Hp) : RS := (if x2 < 0 then (some (.inl (some (.int 0)), h)) else (if kH h r3 = 1 then (if ((lH h r3).toInt32) ≤ x2 then (some (.inl (some (.int 0)), h)) else (if x4 < 12 then (if inB x2 (lH h r3) = true then (if (h.2 r3 x2.toNatClampNeg) = (-1) then (rec 36 [.ref r0, .int x1, .int x2, .ref r3, .int x4, .int 0, .int 0, uV] [] h) else (some (.inl (some (.int (h.2 r3 x2.toNatClampNeg))), h))) else none) else (some (.inl (some (.int 0)), h)))) else none))
theorem uX8_countUnder_0 {G : GG} {d : Nat} (hd : 3 ≤ d) (rec : Nat → List Value → List Value → Hp → RS) (hrec : ∀ pc loc st h o h', rec pc loc st h = some (o, h') → V G mX8_countUnder d pc loc st h o h') (FX8_countUnder : Nat → Int32 → Int32 → Nat → Int32 → Hp → RS) (TFX8_countUnder : ∀ {a0 a1 a2 a3 a4} {h : Hp} {o : OU} {h' : Hp}, FX8_countUnder a0 a1 a2 a3 a4 h = some (o, h') → VM G mX8_countUnder (d - 1) [.ref a0, .int a1, .int a2, .ref a3, .int a4] h o h') {r0  x1  x2  r3  x4 } {h : Hp} {o : OU} {h' : Hp} (e : kX8_countUnder_0 rec FX8_countUnder r0 x1 x2 r3 x4 h = some (o, h')) : VM G mX8_countUnder d [.ref r0, .int x1, .int x2, .ref r3, .int x4] h o h' := by
  unfold kX8_countUnder_0 at e
  refine eX8_countUnder r0 x1 x2 r3 x4 ?_
  refine ⟨fun c1 => ?_, fun c1 => ?_⟩
  · have e := if_t e c1
    cases e
    exact ⟨rfl, rfl⟩
  · have e := if_f e c1
    obtain ⟨q2, e⟩ := ob_e e
    refine ⟨q2, ?_⟩
    refine ⟨fun c3 => ?_, fun c3 => ?_⟩
    · have e := if_t e c3
      cases e
      exact ⟨rfl, rfl⟩
    · have e := if_f e c3
      refine ⟨fun c4 => ?_, fun c4 => ?_⟩
      · have e := if_t e c4
        obtain ⟨q5, e⟩ := ob_in e
        refine ⟨q5, ?_⟩
        refine ⟨fun c6 => ?_, fun c6 => ?_⟩
        · have e := if_t e c6
          exact hrec _ _ _ _ _ _ e
        · have e := if_f e c6
          cases e
          exact ⟨rfl, rfl⟩
      · have e := if_f e c4
        cases e
        exact ⟨rfl, rfl⟩
def kX8_countUnder_36 (rec : Nat → List Value → List Value → Hp → RS) (FX8_countUnder : Nat → Int32 → Int32 → Nat → Int32 → Hp → RS) (r0 : Nat) (x1 : Int32) (x2 : Int32) (r3 : Nat) (x4 : Int32) (x5 : Int32) (x6 : Int32) (h : Hp) : RS := (if 16 ≤ x6 then (if kH h r3 = 1 then (if inB x2 (lH h r3) = true then (some (.inl (some (.int x5)), (h.1, (upI h.2 r3 x2.toNatClampNeg x5)))) else none) else none) else (bI (fX8_namedAt r0 x1 x2 x6 h) fun z5 h4 => (if z5 = (-1) then (rec 36 [.ref r0, .int x1, .int x2, .ref r3, .int x4, .int x5, .int (x6 + 1), uV] [] h4) else (bI (FX8_countUnder r0 x1 z5 r3 (x4 + 1) h4) fun z9 h8 => (rec 36 [.ref r0, .int x1, .int x2, .ref r3, .int x4, .int (x5 + (1 + z9)), .int (x6 + 1), uV] [] h8)))))
theorem uX8_countUnder_36 {G : GG} {d : Nat} (hd : 3 ≤ d) (rec : Nat → List Value → List Value → Hp → RS) (hrec : ∀ pc loc st h o h', rec pc loc st h = some (o, h') → V G mX8_countUnder d pc loc st h o h') (FX8_countUnder : Nat → Int32 → Int32 → Nat → Int32 → Hp → RS) (TFX8_countUnder : ∀ {a0 a1 a2 a3 a4} {h : Hp} {o : OU} {h' : Hp}, FX8_countUnder a0 a1 a2 a3 a4 h = some (o, h') → VM G mX8_countUnder (d - 1) [.ref a0, .int a1, .int a2, .ref a3, .int a4] h o h') {r0  x1  x2  r3  x4  x5  x6 } {h : Hp} {o : OU} {h' : Hp} (e : kX8_countUnder_36 rec FX8_countUnder r0 x1 x2 r3 x4 x5 x6 h = some (o, h')) : V G mX8_countUnder d 36 [.ref r0, .int x1, .int x2, .ref r3, .int x4, .int x5, .int x6, uV] [] h o h' := by
  unfold kX8_countUnder_36 at e
  refine bX8_countUnder_36 r0 x1 x2 r3 x4 x5 x6 (by omega) ?_
  refine ⟨fun c1 => ?_, fun c1 => ?_⟩
  · have e := if_t e c1
    obtain ⟨q2, e⟩ := ob_e e
    refine ⟨q2, ?_⟩
    obtain ⟨q3, e⟩ := ob_in e
    refine ⟨q3, ?_⟩
    cases e
    exact ⟨rfl, rfl⟩
  · have e := if_f e c1
    obtain ⟨z5, h4, e4, e⟩ := bI_e e
    refine ⟨z5, h4, (tX8_namedAt e4 (by omega)), ?_⟩
    refine ⟨fun c5 => ?_, fun c5 => ?_⟩
    · have e := if_t e c5
      exact hrec _ _ _ _ _ _ e
    · have e := if_f e c5
      obtain ⟨z9, h8, e6, e⟩ := bI_e e
      refine ⟨z9, h8, (TFX8_countUnder e6), ?_⟩
      exact hrec _ _ _ _ _ _ e
def sX8_countUnder (FX8_countUnder : Nat → Int32 → Int32 → Nat → Int32 → Hp → RS) (rec : Nat → List Value → List Value → Hp → RS) (pc : Nat) (loc st : List Value) (h : Hp) : RS := match pc, loc, st with
  | 36, [.ref r0, .int x1, .int x2, .ref r3, .int x4, .int x5, .int x6, _], [] => kX8_countUnder_36 rec FX8_countUnder r0 x1 x2 r3 x4 x5 x6 h
  | _, _, _ => none
def gX8_countUnder (FX8_countUnder : Nat → Int32 → Int32 → Nat → Int32 → Hp → RS) : Nat → Nat → List Value → List Value → Hp → RS
  | 0 => fun _ _ _ _ => none
  | n + 1 => sX8_countUnder FX8_countUnder (gX8_countUnder FX8_countUnder n)
theorem wX8_countUnder {G : GG} {d : Nat} (hd : 3 ≤ d) (FX8_countUnder : Nat → Int32 → Int32 → Nat → Int32 → Hp → RS) (TFX8_countUnder : ∀ {a0 a1 a2 a3 a4} {h : Hp} {o : OU} {h' : Hp}, FX8_countUnder a0 a1 a2 a3 a4 h = some (o, h') → VM G mX8_countUnder (d - 1) [.ref a0, .int a1, .int a2, .ref a3, .int a4] h o h') : ∀ (n pc : Nat) (loc st : List Value) (h : Hp) (o : OU) (h' : Hp), gX8_countUnder FX8_countUnder n pc loc st h = some (o, h') → V G mX8_countUnder d pc loc st h o h' := by
  intro n
  induction n with
  | zero => intro pc loc st h o h' e; cases e
  | succ n ih =>
    intro pc loc st h o h' e
    unfold gX8_countUnder sX8_countUnder at e
    split at e
    · exact V.drop (llp_r (llp_r (llp_r (llp_r (llp_r (llp_r (llp_r (llp_u llp_nil)))))))) (uX8_countUnder_36 hd _ ih _ TFX8_countUnder e)
    · cases e
theorem zX8_countUnder_36 (FX8_countUnder : Nat → Int32 → Int32 → Nat → Int32 → Hp → RS) (n : Nat) (r0 : Nat) (x1 : Int32) (x2 : Int32) (r3 : Nat) (x4 : Int32) (x5 : Int32) (x6 : Int32) (y7 : Value) (h : Hp) : gX8_countUnder FX8_countUnder (n + 1) 36 [.ref r0, .int x1, .int x2, .ref r3, .int x4, .int x5, .int x6, y7] [] h = kX8_countUnder_36 (gX8_countUnder FX8_countUnder n) FX8_countUnder r0 x1 x2 r3 x4 x5 x6 h := rfl
def rX8_countUnder : Nat → (Nat → Int32 → Int32 → Nat → Int32 → Hp → RS)
  | 0 => fun _ _ _ _ _ _ => none
  | n + 1 => fun a0 a1 a2 a3 a4 h => kX8_countUnder_0 (gX8_countUnder ((rX8_countUnder n)) FF) ((rX8_countUnder n)) a0 a1 a2 a3 a4 h
theorem rtX8_countUnder {G : GG} : ∀ (n d : Nat), 3 + n ≤ d → (∀ (a0 : Nat) (a1 : Int32) (a2 : Int32) (a3 : Nat) (a4 : Int32) (h : Hp) (o : OU) (h' : Hp), (rX8_countUnder n) a0 a1 a2 a3 a4 h = some (o, h') → VM G mX8_countUnder d [.ref a0, .int a1, .int a2, .ref a3, .int a4] h o h') := by
  intro n
  induction n with
  | zero => intro d hd; exact fun _ _ _ _ _ _ _ _ e => (by cases e)
  | succ n ih =>
    intro d hd
    have ih := ih (d - 1) (by omega)
    exact fun _ _ _ _ _ _ _ _ e => uX8_countUnder_0 (by omega) _ (wX8_countUnder (by omega) _ (@fun _ _ _ _ _ _ _ _ e => ih _ _ _ _ _ _ _ _ e) FF) _ (@fun _ _ _ _ _ _ _ _ e => ih _ _ _ _ _ _ _ _ e) e
def fX8_countUnder (a0 : Nat) (a1 : Int32) (a2 : Int32) (a3 : Nat) (a4 : Int32) (h : Hp) : RS := (rX8_countUnder 40) a0 a1 a2 a3 a4 h
theorem tX8_countUnder {G : GG} {d : Nat} {a0 a1 a2 a3 a4} {h : Hp} {o : OU} {h' : Hp} (e : fX8_countUnder a0 a1 a2 a3 a4 h = some (o, h')) (hd : 3 + 40 ≤ d) : VM G mX8_countUnder d [.ref a0, .int a1, .int a2, .ref a3, .int a4] h o h' := (rtX8_countUnder 40 d hd) _ _ _ _ _ _ _ _ e
