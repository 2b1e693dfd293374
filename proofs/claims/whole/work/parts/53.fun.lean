def kX10_cuts_0  (r0 : Nat) (x1 : Int32) (h : Hp) : RS := (bI (fX10_fieldOf r0 0 x1 3 h) fun z2 h1 => (if z2 = 0 then (bI (fX10_fieldOf r0 0 x1 2 h1) fun z6 h5 => (bI (fX10_isKind r0 0 x1 1 h5) fun z9 h8 => (if z9 = 0 then (some (.inl (some (.int 0)), h8)) else (if ¬ z6 = 0 then (bI (fX10_field r0 x1 2 0 0 0 h8) fun z14 h13 => (bV (fX10_putsOff r0 0 z6 z14 h13) fun h16 => (some (.inl (some (.int 1)), h16)))) else (some (.inl (some (.int 0)), h8)))))) else (bI (fX10_fieldOf r0 0 x1 3 h1) fun z19 h18 => (bI (fX10_isKind r0 0 x1 1 h18) fun z22 h21 => (if z22 = 0 then (some (.inl (some (.int 0)), h21)) else (if ¬ z19 = 0 then (bI (fX10_field r0 x1 3 0 0 0 h21) fun z27 h26 => (bV (fX10_putsOff r0 0 z19 z27 h26) fun h29 => (some (.inl (some (.int 1)), h29)))) else (some (.inl (some (.int 0)), h21))))))))
theorem uX10_cuts_0 {G : GG} {d : Nat} (hd : 4 ≤ d)   {r0  x1 } {h : Hp} {o : OU} {h' : Hp} (e : kX10_cuts_0  r0 x1 h = some (o, h')) : VM G mX10_cuts d [.ref r0, .int x1] h o h' := by
  unfold kX10_cuts_0 at e
  refine eX10_cuts r0 x1 (by omega) ?_
  obtain ⟨z2, h1, e1, e⟩ := bI_e e
  refine ⟨z2, h1, (tX10_fieldOf e1 (by omega)), ?_⟩
  refine ⟨fun c2 => ?_, fun c2 => ?_⟩
  · have e := if_t e c2
    obtain ⟨z6, h5, e3, e⟩ := bI_e e
    refine ⟨z6, h5, (tX10_fieldOf e3 (by omega)), ?_⟩
    obtain ⟨z9, h8, e4, e⟩ := bI_e e
    refine ⟨z9, h8, (tX10_isKind e4 (by omega)), ?_⟩
    refine ⟨fun c5 => ?_, fun c5 => ?_⟩
    · have e := if_t e c5
      cases e
      exact ⟨rfl, rfl⟩
    · have e := if_f e c5
      refine ⟨fun c6 => ?_, fun c6 => ?_⟩
      · have e := if_t e c6
        obtain ⟨z14, h13, e7, e⟩ := bI_e e
        refine ⟨z14, h13, (tX10_field e7 (by omega)), ?_⟩
        obtain ⟨h16, e8, e⟩ := bV_e e
        refine ⟨h16, (tX10_putsOff e8 (by omega)), ?_⟩
        cases e
        exact ⟨rfl, rfl⟩
      · have e := if_n e c6
        cases e
        exact ⟨rfl, rfl⟩
  · have e := if_f e c2
    obtain ⟨z19, h18, e9, e⟩ := bI_e e
    refine ⟨z19, h18, (tX10_fieldOf e9 (by omega)), ?_⟩
    obtain ⟨z22, h21, e10, e⟩ := bI_e e
    refine ⟨z22, h21, (tX10_isKind e10 (by omega)), ?_⟩
    refine ⟨fun c11 => ?_, fun c11 => ?_⟩
    · have e := if_t e c11
      cases e
      exact ⟨rfl, rfl⟩
    · have e := if_f e c11
      refine ⟨fun c12 => ?_, fun c12 => ?_⟩
      · have e := if_t e c12
        obtain ⟨z27, h26, e13, e⟩ := bI_e e
        refine ⟨z27, h26, (tX10_field e13 (by omega)), ?_⟩
        obtain ⟨h29, e14, e⟩ := bV_e e
        refine ⟨h29, (tX10_putsOff e14 (by omega)), ?_⟩
        cases e
        exact ⟨rfl, rfl⟩
      · have e := if_n e c12
        cases e
        exact ⟨rfl, rfl⟩
def fX10_cuts (r0 : Nat) (x1 : Int32) (h : Hp) : RS := kX10_cuts_0 r0 x1 h
theorem tX10_cuts {G : GG} {d : Nat} {r0 x1} {h : Hp} {o : OU} {h' : Hp} (e : fX10_cuts r0 x1 h = some (o, h')) (hd : 4 ≤ d) : VM G mX10_cuts d [.ref r0, .int x1] h o h' := uX10_cuts_0 hd e
def kX10_hasNames_0 (rec : Nat → List Value → List Value → Hp → RS)  (r0 : Nat) (x1 : Int32) (x2 : Int32) (h : Hp) : RS := (rec 2 [.ref r0, .int x1, .int x2, .int 0] [] h)
theorem uX10_hasNames_0 {G : GG} {d : Nat} (hd : 4 ≤ d) (rec : Nat → List Value → List Value → Hp → RS) (hrec : ∀ pc loc st h o h', rec pc loc st h = some (o, h') → V G mX10_hasNames d pc loc st h o h')   {r0  x1  x2 } {h : Hp} {o : OU} {h' : Hp} (e : kX10_hasNames_0 rec  r0 x1 x2 h = some (o, h')) : VM G mX10_hasNames d [.ref r0, .int x1, .int x2] h o h' := by
  unfold kX10_hasNames_0 at e
  refine eX10_hasNames r0 x1 x2 ?_
  exact hrec _ _ _ _ _ _ e
def kX10_hasNames_2 (rec : Nat → List Value → List Value → Hp → RS)  (r0 : Nat) (x1 : Int32) (x2 : Int32) (x3 : Int32) (h : Hp) : RS := (bI (fX10_entryOf r0 x1 x2 x3 h) fun z2 h1 => (if z2 = (-1) then (some (.inl (some (.int 0)), h1)) else (bI (fX10_entryOf r0 x1 x2 x3 h1) fun z6 h5 => (if kH h5 r0 = 1 then (if inB (x1 + z6) (lH h5 r0) = true then (if (h5.2 r0 (x1 + z6).toNatClampNeg) = 0 then (rec 2 [.ref r0, .int x1, .int x2, .int (x3 + 1)] [] h5) else (some (.inl (some (.int 1)), h5))) else none) else none))))
theorem uX10_hasNames_2 {G : GG} {d : Nat} (hd : 4 ≤ d) (rec : Nat → List Value → List Value → Hp → RS) (hrec : ∀ pc loc st h o h', rec pc loc st h = some (o, h') → V G mX10_hasNames d pc loc st h o h')   {r0  x1  x2  x3 } {h : Hp} {o : OU} {h' : Hp} (e : kX10_hasNames_2 rec  r0 x1 x2 x3 h = some (o, h')) : V G mX10_hasNames d 2 [.ref r0, .int x1, .int x2, .int x3] [] h o h' := by
  unfold kX10_hasNames_2 at e
  refine bX10_hasNames_2 r0 x1 x2 x3 (by omega) ?_
  obtain ⟨z2, h1, e1, e⟩ := bI_e e
  refine ⟨z2, h1, (tX10_entryOf e1 (by omega)), ?_⟩
  refine ⟨fun c2 => ?_, fun c2 => ?_⟩
  · have e := if_t e c2
    cases e
    exact ⟨rfl, rfl⟩
  · have e := if_f e c2
    obtain ⟨z6, h5, e3, e⟩ := bI_e e
    refine ⟨z6, h5, (tX10_entryOf e3 (by omega)), ?_⟩
    obtain ⟨q4, e⟩ := ob_e e
    refine ⟨q4, ?_⟩
    obtain ⟨q5, e⟩ := ob_in e
    refine ⟨q5, ?_⟩
    refine ⟨fun c6 => ?_, fun c6 => ?_⟩
    · have e := if_t e c6
      exact hrec _ _ _ _ _ _ e
    · have e := if_f e c6
      cases e
      exact ⟨rfl, rfl⟩
def sX10_hasNames  (rec : Nat → List Value → List Value → Hp → RS) (pc : Nat) (loc st : List Value) (h : Hp) : RS := match pc, loc, st with
  | 2, [.ref r0, .int x1, .int x2, .int x3], [] => kX10_hasNames_2 rec  r0 x1 x2 x3 h
  | _, _, _ => none
def gX10_hasNames  : Nat → Nat → List Value → List Value → Hp → RS
  | 0 => fun _ _ _ _ => none
  | n + 1 => sX10_hasNames  (gX10_hasNames  n)
theorem wX10_hasNames {G : GG} {d : Nat} (hd : 4 ≤ d)   : ∀ (n pc : Nat) (loc st : List Value) (h : Hp) (o : OU) (h' : Hp), gX10_hasNames  n pc loc st h = some (o, h') → V G mX10_hasNames d pc loc st h o h' := by
  intro n
  induction n with
  | zero => intro pc loc st h o h' e; cases e
  | succ n ih =>
    intro pc loc st h o h' e
    unfold gX10_hasNames sX10_hasNames at e
    split at e
    · exact uX10_hasNames_2 hd _ ih   e
    · cases e
theorem zX10_hasNames_2  (n : Nat) (r0 : Nat) (x1 : Int32) (x2 : Int32) (x3 : Int32)  (h : Hp) : gX10_hasNames  (n + 1) 2 [.ref r0, .int x1, .int x2, .int x3] [] h = kX10_hasNames_2 (gX10_hasNames  n)  r0 x1 x2 x3 h := rfl
def fX10_hasNames (r0 : Nat) (x1 : Int32) (x2 : Int32) (h : Hp) : RS := kX10_hasNames_0 (gX10_hasNames FF) r0 x1 x2 h
theorem tX10_hasNames {G : GG} {d : Nat} {r0 x1 x2} {h : Hp} {o : OU} {h' : Hp} (e : fX10_hasNames r0 x1 x2 h = some (o, h')) (hd : 4 ≤ d) : VM G mX10_hasNames d [.ref r0, .int x1, .int x2] h o h' := uX10_hasNames_0 hd _ (wX10_hasNames hd FF) e
def kX10_drops_0  (r0 : Nat) (x1 : Int32) (x2 : Int32) (h : Hp) : RS := (bI (fX10_isKind r0 0 x1 2 h) fun z2 h1 => (if z2 = 0 then (some (.inl (some (.int 0)), h1)) else (bI (fX10_reached r0 0 h1) fun z6 h5 => (bI (fX10_has z6 x1 h5) fun z9 h8 => (if z9 = 0 then (some (.inl (some (.int 0)), h8)) else (bI (fX10_entry r0 0 x1 x2 h8) fun z13 h12 => (if ¬ z13 = (-1) then (bI (fX10_entry r0 0 x1 x2 h12) fun z17 h16 => (if kH h16 r0 = 1 then (if inB ((0 + z17) + 1) (lH h16 r0) = true then (bI (fX10_fieldOf r0 0 (h16.2 r0 ((0 + z17) + 1).toNatClampNeg) 1 h16) fun z22 h21 => (if ¬ z22 = 2 then (bI (fX10_bare r0 (z17 / 16) (z17 - z17 / 16 * 16) 0 h21) fun z26 h25 => (bV (fX10_putsOff r0 1 (h16.2 r0 ((0 + z17) + 1).toNatClampNeg) z26 h25) fun h28 => (some (.inl (some (.int 1)), h28)))) else (bI (fX10_hasNames r0 0 (h16.2 r0 ((0 + z17) + 1).toNatClampNeg) h21) fun z31 h30 => (if z31 = 0 then (bI (fX10_bare r0 (z17 / 16) (z17 - z17 / 16 * 16) 0 h30) fun z35 h34 => (bV (fX10_putsOff r0 1 (h16.2 r0 ((0 + z17) + 1).toNatClampNeg) z35 h34) fun h37 => (some (.inl (some (.int 1)), h37)))) else (some (.inl (some (.int 0)), h30)))))) else none) else none)) else (some (.inl (some (.int 0)), h12)))))))))
theorem uX10_drops_0 {G : GG} {d : Nat} (hd : 5 ≤ d)   {r0  x1  x2 } {h : Hp} {o : OU} {h' : Hp} (e : kX10_drops_0  r0 x1 x2 h = some (o, h')) : VM G mX10_drops d [.ref r0, .int x1, .int x2] h o h' := by
  unfold kX10_drops_0 at e
  refine eX10_drops r0 x1 x2 (by omega) ?_
  obtain ⟨z2, h1, e1, e⟩ := bI_e e
  refine ⟨z2, h1, (tX10_isKind e1 (by omega)), ?_⟩
  refine ⟨fun c2 => ?_, fun c2 => ?_⟩
  · have e := if_t e c2
    cases e
    exact ⟨rfl, rfl⟩
  · have e := if_f e c2
    obtain ⟨z6, h5, e3, e⟩ := bI_e e
    refine ⟨z6, h5, (tX10_reached e3 (by omega)), ?_⟩
    obtain ⟨z9, h8, e4, e⟩ := bI_e e
    refine ⟨z9, h8, (tX10_has e4 (by omega)), ?_⟩
    refine ⟨fun c5 => ?_, fun c5 => ?_⟩
    · have e := if_t e c5
      cases e
      exact ⟨rfl, rfl⟩
    · have e := if_f e c5
      obtain ⟨z13, h12, e6, e⟩ := bI_e e
      refine ⟨z13, h12, (tX10_entry e6 (by omega)), ?_⟩
      refine ⟨fun c7 => ?_, fun c7 => ?_⟩
      · have e := if_t e c7
        obtain ⟨z17, h16, e8, e⟩ := bI_e e
        refine ⟨z17, h16, (tX10_entry e8 (by omega)), ?_⟩
        obtain ⟨q9, e⟩ := ob_e e
        refine ⟨q9, ?_⟩
        obtain ⟨q10, e⟩ := ob_in e
        refine ⟨q10, ?_⟩
        obtain ⟨z22, h21, e11, e⟩ := bI_e e
        refine ⟨z22, h21, (tX10_fieldOf e11 (by omega)), ?_⟩
        refine ⟨fun c12 => ?_, fun c12 => ?_⟩
        · have e := if_t e c12
          obtain ⟨z26, h25, e13, e⟩ := bI_e e
          refine ⟨z26, h25, (tX10_bare e13 (by omega)), ?_⟩
          obtain ⟨h28, e14, e⟩ := bV_e e
          refine ⟨h28, (tX10_putsOff e14 (by omega)), ?_⟩
          cases e
          exact ⟨rfl, rfl⟩
        · have e := if_n e c12
          obtain ⟨z31, h30, e15, e⟩ := bI_e e
          refine ⟨z31, h30, (tX10_hasNames e15 (by omega)), ?_⟩
          refine ⟨fun c16 => ?_, fun c16 => ?_⟩
          · have e := if_t e c16
            obtain ⟨z35, h34, e17, e⟩ := bI_e e
            refine ⟨z35, h34, (tX10_bare e17 (by omega)), ?_⟩
            obtain ⟨h37, e18, e⟩ := bV_e e
            refine ⟨h37, (tX10_putsOff e18 (by omega)), ?_⟩
            cases e
            exact ⟨rfl, rfl⟩
          · have e := if_f e c16
            cases e
            exact ⟨rfl, rfl⟩
      · have e := if_n e c7
        cases e
        exact ⟨rfl, rfl⟩
def fX10_drops (r0 : Nat) (x1 : Int32) (x2 : Int32) (h : Hp) : RS := kX10_drops_0 r0 x1 x2 h
theorem tX10_drops {G : GG} {d : Nat} {r0 x1 x2} {h : Hp} {o : OU} {h' : Hp} (e : fX10_drops r0 x1 x2 h = some (o, h')) (hd : 5 ≤ d) : VM G mX10_drops d [.ref r0, .int x1, .int x2] h o h' := uX10_drops_0 hd e
def kX10_isDirty_0 (rec : Nat → List Value → List Value → Hp → RS)  (r0 : Nat) (x1 : Int32) (h : Hp) : RS := (rec 2 [.ref r0, .int x1, .int 0] [] h)
theorem uX10_isDirty_0 {G : GG} {d : Nat} (hd : 2 ≤ d) (rec : Nat → List Value → List Value → Hp → RS) (hrec : ∀ pc loc st h o h', rec pc loc st h = some (o, h') → V G mX10_isDirty d pc loc st h o h')   {r0  x1 } {h : Hp} {o : OU} {h' : Hp} (e : kX10_isDirty_0 rec  r0 x1 h = some (o, h')) : VM G mX10_isDirty d [.ref r0, .int x1] h o h' := by
  unfold kX10_isDirty_0 at e
  refine eX10_isDirty r0 x1 ?_
  exact hrec _ _ _ _ _ _ e
def kX10_isDirty_2 (rec : Nat → List Value → List Value → Hp → RS)  (r0 : Nat) (x1 : Int32) (x2 : Int32) (h : Hp) : RS := (if kH h r0 = 1 then (if inB 3392 (lH h r0) = true then (if (h.2 r0 3392) ≤ x2 then (some (.inl (some (.int 0)), h)) else (bI (fX10_cell x2 h) fun z5 h4 => (if kH h4 r0 = 1 then (if inB (z5 + 1) (lH h4 r0) = true then (if ¬ (h4.2 r0 (z5 + 1).toNatClampNeg) = x1 then (rec 2 [.ref r0, .int x1, .int (x2 + 1)] [] h4) else (some (.inl (some (.int 1)), h4))) else none) else none))) else none) else none)
theorem uX10_isDirty_2 {G : GG} {d : Nat} (hd : 2 ≤ d) (rec : Nat → List Value → List Value → Hp → RS) (hrec : ∀ pc loc st h o h', rec pc loc st h = some (o, h') → V G mX10_isDirty d pc loc st h o h')   {r0  x1  x2 } {h : Hp} {o : OU} {h' : Hp} (e : kX10_isDirty_2 rec  r0 x1 x2 h = some (o, h')) : V G mX10_isDirty d 2 [.ref r0, .int x1, .int x2] [] h o h' := by
  unfold kX10_isDirty_2 at e
  refine bX10_isDirty_2 r0 x1 x2 (by omega) ?_
  obtain ⟨q1, e⟩ := ob_e e
  refine ⟨q1, ?_⟩
  obtain ⟨q2, e⟩ := ob_in e
  refine ⟨q2, ?_⟩
  refine ⟨fun c3 => ?_, fun c3 => ?_⟩
  · have e := if_t e c3
    cases e
    exact ⟨rfl, rfl⟩
  · have e := if_f e c3
    obtain ⟨z5, h4, e4, e⟩ := bI_e e
    refine ⟨z5, h4, (tX10_cell e4 (by omega)), ?_⟩
    obtain ⟨q5, e⟩ := ob_e e
    refine ⟨q5, ?_⟩
    obtain ⟨q6, e⟩ := ob_in e
    refine ⟨q6, ?_⟩
    refine ⟨fun c7 => ?_, fun c7 => ?_⟩
    · have e := if_t e c7
      exact hrec _ _ _ _ _ _ e
    · have e := if_n e c7
      cases e
      exact ⟨rfl, rfl⟩
def sX10_isDirty  (rec : Nat → List Value → List Value → Hp → RS) (pc : Nat) (loc st : List Value) (h : Hp) : RS := match pc, loc, st with
  | 2, [.ref r0, .int x1, .int x2], [] => kX10_isDirty_2 rec  r0 x1 x2 h
  | _, _, _ => none
def gX10_isDirty  : Nat → Nat → List Value → List Value → Hp → RS
  | 0 => fun _ _ _ _ => none
  | n + 1 => sX10_isDirty  (gX10_isDirty  n)
theorem wX10_isDirty {G : GG} {d : Nat} (hd : 2 ≤ d)   : ∀ (n pc : Nat) (loc st : List Value) (h : Hp) (o : OU) (h' : Hp), gX10_isDirty  n pc loc st h = some (o, h') → V G mX10_isDirty d pc loc st h o h' := by
  intro n
  induction n with
  | zero => intro pc loc st h o h' e; cases e
  | succ n ih =>
    intro pc loc st h o h' e
    unfold gX10_isDirty sX10_isDirty at e
    split at e
    · exact uX10_isDirty_2 hd _ ih   e
    · cases e
theorem zX10_isDirty_2  (n : Nat) (r0 : Nat) (x1 : Int32) (x2 : Int32)  (h : Hp) : gX10_isDirty  (n + 1) 2 [.ref r0, .int x1, .int x2] [] h = kX10_isDirty_2 (gX10_isDirty  n)  r0 x1 x2 h := rfl
def fX10_isDirty (r0 : Nat) (x1 : Int32) (h : Hp) : RS := kX10_isDirty_0 (gX10_isDirty FF) r0 x1 h
theorem tX10_isDirty {G : GG} {d : Nat} {r0 x1} {h : Hp} {o : OU} {h' : Hp} (e : fX10_isDirty r0 x1 h = some (o, h')) (hd : 2 ≤ d) : VM G mX10_isDirty d [.ref r0, .int x1] h o h' := uX10_isDirty_0 hd _ (wX10_isDirty hd FF) e
def kX10_ahead_0 (rec : Nat → List Value → List Value → Hp → RS)  (r0 : Nat) (x1 : Int32) (x2 : Int32) (h : Hp) : RS := (rec 5 [.ref r0, .int x1, .int x2, .int 0, .int 0] [] h)
theorem uX10_ahead_0 {G : GG} {d : Nat} (hd : 2 ≤ d) (rec : Nat → List Value → List Value → Hp → RS) (hrec : ∀ pc loc st h o h', rec pc loc st h = some (o, h') → V G mX10_ahead d pc loc st h o h')   {r0  x1  x2 } {h : Hp} {o : OU} {h' : Hp} (e : kX10_ahead_0 rec  r0 x1 x2 h = some (o, h')) : VM G mX10_ahead d [.ref r0, .int x1, .int x2] h o h' := by
  unfold kX10_ahead_0 at e
  refine eX10_ahead r0 x1 x2 ?_
  exact hrec _ _ _ _ _ _ e
def kX10_ahead_5 (rec : Nat → List Value → List Value → Hp → RS)  (r0 : Nat) (x1 : Int32) (x2 : Int32) (x3 : Int32) (x4 : Int32) (h : Hp) : RS := (if x1 ≤ x4 then (some (.inl (some (.int x3)), h)) else (bI (fX10_cell x4 h) fun z3 h2 => (if kH h2 r0 = 1 then (if inB (z3 + 1) (lH h2 r0) = true then (if ¬ (h2.2 r0 (z3 + 1).toNatClampNeg) = x2 then (rec 5 [.ref r0, .int x1, .int x2, .int (x3 + 0), .int (x4 + 1)] [] h2) else (rec 5 [.ref r0, .int x1, .int x2, .int (x3 + 1), .int (x4 + 1)] [] h2)) else none) else none)))
theorem uX10_ahead_5 {G : GG} {d : Nat} (hd : 2 ≤ d) (rec : Nat → List Value → List Value → Hp → RS) (hrec : ∀ pc loc st h o h', rec pc loc st h = some (o, h') → V G mX10_ahead d pc loc st h o h')   {r0  x1  x2  x3  x4 } {h : Hp} {o : OU} {h' : Hp} (e : kX10_ahead_5 rec  r0 x1 x2 x3 x4 h = some (o, h')) : V G mX10_ahead d 5 [.ref r0, .int x1, .int x2, .int x3, .int x4] [] h o h' := by
  unfold kX10_ahead_5 at e
  refine bX10_ahead_5 r0 x1 x2 x3 x4 (by omega) ?_
  refine ⟨fun c1 => ?_, fun c1 => ?_⟩
  · have e := if_t e c1
    cases e
    exact ⟨rfl, rfl⟩
  · have e := if_f e c1
    obtain ⟨z3, h2, e2, e⟩ := bI_e e
    refine ⟨z3, h2, (tX10_cell e2 (by omega)), ?_⟩
    obtain ⟨q3, e⟩ := ob_e e
    refine ⟨q3, ?_⟩
    obtain ⟨q4, e⟩ := ob_in e
    refine ⟨q4, ?_⟩
    refine ⟨fun c5 => ?_, fun c5 => ?_⟩
    · have e := if_t e c5
      exact hrec _ _ _ _ _ _ e
    · have e := if_n e c5
      exact hrec _ _ _ _ _ _ e
def sX10_ahead  (rec : Nat → List Value → List Value → Hp → RS) (pc : Nat) (loc st : List Value) (h : Hp) : RS := match pc, loc, st with
  | 5, [.ref r0, .int x1, .int x2, .int x3, .int x4], [] => kX10_ahead_5 rec  r0 x1 x2 x3 x4 h
  | _, _, _ => none
def gX10_ahead  : Nat → Nat → List Value → List Value → Hp → RS
  | 0 => fun _ _ _ _ => none
  | n + 1 => sX10_ahead  (gX10_ahead  n)
theorem wX10_ahead {G : GG} {d : Nat} (hd : 2 ≤ d)   : ∀ (n pc : Nat) (loc st : List Value) (h : Hp) (o : OU) (h' : Hp), gX10_ahead  n pc loc st h = some (o, h') → V G mX10_ahead d pc loc st h o h' := by
  intro n
  induction n with
  | zero => intro pc loc st h o h' e; cases e
  | succ n ih =>
    intro pc loc st h o h' e
    unfold gX10_ahead sX10_ahead at e
    split at e
    · exact uX10_ahead_5 hd _ ih   e
    · cases e
theorem zX10_ahead_5  (n : Nat) (r0 : Nat) (x1 : Int32) (x2 : Int32) (x3 : Int32) (x4 : Int32)  (h : Hp) : gX10_ahead  (n + 1) 5 [.ref r0, .int x1, .int x2, .int x3, .int x4] [] h = kX10_ahead_5 (gX10_ahead  n)  r0 x1 x2 x3 x4 h := rfl
def fX10_ahead (r0 : Nat) (x1 : Int32) (x2 : Int32) (h : Hp) : RS := kX10_ahead_0 (gX10_ahead FF) r0 x1 x2 h
theorem tX10_ahead {G : GG} {d : Nat} {r0 x1 x2} {h : Hp} {o : OU} {h' : Hp} (e : fX10_ahead r0 x1 x2 h = some (o, h')) (hd : 2 ≤ d) : VM G mX10_ahead d [.ref r0, .int x1, .int x2] h o h' := uX10_ahead_0 hd _ (wX10_ahead hd FF) e
def kX10_which_0 (rec : Nat → List Value → List Value → Hp → RS)  (r0 : Nat) (x1 : Int32) (h : Hp) : RS := (rec 2 [.ref r0, .int x1, .int 0] [] h)
theorem uX10_which_0 {G : GG} {d : Nat} (hd : 2 ≤ d) (rec : Nat → List Value → List Value → Hp → RS) (hrec : ∀ pc loc st h o h', rec pc loc st h = some (o, h') → V G mX10_which d pc loc st h o h')   {r0  x1 } {h : Hp} {o : OU} {h' : Hp} (e : kX10_which_0 rec  r0 x1 h = some (o, h')) : VM G mX10_which d [.ref r0, .int x1] h o h' := by
  unfold kX10_which_0 at e
  refine eX10_which r0 x1 ?_
  exact hrec _ _ _ _ _ _ e
def kX10_which_2 (rec : Nat → List Value → List Value → Hp → RS)  (r0 : Nat) (x1 : Int32) (x2 : Int32) (h : Hp) : RS := (if kH h r0 = 1 then (if inB 3392 (lH h r0) = true then (if (h.2 r0 3392) ≤ x2 then (some (.inl (some (.int (-1))), h)) else (if x1 ≤ 0 then (some (.inl (some (.int (-1))), h)) else (bI (fX10_cell x2 h) fun z6 h5 => (if kH h5 r0 = 1 then (if inB z6 (lH h5 r0) = true then (if ¬ (h5.2 r0 z6.toNatClampNeg) = x1 then (rec 2 [.ref r0, .int x1, .int (x2 + 1)] [] h5) else (some (.inl (some (.int x2)), h5))) else none) else none)))) else none) else none)
theorem uX10_which_2 {G : GG} {d : Nat} (hd : 2 ≤ d) (rec : Nat → List Value → List Value → Hp → RS) (hrec : ∀ pc loc st h o h', rec pc loc st h = some (o, h') → V G mX10_which d pc loc st h o h')   {r0  x1  x2 } {h : Hp} {o : OU} {h' : Hp} (e : kX10_which_2 rec  r0 x1 x2 h = some (o, h')) : V G mX10_which d 2 [.ref r0, .int x1, .int x2] [] h o h' := by
  unfold kX10_which_2 at e
  refine bX10_which_2 r0 x1 x2 (by omega) ?_
  obtain ⟨q1, e⟩ := ob_e e
  refine ⟨q1, ?_⟩
  obtain ⟨q2, e⟩ := ob_in e
  refine ⟨q2, ?_⟩
  refine ⟨fun c3 => ?_, fun c3 => ?_⟩
  · have e := if_t e c3
    cases e
    exact ⟨rfl, rfl⟩
  · have e := if_f e c3
    refine ⟨fun c4 => ?_, fun c4 => ?_⟩
    · have e := if_t e c4
      cases e
      exact ⟨rfl, rfl⟩
    · have e := if_f e c4
      obtain ⟨z6, h5, e5, e⟩ := bI_e e
      refine ⟨z6, h5, (tX10_cell e5 (by omega)), ?_⟩
      obtain ⟨q6, e⟩ := ob_e e
      refine ⟨q6, ?_⟩
      obtain ⟨q7, e⟩ := ob_in e
      refine ⟨q7, ?_⟩
      refine ⟨fun c8 => ?_, fun c8 => ?_⟩
      · have e := if_t e c8
        exact hrec _ _ _ _ _ _ e
      · have e := if_n e c8
        cases e
        exact ⟨rfl, rfl⟩
def sX10_which  (rec : Nat → List Value → List Value → Hp → RS) (pc : Nat) (loc st : List Value) (h : Hp) : RS := match pc, loc, st with
  | 2, [.ref r0, .int x1, .int x2], [] => kX10_which_2 rec  r0 x1 x2 h
  | _, _, _ => none
def gX10_which  : Nat → Nat → List Value → List Value → Hp → RS
  | 0 => fun _ _ _ _ => none
  | n + 1 => sX10_which  (gX10_which  n)
theorem wX10_which {G : GG} {d : Nat} (hd : 2 ≤ d)   : ∀ (n pc : Nat) (loc st : List Value) (h : Hp) (o : OU) (h' : Hp), gX10_which  n pc loc st h = some (o, h') → V G mX10_which d pc loc st h o h' := by
  intro n
  induction n with
  | zero => intro pc loc st h o h' e; cases e
  | succ n ih =>
    intro pc loc st h o h' e
    unfold gX10_which sX10_which at e
    split at e
    · exact uX10_which_2 hd _ ih   e
    · cases e
theorem zX10_which_2  (n : Nat) (r0 : Nat) (x1 : Int32) (x2 : Int32)  (h : Hp) : gX10_which  (n + 1) 2 [.ref r0, .int x1, .int x2] [] h = kX10_which_2 (gX10_which  n)  r0 x1 x2 h := rfl
def fX10_which (r0 : Nat) (x1 : Int32) (h : Hp) : RS := kX10_which_0 (gX10_which FF) r0 x1 h
theorem tX10_which {G : GG} {d : Nat} {r0 x1} {h : Hp} {o : OU} {h' : Hp} (e : fX10_which r0 x1 h = some (o, h')) (hd : 2 ≤ d) : VM G mX10_which d [.ref r0, .int x1] h o h' := uX10_which_0 hd _ (wX10_which hd FF) e
def kX10_puts_0  (r0 : Nat) (x1 : Int32) (x2 : Int32) (h : Hp) : RS := (if kH h r0 = 1 then (if inB (x1 + 2) (lH h r0) = true then (if (h.2 r0 (x1 + 2).toNatClampNeg) = 16 then (some (.inl (some (.int 1)), h)) else (if ¬ (h.2 r0 (x1 + 2).toNatClampNeg) = x2 then (some (.inl (some (.int 0)), h)) else (some (.inl (some (.int 1)), h)))) else none) else none)
theorem uX10_puts_0 {G : GG} {d : Nat} (hd : 1 ≤ d)   {r0  x1  x2 } {h : Hp} {o : OU} {h' : Hp} (e : kX10_puts_0  r0 x1 x2 h = some (o, h')) : VM G mX10_puts d [.ref r0, .int x1, .int x2] h o h' := by
  unfold kX10_puts_0 at e
  refine eX10_puts r0 x1 x2 ?_
  obtain ⟨q1, e⟩ := ob_e e
  refine ⟨q1, ?_⟩
  obtain ⟨q2, e⟩ := ob_in e
  refine ⟨q2, ?_⟩
  refine ⟨fun c3 => ?_, fun c3 => ?_⟩
  · have e := if_t e c3
    cases e
    exact ⟨rfl, rfl⟩
  · have e := if_f e c3
    refine ⟨fun c4 => ?_, fun c4 => ?_⟩
    · have e := if_t e c4
      cases e
      exact ⟨rfl, rfl⟩
    · have e := if_n e c4
      cases e
      exact ⟨rfl, rfl⟩
def fX10_puts (r0 : Nat) (x1 : Int32) (x2 : Int32) (h : Hp) : RS := kX10_puts_0 r0 x1 x2 h
theorem tX10_puts {G : GG} {d : Nat} {r0 x1 x2} {h : Hp} {o : OU} {h' : Hp} (e : fX10_puts r0 x1 x2 h = some (o, h')) (hd : 1 ≤ d) : VM G mX10_puts d [.ref r0, .int x1, .int x2] h o h' := uX10_puts_0 hd e
def kX10_mayGo_0 (rec : Nat → List Value → List Value → Hp → RS)  (r0 : Nat) (r1 : Nat) (x2 : Int32) (h : Hp) : RS := (bI (fX10_cell x2 h) fun z2 h1 => (rec 8 [.ref r0, .ref r1, .int x2, .int z2, .int 4, uV] [] h1))
theorem uX10_mayGo_0 {G : GG} {d : Nat} (hd : 3 ≤ d) (rec : Nat → List Value → List Value → Hp → RS) (hrec : ∀ pc loc st h o h', rec pc loc st h = some (o, h') → V G mX10_mayGo d pc loc st h o h')   {r0  r1  x2 } {h : Hp} {o : OU} {h' : Hp} (e : kX10_mayGo_0 rec  r0 r1 x2 h = some (o, h')) : VM G mX10_mayGo d [.ref r0, .ref r1, .int x2] h o h' := by
  unfold kX10_mayGo_0 at e
  refine eX10_mayGo r0 r1 x2 (by omega) ?_
  obtain ⟨z2, h1, e1, e⟩ := bI_e e
  refine ⟨z2, h1, (tX10_cell e1 (by omega)), ?_⟩
  exact hrec _ _ _ _ _ _ e
def kX10_mayGo_8 (rec : Nat → List Value → List Value → Hp → RS)  (r0 : Nat) (r1 : Nat) (x2 : Int32) (x3 : Int32) (x4 : Int32) (h : Hp) : RS := (if 8 ≤ x4 then (rec 97 [.ref r0, .ref r1, .int x2, .int x3, .int 0, uV] [] h) else (if kH h r1 = 1 then (if inB (x3 + x4) (lH h r1) = true then (if 0 ≤ (h.2 r1 (x3 + x4).toNatClampNeg) then (rec 41 [.ref r0, .ref r1, .int x2, .int x3, .int x4, uV] [] h) else (bI (fX10_ahead r1 x2 (-(h.2 r1 (x3 + x4).toNatClampNeg)) h) fun z6 h5 => (if z6 ≤ 0 then (rec 41 [.ref r0, .ref r1, .int x2, .int x3, .int x4, uV] [] h5) else (some (.inl (some (.int 0)), h5))))) else none) else none))
theorem uX10_mayGo_8 {G : GG} {d : Nat} (hd : 3 ≤ d) (rec : Nat → List Value → List Value → Hp → RS) (hrec : ∀ pc loc st h o h', rec pc loc st h = some (o, h') → V G mX10_mayGo d pc loc st h o h')   {r0  r1  x2  x3  x4 } {h : Hp} {o : OU} {h' : Hp} (e : kX10_mayGo_8 rec  r0 r1 x2 x3 x4 h = some (o, h')) : V G mX10_mayGo d 8 [.ref r0, .ref r1, .int x2, .int x3, .int x4, uV] [] h o h' := by
  unfold kX10_mayGo_8 at e
  refine bX10_mayGo_8 r0 r1 x2 x3 x4 (by omega) ?_
  refine ⟨fun c1 => ?_, fun c1 => ?_⟩
  · have e := if_t e c1
    exact hrec _ _ _ _ _ _ e
  · have e := if_f e c1
    obtain ⟨q2, e⟩ := ob_e e
    refine ⟨q2, ?_⟩
    obtain ⟨q3, e⟩ := ob_in e
    refine ⟨q3, ?_⟩
    refine ⟨fun c4 => ?_, fun c4 => ?_⟩
    · have e := if_t e c4
      exact hrec _ _ _ _ _ _ e
    · have e := if_f e c4
      obtain ⟨z6, h5, e5, e⟩ := bI_e e
      refine ⟨z6, h5, (tX10_ahead e5 (by omega)), ?_⟩
      refine ⟨fun c6 => ?_, fun c6 => ?_⟩
      · have e := if_t e c6
        exact hrec _ _ _ _ _ _ e
      · have e := if_f e c6
        cases e
        exact ⟨rfl, rfl⟩
def kX10_mayGo_41 (rec : Nat → List Value → List Value → Hp → RS)  (r0 : Nat) (r1 : Nat) (x2 : Int32) (x3 : Int32) (x4 : Int32) (h : Hp) : RS := (if kH h r1 = 1 then (if inB (x3 + x4) (lH h r1) = true then (bI (fX10_which r1 (h.2 r1 (x3 + x4).toNatClampNeg) h) fun z4 h3 => (if z4 = (-1) then (rec 8 [.ref r0, .ref r1, .int x2, .int x3, .int (x4 + 1), uV] [] h3) else (bI (fX10_cell z4 h3) fun z8 h7 => (if kH h7 r1 = 1 then (if inB (z8 + 1) (lH h7 r1) = true then (if inB (x3 + 1) (lH h7 r1) = true then (if ¬ (h7.2 r1 (z8 + 1).toNatClampNeg) = (h7.2 r1 (x3 + 1).toNatClampNeg) then (some (.inl (some (.int 0)), h7)) else (if kH h7 r0 = 18 then (if kH h7 (rH h7 r0 27) = 3 then (if inB z4 (lH h7 (rH h7 r0 27)) = true then (if ¬ (h7.2 (rH h7 r0 27) z4.toNatClampNeg) = 0 then (rec 8 [.ref r0, .ref r1, .int x2, .int x3, .int (x4 + 1), uV] [] h7) else (some (.inl (some (.int 0)), h7))) else none) else none) else none)) else none) else none) else none)))) else none) else none)
theorem uX10_mayGo_41 {G : GG} {d : Nat} (hd : 3 ≤ d) (rec : Nat → List Value → List Value → Hp → RS) (hrec : ∀ pc loc st h o h', rec pc loc st h = some (o, h') → V G mX10_mayGo d pc loc st h o h')   {r0  r1  x2  x3  x4 } {h : Hp} {o : OU} {h' : Hp} (e : kX10_mayGo_41 rec  r0 r1 x2 x3 x4 h = some (o, h')) : V G mX10_mayGo d 41 [.ref r0, .ref r1, .int x2, .int x3, .int x4, uV] [] h o h' := by
  unfold kX10_mayGo_41 at e
  refine bX10_mayGo_41 r0 r1 x2 x3 x4 (by omega) ?_
  obtain ⟨q1, e⟩ := ob_e e
  refine ⟨q1, ?_⟩
  obtain ⟨q2, e⟩ := ob_in e
  refine ⟨q2, ?_⟩
  obtain ⟨z4, h3, e3, e⟩ := bI_e e
  refine ⟨z4, h3, (tX10_which e3 (by omega)), ?_⟩
  refine ⟨fun c4 => ?_, fun c4 => ?_⟩
  · have e := if_t e c4
    exact hrec _ _ _ _ _ _ e
  · have e := if_f e c4
    obtain ⟨z8, h7, e5, e⟩ := bI_e e
    refine ⟨z8, h7, (tX10_cell e5 (by omega)), ?_⟩
    obtain ⟨q6, e⟩ := ob_e e
    refine ⟨q6, ?_⟩
    obtain ⟨q7, e⟩ := ob_in e
    refine ⟨q7, ?_⟩
    obtain ⟨q8, e⟩ := ob_in e
    refine ⟨q8, ?_⟩
    refine ⟨fun c9 => ?_, fun c9 => ?_⟩
    · have e := if_t e c9
      cases e
      exact ⟨rfl, rfl⟩
    · have e := if_n e c9
      obtain ⟨q10, e⟩ := ob_e e
      refine ⟨q10, ?_⟩
      obtain ⟨q11, e⟩ := ob_e e
      refine ⟨q11, ?_⟩
      obtain ⟨q12, e⟩ := ob_in e
      refine ⟨q12, ?_⟩
      refine ⟨fun c13 => ?_, fun c13 => ?_⟩
      · have e := if_t e c13
        exact hrec _ _ _ _ _ _ e
      · have e := if_n e c13
        cases e
        exact ⟨rfl, rfl⟩
def kX10_mayGo_97 (rec : Nat → List Value → List Value → Hp → RS)  (r0 : Nat) (r1 : Nat) (x2 : Int32) (x3 : Int32) (x4 : Int32) (h : Hp) : RS := (if x2 ≤ x4 then (some (.inl (some (.int 1)), h)) else (bI (fX10_cell x4 h) fun z3 h2 => (if kH h2 r1 = 1 then (if inB (z3 + 1) (lH h2 r1) = true then (if inB (x3 + 1) (lH h2 r1) = true then (if ¬ (h2.2 r1 (z3 + 1).toNatClampNeg) = (h2.2 r1 (x3 + 1).toNatClampNeg) then (rec 97 [.ref r0, .ref r1, .int x2, .int x3, .int (x4 + 1), uV] [] h2) else (if kH h2 r0 = 18 then (if kH h2 (rH h2 r0 27) = 3 then (if inB x4 (lH h2 (rH h2 r0 27)) = true then (if (h2.2 (rH h2 r0 27) x4.toNatClampNeg) = 0 then (if inB (z3 + 2) (lH h2 r1) = true then (if (h2.2 r1 (z3 + 2).toNatClampNeg) = 16 then (some (.inl (some (.int 0)), h2)) else (bI (fX10_puts r1 x3 (h2.2 r1 (z3 + 2).toNatClampNeg) h2) fun z16 h15 => (if z16 = 0 then (rec 97 [.ref r0, .ref r1, .int x2, .int x3, .int (x4 + 1), uV] [] h15) else (some (.inl (some (.int 0)), h15))))) else none) else (rec 97 [.ref r0, .ref r1, .int x2, .int x3, .int (x4 + 1), uV] [] h2)) else none) else none) else none)) else none) else none) else none)))
theorem uX10_mayGo_97 {G : GG} {d : Nat} (hd : 3 ≤ d) (rec : Nat → List Value → List Value → Hp → RS) (hrec : ∀ pc loc st h o h', rec pc loc st h = some (o, h') → V G mX10_mayGo d pc loc st h o h')   {r0  r1  x2  x3  x4 } {h : Hp} {o : OU} {h' : Hp} (e : kX10_mayGo_97 rec  r0 r1 x2 x3 x4 h = some (o, h')) : V G mX10_mayGo d 97 [.ref r0, .ref r1, .int x2, .int x3, .int x4, uV] [] h o h' := by
  unfold kX10_mayGo_97 at e
  refine bX10_mayGo_97 r0 r1 x2 x3 x4 (by omega) ?_
  refine ⟨fun c1 => ?_, fun c1 => ?_⟩
  · have e := if_t e c1
    cases e
    exact ⟨rfl, rfl⟩
  · have e := if_f e c1
    obtain ⟨z3, h2, e2, e⟩ := bI_e e
    refine ⟨z3, h2, (tX10_cell e2 (by omega)), ?_⟩
    obtain ⟨q3, e⟩ := ob_e e
    refine ⟨q3, ?_⟩
    obtain ⟨q4, e⟩ := ob_in e
    refine ⟨q4, ?_⟩
    obtain ⟨q5, e⟩ := ob_in e
    refine ⟨q5, ?_⟩
    refine ⟨fun c6 => ?_, fun c6 => ?_⟩
    · have e := if_t e c6
      exact hrec _ _ _ _ _ _ e
    · have e := if_n e c6
      obtain ⟨q7, e⟩ := ob_e e
      refine ⟨q7, ?_⟩
      obtain ⟨q8, e⟩ := ob_e e
      refine ⟨q8, ?_⟩
      obtain ⟨q9, e⟩ := ob_in e
      refine ⟨q9, ?_⟩
      refine ⟨fun c10 => ?_, fun c10 => ?_⟩
      · have e := if_t e c10
        obtain ⟨q11, e⟩ := ob_in e
        refine ⟨q11, ?_⟩
        refine ⟨fun c12 => ?_, fun c12 => ?_⟩
        · have e := if_t e c12
          cases e
          exact ⟨rfl, rfl⟩
        · have e := if_f e c12
          obtain ⟨z16, h15, e13, e⟩ := bI_e e
          refine ⟨z16, h15, (tX10_puts e13 (by omega)), ?_⟩
          refine ⟨fun c14 => ?_, fun c14 => ?_⟩
          · have e := if_t e c14
            exact hrec _ _ _ _ _ _ e
          · have e := if_f e c14
            cases e
            exact ⟨rfl, rfl⟩
      · have e := if_f e c10
        exact hrec _ _ _ _ _ _ e
def sX10_mayGo  (rec : Nat → List Value → List Value → Hp → RS) (pc : Nat) (loc st : List Value) (h : Hp) : RS := match pc, loc, st with
  | 8, [.ref r0, .ref r1, .int x2, .int x3, .int x4, _], [] => kX10_mayGo_8 rec  r0 r1 x2 x3 x4 h
  | 41, [.ref r0, .ref r1, .int x2, .int x3, .int x4, _], [] => kX10_mayGo_41 rec  r0 r1 x2 x3 x4 h
  | 97, [.ref r0, .ref r1, .int x2, .int x3, .int x4, _], [] => kX10_mayGo_97 rec  r0 r1 x2 x3 x4 h
  | _, _, _ => none
def gX10_mayGo  : Nat → Nat → List Value → List Value → Hp → RS
  | 0 => fun _ _ _ _ => none
  | n + 1 => sX10_mayGo  (gX10_mayGo  n)
theorem wX10_mayGo {G : GG} {d : Nat} (hd : 3 ≤ d)   : ∀ (n pc : Nat) (loc st : List Value) (h : Hp) (o : OU) (h' : Hp), gX10_mayGo  n pc loc st h = some (o, h') → V G mX10_mayGo d pc loc st h o h' := by
  intro n
  induction n with
  | zero => intro pc loc st h o h' e; cases e
  | succ n ih =>
    intro pc loc st h o h' e
    unfold gX10_mayGo sX10_mayGo at e
    split at e
    · exact V.drop (llp_r (llp_r (llp_r (llp_r (llp_r (llp_u llp_nil)))))) (uX10_mayGo_8 hd _ ih   e)
    · exact V.drop (llp_r (llp_r (llp_r (llp_r (llp_r (llp_u llp_nil)))))) (uX10_mayGo_41 hd _ ih   e)
    · exact V.drop (llp_r (llp_r (llp_r (llp_r (llp_r (llp_u llp_nil)))))) (uX10_mayGo_97 hd _ ih   e)
    · cases e
theorem zX10_mayGo_8  (n : Nat) (r0 : Nat) (r1 : Nat) (x2 : Int32) (x3 : Int32) (x4 : Int32) (y5 : Value) (h : Hp) : gX10_mayGo  (n + 1) 8 [.ref r0, .ref r1, .int x2, .int x3, .int x4, y5] [] h = kX10_mayGo_8 (gX10_mayGo  n)  r0 r1 x2 x3 x4 h := rfl
theorem zX10_mayGo_41  (n : Nat) (r0 : Nat) (r1 : Nat) (x2 : Int32) (x3 : Int32) (x4 : Int32) (y5 : Value) (h : Hp) : gX10_mayGo  (n + 1) 41 [.ref r0, .ref r1, .int x2, .int x3, .int x4, y5] [] h = kX10_mayGo_41 (gX10_mayGo  n)  r0 r1 x2 x3 x4 h := rfl
theorem zX10_mayGo_97  (n : Nat) (r0 : Nat) (r1 : Nat) (x2 : Int32) (x3 : Int32) (x4 : Int32) (y5 : Value) (h : Hp) : gX10_mayGo  (n + 1) 97 [.ref r0, .ref r1, .int x2, .int x3, .int x4, y5] [] h = kX10_mayGo_97 (gX10_mayGo  n)  r0 r1 x2 x3 x4 h := rfl
def fX10_mayGo (r0 : Nat) (r1 : Nat) (x2 : Int32) (h : Hp) : RS := kX10_mayGo_0 (gX10_mayGo FF) r0 r1 x2 h
theorem tX10_mayGo {G : GG} {d : Nat} {r0 r1 x2} {h : Hp} {o : OU} {h' : Hp} (e : fX10_mayGo r0 r1 x2 h = some (o, h')) (hd : 3 ≤ d) : VM G mX10_mayGo d [.ref r0, .ref r1, .int x2] h o h' := uX10_mayGo_0 hd _ (wX10_mayGo hd FF) e
def kX10_wasAt_0  (r0 : Nat) (x1 : Int32) (x2 : Int32) (h : Hp) : RS := (if kH h r0 = 1 then (if inB (x1 + 2) (lH h r0) = true then (if 16 ≤ (h.2 r0 (x1 + 2).toNatClampNeg) then (if inB ((x1 + 8) + (x2 / 4)) (lH h r0) = true then (some (.inl (some (.int (((h.2 r0 ((x1 + 8) + (x2 / 4)).toNatClampNeg) >>> ((8 * (x2 - x2 / 4 * 4)) &&& 31)) &&& 255))), h)) else none) else (if inB (x1 + 8) (lH h r0) = true then (some (.inl (some (.int (h.2 r0 (x1 + 8).toNatClampNeg))), h)) else none)) else none) else none)
theorem uX10_wasAt_0 {G : GG} {d : Nat} (hd : 1 ≤ d)   {r0  x1  x2 } {h : Hp} {o : OU} {h' : Hp} (e : kX10_wasAt_0  r0 x1 x2 h = some (o, h')) : VM G mX10_wasAt d [.ref r0, .int x1, .int x2] h o h' := by
  unfold kX10_wasAt_0 at e
  refine eX10_wasAt r0 x1 x2 ?_
  obtain ⟨q1, e⟩ := ob_e e
  refine ⟨q1, ?_⟩
  obtain ⟨q2, e⟩ := ob_in e
  refine ⟨q2, ?_⟩
  refine ⟨fun c3 => ?_, fun c3 => ?_⟩
  · have e := if_t e c3
    obtain ⟨q4, e⟩ := ob_in e
    refine ⟨q4, ?_⟩
    cases e
    exact ⟨rfl, rfl⟩
  · have e := if_f e c3
    obtain ⟨q5, e⟩ := ob_in e
    refine ⟨q5, ?_⟩
    cases e
    exact ⟨rfl, rfl⟩
def fX10_wasAt (r0 : Nat) (x1 : Int32) (x2 : Int32) (h : Hp) : RS := kX10_wasAt_0 r0 x1 x2 h
theorem tX10_wasAt {G : GG} {d : Nat} {r0 x1 x2} {h : Hp} {o : OU} {h' : Hp} (e : fX10_wasAt r0 x1 x2 h = some (o, h')) (hd : 1 ≤ d) : VM G mX10_wasAt d [.ref r0, .int x1, .int x2] h o h' := uX10_wasAt_0 hd e
def kX10_copiesBlock_0 (rec : Nat → List Value → List Value → Hp → RS)  (r0 : Nat) (r1 : Nat) (x2 : Int32) (h : Hp) : RS := (rec 5 [.ref r0, .ref r1, .int x2, .int 0, .int 0, uV, uV] [] h)
theorem uX10_copiesBlock_0 {G : GG} {d : Nat} (hd : 4 ≤ d) (rec : Nat → List Value → List Value → Hp → RS) (hrec : ∀ pc loc st h o h', rec pc loc st h = some (o, h') → V G mX10_copiesBlock d pc loc st h o h')   {r0  r1  x2 } {h : Hp} {o : OU} {h' : Hp} (e : kX10_copiesBlock_0 rec  r0 r1 x2 h = some (o, h')) : VM G mX10_copiesBlock d [.ref r0, .ref r1, .int x2] h o h' := by
  unfold kX10_copiesBlock_0 at e
  refine eX10_copiesBlock r0 r1 x2 ?_
  exact hrec _ _ _ _ _ _ e
def kX10_copiesBlock_5 (rec : Nat → List Value → List Value → Hp → RS)  (r0 : Nat) (r1 : Nat) (x2 : Int32) (x3 : Int32) (x4 : Int32) (h : Hp) : RS := (if kH h r1 = 1 then (if inB 3392 (lH h r1) = true then (if (h.2 r1 3392) ≤ x4 then (rec 80 [.ref r0, .ref r1, .int x2, .int x3, .int 0, uV, uV] [] h) else (if kH h r0 = 18 then (if kH h (rH h r0 27) = 3 then (if inB x4 (lH h (rH h r0 27)) = true then (bI (fX10_cell x4 (h.1, (upI h.2 (rH h r0 27) x4.toNatClampNeg 0))) fun z8 h7 => (if kH h7 r1 = 1 then (if inB (z8 + 1) (lH h7 r1) = true then (if (h7.2 r1 (z8 + 1).toNatClampNeg) = x2 then (if kH h7 r0 = 18 then (bI (fX10_mayGo r0 r1 x4 h7) fun z15 h14 => (if (z15 = 0 ∨ z15 = 1) then (if kH h14 (rH h7 r0 27) = 3 then (if inB x4 (lH h14 (rH h7 r0 27)) = true then (if kH h14 r0 = 18 then (if kH h14 (rH h14 r0 27) = 3 then (if inB x4 (lH h14 (rH h14 r0 27)) = true then (if ((upI h14.2 (rH h7 r0 27) x4.toNatClampNeg z15) (rH h14 r0 27) x4.toNatClampNeg) = 0 then (rec 5 [.ref r0, .ref r1, .int x2, .int (x3 + 1), .int (x4 + 1), uV, uV] [] (h14.1, (upI h14.2 (rH h7 r0 27) x4.toNatClampNeg z15))) else (rec 5 [.ref r0, .ref r1, .int x2, .int (x3 + 0), .int (x4 + 1), uV, uV] [] (h14.1, (upI h14.2 (rH h7 r0 27) x4.toNatClampNeg z15)))) else none) else none) else none) else none) else none) else none)) else none) else (rec 5 [.ref r0, .ref r1, .int x2, .int x3, .int (x4 + 1), uV, uV] [] h7)) else none) else none)) else none) else none) else none)) else none) else none)
theorem uX10_copiesBlock_5 {G : GG} {d : Nat} (hd : 4 ≤ d) (rec : Nat → List Value → List Value → Hp → RS) (hrec : ∀ pc loc st h o h', rec pc loc st h = some (o, h') → V G mX10_copiesBlock d pc loc st h o h')   {r0  r1  x2  x3  x4 } {h : Hp} {o : OU} {h' : Hp} (e : kX10_copiesBlock_5 rec  r0 r1 x2 x3 x4 h = some (o, h')) : V G mX10_copiesBlock d 5 [.ref r0, .ref r1, .int x2, .int x3, .int x4, uV, uV] [] h o h' := by
  unfold kX10_copiesBlock_5 at e
  refine bX10_copiesBlock_5 r0 r1 x2 x3 x4 (by omega) ?_
  obtain ⟨q1, e⟩ := ob_e e
  refine ⟨q1, ?_⟩
  obtain ⟨q2, e⟩ := ob_in e
  refine ⟨q2, ?_⟩
  refine ⟨fun c3 => ?_, fun c3 => ?_⟩
  · have e := if_t e c3
    exact hrec _ _ _ _ _ _ e
  · have e := if_f e c3
    obtain ⟨q4, e⟩ := ob_e e
    refine ⟨q4, ?_⟩
    obtain ⟨q5, e⟩ := ob_e e
    refine ⟨q5, ?_⟩
    obtain ⟨q6, e⟩ := ob_in e
    refine ⟨q6, ?_⟩
    obtain ⟨z8, h7, e7, e⟩ := bI_e e
    refine ⟨z8, h7, (tX10_cell e7 (by omega)), ?_⟩
    obtain ⟨q8, e⟩ := ob_e e
    refine ⟨q8, ?_⟩
    obtain ⟨q9, e⟩ := ob_in e
    refine ⟨q9, ?_⟩
    refine ⟨fun c10 => ?_, fun c10 => ?_⟩
    · have e := if_t e c10
      obtain ⟨q11, e⟩ := ob_e e
      refine ⟨q11, ?_⟩
      obtain ⟨z15, h14, e12, e⟩ := bI_e e
      refine ⟨z15, h14, (tX10_mayGo e12 (by omega)), ?_⟩
      obtain ⟨q13, e⟩ := ob_e e
      refine ⟨q13, ?_⟩
      obtain ⟨q14, e⟩ := ob_e e
      refine ⟨q14, ?_⟩
      obtain ⟨q15, e⟩ := ob_in e
      refine ⟨q15, ?_⟩
      obtain ⟨q16, e⟩ := ob_e e
      refine ⟨q16, ?_⟩
      obtain ⟨q17, e⟩ := ob_e e
      refine ⟨q17, ?_⟩
      obtain ⟨q18, e⟩ := ob_in e
      refine ⟨q18, ?_⟩
      refine ⟨fun c19 => ?_, fun c19 => ?_⟩
      · have e := if_t e c19
        exact hrec _ _ _ _ _ _ e
      · have e := if_f e c19
        exact hrec _ _ _ _ _ _ e
    · have e := if_f e c10
      exact hrec _ _ _ _ _ _ e
def kX10_copiesBlock_80 (rec : Nat → List Value → List Value → Hp → RS)  (r0 : Nat) (r1 : Nat) (x2 : Int32) (x3 : Int32) (x4 : Int32) (h : Hp) : RS := (if 16 ≤ x4 then (if kH h r1 = 1 then (if inB 3392 (lH h r1) = true then (rec 120 [.ref r0, .ref r1, .int x2, .int x3, .int ((h.2 r1 3392) - 1), uV, uV] [] h) else none) else none) else (if kH h r0 = 18 then (if kH h r1 = 1 then (if inB ((0 + (16 * x2)) + x4) (lH h r1) = true then (if kH h (rH h r0 28) = 1 then (if inB x4 (lH h (rH h r0 28)) = true then (rec 80 [.ref r0, .ref r1, .int x2, .int x3, .int (x4 + 1), uV, uV] [] (h.1, (upI h.2 (rH h r0 28) x4.toNatClampNeg (h.2 r1 ((0 + (16 * x2)) + x4).toNatClampNeg)))) else none) else none) else none) else none) else none))
theorem uX10_copiesBlock_80 {G : GG} {d : Nat} (hd : 4 ≤ d) (rec : Nat → List Value → List Value → Hp → RS) (hrec : ∀ pc loc st h o h', rec pc loc st h = some (o, h') → V G mX10_copiesBlock d pc loc st h o h')   {r0  r1  x2  x3  x4 } {h : Hp} {o : OU} {h' : Hp} (e : kX10_copiesBlock_80 rec  r0 r1 x2 x3 x4 h = some (o, h')) : V G mX10_copiesBlock d 80 [.ref r0, .ref r1, .int x2, .int x3, .int x4, uV, uV] [] h o h' := by
  unfold kX10_copiesBlock_80 at e
  refine bX10_copiesBlock_80 r0 r1 x2 x3 x4 ?_
  refine ⟨fun c1 => ?_, fun c1 => ?_⟩
  · have e := if_t e c1
    obtain ⟨q2, e⟩ := ob_e e
    refine ⟨q2, ?_⟩
    obtain ⟨q3, e⟩ := ob_in e
    refine ⟨q3, ?_⟩
    exact hrec _ _ _ _ _ _ e
  · have e := if_f e c1
    obtain ⟨q4, e⟩ := ob_e e
    refine ⟨q4, ?_⟩
    obtain ⟨q5, e⟩ := ob_e e
    refine ⟨q5, ?_⟩
    obtain ⟨q6, e⟩ := ob_in e
    refine ⟨q6, ?_⟩
    obtain ⟨q7, e⟩ := ob_e e
    refine ⟨q7, ?_⟩
    obtain ⟨q8, e⟩ := ob_in e
    refine ⟨q8, ?_⟩
    exact hrec _ _ _ _ _ _ e
def kX10_copiesBlock_120 (rec : Nat → List Value → List Value → Hp → RS)  (r0 : Nat) (r1 : Nat) (x2 : Int32) (x3 : Int32) (x4 : Int32) (h : Hp) : RS := (if x4 < 0 then (some (.inl (some (.int x3)), h)) else (bI (fX10_cell x4 h) fun z3 h2 => (if kH h2 r1 = 1 then (if inB (z3 + 1) (lH h2 r1) = true then (if ¬ (h2.2 r1 (z3 + 1).toNatClampNeg) = x2 then (rec 120 [.ref r0, .ref r1, .int x2, .int x3, .int (x4 + (-1)), uV, uV] [] h2) else (if kH h2 r0 = 18 then (if kH h2 (rH h2 r0 27) = 3 then (if inB x4 (lH h2 (rH h2 r0 27)) = true then (if (h2.2 (rH h2 r0 27) x4.toNatClampNeg) = 0 then (rec 158 [.ref r0, .ref r1, .int x2, .int x3, .int x4, .int z3, .int 0] [] h2) else (rec 120 [.ref r0, .ref r1, .int x2, .int x3, .int (x4 + (-1)), uV, uV] [] h2)) else none) else none) else none)) else none) else none)))
theorem uX10_copiesBlock_120 {G : GG} {d : Nat} (hd : 4 ≤ d) (rec : Nat → List Value → List Value → Hp → RS) (hrec : ∀ pc loc st h o h', rec pc loc st h = some (o, h') → V G mX10_copiesBlock d pc loc st h o h')   {r0  r1  x2  x3  x4 } {h : Hp} {o : OU} {h' : Hp} (e : kX10_copiesBlock_120 rec  r0 r1 x2 x3 x4 h = some (o, h')) : V G mX10_copiesBlock d 120 [.ref r0, .ref r1, .int x2, .int x3, .int x4, uV, uV] [] h o h' := by
  unfold kX10_copiesBlock_120 at e
  refine bX10_copiesBlock_120 r0 r1 x2 x3 x4 (by omega) ?_
  refine ⟨fun c1 => ?_, fun c1 => ?_⟩
  · have e := if_t e c1
    cases e
    exact ⟨rfl, rfl⟩
  · have e := if_f e c1
    obtain ⟨z3, h2, e2, e⟩ := bI_e e
    refine ⟨z3, h2, (tX10_cell e2 (by omega)), ?_⟩
    obtain ⟨q3, e⟩ := ob_e e
    refine ⟨q3, ?_⟩
    obtain ⟨q4, e⟩ := ob_in e
    refine ⟨q4, ?_⟩
    refine ⟨fun c5 => ?_, fun c5 => ?_⟩
    · have e := if_t e c5
      exact hrec _ _ _ _ _ _ e
    · have e := if_n e c5
      obtain ⟨q6, e⟩ := ob_e e
      refine ⟨q6, ?_⟩
      obtain ⟨q7, e⟩ := ob_e e
      refine ⟨q7, ?_⟩
      obtain ⟨q8, e⟩ := ob_in e
      refine ⟨q8, ?_⟩
      refine ⟨fun c9 => ?_, fun c9 => ?_⟩
      · have e := if_t e c9
        exact hrec _ _ _ _ _ _ e
      · have e := if_f e c9
        exact hrec _ _ _ _ _ _ e
def kX10_copiesBlock_158 (rec : Nat → List Value → List Value → Hp → RS)  (r0 : Nat) (r1 : Nat) (x2 : Int32) (x3 : Int32) (x4 : Int32) (x5 : Int32) (x6 : Int32) (h : Hp) : RS := (if 16 ≤ x6 then (rec 120 [.ref r0, .ref r1, .int x2, .int x3, .int (x4 + (-1)), uV, uV] [] h) else (if kH h r0 = 18 then (bI (fX10_puts r1 x5 x6 h) fun z4 h3 => (if z4 = 0 then (if kH h3 r0 = 18 then (if kH h3 (rH h3 r0 28) = 1 then (if inB x6 (lH h3 (rH h3 r0 28)) = true then (if kH h3 (rH h r0 28) = 1 then (if inB x6 (lH h3 (rH h r0 28)) = true then (rec 158 [.ref r0, .ref r1, .int x2, .int x3, .int x4, .int x5, .int (x6 + 1)] [] (h3.1, (upI h3.2 (rH h r0 28) x6.toNatClampNeg (h3.2 (rH h3 r0 28) x6.toNatClampNeg)))) else none) else none) else none) else none) else none) else (bI (fX10_wasAt r1 x5 x6 h3) fun z13 h12 => (if kH h12 (rH h r0 28) = 1 then (if inB x6 (lH h12 (rH h r0 28)) = true then (rec 158 [.ref r0, .ref r1, .int x2, .int x3, .int x4, .int x5, .int (x6 + 1)] [] (h12.1, (upI h12.2 (rH h r0 28) x6.toNatClampNeg z13))) else none) else none)))) else none))
theorem uX10_copiesBlock_158 {G : GG} {d : Nat} (hd : 4 ≤ d) (rec : Nat → List Value → List Value → Hp → RS) (hrec : ∀ pc loc st h o h', rec pc loc st h = some (o, h') → V G mX10_copiesBlock d pc loc st h o h')   {r0  r1  x2  x3  x4  x5  x6 } {h : Hp} {o : OU} {h' : Hp} (e : kX10_copiesBlock_158 rec  r0 r1 x2 x3 x4 x5 x6 h = some (o, h')) : V G mX10_copiesBlock d 158 [.ref r0, .ref r1, .int x2, .int x3, .int x4, .int x5, .int x6] [] h o h' := by
  unfold kX10_copiesBlock_158 at e
  refine bX10_copiesBlock_158 r0 r1 x2 x3 x4 x5 x6 (by omega) ?_
  refine ⟨fun c1 => ?_, fun c1 => ?_⟩
  · have e := if_t e c1
    exact hrec _ _ _ _ _ _ e
  · have e := if_f e c1
    obtain ⟨q2, e⟩ := ob_e e
    refine ⟨q2, ?_⟩
    obtain ⟨z4, h3, e3, e⟩ := bI_e e
    refine ⟨z4, h3, (tX10_puts e3 (by omega)), ?_⟩
    refine ⟨fun c4 => ?_, fun c4 => ?_⟩
    · have e := if_t e c4
      obtain ⟨q5, e⟩ := ob_e e
      refine ⟨q5, ?_⟩
      obtain ⟨q6, e⟩ := ob_e e
      refine ⟨q6, ?_⟩
      obtain ⟨q7, e⟩ := ob_in e
      refine ⟨q7, ?_⟩
      obtain ⟨q8, e⟩ := ob_e e
      refine ⟨q8, ?_⟩
      obtain ⟨q9, e⟩ := ob_in e
      refine ⟨q9, ?_⟩
      exact hrec _ _ _ _ _ _ e
    · have e := if_f e c4
      obtain ⟨z13, h12, e10, e⟩ := bI_e e
      refine ⟨z13, h12, (tX10_wasAt e10 (by omega)), ?_⟩
      obtain ⟨q11, e⟩ := ob_e e
      refine ⟨q11, ?_⟩
      obtain ⟨q12, e⟩ := ob_in e
      refine ⟨q12, ?_⟩
      exact hrec _ _ _ _ _ _ e
def sX10_copiesBlock  (rec : Nat → List Value → List Value → Hp → RS) (pc : Nat) (loc st : List Value) (h : Hp) : RS := match pc, loc, st with
  | 5, [.ref r0, .ref r1, .int x2, .int x3, .int x4, _, _], [] => kX10_copiesBlock_5 rec  r0 r1 x2 x3 x4 h
  | 80, [.ref r0, .ref r1, .int x2, .int x3, .int x4, _, _], [] => kX10_copiesBlock_80 rec  r0 r1 x2 x3 x4 h
  | 120, [.ref r0, .ref r1, .int x2, .int x3, .int x4, _, _], [] => kX10_copiesBlock_120 rec  r0 r1 x2 x3 x4 h
  | 158, [.ref r0, .ref r1, .int x2, .int x3, .int x4, .int x5, .int x6], [] => kX10_copiesBlock_158 rec  r0 r1 x2 x3 x4 x5 x6 h
  | _, _, _ => none
def gX10_copiesBlock  : Nat → Nat → List Value → List Value → Hp → RS
  | 0 => fun _ _ _ _ => none
  | n + 1 => sX10_copiesBlock  (gX10_copiesBlock  n)
theorem wX10_copiesBlock {G : GG} {d : Nat} (hd : 4 ≤ d)   : ∀ (n pc : Nat) (loc st : List Value) (h : Hp) (o : OU) (h' : Hp), gX10_copiesBlock  n pc loc st h = some (o, h') → V G mX10_copiesBlock d pc loc st h o h' := by
  intro n
  induction n with
  | zero => intro pc loc st h o h' e; cases e
  | succ n ih =>
    intro pc loc st h o h' e
    unfold gX10_copiesBlock sX10_copiesBlock at e
    split at e
    · exact V.drop (llp_r (llp_r (llp_r (llp_r (llp_r (llp_u (llp_u llp_nil))))))) (uX10_copiesBlock_5 hd _ ih   e)
    · exact V.drop (llp_r (llp_r (llp_r (llp_r (llp_r (llp_u (llp_u llp_nil))))))) (uX10_copiesBlock_80 hd _ ih   e)
    · exact V.drop (llp_r (llp_r (llp_r (llp_r (llp_r (llp_u (llp_u llp_nil))))))) (uX10_copiesBlock_120 hd _ ih   e)
    · exact uX10_copiesBlock_158 hd _ ih   e
    · cases e
theorem zX10_copiesBlock_5  (n : Nat) (r0 : Nat) (r1 : Nat) (x2 : Int32) (x3 : Int32) (x4 : Int32) (y5 : Value) (y6 : Value) (h : Hp) : gX10_copiesBlock  (n + 1) 5 [.ref r0, .ref r1, .int x2, .int x3, .int x4, y5, y6] [] h = kX10_copiesBlock_5 (gX10_copiesBlock  n)  r0 r1 x2 x3 x4 h := rfl
theorem zX10_copiesBlock_80  (n : Nat) (r0 : Nat) (r1 : Nat) (x2 : Int32) (x3 : Int32) (x4 : Int32) (y5 : Value) (y6 : Value) (h : Hp) : gX10_copiesBlock  (n + 1) 80 [.ref r0, .ref r1, .int x2, .int x3, .int x4, y5, y6] [] h = kX10_copiesBlock_80 (gX10_copiesBlock  n)  r0 r1 x2 x3 x4 h := rfl
theorem zX10_copiesBlock_120  (n : Nat) (r0 : Nat) (r1 : Nat) (x2 : Int32) (x3 : Int32) (x4 : Int32) (y5 : Value) (y6 : Value) (h : Hp) : gX10_copiesBlock  (n + 1) 120 [.ref r0, .ref r1, .int x2, .int x3, .int x4, y5, y6] [] h = kX10_copiesBlock_120 (gX10_copiesBlock  n)  r0 r1 x2 x3 x4 h := rfl
theorem zX10_copiesBlock_158  (n : Nat) (r0 : Nat) (r1 : Nat) (x2 : Int32) (x3 : Int32) (x4 : Int32) (x5 : Int32) (x6 : Int32)  (h : Hp) : gX10_copiesBlock  (n + 1) 158 [.ref r0, .ref r1, .int x2, .int x3, .int x4, .int x5, .int x6] [] h = kX10_copiesBlock_158 (gX10_copiesBlock  n)  r0 r1 x2 x3 x4 x5 x6 h := rfl
def fX10_copiesBlock (r0 : Nat) (r1 : Nat) (x2 : Int32) (h : Hp) : RS := kX10_copiesBlock_0 (gX10_copiesBlock FF) r0 r1 x2 h
theorem tX10_copiesBlock {G : GG} {d : Nat} {r0 r1 x2} {h : Hp} {o : OU} {h' : Hp} (e : fX10_copiesBlock r0 r1 x2 h = some (o, h')) (hd : 4 ≤ d) : VM G mX10_copiesBlock d [.ref r0, .ref r1, .int x2] h o h' := uX10_copiesBlock_0 hd _ (wX10_copiesBlock hd FF) e
def kX10_leavesOut_0 (rec : Nat → List Value → List Value → Hp → RS)  (r0 : Nat) (r1 : Nat) (h : Hp) : RS := (if kH h r0 = 18 then (rec 9 [.ref r0, .ref r1, .int 0, .int 0, uV] [] (h.1, (upI h.2 r0 30 0))) else none)
theorem uX10_leavesOut_0 {G : GG} {d : Nat} (hd : 2 ≤ d) (rec : Nat → List Value → List Value → Hp → RS) (hrec : ∀ pc loc st h o h', rec pc loc st h = some (o, h') → V G mX10_leavesOut d pc loc st h o h')   {r0  r1 } {h : Hp} {o : OU} {h' : Hp} (e : kX10_leavesOut_0 rec  r0 r1 h = some (o, h')) : VM G mX10_leavesOut d [.ref r0, .ref r1] h o h' := by
  unfold kX10_leavesOut_0 at e
  refine eX10_leavesOut r0 r1 ?_
  obtain ⟨q1, e⟩ := ob_e e
  refine ⟨q1, ?_⟩
  exact hrec _ _ _ _ _ _ e
def kX10_leavesOut_9 (rec : Nat → List Value → List Value → Hp → RS)  (r0 : Nat) (r1 : Nat) (x2 : Int32) (x3 : Int32) (h : Hp) : RS := (if kH h r1 = 1 then (if inB 3392 (lH h r1) = true then (if (h.2 r1 3392) ≤ x3 then (some (.inl none, (h.1, (upI h.2 r1 3392 x2)))) else (if kH h r0 = 18 then (if kH h (rH h r0 27) = 3 then (if inB x3 (lH h (rH h r0 27)) = true then (if (h.2 (rH h r0 27) x3.toNatClampNeg) = 0 then (rec 58 [.ref r0, .ref r1, .int x2, .int x3, .int 0] [] h) else (bI (fX10_cell x3 h) fun z9 h8 => (if kH h8 r1 = 1 then (if inB z9 (lH h8 r1) = true then (if kH h8 (rH h r0 29) = 1 then (if inB (h.2 r0 30) (lH h8 (rH h r0 29)) = true then (if kH h8 r0 = 18 then (letH (upI (upI h8.2 (rH h r0 29) (h.2 r0 30).toNatClampNeg (h8.2 r1 z9.toNatClampNeg)) r0 30 (((upI h8.2 (rH h r0 29) (h.2 r0 30).toNatClampNeg (h8.2 r1 z9.toNatClampNeg)) r0 30) + 1)) fun (i16 : Nat → Nat → Int32) => (rec 9 [.ref r0, .ref r1, .int x2, .int (x3 + 1), uV] [] (h8.1, i16))) else none) else none) else none) else none) else none))) else none) else none) else none)) else none) else none)
theorem uX10_leavesOut_9 {G : GG} {d : Nat} (hd : 2 ≤ d) (rec : Nat → List Value → List Value → Hp → RS) (hrec : ∀ pc loc st h o h', rec pc loc st h = some (o, h') → V G mX10_leavesOut d pc loc st h o h')   {r0  r1  x2  x3 } {h : Hp} {o : OU} {h' : Hp} (e : kX10_leavesOut_9 rec  r0 r1 x2 x3 h = some (o, h')) : V G mX10_leavesOut d 9 [.ref r0, .ref r1, .int x2, .int x3, uV] [] h o h' := by
  unfold kX10_leavesOut_9 at e
  refine bX10_leavesOut_9 r0 r1 x2 x3 (by omega) ?_
  obtain ⟨q1, e⟩ := ob_e e
  refine ⟨q1, ?_⟩
  obtain ⟨q2, e⟩ := ob_in e
  refine ⟨q2, ?_⟩
  refine ⟨fun c3 => ?_, fun c3 => ?_⟩
  · have e := if_t e c3
    cases e
    exact ⟨rfl, rfl⟩
  · have e := if_f e c3
    obtain ⟨q4, e⟩ := ob_e e
    refine ⟨q4, ?_⟩
    obtain ⟨q5, e⟩ := ob_e e
    refine ⟨q5, ?_⟩
    obtain ⟨q6, e⟩ := ob_in e
    refine ⟨q6, ?_⟩
    refine ⟨fun c7 => ?_, fun c7 => ?_⟩
    · have e := if_t e c7
      exact hrec _ _ _ _ _ _ e
    · have e := if_f e c7
      obtain ⟨z9, h8, e8, e⟩ := bI_e e
      refine ⟨z9, h8, (tX10_cell e8 (by omega)), ?_⟩
      obtain ⟨q9, e⟩ := ob_e e
      refine ⟨q9, ?_⟩
      obtain ⟨q10, e⟩ := ob_in e
      refine ⟨q10, ?_⟩
      obtain ⟨q11, e⟩ := ob_e e
      refine ⟨q11, ?_⟩
      obtain ⟨q12, e⟩ := ob_in e
      refine ⟨q12, ?_⟩
      obtain ⟨q13, e⟩ := ob_e e
      refine ⟨q13, ?_⟩
      intro i16 evi16
      have e := lt_e evi16 e
      exact hrec _ _ _ _ _ _ e
def kX10_leavesOut_58 (rec : Nat → List Value → List Value → Hp → RS)  (r0 : Nat) (r1 : Nat) (x2 : Int32) (x3 : Int32) (x4 : Int32) (h : Hp) : RS := (if 12 ≤ x4 then (rec 9 [.ref r0, .ref r1, .int (x2 + 1), .int (x3 + 1), uV] [] h) else (bI (fX10_cell x2 h) fun z3 h2 => (bI (fX10_cell x3 h2) fun z6 h5 => (if kH h5 r1 = 1 then (if inB (z6 + x4) (lH h5 r1) = true then (if inB (z3 + x4) (lH h5 r1) = true then (rec 58 [.ref r0, .ref r1, .int x2, .int x3, .int (x4 + 1)] [] (h5.1, (upI h5.2 r1 (z3 + x4).toNatClampNeg (h5.2 r1 (z6 + x4).toNatClampNeg)))) else none) else none) else none))))
theorem uX10_leavesOut_58 {G : GG} {d : Nat} (hd : 2 ≤ d) (rec : Nat → List Value → List Value → Hp → RS) (hrec : ∀ pc loc st h o h', rec pc loc st h = some (o, h') → V G mX10_leavesOut d pc loc st h o h')   {r0  r1  x2  x3  x4 } {h : Hp} {o : OU} {h' : Hp} (e : kX10_leavesOut_58 rec  r0 r1 x2 x3 x4 h = some (o, h')) : V G mX10_leavesOut d 58 [.ref r0, .ref r1, .int x2, .int x3, .int x4] [] h o h' := by
  unfold kX10_leavesOut_58 at e
  refine bX10_leavesOut_58 r0 r1 x2 x3 x4 (by omega) ?_
  refine ⟨fun c1 => ?_, fun c1 => ?_⟩
  · have e := if_t e c1
    exact hrec _ _ _ _ _ _ e
  · have e := if_f e c1
    obtain ⟨z3, h2, e2, e⟩ := bI_e e
    refine ⟨z3, h2, (tX10_cell e2 (by omega)), ?_⟩
    obtain ⟨z6, h5, e3, e⟩ := bI_e e
    refine ⟨z6, h5, (tX10_cell e3 (by omega)), ?_⟩
    obtain ⟨q4, e⟩ := ob_e e
    refine ⟨q4, ?_⟩
    obtain ⟨q5, e⟩ := ob_in e
    refine ⟨q5, ?_⟩
    obtain ⟨q6, e⟩ := ob_in e
    refine ⟨q6, ?_⟩
    exact hrec _ _ _ _ _ _ e
def sX10_leavesOut  (rec : Nat → List Value → List Value → Hp → RS) (pc : Nat) (loc st : List Value) (h : Hp) : RS := match pc, loc, st with
  | 9, [.ref r0, .ref r1, .int x2, .int x3, _], [] => kX10_leavesOut_9 rec  r0 r1 x2 x3 h
  | 58, [.ref r0, .ref r1, .int x2, .int x3, .int x4], [] => kX10_leavesOut_58 rec  r0 r1 x2 x3 x4 h
  | _, _, _ => none
def gX10_leavesOut  : Nat → Nat → List Value → List Value → Hp → RS
  | 0 => fun _ _ _ _ => none
  | n + 1 => sX10_leavesOut  (gX10_leavesOut  n)
theorem wX10_leavesOut {G : GG} {d : Nat} (hd : 2 ≤ d)   : ∀ (n pc : Nat) (loc st : List Value) (h : Hp) (o : OU) (h' : Hp), gX10_leavesOut  n pc loc st h = some (o, h') → V G mX10_leavesOut d pc loc st h o h' := by
  intro n
  induction n with
  | zero => intro pc loc st h o h' e; cases e
  | succ n ih =>
    intro pc loc st h o h' e
    unfold gX10_leavesOut sX10_leavesOut at e
    split at e
    · exact V.drop (llp_r (llp_r (llp_r (llp_r (llp_u llp_nil))))) (uX10_leavesOut_9 hd _ ih   e)
    · exact uX10_leavesOut_58 hd _ ih   e
    · cases e
theorem zX10_leavesOut_9  (n : Nat) (r0 : Nat) (r1 : Nat) (x2 : Int32) (x3 : Int32) (y4 : Value) (h : Hp) : gX10_leavesOut  (n + 1) 9 [.ref r0, .ref r1, .int x2, .int x3, y4] [] h = kX10_leavesOut_9 (gX10_leavesOut  n)  r0 r1 x2 x3 h := rfl
theorem zX10_leavesOut_58  (n : Nat) (r0 : Nat) (r1 : Nat) (x2 : Int32) (x3 : Int32) (x4 : Int32)  (h : Hp) : gX10_leavesOut  (n + 1) 58 [.ref r0, .ref r1, .int x2, .int x3, .int x4] [] h = kX10_leavesOut_58 (gX10_leavesOut  n)  r0 r1 x2 x3 x4 h := rfl
def fX10_leavesOut (r0 : Nat) (r1 : Nat) (h : Hp) : RS := kX10_leavesOut_0 (gX10_leavesOut FF) r0 r1 h
theorem tX10_leavesOut {G : GG} {d : Nat} {r0 r1} {h : Hp} {o : OU} {h' : Hp} (e : fX10_leavesOut r0 r1 h = some (o, h')) (hd : 2 ≤ d) : VM G mX10_leavesOut d [.ref r0, .ref r1] h o h' := uX10_leavesOut_0 hd _ (wX10_leavesOut hd FF) e
def kX10_isGone_0 (rec : Nat → List Value → List Value → Hp → RS)  (r0 : Nat) (x1 : Int32) (h : Hp) : RS := (rec 2 [.ref r0, .int x1, .int 0] [] h)
theorem uX10_isGone_0 {G : GG} {d : Nat} (hd : 1 ≤ d) (rec : Nat → List Value → List Value → Hp → RS) (hrec : ∀ pc loc st h o h', rec pc loc st h = some (o, h') → V G mX10_isGone d pc loc st h o h')   {r0  x1 } {h : Hp} {o : OU} {h' : Hp} (e : kX10_isGone_0 rec  r0 x1 h = some (o, h')) : VM G mX10_isGone d [.ref r0, .int x1] h o h' := by
  unfold kX10_isGone_0 at e
  refine eX10_isGone r0 x1 ?_
  exact hrec _ _ _ _ _ _ e
def kX10_isGone_2 (rec : Nat → List Value → List Value → Hp → RS)  (r0 : Nat) (x1 : Int32) (x2 : Int32) (h : Hp) : RS := (if kH h r0 = 18 then (if (h.2 r0 30) ≤ x2 then (some (.inl (some (.int 0)), h)) else (if kH h (rH h r0 29) = 1 then (if inB x2 (lH h (rH h r0 29)) = true then (if ¬ (h.2 (rH h r0 29) x2.toNatClampNeg) = x1 then (rec 2 [.ref r0, .int x1, .int (x2 + 1)] [] h) else (some (.inl (some (.int 1)), h))) else none) else none)) else none)
theorem uX10_isGone_2 {G : GG} {d : Nat} (hd : 1 ≤ d) (rec : Nat → List Value → List Value → Hp → RS) (hrec : ∀ pc loc st h o h', rec pc loc st h = some (o, h') → V G mX10_isGone d pc loc st h o h')   {r0  x1  x2 } {h : Hp} {o : OU} {h' : Hp} (e : kX10_isGone_2 rec  r0 x1 x2 h = some (o, h')) : V G mX10_isGone d 2 [.ref r0, .int x1, .int x2] [] h o h' := by
  unfold kX10_isGone_2 at e
  refine bX10_isGone_2 r0 x1 x2 ?_
  obtain ⟨q1, e⟩ := ob_e e
  refine ⟨q1, ?_⟩
  refine ⟨fun c2 => ?_, fun c2 => ?_⟩
  · have e := if_t e c2
    cases e
    exact ⟨rfl, rfl⟩
  · have e := if_f e c2
    obtain ⟨q3, e⟩ := ob_e e
    refine ⟨q3, ?_⟩
    obtain ⟨q4, e⟩ := ob_in e
    refine ⟨q4, ?_⟩
    refine ⟨fun c5 => ?_, fun c5 => ?_⟩
    · have e := if_t e c5
      exact hrec _ _ _ _ _ _ e
    · have e := if_n e c5
      cases e
      exact ⟨rfl, rfl⟩
def sX10_isGone  (rec : Nat → List Value → List Value → Hp → RS) (pc : Nat) (loc st : List Value) (h : Hp) : RS := match pc, loc, st with
  | 2, [.ref r0, .int x1, .int x2], [] => kX10_isGone_2 rec  r0 x1 x2 h
  | _, _, _ => none
def gX10_isGone  : Nat → Nat → List Value → List Value → Hp → RS
  | 0 => fun _ _ _ _ => none
  | n + 1 => sX10_isGone  (gX10_isGone  n)
theorem wX10_isGone {G : GG} {d : Nat} (hd : 1 ≤ d)   : ∀ (n pc : Nat) (loc st : List Value) (h : Hp) (o : OU) (h' : Hp), gX10_isGone  n pc loc st h = some (o, h') → V G mX10_isGone d pc loc st h o h' := by
  intro n
  induction n with
  | zero => intro pc loc st h o h' e; cases e
  | succ n ih =>
    intro pc loc st h o h' e
    unfold gX10_isGone sX10_isGone at e
    split at e
    · exact uX10_isGone_2 hd _ ih   e
    · cases e
theorem zX10_isGone_2  (n : Nat) (r0 : Nat) (x1 : Int32) (x2 : Int32)  (h : Hp) : gX10_isGone  (n + 1) 2 [.ref r0, .int x1, .int x2] [] h = kX10_isGone_2 (gX10_isGone  n)  r0 x1 x2 h := rfl
def fX10_isGone (r0 : Nat) (x1 : Int32) (h : Hp) : RS := kX10_isGone_0 (gX10_isGone FF) r0 x1 h
theorem tX10_isGone {G : GG} {d : Nat} {r0 x1} {h : Hp} {o : OU} {h' : Hp} (e : fX10_isGone r0 x1 h = some (o, h')) (hd : 1 ≤ d) : VM G mX10_isGone d [.ref r0, .int x1] h o h' := uX10_isGone_0 hd _ (wX10_isGone hd FF) e
def kX10_empties_0 (rec : Nat → List Value → List Value → Hp → RS)  (r0 : Nat) (x1 : Int32) (h : Hp) : RS := (bI (fX10_field r0 x1 1 0 0 0 h) fun z2 h1 => (rec 12 [.ref r0, .int x1, .int 2, uV] [] h1))
theorem uX10_empties_0 {G : GG} {d : Nat} (hd : 4 ≤ d) (rec : Nat → List Value → List Value → Hp → RS) (hrec : ∀ pc loc st h o h', rec pc loc st h = some (o, h') → V G mX10_empties d pc loc st h o h')   {r0  x1 } {h : Hp} {o : OU} {h' : Hp} (e : kX10_empties_0 rec  r0 x1 h = some (o, h')) : VM G mX10_empties d [.ref r0, .int x1] h o h' := by
  unfold kX10_empties_0 at e
  refine eX10_empties r0 x1 (by omega) ?_
  obtain ⟨z2, h1, e1, e⟩ := bI_e e
  refine ⟨z2, h1, (tX10_field e1 (by omega)), ?_⟩
  exact hrec _ _ _ _ _ _ e
def kX10_empties_12 (rec : Nat → List Value → List Value → Hp → RS)  (r0 : Nat) (x1 : Int32) (x2 : Int32) (h : Hp) : RS := (if 3 < x2 then (some (.inl none, h)) else (bI (fX10_fieldOf r0 0 x1 x2 h) fun z3 h2 => (if z3 = 0 then (rec 12 [.ref r0, .int x1, .int (x2 + 1), uV] [] h2) else (bI (fX10_field r0 x1 x2 0 0 0 h2) fun z7 h6 => (bV (fX10_putsOff r0 0 z3 z7 h6) fun h9 => (rec 12 [.ref r0, .int x1, .int (x2 + 1), uV] [] h9))))))
theorem uX10_empties_12 {G : GG} {d : Nat} (hd : 4 ≤ d) (rec : Nat → List Value → List Value → Hp → RS) (hrec : ∀ pc loc st h o h', rec pc loc st h = some (o, h') → V G mX10_empties d pc loc st h o h')   {r0  x1  x2 } {h : Hp} {o : OU} {h' : Hp} (e : kX10_empties_12 rec  r0 x1 x2 h = some (o, h')) : V G mX10_empties d 12 [.ref r0, .int x1, .int x2, uV] [] h o h' := by
  unfold kX10_empties_12 at e
  refine bX10_empties_12 r0 x1 x2 (by omega) ?_
  refine ⟨fun c1 => ?_, fun c1 => ?_⟩
  · have e := if_t e c1
    cases e
    exact ⟨rfl, rfl⟩
  · have e := if_f e c1
    obtain ⟨z3, h2, e2, e⟩ := bI_e e
    refine ⟨z3, h2, (tX10_fieldOf e2 (by omega)), ?_⟩
    refine ⟨fun c3 => ?_, fun c3 => ?_⟩
    · have e := if_t e c3
      exact hrec _ _ _ _ _ _ e
    · have e := if_f e c3
      obtain ⟨z7, h6, e4, e⟩ := bI_e e
      refine ⟨z7, h6, (tX10_field e4 (by omega)), ?_⟩
      obtain ⟨h9, e5, e⟩ := bV_e e
      refine ⟨h9, (tX10_putsOff e5 (by omega)), ?_⟩
      exact hrec _ _ _ _ _ _ e
def sX10_empties  (rec : Nat → List Value → List Value → Hp → RS) (pc : Nat) (loc st : List Value) (h : Hp) : RS := match pc, loc, st with
  | 12, [.ref r0, .int x1, .int x2, _], [] => kX10_empties_12 rec  r0 x1 x2 h
  | _, _, _ => none
def gX10_empties  : Nat → Nat → List Value → List Value → Hp → RS
  | 0 => fun _ _ _ _ => none
  | n + 1 => sX10_empties  (gX10_empties  n)
theorem wX10_empties {G : GG} {d : Nat} (hd : 4 ≤ d)   : ∀ (n pc : Nat) (loc st : List Value) (h : Hp) (o : OU) (h' : Hp), gX10_empties  n pc loc st h = some (o, h') → V G mX10_empties d pc loc st h o h' := by
  intro n
  induction n with
  | zero => intro pc loc st h o h' e; cases e
  | succ n ih =>
    intro pc loc st h o h' e
    unfold gX10_empties sX10_empties at e
    split at e
    · exact V.drop (llp_r (llp_r (llp_r (llp_u llp_nil)))) (uX10_empties_12 hd _ ih   e)
    · cases e
theorem zX10_empties_12  (n : Nat) (r0 : Nat) (x1 : Int32) (x2 : Int32) (y3 : Value) (h : Hp) : gX10_empties  (n + 1) 12 [.ref r0, .int x1, .int x2, y3] [] h = kX10_empties_12 (gX10_empties  n)  r0 x1 x2 h := rfl
def fX10_empties (r0 : Nat) (x1 : Int32) (h : Hp) : RS := kX10_empties_0 (gX10_empties FF) r0 x1 h
theorem tX10_empties {G : GG} {d : Nat} {r0 x1} {h : Hp} {o : OU} {h' : Hp} (e : fX10_empties r0 x1 h = some (o, h')) (hd : 4 ≤ d) : VM G mX10_empties d [.ref r0, .int x1] h o h' := uX10_empties_0 hd _ (wX10_empties hd FF) e
def kX10_lessens_0  (r0 : Nat) (x1 : Int32) (h : Hp) : RS := (bI (fX10_fieldOf r0 0 x1 0 h) fun z2 h1 => (if 0 ≤ (z2 - 1) then (bI (fX10_field r0 x1 0 (z2 - 1) 0 0 h1) fun z6 h5 => (if ¬ (z2 - 1) = 0 then (some (.inl none, h5)) else (bV (fX10_empties r0 x1 h5) fun h9 => (some (.inl none, h9))))) else (some (.inl none, h1))))
theorem uX10_lessens_0 {G : GG} {d : Nat} (hd : 5 ≤ d)   {r0  x1 } {h : Hp} {o : OU} {h' : Hp} (e : kX10_lessens_0  r0 x1 h = some (o, h')) : VM G mX10_lessens d [.ref r0, .int x1] h o h' := by
  unfold kX10_lessens_0 at e
  refine eX10_lessens r0 x1 (by omega) ?_
  obtain ⟨z2, h1, e1, e⟩ := bI_e e
  refine ⟨z2, h1, (tX10_fieldOf e1 (by omega)), ?_⟩
  refine ⟨fun c2 => ?_, fun c2 => ?_⟩
  · have e := if_t e c2
    obtain ⟨z6, h5, e3, e⟩ := bI_e e
    refine ⟨z6, h5, (tX10_field e3 (by omega)), ?_⟩
    refine ⟨fun c4 => ?_, fun c4 => ?_⟩
    · have e := if_t e c4
      cases e
      exact ⟨rfl, rfl⟩
    · have e := if_n e c4
      obtain ⟨h9, e5, e⟩ := bV_e e
      refine ⟨h9, (tX10_empties e5 (by omega)), ?_⟩
      cases e
      exact ⟨rfl, rfl⟩
  · have e := if_f e c2
    cases e
    exact ⟨rfl, rfl⟩
def fX10_lessens (r0 : Nat) (x1 : Int32) (h : Hp) : RS := kX10_lessens_0 r0 x1 h
theorem tX10_lessens {G : GG} {d : Nat} {r0 x1} {h : Hp} {o : OU} {h' : Hp} (e : fX10_lessens r0 x1 h = some (o, h')) (hd : 5 ≤ d) : VM G mX10_lessens d [.ref r0, .int x1] h o h' := uX10_lessens_0 hd e
def kX10_doesLater_0 (rec : Nat → List Value → List Value → Hp → RS)  (r0 : Nat) (r1 : Nat) (h : Hp) : RS := (if kH h r1 = 1 then (if inB 3393 (lH h r1) = true then (rec 11 [.ref r0, .ref r1, .int (h.2 r1 3393), .int 0, .int 0, uV, uV] [] h) else none) else none)
theorem uX10_doesLater_0 {G : GG} {d : Nat} (hd : 6 ≤ d) (rec : Nat → List Value → List Value → Hp → RS) (hrec : ∀ pc loc st h o h', rec pc loc st h = some (o, h') → V G mX10_doesLater d pc loc st h o h')   {r0  r1 } {h : Hp} {o : OU} {h' : Hp} (e : kX10_doesLater_0 rec  r0 r1 h = some (o, h')) : VM G mX10_doesLater d [.ref r0, .ref r1] h o h' := by
  unfold kX10_doesLater_0 at e
  refine eX10_doesLater r0 r1 ?_
  obtain ⟨q1, e⟩ := ob_e e
  refine ⟨q1, ?_⟩
  obtain ⟨q2, e⟩ := ob_in e
  refine ⟨q2, ?_⟩
  exact hrec _ _ _ _ _ _ e
def kX10_doesLater_11 (rec : Nat → List Value → List Value → Hp → RS)  (r0 : Nat) (r1 : Nat) (x2 : Int32) (x3 : Int32) (x4 : Int32) (h : Hp) : RS := (if x2 ≤ x4 then (rec 92 [uV, .ref r1, uV, .int x3, .int 0, uV, uV] [] h) else (if kH h r1 = 1 then (if inB ((2912 + (3 * x4)) + 2) (lH h r1) = true then (if kH h r0 = 18 then (bI (fX10_isGone r0 (h.2 r1 ((2912 + (3 * x4)) + 2).toNatClampNeg) h) fun z5 h4 => (if ¬ z5 = 0 then (if kH h4 r1 = 1 then (if inB (2912 + (3 * x4)) (lH h4 r1) = true then (if ¬ (h4.2 r1 (2912 + (3 * x4)).toNatClampNeg) = 0 then (if inB ((2912 + (3 * x4)) + 1) (lH h4 r1) = true then (bV (fX10_lessens r1 (h4.2 r1 ((2912 + (3 * x4)) + 1).toNatClampNeg) h4) fun h13 => (if kH h13 r1 = 1 then (if inB ((2912 + (3 * x4)) + 2) (lH h13 r1) = true then (rec 11 [.ref r0, .ref r1, .int x2, .int x3, .int (x4 + 1), uV, uV] [] (h13.1, (upI h13.2 r1 ((2912 + (3 * x4)) + 2).toNatClampNeg (-1)))) else none) else none)) else none) else (if inB ((2912 + (3 * x4)) + 1) (lH h4 r1) = true then (bI (fX10_bare r1 0 (h4.2 r1 ((2912 + (3 * x4)) + 1).toNatClampNeg) 0 h4) fun z19 h18 => (if kH h18 r1 = 1 then (if inB ((2912 + (3 * x4)) + 2) (lH h18 r1) = true then (rec 11 [.ref r0, .ref r1, .int x2, .int x3, .int (x4 + 1), uV, uV] [] (h18.1, (upI h18.2 r1 ((2912 + (3 * x4)) + 2).toNatClampNeg (-1)))) else none) else none)) else none)) else none) else none) else (rec 11 [.ref r0, .ref r1, .int x2, .int x3, .int (x4 + 1), uV, uV] [] h4))) else none) else none) else none))
theorem uX10_doesLater_11 {G : GG} {d : Nat} (hd : 6 ≤ d) (rec : Nat → List Value → List Value → Hp → RS) (hrec : ∀ pc loc st h o h', rec pc loc st h = some (o, h') → V G mX10_doesLater d pc loc st h o h')   {r0  r1  x2  x3  x4 } {h : Hp} {o : OU} {h' : Hp} (e : kX10_doesLater_11 rec  r0 r1 x2 x3 x4 h = some (o, h')) : V G mX10_doesLater d 11 [.ref r0, .ref r1, .int x2, .int x3, .int x4, uV, uV] [] h o h' := by
  unfold kX10_doesLater_11 at e
  refine bX10_doesLater_11 r0 r1 x2 x3 x4 (by omega) ?_
  refine ⟨fun c1 => ?_, fun c1 => ?_⟩
  · have e := if_t e c1
    exact hrec _ _ _ _ _ _ e
  · have e := if_f e c1
    obtain ⟨q2, e⟩ := ob_e e
    refine ⟨q2, ?_⟩
    obtain ⟨q3, e⟩ := ob_in e
    refine ⟨q3, ?_⟩
    obtain ⟨q4, e⟩ := ob_e e
    refine ⟨q4, ?_⟩
    obtain ⟨z5, h4, e5, e⟩ := bI_e e
    refine ⟨z5, h4, (tX10_isGone e5 (by omega)), ?_⟩
    refine ⟨fun c6 => ?_, fun c6 => ?_⟩
    · have e := if_t e c6
      obtain ⟨q7, e⟩ := ob_e e
      refine ⟨q7, ?_⟩
      obtain ⟨q8, e⟩ := ob_in e
      refine ⟨q8, ?_⟩
      refine ⟨fun c9 => ?_, fun c9 => ?_⟩
      · have e := if_t e c9
        obtain ⟨q10, e⟩ := ob_in e
        refine ⟨q10, ?_⟩
        obtain ⟨h13, e11, e⟩ := bV_e e
        refine ⟨h13, (tX10_lessens e11 (by omega)), ?_⟩
        obtain ⟨q12, e⟩ := ob_e e
        refine ⟨q12, ?_⟩
        obtain ⟨q13, e⟩ := ob_in e
        refine ⟨q13, ?_⟩
        exact hrec _ _ _ _ _ _ e
      · have e := if_n e c9
        obtain ⟨q14, e⟩ := ob_in e
        refine ⟨q14, ?_⟩
        obtain ⟨z19, h18, e15, e⟩ := bI_e e
        refine ⟨z19, h18, (tX10_bare e15 (by omega)), ?_⟩
        obtain ⟨q16, e⟩ := ob_e e
        refine ⟨q16, ?_⟩
        obtain ⟨q17, e⟩ := ob_in e
        refine ⟨q17, ?_⟩
        exact hrec _ _ _ _ _ _ e
    · have e := if_n e c6
      exact hrec _ _ _ _ _ _ e
def kX10_doesLater_92 (rec : Nat → List Value → List Value → Hp → RS)  (r1 : Nat) (x3 : Int32) (x4 : Int32) (h : Hp) : RS := (if kH h r1 = 1 then (if inB 3393 (lH h r1) = true then (if (h.2 r1 3393) ≤ x4 then (some (.inl none, (h.1, (upI h.2 r1 3393 x3)))) else (if inB ((2912 + (3 * x4)) + 2) (lH h r1) = true then (if ¬ (h.2 r1 ((2912 + (3 * x4)) + 2).toNatClampNeg) = (-1) then (rec 128 [uV, .ref r1, uV, .int x3, .int x4, .int (2912 + (3 * x4)), .int 0] [] h) else (rec 92 [uV, .ref r1, uV, .int x3, .int (x4 + 1), uV, uV] [] h)) else none)) else none) else none)
theorem uX10_doesLater_92 {G : GG} {d : Nat} (hd : 6 ≤ d) (rec : Nat → List Value → List Value → Hp → RS) (hrec : ∀ pc loc st h o h', rec pc loc st h = some (o, h') → V G mX10_doesLater d pc loc st h o h')   {r1  x3  x4 } {h : Hp} {o : OU} {h' : Hp} (e : kX10_doesLater_92 rec  r1 x3 x4 h = some (o, h')) : V G mX10_doesLater d 92 [uV, .ref r1, uV, .int x3, .int x4, uV, uV] [] h o h' := by
  unfold kX10_doesLater_92 at e
  refine bX10_doesLater_92 r1 x3 x4 ?_
  obtain ⟨q1, e⟩ := ob_e e
  refine ⟨q1, ?_⟩
  obtain ⟨q2, e⟩ := ob_in e
  refine ⟨q2, ?_⟩
  refine ⟨fun c3 => ?_, fun c3 => ?_⟩
  · have e := if_t e c3
    cases e
    exact ⟨rfl, rfl⟩
  · have e := if_f e c3
    obtain ⟨q4, e⟩ := ob_in e
    refine ⟨q4, ?_⟩
    refine ⟨fun c5 => ?_, fun c5 => ?_⟩
    · have e := if_t e c5
      exact hrec _ _ _ _ _ _ e
    · have e := if_n e c5
      exact hrec _ _ _ _ _ _ e
def kX10_doesLater_128 (rec : Nat → List Value → List Value → Hp → RS)  (r1 : Nat) (x3 : Int32) (x4 : Int32) (x5 : Int32) (x6 : Int32) (h : Hp) : RS := (if 3 ≤ x6 then (rec 92 [uV, .ref r1, uV, .int (x3 + 1), .int (x4 + 1), uV, uV] [] h) else (if kH h r1 = 1 then (if inB (x5 + x6) (lH h r1) = true then (if inB ((2912 + (3 * x3)) + x6) (lH h r1) = true then (rec 128 [uV, .ref r1, uV, .int x3, .int x4, .int x5, .int (x6 + 1)] [] (h.1, (upI h.2 r1 ((2912 + (3 * x3)) + x6).toNatClampNeg (h.2 r1 (x5 + x6).toNatClampNeg)))) else none) else none) else none))
theorem uX10_doesLater_128 {G : GG} {d : Nat} (hd : 6 ≤ d) (rec : Nat → List Value → List Value → Hp → RS) (hrec : ∀ pc loc st h o h', rec pc loc st h = some (o, h') → V G mX10_doesLater d pc loc st h o h')   {r1  x3  x4  x5  x6 } {h : Hp} {o : OU} {h' : Hp} (e : kX10_doesLater_128 rec  r1 x3 x4 x5 x6 h = some (o, h')) : V G mX10_doesLater d 128 [uV, .ref r1, uV, .int x3, .int x4, .int x5, .int x6] [] h o h' := by
  unfold kX10_doesLater_128 at e
  refine bX10_doesLater_128 r1 x3 x4 x5 x6 ?_
  refine ⟨fun c1 => ?_, fun c1 => ?_⟩
  · have e := if_t e c1
    exact hrec _ _ _ _ _ _ e
  · have e := if_f e c1
    obtain ⟨q2, e⟩ := ob_e e
    refine ⟨q2, ?_⟩
    obtain ⟨q3, e⟩ := ob_in e
    refine ⟨q3, ?_⟩
    obtain ⟨q4, e⟩ := ob_in e
    refine ⟨q4, ?_⟩
    exact hrec _ _ _ _ _ _ e
def sX10_doesLater  (rec : Nat → List Value → List Value → Hp → RS) (pc : Nat) (loc st : List Value) (h : Hp) : RS := match pc, loc, st with
  | 11, [.ref r0, .ref r1, .int x2, .int x3, .int x4, _, _], [] => kX10_doesLater_11 rec  r0 r1 x2 x3 x4 h
  | 92, [_, .ref r1, _, .int x3, .int x4, _, _], [] => kX10_doesLater_92 rec  r1 x3 x4 h
  | 128, [_, .ref r1, _, .int x3, .int x4, .int x5, .int x6], [] => kX10_doesLater_128 rec  r1 x3 x4 x5 x6 h
  | _, _, _ => none
def gX10_doesLater  : Nat → Nat → List Value → List Value → Hp → RS
  | 0 => fun _ _ _ _ => none
  | n + 1 => sX10_doesLater  (gX10_doesLater  n)
theorem wX10_doesLater {G : GG} {d : Nat} (hd : 6 ≤ d)   : ∀ (n pc : Nat) (loc st : List Value) (h : Hp) (o : OU) (h' : Hp), gX10_doesLater  n pc loc st h = some (o, h') → V G mX10_doesLater d pc loc st h o h' := by
  intro n
  induction n with
  | zero => intro pc loc st h o h' e; cases e
  | succ n ih =>
    intro pc loc st h o h' e
    unfold gX10_doesLater sX10_doesLater at e
    split at e
    · exact V.drop (llp_r (llp_r (llp_r (llp_r (llp_r (llp_u (llp_u llp_nil))))))) (uX10_doesLater_11 hd _ ih   e)
    · exact V.drop (llp_u (llp_r (llp_u (llp_r (llp_r (llp_u (llp_u llp_nil))))))) (uX10_doesLater_92 hd _ ih   e)
    · exact V.drop (llp_u (llp_r (llp_u (llp_r (llp_r (llp_r (llp_r llp_nil))))))) (uX10_doesLater_128 hd _ ih   e)
    · cases e
theorem zX10_doesLater_11  (n : Nat) (r0 : Nat) (r1 : Nat) (x2 : Int32) (x3 : Int32) (x4 : Int32) (y5 : Value) (y6 : Value) (h : Hp) : gX10_doesLater  (n + 1) 11 [.ref r0, .ref r1, .int x2, .int x3, .int x4, y5, y6] [] h = kX10_doesLater_11 (gX10_doesLater  n)  r0 r1 x2 x3 x4 h := rfl
theorem zX10_doesLater_92  (n : Nat) (r1 : Nat) (x3 : Int32) (x4 : Int32) (y0 : Value) (y2 : Value) (y5 : Value) (y6 : Value) (h : Hp) : gX10_doesLater  (n + 1) 92 [y0, .ref r1, y2, .int x3, .int x4, y5, y6] [] h = kX10_doesLater_92 (gX10_doesLater  n)  r1 x3 x4 h := rfl
theorem zX10_doesLater_128  (n : Nat) (r1 : Nat) (x3 : Int32) (x4 : Int32) (x5 : Int32) (x6 : Int32) (y0 : Value) (y2 : Value) (h : Hp) : gX10_doesLater  (n + 1) 128 [y0, .ref r1, y2, .int x3, .int x4, .int x5, .int x6] [] h = kX10_doesLater_128 (gX10_doesLater  n)  r1 x3 x4 x5 x6 h := rfl
def fX10_doesLater (r0 : Nat) (r1 : Nat) (h : Hp) : RS := kX10_doesLater_0 (gX10_doesLater FF) r0 r1 h
theorem tX10_doesLater {G : GG} {d : Nat} {r0 r1} {h : Hp} {o : OU} {h' : Hp} (e : fX10_doesLater r0 r1 h = some (o, h')) (hd : 6 ≤ d) : VM G mX10_doesLater d [.ref r0, .ref r1] h o h' := uX10_doesLater_0 hd _ (wX10_doesLater hd FF) e
def kX10_writes_0 (rec : Nat → List Value → List Value → Hp → RS)  (r0 : Nat) (r1 : Nat) (x2 : Int32) (h : Hp) : RS := (bI (fX10_isDirty r1 x2 h) fun z2 h1 => (if ¬ z2 = 0 then (if kH h1 r1 = 1 then (if inB 3396 (lH h1 r1) = true then (if kH h1 r0 = 18 then (bI (fX10_copiesBlock r0 r1 x2 h1) fun z8 h7 => (if kH h7 r1 = 1 then (if inB 3396 (lH h7 r1) = true then (if inB 3395 (lH h7 r1) = true then (rec 35 [.ref r0, .ref r1, .int x2, .int 0] [] (h7.1, (upI (upI h7.2 r1 3396 ((h1.2 r1 3396) + z8)) r1 3395 (((upI h7.2 r1 3396 ((h1.2 r1 3396) + z8)) r1 3395) + 1)))) else none) else none) else none)) else none) else none) else none) else (some (.inl (some (.int 0)), h1))))
theorem uX10_writes_0 {G : GG} {d : Nat} (hd : 7 ≤ d) (rec : Nat → List Value → List Value → Hp → RS) (hrec : ∀ pc loc st h o h', rec pc loc st h = some (o, h') → V G mX10_writes d pc loc st h o h')   {r0  r1  x2 } {h : Hp} {o : OU} {h' : Hp} (e : kX10_writes_0 rec  r0 r1 x2 h = some (o, h')) : VM G mX10_writes d [.ref r0, .ref r1, .int x2] h o h' := by
  unfold kX10_writes_0 at e
  refine eX10_writes r0 r1 x2 (by omega) ?_
  obtain ⟨z2, h1, e1, e⟩ := bI_e e
  refine ⟨z2, h1, (tX10_isDirty e1 (by omega)), ?_⟩
  refine ⟨fun c2 => ?_, fun c2 => ?_⟩
  · have e := if_t e c2
    obtain ⟨q3, e⟩ := ob_e e
    refine ⟨q3, ?_⟩
    obtain ⟨q4, e⟩ := ob_in e
    refine ⟨q4, ?_⟩
    obtain ⟨q5, e⟩ := ob_e e
    refine ⟨q5, ?_⟩
    obtain ⟨z8, h7, e6, e⟩ := bI_e e
    refine ⟨z8, h7, (tX10_copiesBlock e6 (by omega)), ?_⟩
    obtain ⟨q7, e⟩ := ob_e e
    refine ⟨q7, ?_⟩
    obtain ⟨q8, e⟩ := ob_in e
    refine ⟨q8, ?_⟩
    obtain ⟨q9, e⟩ := ob_in e
    refine ⟨q9, ?_⟩
    exact hrec _ _ _ _ _ _ e
  · have e := if_n e c2
    cases e
    exact ⟨rfl, rfl⟩
def kX10_writes_35 (rec : Nat → List Value → List Value → Hp → RS)  (r0 : Nat) (r1 : Nat) (x2 : Int32) (x3 : Int32) (h : Hp) : RS := (if 16 ≤ x3 then (if kH h r0 = 18 then (bV (fX10_leavesOut r0 r1 h) fun h2 => (if kH h2 r0 = 18 then (bV (fX10_doesLater r0 r1 h2) fun h5 => (some (.inl (some (.int 1)), h5))) else none)) else none) else (if kH h r0 = 18 then (if kH h (rH h r0 28) = 1 then (if inB x3 (lH h (rH h r0 28)) = true then (if kH h r1 = 1 then (if inB ((256 + (16 * x2)) + x3) (lH h r1) = true then (rec 35 [.ref r0, .ref r1, .int x2, .int (x3 + 1)] [] (h.1, (upI h.2 r1 ((256 + (16 * x2)) + x3).toNatClampNeg (h.2 (rH h r0 28) x3.toNatClampNeg)))) else none) else none) else none) else none) else none))
theorem uX10_writes_35 {G : GG} {d : Nat} (hd : 7 ≤ d) (rec : Nat → List Value → List Value → Hp → RS) (hrec : ∀ pc loc st h o h', rec pc loc st h = some (o, h') → V G mX10_writes d pc loc st h o h')   {r0  r1  x2  x3 } {h : Hp} {o : OU} {h' : Hp} (e : kX10_writes_35 rec  r0 r1 x2 x3 h = some (o, h')) : V G mX10_writes d 35 [.ref r0, .ref r1, .int x2, .int x3] [] h o h' := by
  unfold kX10_writes_35 at e
  refine bX10_writes_35 r0 r1 x2 x3 (by omega) ?_
  refine ⟨fun c1 => ?_, fun c1 => ?_⟩
  · have e := if_t e c1
    obtain ⟨q2, e⟩ := ob_e e
    refine ⟨q2, ?_⟩
    obtain ⟨h2, e3, e⟩ := bV_e e
    refine ⟨h2, (tX10_leavesOut e3 (by omega)), ?_⟩
    obtain ⟨q4, e⟩ := ob_e e
    refine ⟨q4, ?_⟩
    obtain ⟨h5, e5, e⟩ := bV_e e
    refine ⟨h5, (tX10_doesLater e5 (by omega)), ?_⟩
    cases e
    exact ⟨rfl, rfl⟩
  · have e := if_f e c1
    obtain ⟨q6, e⟩ := ob_e e
    refine ⟨q6, ?_⟩
    obtain ⟨q7, e⟩ := ob_e e
    refine ⟨q7, ?_⟩
    obtain ⟨q8, e⟩ := ob_in e
    refine ⟨q8, ?_⟩
    obtain ⟨q9, e⟩ := ob_e e
    refine ⟨q9, ?_⟩
    obtain ⟨q10, e⟩ := ob_in e
    refine ⟨q10, ?_⟩
    exact hrec _ _ _ _ _ _ e
def sX10_writes  (rec : Nat → List Value → List Value → Hp → RS) (pc : Nat) (loc st : List Value) (h : Hp) : RS := match pc, loc, st with
  | 35, [.ref r0, .ref r1, .int x2, .int x3], [] => kX10_writes_35 rec  r0 r1 x2 x3 h
  | _, _, _ => none
def gX10_writes  : Nat → Nat → List Value → List Value → Hp → RS
  | 0 => fun _ _ _ _ => none
  | n + 1 => sX10_writes  (gX10_writes  n)
theorem wX10_writes {G : GG} {d : Nat} (hd : 7 ≤ d)   : ∀ (n pc : Nat) (loc st : List Value) (h : Hp) (o : OU) (h' : Hp), gX10_writes  n pc loc st h = some (o, h') → V G mX10_writes d pc loc st h o h' := by
  intro n
  induction n with
  | zero => intro pc loc st h o h' e; cases e
  | succ n ih =>
    intro pc loc st h o h' e
    unfold gX10_writes sX10_writes at e
    split at e
    · exact uX10_writes_35 hd _ ih   e
    · cases e
theorem zX10_writes_35  (n : Nat) (r0 : Nat) (r1 : Nat) (x2 : Int32) (x3 : Int32)  (h : Hp) : gX10_writes  (n + 1) 35 [.ref r0, .ref r1, .int x2, .int x3] [] h = kX10_writes_35 (gX10_writes  n)  r0 r1 x2 x3 h := rfl
def fX10_writes (r0 : Nat) (r1 : Nat) (x2 : Int32) (h : Hp) : RS := kX10_writes_0 (gX10_writes FF) r0 r1 x2 h
theorem tX10_writes {G : GG} {d : Nat} {r0 r1 x2} {h : Hp} {o : OU} {h' : Hp} (e : fX10_writes r0 r1 x2 h = some (o, h')) (hd : 7 ≤ d) : VM G mX10_writes d [.ref r0, .ref r1, .int x2] h o h' := uX10_writes_0 hd _ (wX10_writes hd FF) e
def kX10_syncs_0 (rec : Nat → List Value → List Value → Hp → RS)  (r0 : Nat) (r1 : Nat) (h : Hp) : RS := (rec 4 [.ref r0, .ref r1, .int 0, .int 0] [] h)
theorem uX10_syncs_0 {G : GG} {d : Nat} (hd : 8 ≤ d) (rec : Nat → List Value → List Value → Hp → RS) (hrec : ∀ pc loc st h o h', rec pc loc st h = some (o, h') → V G mX10_syncs d pc loc st h o h')   {r0  r1 } {h : Hp} {o : OU} {h' : Hp} (e : kX10_syncs_0 rec  r0 r1 h = some (o, h')) : VM G mX10_syncs d [.ref r0, .ref r1] h o h' := by
  unfold kX10_syncs_0 at e
  refine eX10_syncs r0 r1 ?_
  exact hrec _ _ _ _ _ _ e
def kX10_syncs_4 (rec : Nat → List Value → List Value → Hp → RS)  (r0 : Nat) (r1 : Nat) (x2 : Int32) (x3 : Int32) (h : Hp) : RS := (if kH h r0 = 18 then (if (h.2 r0 11) ≤ x3 then (if (x2 = 0 ∨ x2 = 1) then (some (.inl (some (.int x2)), h)) else none) else (bI (fX10_writes r0 r1 x3 h) fun z5 h4 => (rec 4 [.ref r0, .ref r1, .int (x2 ||| z5), .int (x3 + 1)] [] h4))) else none)
theorem uX10_syncs_4 {G : GG} {d : Nat} (hd : 8 ≤ d) (rec : Nat → List Value → List Value → Hp → RS) (hrec : ∀ pc loc st h o h', rec pc loc st h = some (o, h') → V G mX10_syncs d pc loc st h o h')   {r0  r1  x2  x3 } {h : Hp} {o : OU} {h' : Hp} (e : kX10_syncs_4 rec  r0 r1 x2 x3 h = some (o, h')) : V G mX10_syncs d 4 [.ref r0, .ref r1, .int x2, .int x3] [] h o h' := by
  unfold kX10_syncs_4 at e
  refine bX10_syncs_4 r0 r1 x2 x3 (by omega) ?_
  obtain ⟨q1, e⟩ := ob_e e
  refine ⟨q1, ?_⟩
  refine ⟨fun c2 => ?_, fun c2 => ?_⟩
  · have e := if_t e c2
    obtain ⟨q3, e⟩ := ob_e e
    refine ⟨q3, ?_⟩
    cases e
    exact ⟨rfl, rfl⟩
  · have e := if_f e c2
    obtain ⟨z5, h4, e4, e⟩ := bI_e e
    refine ⟨z5, h4, (tX10_writes e4 (by omega)), ?_⟩
    exact hrec _ _ _ _ _ _ e
def sX10_syncs  (rec : Nat → List Value → List Value → Hp → RS) (pc : Nat) (loc st : List Value) (h : Hp) : RS := match pc, loc, st with
  | 4, [.ref r0, .ref r1, .int x2, .int x3], [] => kX10_syncs_4 rec  r0 r1 x2 x3 h
  | _, _, _ => none
def gX10_syncs  : Nat → Nat → List Value → List Value → Hp → RS
  | 0 => fun _ _ _ _ => none
  | n + 1 => sX10_syncs  (gX10_syncs  n)
theorem wX10_syncs {G : GG} {d : Nat} (hd : 8 ≤ d)   : ∀ (n pc : Nat) (loc st : List Value) (h : Hp) (o : OU) (h' : Hp), gX10_syncs  n pc loc st h = some (o, h') → V G mX10_syncs d pc loc st h o h' := by
  intro n
  induction n with
  | zero => intro pc loc st h o h' e; cases e
  | succ n ih =>
    intro pc loc st h o h' e
    unfold gX10_syncs sX10_syncs at e
    split at e
    · exact uX10_syncs_4 hd _ ih   e
    · cases e
theorem zX10_syncs_4  (n : Nat) (r0 : Nat) (r1 : Nat) (x2 : Int32) (x3 : Int32)  (h : Hp) : gX10_syncs  (n + 1) 4 [.ref r0, .ref r1, .int x2, .int x3] [] h = kX10_syncs_4 (gX10_syncs  n)  r0 r1 x2 x3 h := rfl
def fX10_syncs (r0 : Nat) (r1 : Nat) (h : Hp) : RS := kX10_syncs_0 (gX10_syncs FF) r0 r1 h
theorem tX10_syncs {G : GG} {d : Nat} {r0 r1} {h : Hp} {o : OU} {h' : Hp} (e : fX10_syncs r0 r1 h = some (o, h')) (hd : 8 ≤ d) : VM G mX10_syncs d [.ref r0, .ref r1] h o h' := uX10_syncs_0 hd _ (wX10_syncs hd FF) e
def kX10_crashes_0 (rec : Nat → List Value → List Value → Hp → RS)  (r0 : Nat) (h : Hp) : RS := (rec 2 [.ref r0, .int 0] [] h)
theorem uX10_crashes_0 {G : GG} {d : Nat} (hd : 1 ≤ d) (rec : Nat → List Value → List Value → Hp → RS) (hrec : ∀ pc loc st h o h', rec pc loc st h = some (o, h') → V G mX10_crashes d pc loc st h o h')   {r0 } {h : Hp} {o : OU} {h' : Hp} (e : kX10_crashes_0 rec  r0 h = some (o, h')) : VM G mX10_crashes d [.ref r0] h o h' := by
  unfold kX10_crashes_0 at e
  refine eX10_crashes r0 ?_
  exact hrec _ _ _ _ _ _ e
def kX10_crashes_2 (rec : Nat → List Value → List Value → Hp → RS)  (r0 : Nat) (x1 : Int32) (h : Hp) : RS := (if 256 ≤ x1 then (if kH h r0 = 1 then (if inB 3392 (lH h r0) = true then (if inB 3393 (lH h r0) = true then (if inB 3397 (lH h r0) = true then (some (.inl (some (.int 1)), (h.1, (upI (upI (upI h.2 r0 3392 0) r0 3393 0) r0 3397 (((upI (upI h.2 r0 3392 0) r0 3393 0) r0 3397) + 1))))) else none) else none) else none) else none) else (if kH h r0 = 1 then (if inB (256 + x1) (lH h r0) = true then (if inB (0 + x1) (lH h r0) = true then (rec 2 [.ref r0, .int (x1 + 1)] [] (h.1, (upI h.2 r0 (0 + x1).toNatClampNeg (h.2 r0 (256 + x1).toNatClampNeg)))) else none) else none) else none))
theorem uX10_crashes_2 {G : GG} {d : Nat} (hd : 1 ≤ d) (rec : Nat → List Value → List Value → Hp → RS) (hrec : ∀ pc loc st h o h', rec pc loc st h = some (o, h') → V G mX10_crashes d pc loc st h o h')   {r0  x1 } {h : Hp} {o : OU} {h' : Hp} (e : kX10_crashes_2 rec  r0 x1 h = some (o, h')) : V G mX10_crashes d 2 [.ref r0, .int x1] [] h o h' := by
  unfold kX10_crashes_2 at e
  refine bX10_crashes_2 r0 x1 ?_
  refine ⟨fun c1 => ?_, fun c1 => ?_⟩
  · have e := if_t e c1
    obtain ⟨q2, e⟩ := ob_e e
    refine ⟨q2, ?_⟩
    obtain ⟨q3, e⟩ := ob_in e
    refine ⟨q3, ?_⟩
    obtain ⟨q4, e⟩ := ob_in e
    refine ⟨q4, ?_⟩
    obtain ⟨q5, e⟩ := ob_in e
    refine ⟨q5, ?_⟩
    cases e
    exact ⟨rfl, rfl⟩
  · have e := if_f e c1
    obtain ⟨q6, e⟩ := ob_e e
    refine ⟨q6, ?_⟩
    obtain ⟨q7, e⟩ := ob_in e
    refine ⟨q7, ?_⟩
    obtain ⟨q8, e⟩ := ob_in e
    refine ⟨q8, ?_⟩
    exact hrec _ _ _ _ _ _ e
def sX10_crashes  (rec : Nat → List Value → List Value → Hp → RS) (pc : Nat) (loc st : List Value) (h : Hp) : RS := match pc, loc, st with
  | 2, [.ref r0, .int x1], [] => kX10_crashes_2 rec  r0 x1 h
  | _, _, _ => none
def gX10_crashes  : Nat → Nat → List Value → List Value → Hp → RS
  | 0 => fun _ _ _ _ => none
  | n + 1 => sX10_crashes  (gX10_crashes  n)
theorem wX10_crashes {G : GG} {d : Nat} (hd : 1 ≤ d)   : ∀ (n pc : Nat) (loc st : List Value) (h : Hp) (o : OU) (h' : Hp), gX10_crashes  n pc loc st h = some (o, h') → V G mX10_crashes d pc loc st h o h' := by
  intro n
  induction n with
  | zero => intro pc loc st h o h' e; cases e
  | succ n ih =>
    intro pc loc st h o h' e
    unfold gX10_crashes sX10_crashes at e
    split at e
    · exact uX10_crashes_2 hd _ ih   e
    · cases e
theorem zX10_crashes_2  (n : Nat) (r0 : Nat) (x1 : Int32)  (h : Hp) : gX10_crashes  (n + 1) 2 [.ref r0, .int x1] [] h = kX10_crashes_2 (gX10_crashes  n)  r0 x1 h := rfl
def fX10_crashes (r0 : Nat) (h : Hp) : RS := kX10_crashes_0 (gX10_crashes FF) r0 h
theorem tX10_crashes {G : GG} {d : Nat} {r0} {h : Hp} {o : OU} {h' : Hp} (e : fX10_crashes r0 h = some (o, h')) (hd : 1 ≤ d) : VM G mX10_crashes d [.ref r0] h o h' := uX10_crashes_0 hd _ (wX10_crashes hd FF) e
def kX10_named_0 (rec : Nat → List Value → List Value → Hp → RS)  (r0 : Nat) (x1 : Int32) (x2 : Int32) (h : Hp) : RS := (bI (fX10_reached r0 x1 h) fun z2 h1 => (rec 12 [.ref r0, .int x1, .int x2, .int 0, .int z2, .int 0, uV, uV] [] h1))
theorem uX10_named_0 {G : GG} {d : Nat} (hd : 5 ≤ d) (rec : Nat → List Value → List Value → Hp → RS) (hrec : ∀ pc loc st h o h', rec pc loc st h = some (o, h') → V G mX10_named d pc loc st h o h')   {r0  x1  x2 } {h : Hp} {o : OU} {h' : Hp} (e : kX10_named_0 rec  r0 x1 x2 h = some (o, h')) : VM G mX10_named d [.ref r0, .int x1, .int x2] h o h' := by
  unfold kX10_named_0 at e
  refine eX10_named r0 x1 x2 (by omega) ?_
  obtain ⟨z2, h1, e1, e⟩ := bI_e e
  refine ⟨z2, h1, (tX10_reached e1 (by omega)), ?_⟩
  exact hrec _ _ _ _ _ _ e
def kX10_named_12 (rec : Nat → List Value → List Value → Hp → RS)  (r0 : Nat) (x1 : Int32) (x2 : Int32) (x3 : Int32) (x4 : Int32) (x5 : Int32) (h : Hp) : RS := (if 12 ≤ x5 then (some (.inl (some (.int x3)), h)) else (bI (fX10_has x4 x5 h) fun z3 h2 => (if z3 = 0 then (rec 12 [.ref r0, .int x1, .int x2, .int x3, .int x4, .int (x5 + 1), uV, uV] [] h2) else (bI (fX10_fieldOf r0 x1 x5 1 h2) fun z7 h6 => (if z7 = 2 then (rec 47 [.ref r0, .int x1, .int x2, .int x3, .int x4, .int x5, .int 0, uV] [] h6) else (rec 12 [.ref r0, .int x1, .int x2, .int x3, .int x4, .int (x5 + 1), uV, uV] [] h6))))))
theorem uX10_named_12 {G : GG} {d : Nat} (hd : 5 ≤ d) (rec : Nat → List Value → List Value → Hp → RS) (hrec : ∀ pc loc st h o h', rec pc loc st h = some (o, h') → V G mX10_named d pc loc st h o h')   {r0  x1  x2  x3  x4  x5 } {h : Hp} {o : OU} {h' : Hp} (e : kX10_named_12 rec  r0 x1 x2 x3 x4 x5 h = some (o, h')) : V G mX10_named d 12 [.ref r0, .int x1, .int x2, .int x3, .int x4, .int x5, uV, uV] [] h o h' := by
  unfold kX10_named_12 at e
  refine bX10_named_12 r0 x1 x2 x3 x4 x5 (by omega) ?_
  refine ⟨fun c1 => ?_, fun c1 => ?_⟩
  · have e := if_t e c1
    cases e
    exact ⟨rfl, rfl⟩
  · have e := if_f e c1
    obtain ⟨z3, h2, e2, e⟩ := bI_e e
    refine ⟨z3, h2, (tX10_has e2 (by omega)), ?_⟩
    refine ⟨fun c3 => ?_, fun c3 => ?_⟩
    · have e := if_t e c3
      exact hrec _ _ _ _ _ _ e
    · have e := if_f e c3
      obtain ⟨z7, h6, e4, e⟩ := bI_e e
      refine ⟨z7, h6, (tX10_fieldOf e4 (by omega)), ?_⟩
      refine ⟨fun c5 => ?_, fun c5 => ?_⟩
      · have e := if_t e c5
        exact hrec _ _ _ _ _ _ e
      · have e := if_f e c5
        exact hrec _ _ _ _ _ _ e
def kX10_named_47 (rec : Nat → List Value → List Value → Hp → RS)  (r0 : Nat) (x1 : Int32) (x2 : Int32) (x3 : Int32) (x4 : Int32) (x5 : Int32) (x6 : Int32) (h : Hp) : RS := (bI (fX10_entryOf r0 x1 x5 x6 h) fun z2 h1 => (if z2 = (-1) then (rec 12 [.ref r0, .int x1, .int x2, .int x3, .int x4, .int (x5 + 1), uV, uV] [] h1) else (bI (fX10_entryOf r0 x1 x5 x6 h1) fun z6 h5 => (if kH h5 r0 = 1 then (if inB (x1 + z6) (lH h5 r0) = true then (if (h5.2 r0 (x1 + z6).toNatClampNeg) = 0 then (rec 47 [.ref r0, .int x1, .int x2, .int (x3 + 0), .int x4, .int x5, .int (x6 + 1), uV] [] h5) else (if inB ((x1 + z6) + 1) (lH h5 r0) = true then (if ¬ (h5.2 r0 ((x1 + z6) + 1).toNatClampNeg) = x2 then (rec 47 [.ref r0, .int x1, .int x2, .int (x3 + 0), .int x4, .int x5, .int (x6 + 1), uV] [] h5) else (rec 47 [.ref r0, .int x1, .int x2, .int (x3 + 1), .int x4, .int x5, .int (x6 + 1), uV] [] h5)) else none)) else none) else none))))
theorem uX10_named_47 {G : GG} {d : Nat} (hd : 5 ≤ d) (rec : Nat → List Value → List Value → Hp → RS) (hrec : ∀ pc loc st h o h', rec pc loc st h = some (o, h') → V G mX10_named d pc loc st h o h')   {r0  x1  x2  x3  x4  x5  x6 } {h : Hp} {o : OU} {h' : Hp} (e : kX10_named_47 rec  r0 x1 x2 x3 x4 x5 x6 h = some (o, h')) : V G mX10_named d 47 [.ref r0, .int x1, .int x2, .int x3, .int x4, .int x5, .int x6, uV] [] h o h' := by
  unfold kX10_named_47 at e
  refine bX10_named_47 r0 x1 x2 x3 x4 x5 x6 (by omega) ?_
  obtain ⟨z2, h1, e1, e⟩ := bI_e e
  refine ⟨z2, h1, (tX10_entryOf e1 (by omega)), ?_⟩
  refine ⟨fun c2 => ?_, fun c2 => ?_⟩
  · have e := if_t e c2
    exact hrec _ _ _ _ _ _ e
  · have e := if_f e c2
    obtain ⟨z6, h5, e3, e⟩ := bI_e e
    refine ⟨z6, h5, (tX10_entryOf e3 (by omega)), ?_⟩
    obtain ⟨q4, e⟩ := ob_e e
    refine ⟨q4, ?_⟩
    obtain ⟨q5, e⟩ := ob_in e
    refine ⟨q5, ?_⟩
    refine ⟨fun c6 => ?_, fun c6 => ?_⟩
    · have e := if_t e c6
      exact hrec _ _ _ _ _ _ e
    · have e := if_f e c6
      obtain ⟨q7, e⟩ := ob_in e
      refine ⟨q7, ?_⟩
      refine ⟨fun c8 => ?_, fun c8 => ?_⟩
      · have e := if_t e c8
        exact hrec _ _ _ _ _ _ e
      · have e := if_n e c8
        exact hrec _ _ _ _ _ _ e
def sX10_named  (rec : Nat → List Value → List Value → Hp → RS) (pc : Nat) (loc st : List Value) (h : Hp) : RS := match pc, loc, st with
  | 12, [.ref r0, .int x1, .int x2, .int x3, .int x4, .int x5, _, _], [] => kX10_named_12 rec  r0 x1 x2 x3 x4 x5 h
  | 47, [.ref r0, .int x1, .int x2, .int x3, .int x4, .int x5, .int x6, _], [] => kX10_named_47 rec  r0 x1 x2 x3 x4 x5 x6 h
  | _, _, _ => none
def gX10_named  : Nat → Nat → List Value → List Value → Hp → RS
  | 0 => fun _ _ _ _ => none
  | n + 1 => sX10_named  (gX10_named  n)
theorem wX10_named {G : GG} {d : Nat} (hd : 5 ≤ d)   : ∀ (n pc : Nat) (loc st : List Value) (h : Hp) (o : OU) (h' : Hp), gX10_named  n pc loc st h = some (o, h') → V G mX10_named d pc loc st h o h' := by
  intro n
  induction n with
  | zero => intro pc loc st h o h' e; cases e
  | succ n ih =>
    intro pc loc st h o h' e
    unfold gX10_named sX10_named at e
    split at e
    · exact V.drop (llp_r (llp_r (llp_r (llp_r (llp_r (llp_r (llp_u (llp_u llp_nil)))))))) (uX10_named_12 hd _ ih   e)
    · exact V.drop (llp_r (llp_r (llp_r (llp_r (llp_r (llp_r (llp_r (llp_u llp_nil)))))))) (uX10_named_47 hd _ ih   e)
    · cases e
theorem zX10_named_12  (n : Nat) (r0 : Nat) (x1 : Int32) (x2 : Int32) (x3 : Int32) (x4 : Int32) (x5 : Int32) (y6 : Value) (y7 : Value) (h : Hp) : gX10_named  (n + 1) 12 [.ref r0, .int x1, .int x2, .int x3, .int x4, .int x5, y6, y7] [] h = kX10_named_12 (gX10_named  n)  r0 x1 x2 x3 x4 x5 h := rfl
theorem zX10_named_47  (n : Nat) (r0 : Nat) (x1 : Int32) (x2 : Int32) (x3 : Int32) (x4 : Int32) (x5 : Int32) (x6 : Int32) (y7 : Value) (h : Hp) : gX10_named  (n + 1) 47 [.ref r0, .int x1, .int x2, .int x3, .int x4, .int x5, .int x6, y7] [] h = kX10_named_47 (gX10_named  n)  r0 x1 x2 x3 x4 x5 x6 h := rfl
def fX10_named (r0 : Nat) (x1 : Int32) (x2 : Int32) (h : Hp) : RS := kX10_named_0 (gX10_named FF) r0 x1 x2 h
theorem tX10_named {G : GG} {d : Nat} {r0 x1 x2} {h : Hp} {o : OU} {h' : Hp} (e : fX10_named r0 x1 x2 h = some (o, h')) (hd : 5 ≤ d) : VM G mX10_named d [.ref r0, .int x1, .int x2] h o h' := uX10_named_0 hd _ (wX10_named hd FF) e
def kX10_later_0 (rec : Nat → List Value → List Value → Hp → RS)  (r0 : Nat) (x1 : Int32) (x2 : Int32) (h : Hp) : RS := (rec 5 [.ref r0, .int x1, .int x2, .int 0, .int 0] [] h)
theorem uX10_later_0 {G : GG} {d : Nat} (hd : 1 ≤ d) (rec : Nat → List Value → List Value → Hp → RS) (hrec : ∀ pc loc st h o h', rec pc loc st h = some (o, h') → V G mX10_later d pc loc st h o h')   {r0  x1  x2 } {h : Hp} {o : OU} {h' : Hp} (e : kX10_later_0 rec  r0 x1 x2 h = some (o, h')) : VM G mX10_later d [.ref r0, .int x1, .int x2] h o h' := by
  unfold kX10_later_0 at e
  refine eX10_later r0 x1 x2 ?_
  exact hrec _ _ _ _ _ _ e
def kX10_later_5 (rec : Nat → List Value → List Value → Hp → RS)  (r0 : Nat) (x1 : Int32) (x2 : Int32) (x3 : Int32) (x4 : Int32) (h : Hp) : RS := (if kH h r0 = 1 then (if inB 3393 (lH h r0) = true then (if (h.2 r0 3393) ≤ x4 then (some (.inl (some (.int x3)), h)) else (if inB (2912 + (3 * x4)) (lH h r0) = true then (if ¬ (h.2 r0 (2912 + (3 * x4)).toNatClampNeg) = x1 then (rec 5 [.ref r0, .int x1, .int x2, .int (x3 + 0), .int (x4 + 1)] [] h) else (if inB ((2912 + (3 * x4)) + 1) (lH h r0) = true then (if ¬ (h.2 r0 ((2912 + (3 * x4)) + 1).toNatClampNeg) = x2 then (rec 5 [.ref r0, .int x1, .int x2, .int (x3 + 0), .int (x4 + 1)] [] h) else (rec 5 [.ref r0, .int x1, .int x2, .int (x3 + 1), .int (x4 + 1)] [] h)) else none)) else none)) else none) else none)
theorem uX10_later_5 {G : GG} {d : Nat} (hd : 1 ≤ d) (rec : Nat → List Value → List Value → Hp → RS) (hrec : ∀ pc loc st h o h', rec pc loc st h = some (o, h') → V G mX10_later d pc loc st h o h')   {r0  x1  x2  x3  x4 } {h : Hp} {o : OU} {h' : Hp} (e : kX10_later_5 rec  r0 x1 x2 x3 x4 h = some (o, h')) : V G mX10_later d 5 [.ref r0, .int x1, .int x2, .int x3, .int x4] [] h o h' := by
  unfold kX10_later_5 at e
  refine bX10_later_5 r0 x1 x2 x3 x4 ?_
  obtain ⟨q1, e⟩ := ob_e e
  refine ⟨q1, ?_⟩
  obtain ⟨q2, e⟩ := ob_in e
  refine ⟨q2, ?_⟩
  refine ⟨fun c3 => ?_, fun c3 => ?_⟩
  · have e := if_t e c3
    cases e
    exact ⟨rfl, rfl⟩
  · have e := if_f e c3
    obtain ⟨q4, e⟩ := ob_in e
    refine ⟨q4, ?_⟩
    refine ⟨fun c5 => ?_, fun c5 => ?_⟩
    · have e := if_t e c5
      exact hrec _ _ _ _ _ _ e
    · have e := if_n e c5
      obtain ⟨q6, e⟩ := ob_in e
      refine ⟨q6, ?_⟩
      refine ⟨fun c7 => ?_, fun c7 => ?_⟩
      · have e := if_t e c7
        exact hrec _ _ _ _ _ _ e
      · have e := if_n e c7
        exact hrec _ _ _ _ _ _ e
def sX10_later  (rec : Nat → List Value → List Value → Hp → RS) (pc : Nat) (loc st : List Value) (h : Hp) : RS := match pc, loc, st with
  | 5, [.ref r0, .int x1, .int x2, .int x3, .int x4], [] => kX10_later_5 rec  r0 x1 x2 x3 x4 h
  | _, _, _ => none
def gX10_later  : Nat → Nat → List Value → List Value → Hp → RS
  | 0 => fun _ _ _ _ => none
  | n + 1 => sX10_later  (gX10_later  n)
theorem wX10_later {G : GG} {d : Nat} (hd : 1 ≤ d)   : ∀ (n pc : Nat) (loc st : List Value) (h : Hp) (o : OU) (h' : Hp), gX10_later  n pc loc st h = some (o, h') → V G mX10_later d pc loc st h o h' := by
  intro n
  induction n with
  | zero => intro pc loc st h o h' e; cases e
  | succ n ih =>
    intro pc loc st h o h' e
    unfold gX10_later sX10_later at e
    split at e
    · exact uX10_later_5 hd _ ih   e
    · cases e
theorem zX10_later_5  (n : Nat) (r0 : Nat) (x1 : Int32) (x2 : Int32) (x3 : Int32) (x4 : Int32)  (h : Hp) : gX10_later  (n + 1) 5 [.ref r0, .int x1, .int x2, .int x3, .int x4] [] h = kX10_later_5 (gX10_later  n)  r0 x1 x2 x3 x4 h := rfl
def fX10_later (r0 : Nat) (x1 : Int32) (x2 : Int32) (h : Hp) : RS := kX10_later_0 (gX10_later FF) r0 x1 x2 h
theorem tX10_later {G : GG} {d : Nat} {r0 x1 x2} {h : Hp} {o : OU} {h' : Hp} (e : fX10_later r0 x1 x2 h = some (o, h')) (hd : 1 ≤ d) : VM G mX10_later d [.ref r0, .int x1, .int x2] h o h' := uX10_later_0 hd _ (wX10_later hd FF) e
def kX10_linked_0 (rec : Nat → List Value → List Value → Hp → RS)  (r0 : Nat) (x1 : Int32) (h : Hp) : RS := (rec 4 [.ref r0, .int x1, .int 0, .int 0] [] h)
theorem uX10_linked_0 {G : GG} {d : Nat} (hd : 3 ≤ d) (rec : Nat → List Value → List Value → Hp → RS) (hrec : ∀ pc loc st h o h', rec pc loc st h = some (o, h') → V G mX10_linked d pc loc st h o h')   {r0  x1 } {h : Hp} {o : OU} {h' : Hp} (e : kX10_linked_0 rec  r0 x1 h = some (o, h')) : VM G mX10_linked d [.ref r0, .int x1] h o h' := by
  unfold kX10_linked_0 at e
  refine eX10_linked r0 x1 ?_
  exact hrec _ _ _ _ _ _ e
def kX10_linked_4 (rec : Nat → List Value → List Value → Hp → RS)  (r0 : Nat) (x1 : Int32) (x2 : Int32) (x3 : Int32) (h : Hp) : RS := (if 12 ≤ x3 then (some (.inl (some (.int x2)), h)) else (bI (fX10_fieldOf r0 x1 x3 0 h) fun z3 h2 => (if z3 ≤ 0 then (rec 4 [.ref r0, .int x1, .int (x2 ||| 0), .int (x3 + 1)] [] h2) else (rec 4 [.ref r0, .int x1, .int (x2 ||| (1 <<< (x3 &&& 31))), .int (x3 + 1)] [] h2))))
theorem uX10_linked_4 {G : GG} {d : Nat} (hd : 3 ≤ d) (rec : Nat → List Value → List Value → Hp → RS) (hrec : ∀ pc loc st h o h', rec pc loc st h = some (o, h') → V G mX10_linked d pc loc st h o h')   {r0  x1  x2  x3 } {h : Hp} {o : OU} {h' : Hp} (e : kX10_linked_4 rec  r0 x1 x2 x3 h = some (o, h')) : V G mX10_linked d 4 [.ref r0, .int x1, .int x2, .int x3] [] h o h' := by
  unfold kX10_linked_4 at e
  refine bX10_linked_4 r0 x1 x2 x3 (by omega) ?_
  refine ⟨fun c1 => ?_, fun c1 => ?_⟩
  · have e := if_t e c1
    cases e
    exact ⟨rfl, rfl⟩
  · have e := if_f e c1
    obtain ⟨z3, h2, e2, e⟩ := bI_e e
    refine ⟨z3, h2, (tX10_fieldOf e2 (by omega)), ?_⟩
    refine ⟨fun c3 => ?_, fun c3 => ?_⟩
    · have e := if_t e c3
      exact hrec _ _ _ _ _ _ e
    · have e := if_f e c3
      exact hrec _ _ _ _ _ _ e
def sX10_linked  (rec : Nat → List Value → List Value → Hp → RS) (pc : Nat) (loc st : List Value) (h : Hp) : RS := match pc, loc, st with
  | 4, [.ref r0, .int x1, .int x2, .int x3], [] => kX10_linked_4 rec  r0 x1 x2 x3 h
  | _, _, _ => none
def gX10_linked  : Nat → Nat → List Value → List Value → Hp → RS
  | 0 => fun _ _ _ _ => none
  | n + 1 => sX10_linked  (gX10_linked  n)
theorem wX10_linked {G : GG} {d : Nat} (hd : 3 ≤ d)   : ∀ (n pc : Nat) (loc st : List Value) (h : Hp) (o : OU) (h' : Hp), gX10_linked  n pc loc st h = some (o, h') → V G mX10_linked d pc loc st h o h' := by
  intro n
  induction n with
  | zero => intro pc loc st h o h' e; cases e
  | succ n ih =>
    intro pc loc st h o h' e
    unfold gX10_linked sX10_linked at e
    split at e
    · exact uX10_linked_4 hd _ ih   e
    · cases e
theorem zX10_linked_4  (n : Nat) (r0 : Nat) (x1 : Int32) (x2 : Int32) (x3 : Int32)  (h : Hp) : gX10_linked  (n + 1) 4 [.ref r0, .int x1, .int x2, .int x3] [] h = kX10_linked_4 (gX10_linked  n)  r0 x1 x2 x3 h := rfl
def fX10_linked (r0 : Nat) (x1 : Int32) (h : Hp) : RS := kX10_linked_0 (gX10_linked FF) r0 x1 h
theorem tX10_linked {G : GG} {d : Nat} {r0 x1} {h : Hp} {o : OU} {h' : Hp} (e : fX10_linked r0 x1 h = some (o, h')) (hd : 3 ≤ d) : VM G mX10_linked d [.ref r0, .int x1] h o h' := uX10_linked_0 hd _ (wX10_linked hd FF) e
def kX10_pointer_0 (rec : Nat → List Value → List Value → Hp → RS)  (r0 : Nat) (x1 : Int32) (x2 : Int32) (x3 : Int32) (h : Hp) : RS := (rec 3 [.ref r0, .int x1, .int x2, .int x3, .int 0] [] h)
theorem uX10_pointer_0 {G : GG} {d : Nat} (hd : 3 ≤ d) (rec : Nat → List Value → List Value → Hp → RS) (hrec : ∀ pc loc st h o h', rec pc loc st h = some (o, h') → V G mX10_pointer d pc loc st h o h')   {r0  x1  x2  x3 } {h : Hp} {o : OU} {h' : Hp} (e : kX10_pointer_0 rec  r0 x1 x2 x3 h = some (o, h')) : VM G mX10_pointer d [.ref r0, .int x1, .int x2, .int x3] h o h' := by
  unfold kX10_pointer_0 at e
  refine eX10_pointer r0 x1 x2 x3 ?_
  exact hrec _ _ _ _ _ _ e
def kX10_pointer_3 (rec : Nat → List Value → List Value → Hp → RS)  (r0 : Nat) (x1 : Int32) (x2 : Int32) (x3 : Int32) (x4 : Int32) (h : Hp) : RS := (if 12 ≤ x4 then (some (.inl (some (.int (-1))), h)) else (bI (fX10_has x2 x4 h) fun z3 h2 => (if z3 = 0 then (rec 3 [.ref r0, .int x1, .int x2, .int x3, .int (x4 + 1)] [] h2) else (bI (fX10_fieldOf r0 x1 x4 2 h2) fun z7 h6 => (if z7 = x3 then (some (.inl (some (.int x4)), h6)) else (bI (fX10_fieldOf r0 x1 x4 3 h6) fun z11 h10 => (if ¬ z11 = x3 then (rec 3 [.ref r0, .int x1, .int x2, .int x3, .int (x4 + 1)] [] h10) else (some (.inl (some (.int x4)), h10)))))))))
theorem uX10_pointer_3 {G : GG} {d : Nat} (hd : 3 ≤ d) (rec : Nat → List Value → List Value → Hp → RS) (hrec : ∀ pc loc st h o h', rec pc loc st h = some (o, h') → V G mX10_pointer d pc loc st h o h')   {r0  x1  x2  x3  x4 } {h : Hp} {o : OU} {h' : Hp} (e : kX10_pointer_3 rec  r0 x1 x2 x3 x4 h = some (o, h')) : V G mX10_pointer d 3 [.ref r0, .int x1, .int x2, .int x3, .int x4] [] h o h' := by
  unfold kX10_pointer_3 at e
  refine bX10_pointer_3 r0 x1 x2 x3 x4 (by omega) ?_
  refine ⟨fun c1 => ?_, fun c1 => ?_⟩
  · have e := if_t e c1
    cases e
    exact ⟨rfl, rfl⟩
  · have e := if_f e c1
    obtain ⟨z3, h2, e2, e⟩ := bI_e e
    refine ⟨z3, h2, (tX10_has e2 (by omega)), ?_⟩
    refine ⟨fun c3 => ?_, fun c3 => ?_⟩
    · have e := if_t e c3
      exact hrec _ _ _ _ _ _ e
    · have e := if_f e c3
      obtain ⟨z7, h6, e4, e⟩ := bI_e e
      refine ⟨z7, h6, (tX10_fieldOf e4 (by omega)), ?_⟩
      refine ⟨fun c5 => ?_, fun c5 => ?_⟩
      · have e := if_t e c5
        cases e
        exact ⟨rfl, rfl⟩
      · have e := if_f e c5
        obtain ⟨z11, h10, e6, e⟩ := bI_e e
        refine ⟨z11, h10, (tX10_fieldOf e6 (by omega)), ?_⟩
        refine ⟨fun c7 => ?_, fun c7 => ?_⟩
        · have e := if_t e c7
          exact hrec _ _ _ _ _ _ e
        · have e := if_n e c7
          cases e
          exact ⟨rfl, rfl⟩
def sX10_pointer  (rec : Nat → List Value → List Value → Hp → RS) (pc : Nat) (loc st : List Value) (h : Hp) : RS := match pc, loc, st with
  | 3, [.ref r0, .int x1, .int x2, .int x3, .int x4], [] => kX10_pointer_3 rec  r0 x1 x2 x3 x4 h
  | _, _, _ => none
def gX10_pointer  : Nat → Nat → List Value → List Value → Hp → RS
  | 0 => fun _ _ _ _ => none
  | n + 1 => sX10_pointer  (gX10_pointer  n)
theorem wX10_pointer {G : GG} {d : Nat} (hd : 3 ≤ d)   : ∀ (n pc : Nat) (loc st : List Value) (h : Hp) (o : OU) (h' : Hp), gX10_pointer  n pc loc st h = some (o, h') → V G mX10_pointer d pc loc st h o h' := by
  intro n
  induction n with
  | zero => intro pc loc st h o h' e; cases e
  | succ n ih =>
    intro pc loc st h o h' e
    unfold gX10_pointer sX10_pointer at e
    split at e
    · exact uX10_pointer_3 hd _ ih   e
    · cases e
theorem zX10_pointer_3  (n : Nat) (r0 : Nat) (x1 : Int32) (x2 : Int32) (x3 : Int32) (x4 : Int32)  (h : Hp) : gX10_pointer  (n + 1) 3 [.ref r0, .int x1, .int x2, .int x3, .int x4] [] h = kX10_pointer_3 (gX10_pointer  n)  r0 x1 x2 x3 x4 h := rfl
def fX10_pointer (r0 : Nat) (x1 : Int32) (x2 : Int32) (x3 : Int32) (h : Hp) : RS := kX10_pointer_0 (gX10_pointer FF) r0 x1 x2 x3 h
theorem tX10_pointer {G : GG} {d : Nat} {r0 x1 x2 x3} {h : Hp} {o : OU} {h' : Hp} (e : fX10_pointer r0 x1 x2 x3 h = some (o, h')) (hd : 3 ≤ d) : VM G mX10_pointer d [.ref r0, .int x1, .int x2, .int x3] h o h' := uX10_pointer_0 hd _ (wX10_pointer hd FF) e
def kX10_sweepAt_0 (rec : Nat → List Value → List Value → Hp → RS)  (r0 : Nat) (r1 : Nat) (h : Hp) : RS := (rec 2 [.ref r0, .ref r1, .int 1] [] h)
theorem uX10_sweepAt_0 {G : GG} {d : Nat} (hd : 6 ≤ d) (rec : Nat → List Value → List Value → Hp → RS) (hrec : ∀ pc loc st h o h', rec pc loc st h = some (o, h') → V G mX10_sweepAt d pc loc st h o h')   {r0  r1 } {h : Hp} {o : OU} {h' : Hp} (e : kX10_sweepAt_0 rec  r0 r1 h = some (o, h')) : VM G mX10_sweepAt d [.ref r0, .ref r1] h o h' := by
  unfold kX10_sweepAt_0 at e
  refine eX10_sweepAt r0 r1 ?_
  exact hrec _ _ _ _ _ _ e
def kX10_sweepAt_2 (rec : Nat → List Value → List Value → Hp → RS)  (r0 : Nat) (r1 : Nat) (x2 : Int32) (h : Hp) : RS := (if 12 ≤ x2 then (rec 41 [.ref r0, .ref r1, .int 4] [] h) else (bI (fX10_fieldOf r1 0 x2 0 h) fun z3 h2 => (bI (fX10_named r1 0 x2 h2) fun z6 h5 => (bI (fX10_later r1 1 x2 h5) fun z9 h8 => (if z3 ≤ (z6 + z9) then (rec 2 [.ref r0, .ref r1, .int (x2 + 1)] [] h8) else (some (.inl (some (.int x2)), h8)))))))
theorem uX10_sweepAt_2 {G : GG} {d : Nat} (hd : 6 ≤ d) (rec : Nat → List Value → List Value → Hp → RS) (hrec : ∀ pc loc st h o h', rec pc loc st h = some (o, h') → V G mX10_sweepAt d pc loc st h o h')   {r0  r1  x2 } {h : Hp} {o : OU} {h' : Hp} (e : kX10_sweepAt_2 rec  r0 r1 x2 h = some (o, h')) : V G mX10_sweepAt d 2 [.ref r0, .ref r1, .int x2] [] h o h' := by
  unfold kX10_sweepAt_2 at e
  refine bX10_sweepAt_2 r0 r1 x2 (by omega) ?_
  refine ⟨fun c1 => ?_, fun c1 => ?_⟩
  · have e := if_t e c1
    exact hrec _ _ _ _ _ _ e
  · have e := if_f e c1
    obtain ⟨z3, h2, e2, e⟩ := bI_e e
    refine ⟨z3, h2, (tX10_fieldOf e2 (by omega)), ?_⟩
    obtain ⟨z6, h5, e3, e⟩ := bI_e e
    refine ⟨z6, h5, (tX10_named e3 (by omega)), ?_⟩
    obtain ⟨z9, h8, e4, e⟩ := bI_e e
    refine ⟨z9, h8, (tX10_later e4 (by omega)), ?_⟩
    refine ⟨fun c5 => ?_, fun c5 => ?_⟩
    · have e := if_t e c5
      exact hrec _ _ _ _ _ _ e
    · have e := if_f e c5
      cases e
      exact ⟨rfl, rfl⟩
def kX10_sweepAt_41 (rec : Nat → List Value → List Value → Hp → RS)  (r0 : Nat) (r1 : Nat) (x2 : Int32) (h : Hp) : RS := (if kH h r0 = 18 then (if (h.2 r0 11) ≤ x2 then (some (.inl (some (.int (-1))), h)) else (if kH h r1 = 1 then (if inB (0 + x2) (lH h r1) = true then (if (h.2 r1 (0 + x2).toNatClampNeg) = 0 then (rec 41 [.ref r0, .ref r1, .int (x2 + 1)] [] h) else (bI (fX10_linked r1 0 h) fun z7 h6 => (bI (fX10_pointer r1 0 z7 x2 h6) fun z10 h9 => (if ¬ z10 = (-1) then (rec 41 [.ref r0, .ref r1, .int (x2 + 1)] [] h9) else (bI (fX10_later r1 0 x2 h9) fun z14 h13 => (if ¬ z14 = 0 then (rec 41 [.ref r0, .ref r1, .int (x2 + 1)] [] h13) else (some (.inl (some (.int (100 + x2))), h13)))))))) else none) else none)) else none)
theorem uX10_sweepAt_41 {G : GG} {d : Nat} (hd : 6 ≤ d) (rec : Nat → List Value → List Value → Hp → RS) (hrec : ∀ pc loc st h o h', rec pc loc st h = some (o, h') → V G mX10_sweepAt d pc loc st h o h')   {r0  r1  x2 } {h : Hp} {o : OU} {h' : Hp} (e : kX10_sweepAt_41 rec  r0 r1 x2 h = some (o, h')) : V G mX10_sweepAt d 41 [.ref r0, .ref r1, .int x2] [] h o h' := by
  unfold kX10_sweepAt_41 at e
  refine bX10_sweepAt_41 r0 r1 x2 (by omega) ?_
  obtain ⟨q1, e⟩ := ob_e e
  refine ⟨q1, ?_⟩
  refine ⟨fun c2 => ?_, fun c2 => ?_⟩
  · have e := if_t e c2
    cases e
    exact ⟨rfl, rfl⟩
  · have e := if_f e c2
    obtain ⟨q3, e⟩ := ob_e e
    refine ⟨q3, ?_⟩
    obtain ⟨q4, e⟩ := ob_in e
    refine ⟨q4, ?_⟩
    refine ⟨fun c5 => ?_, fun c5 => ?_⟩
    · have e := if_t e c5
      exact hrec _ _ _ _ _ _ e
    · have e := if_f e c5
      obtain ⟨z7, h6, e6, e⟩ := bI_e e
      refine ⟨z7, h6, (tX10_linked e6 (by omega)), ?_⟩
      obtain ⟨z10, h9, e7, e⟩ := bI_e e
      refine ⟨z10, h9, (tX10_pointer e7 (by omega)), ?_⟩
      refine ⟨fun c8 => ?_, fun c8 => ?_⟩
      · have e := if_t e c8
        exact hrec _ _ _ _ _ _ e
      · have e := if_n e c8
        obtain ⟨z14, h13, e9, e⟩ := bI_e e
        refine ⟨z14, h13, (tX10_later e9 (by omega)), ?_⟩
        refine ⟨fun c10 => ?_, fun c10 => ?_⟩
        · have e := if_t e c10
          exact hrec _ _ _ _ _ _ e
        · have e := if_n e c10
          cases e
          exact ⟨rfl, rfl⟩
def sX10_sweepAt  (rec : Nat → List Value → List Value → Hp → RS) (pc : Nat) (loc st : List Value) (h : Hp) : RS := match pc, loc, st with
  | 2, [.ref r0, .ref r1, .int x2], [] => kX10_sweepAt_2 rec  r0 r1 x2 h
  | 41, [.ref r0, .ref r1, .int x2], [] => kX10_sweepAt_41 rec  r0 r1 x2 h
  | _, _, _ => none
def gX10_sweepAt  : Nat → Nat → List Value → List Value → Hp → RS
  | 0 => fun _ _ _ _ => none
  | n + 1 => sX10_sweepAt  (gX10_sweepAt  n)
theorem wX10_sweepAt {G : GG} {d : Nat} (hd : 6 ≤ d)   : ∀ (n pc : Nat) (loc st : List Value) (h : Hp) (o : OU) (h' : Hp), gX10_sweepAt  n pc loc st h = some (o, h') → V G mX10_sweepAt d pc loc st h o h' := by
  intro n
  induction n with
  | zero => intro pc loc st h o h' e; cases e
  | succ n ih =>
    intro pc loc st h o h' e
    unfold gX10_sweepAt sX10_sweepAt at e
    split at e
    · exact uX10_sweepAt_2 hd _ ih   e
    · exact uX10_sweepAt_41 hd _ ih   e
    · cases e
theorem zX10_sweepAt_2  (n : Nat) (r0 : Nat) (r1 : Nat) (x2 : Int32)  (h : Hp) : gX10_sweepAt  (n + 1) 2 [.ref r0, .ref r1, .int x2] [] h = kX10_sweepAt_2 (gX10_sweepAt  n)  r0 r1 x2 h := rfl
theorem zX10_sweepAt_41  (n : Nat) (r0 : Nat) (r1 : Nat) (x2 : Int32)  (h : Hp) : gX10_sweepAt  (n + 1) 41 [.ref r0, .ref r1, .int x2] [] h = kX10_sweepAt_41 (gX10_sweepAt  n)  r0 r1 x2 h := rfl
def fX10_sweepAt (r0 : Nat) (r1 : Nat) (h : Hp) : RS := kX10_sweepAt_0 (gX10_sweepAt FF) r0 r1 h
theorem tX10_sweepAt {G : GG} {d : Nat} {r0 r1} {h : Hp} {o : OU} {h' : Hp} (e : fX10_sweepAt r0 r1 h = some (o, h')) (hd : 6 ≤ d) : VM G mX10_sweepAt d [.ref r0, .ref r1] h o h' := uX10_sweepAt_0 hd _ (wX10_sweepAt hd FF) e
def kX10_sweepsOne_0  (r0 : Nat) (r1 : Nat) (h : Hp) : RS := (if kH h r0 = 18 then (bI (fX10_sweepAt r0 r1 h) fun z2 h1 => (if ¬ z2 = (-1) then (if z2 < 100 then (bI (fX10_named r1 0 z2 h1) fun z8 h7 => (bI (fX10_later r1 1 z2 h7) fun z11 h10 => (bI (fX10_field r1 z2 0 (z8 + z11) 0 0 h10) fun z14 h13 => (if ¬ (z8 + z11) = 0 then (some (.inl (some (.int 1)), h13)) else (bV (fX10_empties r1 z2 h13) fun h17 => (some (.inl (some (.int 1)), h17))))))) else (bI (fX10_bare r1 0 (z2 - 100) 0 h1) fun z20 h19 => (some (.inl (some (.int 1)), h19)))) else (some (.inl (some (.int 0)), h1)))) else none)
theorem uX10_sweepsOne_0 {G : GG} {d : Nat} (hd : 7 ≤ d)   {r0  r1 } {h : Hp} {o : OU} {h' : Hp} (e : kX10_sweepsOne_0  r0 r1 h = some (o, h')) : VM G mX10_sweepsOne d [.ref r0, .ref r1] h o h' := by
  unfold kX10_sweepsOne_0 at e
  refine eX10_sweepsOne r0 r1 (by omega) ?_
  obtain ⟨q1, e⟩ := ob_e e
  refine ⟨q1, ?_⟩
  obtain ⟨z2, h1, e2, e⟩ := bI_e e
  refine ⟨z2, h1, (tX10_sweepAt e2 (by omega)), ?_⟩
  refine ⟨fun c3 => ?_, fun c3 => ?_⟩
  · have e := if_t e c3
    refine ⟨fun c4 => ?_, fun c4 => ?_⟩
    · have e := if_t e c4
      obtain ⟨z8, h7, e5, e⟩ := bI_e e
      refine ⟨z8, h7, (tX10_named e5 (by omega)), ?_⟩
      obtain ⟨z11, h10, e6, e⟩ := bI_e e
      refine ⟨z11, h10, (tX10_later e6 (by omega)), ?_⟩
      obtain ⟨z14, h13, e7, e⟩ := bI_e e
      refine ⟨z14, h13, (tX10_field e7 (by omega)), ?_⟩
      refine ⟨fun c8 => ?_, fun c8 => ?_⟩
      · have e := if_t e c8
        cases e
        exact ⟨rfl, rfl⟩
      · have e := if_n e c8
        obtain ⟨h17, e9, e⟩ := bV_e e
        refine ⟨h17, (tX10_empties e9 (by omega)), ?_⟩
        cases e
        exact ⟨rfl, rfl⟩
    · have e := if_f e c4
      obtain ⟨z20, h19, e10, e⟩ := bI_e e
      refine ⟨z20, h19, (tX10_bare e10 (by omega)), ?_⟩
      cases e
      exact ⟨rfl, rfl⟩
  · have e := if_n e c3
    cases e
    exact ⟨rfl, rfl⟩
def fX10_sweepsOne (r0 : Nat) (r1 : Nat) (h : Hp) : RS := kX10_sweepsOne_0 r0 r1 h
theorem tX10_sweepsOne {G : GG} {d : Nat} {r0 r1} {h : Hp} {o : OU} {h' : Hp} (e : fX10_sweepsOne r0 r1 h = some (o, h')) (hd : 7 ≤ d) : VM G mX10_sweepsOne d [.ref r0, .ref r1] h o h' := uX10_sweepsOne_0 hd e
def kX10_does_0 (rec : Nat → List Value → List Value → Hp → RS)  (r0 : Nat) (r1 : Nat) (r2 : Nat) (h : Hp) : RS := (if kH h r2 = 1 then (if inB 0 (lH h r2) = true then (if inB 1 (lH h r2) = true then (if inB 2 (lH h r2) = true then (if (h.2 r2 0) < 7 then (bI (fX10_isFull r1 h) fun z7 h6 => (if z7 = 0 then (rec 35 [.ref r0, .ref r1, .ref r2, .int (h.2 r2 0), .int (h.2 r2 1), .int (h.2 r2 2)] [] h6) else (some (.inl (some (.int 0)), h6)))) else (if ¬ (h.2 r2 0) = 10 then (rec 35 [.ref r0, .ref r1, .ref r2, .int (h.2 r2 0), .int (h.2 r2 1), .int (h.2 r2 2)] [] h) else (bI (fX10_isFull r1 h) fun z12 h11 => (if z12 = 0 then (rec 35 [.ref r0, .ref r1, .ref r2, .int (h.2 r2 0), .int (h.2 r2 1), .int (h.2 r2 2)] [] h11) else (some (.inl (some (.int 0)), h11)))))) else none) else none) else none) else none)
theorem uX10_does_0 {G : GG} {d : Nat} (hd : 9 ≤ d) (rec : Nat → List Value → List Value → Hp → RS) (hrec : ∀ pc loc st h o h', rec pc loc st h = some (o, h') → V G mX10_does d pc loc st h o h')   {r0  r1  r2 } {h : Hp} {o : OU} {h' : Hp} (e : kX10_does_0 rec  r0 r1 r2 h = some (o, h')) : VM G mX10_does d [.ref r0, .ref r1, .ref r2] h o h' := by
  unfold kX10_does_0 at e
  refine eX10_does r0 r1 r2 (by omega) ?_
  obtain ⟨q1, e⟩ := ob_e e
  refine ⟨q1, ?_⟩
  obtain ⟨q2, e⟩ := ob_in e
  refine ⟨q2, ?_⟩
  obtain ⟨q3, e⟩ := ob_in e
  refine ⟨q3, ?_⟩
  obtain ⟨q4, e⟩ := ob_in e
  refine ⟨q4, ?_⟩
  refine ⟨fun c5 => ?_, fun c5 => ?_⟩
  · have e := if_t e c5
    obtain ⟨z7, h6, e6, e⟩ := bI_e e
    refine ⟨z7, h6, (tX10_isFull e6 (by omega)), ?_⟩
    refine ⟨fun c7 => ?_, fun c7 => ?_⟩
    · have e := if_t e c7
      exact hrec _ _ _ _ _ _ e
    · have e := if_f e c7
      cases e
      exact ⟨rfl, rfl⟩
  · have e := if_f e c5
    refine ⟨fun c8 => ?_, fun c8 => ?_⟩
    · have e := if_t e c8
      exact hrec _ _ _ _ _ _ e
    · have e := if_n e c8
      obtain ⟨z12, h11, e9, e⟩ := bI_e e
      refine ⟨z12, h11, (tX10_isFull e9 (by omega)), ?_⟩
      refine ⟨fun c10 => ?_, fun c10 => ?_⟩
      · have e := if_t e c10
        exact hrec _ _ _ _ _ _ e
      · have e := if_f e c10
        cases e
        exact ⟨rfl, rfl⟩
def kX10_does_35 (rec : Nat → List Value → List Value → Hp → RS)  (r0 : Nat) (r1 : Nat) (r2 : Nat) (x3 : Int32) (x4 : Int32) (x5 : Int32) (h : Hp) : RS := (if x3 = 0 then (if kH h r0 = 18 then (bI (fX10_begins r0 r1 x4 x5 1 h) fun z3 h2 => (if (z3 = 0 ∨ z3 = 1) then (some (.inl (some (.int z3)), h2)) else none)) else none) else (if x3 = 1 then (if kH h r0 = 18 then (bI (fX10_begins r0 r1 x4 x5 2 h) fun z9 h8 => (if (z9 = 0 ∨ z9 = 1) then (some (.inl (some (.int z9)), h8)) else none)) else none) else (if x3 = 2 then (if kH h r2 = 1 then (if inB 3 (lH h r2) = true then (if kH h r0 = 18 then (bI (fX10_links r0 r1 x4 x5 (h.2 r2 3) h) fun z17 h16 => (if (z17 = 0 ∨ z17 = 1) then (some (.inl (some (.int z17)), h16)) else none)) else none) else none) else none) else (if x3 = 3 then (if kH h r0 = 18 then (bI (fX10_grows r0 r1 x4 x5 h) fun z23 h22 => (if (z23 = 0 ∨ z23 = 1) then (some (.inl (some (.int z23)), h22)) else none)) else none) else (if x3 = 4 then (if kH h r2 = 1 then (if inB 3 (lH h r2) = true then (bI (fX10_setsByte r1 x4 x5 (h.2 r2 3) h) fun z31 h30 => (if (z31 = 0 ∨ z31 = 1) then (some (.inl (some (.int z31)), h30)) else none)) else none) else none) else (if x3 = 5 then (bI (fX10_cuts r1 x4 h) fun z36 h35 => (if (z36 = 0 ∨ z36 = 1) then (some (.inl (some (.int z36)), h35)) else none)) else (if x3 = 6 then (bI (fX10_drops r1 x4 x5 h) fun z41 h40 => (if (z41 = 0 ∨ z41 = 1) then (some (.inl (some (.int z41)), h40)) else none)) else (if x3 = 7 then (if kH h r0 = 18 then (bI (fX10_writes r0 r1 x4 h) fun z46 h45 => (if (z46 = 0 ∨ z46 = 1) then (some (.inl (some (.int z46)), h45)) else none)) else none) else (if x3 = 8 then (if kH h r0 = 18 then (bI (fX10_syncs r0 r1 h) fun z52 h51 => (if (z52 = 0 ∨ z52 = 1) then (some (.inl (some (.int z52)), h51)) else none)) else none) else (if x3 = 9 then (bI (fX10_crashes r1 h) fun z58 h57 => (if (z58 = 0 ∨ z58 = 1) then (some (.inl (some (.int z58)), h57)) else none)) else (if kH h r0 = 18 then (bI (fX10_sweepsOne r0 r1 h) fun z62 h61 => (if (z62 = 0 ∨ z62 = 1) then (some (.inl (some (.int z62)), h61)) else none)) else none)))))))))))
theorem uX10_does_35 {G : GG} {d : Nat} (hd : 9 ≤ d) (rec : Nat → List Value → List Value → Hp → RS) (hrec : ∀ pc loc st h o h', rec pc loc st h = some (o, h') → V G mX10_does d pc loc st h o h')   {r0  r1  r2  x3  x4  x5 } {h : Hp} {o : OU} {h' : Hp} (e : kX10_does_35 rec  r0 r1 r2 x3 x4 x5 h = some (o, h')) : V G mX10_does d 35 [.ref r0, .ref r1, .ref r2, .int x3, .int x4, .int x5] [] h o h' := by
  unfold kX10_does_35 at e
  refine bX10_does_35 r0 r1 r2 x3 x4 x5 (by omega) ?_
  refine ⟨?_, ?_, ?_, ?_, ?_, ?_, ?_, ?_, ?_, ?_, ?_⟩
  · intro cc
    have e := if_t e cc
    obtain ⟨q1, e⟩ := ob_e e
    refine ⟨q1, ?_⟩
    obtain ⟨z3, h2, e2, e⟩ := bI_e e
    refine ⟨z3, h2, (tX10_begins e2 (by omega)), ?_⟩
    obtain ⟨q3, e⟩ := ob_e e
    refine ⟨q3, ?_⟩
    cases e
    exact ⟨rfl, rfl⟩
  · intro cc
    have e := if_f e (by rw [cc]; decide)
    have e := if_t e cc
    obtain ⟨q4, e⟩ := ob_e e
    refine ⟨q4, ?_⟩
    obtain ⟨z9, h8, e5, e⟩ := bI_e e
    refine ⟨z9, h8, (tX10_begins e5 (by omega)), ?_⟩
    obtain ⟨q6, e⟩ := ob_e e
    refine ⟨q6, ?_⟩
    cases e
    exact ⟨rfl, rfl⟩
  · intro cc
    have e := if_f e (by rw [cc]; decide)
    have e := if_f e (by rw [cc]; decide)
    have e := if_t e cc
    obtain ⟨q7, e⟩ := ob_e e
    refine ⟨q7, ?_⟩
    obtain ⟨q8, e⟩ := ob_in e
    refine ⟨q8, ?_⟩
    obtain ⟨q9, e⟩ := ob_e e
    refine ⟨q9, ?_⟩
    obtain ⟨z17, h16, e10, e⟩ := bI_e e
    refine ⟨z17, h16, (tX10_links e10 (by omega)), ?_⟩
    obtain ⟨q11, e⟩ := ob_e e
    refine ⟨q11, ?_⟩
    cases e
    exact ⟨rfl, rfl⟩
  · intro cc
    have e := if_f e (by rw [cc]; decide)
    have e := if_f e (by rw [cc]; decide)
    have e := if_f e (by rw [cc]; decide)
    have e := if_t e cc
    obtain ⟨q12, e⟩ := ob_e e
    refine ⟨q12, ?_⟩
    obtain ⟨z23, h22, e13, e⟩ := bI_e e
    refine ⟨z23, h22, (tX10_grows e13 (by omega)), ?_⟩
    obtain ⟨q14, e⟩ := ob_e e
    refine ⟨q14, ?_⟩
    cases e
    exact ⟨rfl, rfl⟩
  · intro cc
    have e := if_f e (by rw [cc]; decide)
    have e := if_f e (by rw [cc]; decide)
    have e := if_f e (by rw [cc]; decide)
    have e := if_f e (by rw [cc]; decide)
    have e := if_t e cc
    obtain ⟨q15, e⟩ := ob_e e
    refine ⟨q15, ?_⟩
    obtain ⟨q16, e⟩ := ob_in e
    refine ⟨q16, ?_⟩
    obtain ⟨z31, h30, e17, e⟩ := bI_e e
    refine ⟨z31, h30, (tX10_setsByte e17 (by omega)), ?_⟩
    obtain ⟨q18, e⟩ := ob_e e
    refine ⟨q18, ?_⟩
    cases e
    exact ⟨rfl, rfl⟩
  · intro cc
    have e := if_f e (by rw [cc]; decide)
    have e := if_f e (by rw [cc]; decide)
    have e := if_f e (by rw [cc]; decide)
    have e := if_f e (by rw [cc]; decide)
    have e := if_f e (by rw [cc]; decide)
    have e := if_t e cc
    obtain ⟨z36, h35, e19, e⟩ := bI_e e
    refine ⟨z36, h35, (tX10_cuts e19 (by omega)), ?_⟩
    obtain ⟨q20, e⟩ := ob_e e
    refine ⟨q20, ?_⟩
    cases e
    exact ⟨rfl, rfl⟩
  · intro cc
    have e := if_f e (by rw [cc]; decide)
    have e := if_f e (by rw [cc]; decide)
    have e := if_f e (by rw [cc]; decide)
    have e := if_f e (by rw [cc]; decide)
    have e := if_f e (by rw [cc]; decide)
    have e := if_f e (by rw [cc]; decide)
    have e := if_t e cc
    obtain ⟨z41, h40, e21, e⟩ := bI_e e
    refine ⟨z41, h40, (tX10_drops e21 (by omega)), ?_⟩
    obtain ⟨q22, e⟩ := ob_e e
    refine ⟨q22, ?_⟩
    cases e
    exact ⟨rfl, rfl⟩
  · intro cc
    have e := if_f e (by rw [cc]; decide)
    have e := if_f e (by rw [cc]; decide)
    have e := if_f e (by rw [cc]; decide)
    have e := if_f e (by rw [cc]; decide)
    have e := if_f e (by rw [cc]; decide)
    have e := if_f e (by rw [cc]; decide)
    have e := if_f e (by rw [cc]; decide)
    have e := if_t e cc
    obtain ⟨q23, e⟩ := ob_e e
    refine ⟨q23, ?_⟩
    obtain ⟨z46, h45, e24, e⟩ := bI_e e
    refine ⟨z46, h45, (tX10_writes e24 (by omega)), ?_⟩
    obtain ⟨q25, e⟩ := ob_e e
    refine ⟨q25, ?_⟩
    cases e
    exact ⟨rfl, rfl⟩
  · intro cc
    have e := if_f e (by rw [cc]; decide)
    have e := if_f e (by rw [cc]; decide)
    have e := if_f e (by rw [cc]; decide)
    have e := if_f e (by rw [cc]; decide)
    have e := if_f e (by rw [cc]; decide)
    have e := if_f e (by rw [cc]; decide)
    have e := if_f e (by rw [cc]; decide)
    have e := if_f e (by rw [cc]; decide)
    have e := if_t e cc
    obtain ⟨q26, e⟩ := ob_e e
    refine ⟨q26, ?_⟩
    obtain ⟨z52, h51, e27, e⟩ := bI_e e
    refine ⟨z52, h51, (tX10_syncs e27 (by omega)), ?_⟩
    obtain ⟨q28, e⟩ := ob_e e
    refine ⟨q28, ?_⟩
    cases e
    exact ⟨rfl, rfl⟩
  · intro cc
    have e := if_f e (by rw [cc]; decide)
    have e := if_f e (by rw [cc]; decide)
    have e := if_f e (by rw [cc]; decide)
    have e := if_f e (by rw [cc]; decide)
    have e := if_f e (by rw [cc]; decide)
    have e := if_f e (by rw [cc]; decide)
    have e := if_f e (by rw [cc]; decide)
    have e := if_f e (by rw [cc]; decide)
    have e := if_f e (by rw [cc]; decide)
    have e := if_t e cc
    obtain ⟨z58, h57, e29, e⟩ := bI_e e
    refine ⟨z58, h57, (tX10_crashes e29 (by omega)), ?_⟩
    obtain ⟨q30, e⟩ := ob_e e
    refine ⟨q30, ?_⟩
    cases e
    exact ⟨rfl, rfl⟩
  · intro n0 n1 n2 n3 n4 n5 n6 n7 n8 n9
    have e := if_f e n0
    have e := if_f e n1
    have e := if_f e n2
    have e := if_f e n3
    have e := if_f e n4
    have e := if_f e n5
    have e := if_f e n6
    have e := if_f e n7
    have e := if_f e n8
    have e := if_f e n9
    obtain ⟨q31, e⟩ := ob_e e
    refine ⟨q31, ?_⟩
    obtain ⟨z62, h61, e32, e⟩ := bI_e e
    refine ⟨z62, h61, (tX10_sweepsOne e32 (by omega)), ?_⟩
    obtain ⟨q33, e⟩ := ob_e e
    refine ⟨q33, ?_⟩
    cases e
    exact ⟨rfl, rfl⟩
def sX10_does  (rec : Nat → List Value → List Value → Hp → RS) (pc : Nat) (loc st : List Value) (h : Hp) : RS := match pc, loc, st with
  | 35, [.ref r0, .ref r1, .ref r2, .int x3, .int x4, .int x5], [] => kX10_does_35 rec  r0 r1 r2 x3 x4 x5 h
  | _, _, _ => none
def gX10_does  : Nat → Nat → List Value → List Value → Hp → RS
  | 0 => fun _ _ _ _ => none
  | n + 1 => sX10_does  (gX10_does  n)
theorem wX10_does {G : GG} {d : Nat} (hd : 9 ≤ d)   : ∀ (n pc : Nat) (loc st : List Value) (h : Hp) (o : OU) (h' : Hp), gX10_does  n pc loc st h = some (o, h') → V G mX10_does d pc loc st h o h' := by
  intro n
  induction n with
  | zero => intro pc loc st h o h' e; cases e
  | succ n ih =>
    intro pc loc st h o h' e
    unfold gX10_does sX10_does at e
    split at e
    · exact uX10_does_35 hd _ ih   e
    · cases e
theorem zX10_does_35  (n : Nat) (r0 : Nat) (r1 : Nat) (r2 : Nat) (x3 : Int32) (x4 : Int32) (x5 : Int32)  (h : Hp) : gX10_does  (n + 1) 35 [.ref r0, .ref r1, .ref r2, .int x3, .int x4, .int x5] [] h = kX10_does_35 (gX10_does  n)  r0 r1 r2 x3 x4 x5 h := rfl
def fX10_does (r0 : Nat) (r1 : Nat) (r2 : Nat) (h : Hp) : RS := kX10_does_0 (gX10_does FF) r0 r1 r2 h
theorem tX10_does {G : GG} {d : Nat} {r0 r1 r2} {h : Hp} {o : OU} {h' : Hp} (e : fX10_does r0 r1 r2 h = some (o, h')) (hd : 9 ≤ d) : VM G mX10_does d [.ref r0, .ref r1, .ref r2] h o h' := uX10_does_0 hd _ (wX10_does hd FF) e
def kX10_beginsAnew_0 (rec : Nat → List Value → List Value → Hp → RS)  (r0 : Nat) (h : Hp) : RS := (if kH h r0 = 18 then (rec 10 [.ref r0, .int 0] [] (h.1, (upI h.2 r0 11 (h.2 r0 12)))) else none)
theorem uX10_beginsAnew_0 {G : GG} {d : Nat} (hd : 10 ≤ d) (rec : Nat → List Value → List Value → Hp → RS) (hrec : ∀ pc loc st h o h', rec pc loc st h = some (o, h') → V G mX10_beginsAnew d pc loc st h o h')   {r0 } {h : Hp} {o : OU} {h' : Hp} (e : kX10_beginsAnew_0 rec  r0 h = some (o, h')) : VM G mX10_beginsAnew d [.ref r0] h o h' := by
  unfold kX10_beginsAnew_0 at e
  refine eX10_beginsAnew r0 ?_
  obtain ⟨q1, e⟩ := ob_e e
  refine ⟨q1, ?_⟩
  exact hrec _ _ _ _ _ _ e
def kX10_beginsAnew_10 (rec : Nat → List Value → List Value → Hp → RS)  (r0 : Nat) (x1 : Int32) (h : Hp) : RS := (if 3398 ≤ x1 then (rec 32 [.ref r0, .int 0] [] h) else (if kH h r0 = 18 then (if kH h (rH h r0 22) = 1 then (if inB x1 (lH h (rH h r0 22)) = true then (rec 10 [.ref r0, .int (x1 + 1)] [] (h.1, (upI h.2 (rH h r0 22) x1.toNatClampNeg 0))) else none) else none) else none))
theorem uX10_beginsAnew_10 {G : GG} {d : Nat} (hd : 10 ≤ d) (rec : Nat → List Value → List Value → Hp → RS) (hrec : ∀ pc loc st h o h', rec pc loc st h = some (o, h') → V G mX10_beginsAnew d pc loc st h o h')   {r0  x1 } {h : Hp} {o : OU} {h' : Hp} (e : kX10_beginsAnew_10 rec  r0 x1 h = some (o, h')) : V G mX10_beginsAnew d 10 [.ref r0, .int x1] [] h o h' := by
  unfold kX10_beginsAnew_10 at e
  refine bX10_beginsAnew_10 r0 x1 ?_
  refine ⟨fun c1 => ?_, fun c1 => ?_⟩
  · have e := if_t e c1
    exact hrec _ _ _ _ _ _ e
  · have e := if_f e c1
    obtain ⟨q2, e⟩ := ob_e e
    refine ⟨q2, ?_⟩
    obtain ⟨q3, e⟩ := ob_e e
    refine ⟨q3, ?_⟩
    obtain ⟨q4, e⟩ := ob_in e
    refine ⟨q4, ?_⟩
    exact hrec _ _ _ _ _ _ e
def kX10_beginsAnew_32 (rec : Nat → List Value → List Value → Hp → RS)  (r0 : Nat) (x1 : Int32) (h : Hp) : RS := (if 5 ≤ x1 then (if kH h r0 = 18 then (bI (fX10_byteOf 0 0 h) fun z4 h3 => (if kH h3 (rH h r0 22) = 1 then (if inB z4 (lH h3 (rH h r0 22)) = true then (if kH h3 r0 = 18 then (bI (fX10_byteOf 0 1 (h3.1, (upI h3.2 (rH h r0 22) z4.toNatClampNeg 1))) fun z10 h9 => (if kH h9 (rH h3 r0 22) = 1 then (if inB z10 (lH h9 (rH h3 r0 22)) = true then (if kH h9 r0 = 18 then (bI (fX10_byteOf 0 2 (h9.1, (upI h9.2 (rH h3 r0 22) z10.toNatClampNeg 2))) fun z16 h15 => (if kH h15 (rH h9 r0 22) = 1 then (if inB z16 (lH h15 (rH h9 r0 22)) = true then (if kH h15 r0 = 18 then (bV (fX10_safe (rH h15 r0 22) (h15.1, (upI h15.2 (rH h9 r0 22) z16.toNatClampNeg 4))) fun h21 => (rec 94 [.ref r0, .int 0] [] h21)) else none) else none) else none)) else none) else none) else none)) else none) else none) else none)) else none) else (if kH h r0 = 18 then (if kH h (rH h r0 22) = 1 then (if inB (0 + x1) (lH h (rH h r0 22)) = true then (rec 32 [.ref r0, .int (x1 + 1)] [] (h.1, (upI h.2 (rH h r0 22) (0 + x1).toNatClampNeg 1))) else none) else none) else none))
theorem uX10_beginsAnew_32 {G : GG} {d : Nat} (hd : 10 ≤ d) (rec : Nat → List Value → List Value → Hp → RS) (hrec : ∀ pc loc st h o h', rec pc loc st h = some (o, h') → V G mX10_beginsAnew d pc loc st h o h')   {r0  x1 } {h : Hp} {o : OU} {h' : Hp} (e : kX10_beginsAnew_32 rec  r0 x1 h = some (o, h')) : V G mX10_beginsAnew d 32 [.ref r0, .int x1] [] h o h' := by
  unfold kX10_beginsAnew_32 at e
  refine bX10_beginsAnew_32 r0 x1 (by omega) ?_
  refine ⟨fun c1 => ?_, fun c1 => ?_⟩
  · have e := if_t e c1
    obtain ⟨q2, e⟩ := ob_e e
    refine ⟨q2, ?_⟩
    obtain ⟨z4, h3, e3, e⟩ := bI_e e
    refine ⟨z4, h3, (tX10_byteOf e3 (by omega)), ?_⟩
    obtain ⟨q4, e⟩ := ob_e e
    refine ⟨q4, ?_⟩
    obtain ⟨q5, e⟩ := ob_in e
    refine ⟨q5, ?_⟩
    obtain ⟨q6, e⟩ := ob_e e
    refine ⟨q6, ?_⟩
    obtain ⟨z10, h9, e7, e⟩ := bI_e e
    refine ⟨z10, h9, (tX10_byteOf e7 (by omega)), ?_⟩
    obtain ⟨q8, e⟩ := ob_e e
    refine ⟨q8, ?_⟩
    obtain ⟨q9, e⟩ := ob_in e
    refine ⟨q9, ?_⟩
    obtain ⟨q10, e⟩ := ob_e e
    refine ⟨q10, ?_⟩
    obtain ⟨z16, h15, e11, e⟩ := bI_e e
    refine ⟨z16, h15, (tX10_byteOf e11 (by omega)), ?_⟩
    obtain ⟨q12, e⟩ := ob_e e
    refine ⟨q12, ?_⟩
    obtain ⟨q13, e⟩ := ob_in e
    refine ⟨q13, ?_⟩
    obtain ⟨q14, e⟩ := ob_e e
    refine ⟨q14, ?_⟩
    obtain ⟨h21, e15, e⟩ := bV_e e
    refine ⟨h21, (tX10_safe e15 (by omega)), ?_⟩
    exact hrec _ _ _ _ _ _ e
  · have e := if_f e c1
    obtain ⟨q16, e⟩ := ob_e e
    refine ⟨q16, ?_⟩
    obtain ⟨q17, e⟩ := ob_e e
    refine ⟨q17, ?_⟩
    obtain ⟨q18, e⟩ := ob_in e
    refine ⟨q18, ?_⟩
    exact hrec _ _ _ _ _ _ e
def kX10_beginsAnew_94 (rec : Nat → List Value → List Value → Hp → RS)  (r0 : Nat) (x1 : Int32) (h : Hp) : RS := (if kH h r0 = 18 then (if (h.2 r0 18) ≤ x1 then (if kH h (rH h r0 22) = 1 then (if inB 3394 (lH h (rH h r0 22)) = true then (some (.inl none, (h.1, (upI (upI (upI (upI (upI h.2 (rH h r0 22) 3394 0) r0 13 0) r0 14 0) r0 15 0) r0 16 0)))) else none) else none) else (if kH h (rH h r0 21) = 7 then (if inB x1 (lH h (rH h r0 21)) = true then (bI (fX10_does r0 (rH h r0 22) (rH h (rH h r0 21) x1.toNatClampNeg) h) fun z8 h7 => (if kH h7 r0 = 18 then (bV (fX10_safe (rH h7 r0 22) h7) fun h11 => (rec 94 [.ref r0, .int (x1 + 1)] [] h11)) else none)) else none) else none)) else none)
theorem uX10_beginsAnew_94 {G : GG} {d : Nat} (hd : 10 ≤ d) (rec : Nat → List Value → List Value → Hp → RS) (hrec : ∀ pc loc st h o h', rec pc loc st h = some (o, h') → V G mX10_beginsAnew d pc loc st h o h')   {r0  x1 } {h : Hp} {o : OU} {h' : Hp} (e : kX10_beginsAnew_94 rec  r0 x1 h = some (o, h')) : V G mX10_beginsAnew d 94 [.ref r0, .int x1] [] h o h' := by
  unfold kX10_beginsAnew_94 at e
  refine bX10_beginsAnew_94 r0 x1 (by omega) ?_
  obtain ⟨q1, e⟩ := ob_e e
  refine ⟨q1, ?_⟩
  refine ⟨fun c2 => ?_, fun c2 => ?_⟩
  · have e := if_t e c2
    obtain ⟨q3, e⟩ := ob_e e
    refine ⟨q3, ?_⟩
    obtain ⟨q4, e⟩ := ob_in e
    refine ⟨q4, ?_⟩
    cases e
    exact ⟨rfl, rfl⟩
  · have e := if_f e c2
    obtain ⟨q5, e⟩ := ob_e e
    refine ⟨q5, ?_⟩
    obtain ⟨q6, e⟩ := ob_in e
    refine ⟨q6, ?_⟩
    obtain ⟨z8, h7, e7, e⟩ := bI_e e
    refine ⟨z8, h7, (tX10_does e7 (by omega)), ?_⟩
    obtain ⟨q8, e⟩ := ob_e e
    refine ⟨q8, ?_⟩
    obtain ⟨h11, e9, e⟩ := bV_e e
    refine ⟨h11, (tX10_safe e9 (by omega)), ?_⟩
    exact hrec _ _ _ _ _ _ e
def sX10_beginsAnew  (rec : Nat → List Value → List Value → Hp → RS) (pc : Nat) (loc st : List Value) (h : Hp) : RS := match pc, loc, st with
  | 10, [.ref r0, .int x1], [] => kX10_beginsAnew_10 rec  r0 x1 h
  | 32, [.ref r0, .int x1], [] => kX10_beginsAnew_32 rec  r0 x1 h
  | 94, [.ref r0, .int x1], [] => kX10_beginsAnew_94 rec  r0 x1 h
  | _, _, _ => none
def gX10_beginsAnew  : Nat → Nat → List Value → List Value → Hp → RS
  | 0 => fun _ _ _ _ => none
  | n + 1 => sX10_beginsAnew  (gX10_beginsAnew  n)
theorem wX10_beginsAnew {G : GG} {d : Nat} (hd : 10 ≤ d)   : ∀ (n pc : Nat) (loc st : List Value) (h : Hp) (o : OU) (h' : Hp), gX10_beginsAnew  n pc loc st h = some (o, h') → V G mX10_beginsAnew d pc loc st h o h' := by
  intro n
  induction n with
  | zero => intro pc loc st h o h' e; cases e
  | succ n ih =>
    intro pc loc st h o h' e
    unfold gX10_beginsAnew sX10_beginsAnew at e
    split at e
    · exact uX10_beginsAnew_10 hd _ ih   e
    · exact uX10_beginsAnew_32 hd _ ih   e
    · exact uX10_beginsAnew_94 hd _ ih   e
    · cases e
theorem zX10_beginsAnew_10  (n : Nat) (r0 : Nat) (x1 : Int32)  (h : Hp) : gX10_beginsAnew  (n + 1) 10 [.ref r0, .int x1] [] h = kX10_beginsAnew_10 (gX10_beginsAnew  n)  r0 x1 h := rfl
theorem zX10_beginsAnew_32  (n : Nat) (r0 : Nat) (x1 : Int32)  (h : Hp) : gX10_beginsAnew  (n + 1) 32 [.ref r0, .int x1] [] h = kX10_beginsAnew_32 (gX10_beginsAnew  n)  r0 x1 h := rfl
theorem zX10_beginsAnew_94  (n : Nat) (r0 : Nat) (x1 : Int32)  (h : Hp) : gX10_beginsAnew  (n + 1) 94 [.ref r0, .int x1] [] h = kX10_beginsAnew_94 (gX10_beginsAnew  n)  r0 x1 h := rfl
def fX10_beginsAnew (r0 : Nat) (h : Hp) : RS := kX10_beginsAnew_0 (gX10_beginsAnew FF) r0 h
theorem tX10_beginsAnew {G : GG} {d : Nat} {r0} {h : Hp} {o : OU} {h' : Hp} (e : fX10_beginsAnew r0 h = some (o, h')) (hd : 10 ≤ d) : VM G mX10_beginsAnew d [.ref r0] h o h' := uX10_beginsAnew_0 hd _ (wX10_beginsAnew hd FF) e
def kX10_thrown_0  (r0 : Nat) (h : Hp) : RS := (if kH h r0 = 18 then (some (.inl (some (.int (h.2 r0 0))), h)) else none)
theorem uX10_thrown_0 {G : GG} {d : Nat} (hd : 1 ≤ d)   {r0 } {h : Hp} {o : OU} {h' : Hp} (e : kX10_thrown_0  r0 h = some (o, h')) : VM G mX10_thrown d [.ref r0] h o h' := by
  unfold kX10_thrown_0 at e
  refine eX10_thrown r0 ?_
  obtain ⟨q1, e⟩ := ob_e e
  refine ⟨q1, ?_⟩
  cases e
  exact ⟨rfl, rfl⟩
def fX10_thrown (r0 : Nat) (h : Hp) : RS := kX10_thrown_0 r0 h
theorem tX10_thrown {G : GG} {d : Nat} {r0} {h : Hp} {o : OU} {h' : Hp} (e : fX10_thrown r0 h = some (o, h')) (hd : 1 ≤ d) : VM G mX10_thrown d [.ref r0] h o h' := uX10_thrown_0 hd e
def kX10_bad_0  (r0 : Nat) (x1 : Int32) (x2 : Int32) (x3 : Int32) (h : Hp) : RS := (if x1 = 0 then (if kH h r0 = 18 then (if (h.2 r0 0) = 0 then (some (.inl (some (.int 0)), h)) else (some (.inl (some (.int 1)), h))) else none) else (if kH h r0 = 18 then (if ¬ (h.2 r0 0) = 0 then (if (h.2 r0 0) = 0 then (some (.inl (some (.int 0)), h)) else (some (.inl (some (.int 1)), h))) else (if kH h (rH h r0 10) = 1 then (if inB x3 (lH h (rH h r0 10)) = true then (if ((upI (upI h.2 r0 0 x2) (rH h r0 10) x3.toNatClampNeg (((upI h.2 r0 0 x2) (rH h r0 10) x3.toNatClampNeg) + 1)) r0 0) = 0 then (some (.inl (some (.int 0)), (h.1, (upI (upI h.2 r0 0 x2) (rH h r0 10) x3.toNatClampNeg (((upI h.2 r0 0 x2) (rH h r0 10) x3.toNatClampNeg) + 1))))) else (some (.inl (some (.int 1)), (h.1, (upI (upI h.2 r0 0 x2) (rH h r0 10) x3.toNatClampNeg (((upI h.2 r0 0 x2) (rH h r0 10) x3.toNatClampNeg) + 1)))))) else none) else none)) else none))
theorem uX10_bad_0 {G : GG} {d : Nat} (hd : 1 ≤ d)   {r0  x1  x2  x3 } {h : Hp} {o : OU} {h' : Hp} (e : kX10_bad_0  r0 x1 x2 x3 h = some (o, h')) : VM G mX10_bad d [.ref r0, .int x1, .int x2, .int x3] h o h' := by
  unfold kX10_bad_0 at e
  refine eX10_bad r0 x1 x2 x3 ?_
  refine ⟨fun c1 => ?_, fun c1 => ?_⟩
  · have e := if_t e c1
    obtain ⟨q2, e⟩ := ob_e e
    refine ⟨q2, ?_⟩
    refine ⟨fun c3 => ?_, fun c3 => ?_⟩
    · have e := if_t e c3
      cases e
      exact ⟨rfl, rfl⟩
    · have e := if_f e c3
      cases e
      exact ⟨rfl, rfl⟩
  · have e := if_f e c1
    obtain ⟨q4, e⟩ := ob_e e
    refine ⟨q4, ?_⟩
    refine ⟨fun c5 => ?_, fun c5 => ?_⟩
    · have e := if_t e c5
      refine ⟨fun c6 => ?_, fun c6 => ?_⟩
      · have e := if_t e c6
        cases e
        exact ⟨rfl, rfl⟩
      · have e := if_f e c6
        cases e
        exact ⟨rfl, rfl⟩
    · have e := if_n e c5
      obtain ⟨q7, e⟩ := ob_e e
      refine ⟨q7, ?_⟩
      obtain ⟨q8, e⟩ := ob_in e
      refine ⟨q8, ?_⟩
      refine ⟨fun c9 => ?_, fun c9 => ?_⟩
      · have e := if_t e c9
        cases e
        exact ⟨rfl, rfl⟩
      · have e := if_f e c9
        cases e
        exact ⟨rfl, rfl⟩
def fX10_bad (r0 : Nat) (x1 : Int32) (x2 : Int32) (x3 : Int32) (h : Hp) : RS := kX10_bad_0 r0 x1 x2 x3 h
theorem tX10_bad {G : GG} {d : Nat} {r0 x1 x2 x3} {h : Hp} {o : OU} {h' : Hp} (e : fX10_bad r0 x1 x2 x3 h = some (o, h')) (hd : 1 ≤ d) : VM G mX10_bad d [.ref r0, .int x1, .int x2, .int x3] h o h' := uX10_bad_0 hd e
def kX10_in_0  (x0 : Int32) (x1 : Int32) (x2 : Int32) (h : Hp) : RS := (if x0 < x1 then (some (.inl (some (.int 0)), h)) else (if x2 < x0 then (some (.inl (some (.int 0)), h)) else (some (.inl (some (.int 1)), h))))
theorem uX10_in_0 {G : GG} {d : Nat} (hd : 1 ≤ d)   {x0  x1  x2 } {h : Hp} {o : OU} {h' : Hp} (e : kX10_in_0  x0 x1 x2 h = some (o, h')) : VM G mX10_in d [.int x0, .int x1, .int x2] h o h' := by
  unfold kX10_in_0 at e
  refine eX10_in x0 x1 x2 ?_
  refine ⟨fun c1 => ?_, fun c1 => ?_⟩
  · have e := if_t e c1
    cases e
    exact ⟨rfl, rfl⟩
  · have e := if_f e c1
    refine ⟨fun c2 => ?_, fun c2 => ?_⟩
    · have e := if_t e c2
      cases e
      exact ⟨rfl, rfl⟩
    · have e := if_f e c2
      cases e
      exact ⟨rfl, rfl⟩
def fX10_in (x0 : Int32) (x1 : Int32) (x2 : Int32) (h : Hp) : RS := kX10_in_0 x0 x1 x2 h
theorem tX10_in {G : GG} {d : Nat} {x0 x1 x2} {h : Hp} {o : OU} {h' : Hp} (e : fX10_in x0 x1 x2 h = some (o, h')) (hd : 1 ≤ d) : VM G mX10_in d [.int x0, .int x1, .int x2] h o h' := uX10_in_0 hd e
def kX10_less_0  (x0 : Int32) (x1 : Int32) (h : Hp) : RS := (if x1 ≤ x0 then (some (.inl (some (.int x1)), h)) else (some (.inl (some (.int x0)), h)))
theorem uX10_less_0 {G : GG} {d : Nat} (hd : 1 ≤ d)   {x0  x1 } {h : Hp} {o : OU} {h' : Hp} (e : kX10_less_0  x0 x1 h = some (o, h')) : VM G mX10_less d [.int x0, .int x1] h o h' := by
  unfold kX10_less_0 at e
  refine eX10_less x0 x1 ?_
  refine ⟨fun c1 => ?_, fun c1 => ?_⟩
  · have e := if_t e c1
    cases e
    exact ⟨rfl, rfl⟩
  · have e := if_f e c1
    cases e
    exact ⟨rfl, rfl⟩
def fX10_less (x0 : Int32) (x1 : Int32) (h : Hp) : RS := kX10_less_0 x0 x1 h
theorem tX10_less {G : GG} {d : Nat} {x0 x1} {h : Hp} {o : OU} {h' : Hp} (e : fX10_less x0 x1 h = some (o, h')) (hd : 1 ≤ d) : VM G mX10_less d [.int x0, .int x1] h o h' := uX10_less_0 hd e
def kX10_more_0  (x0 : Int32) (x1 : Int32) (h : Hp) : RS := (if x0 ≤ x1 then (some (.inl (some (.int x1)), h)) else (some (.inl (some (.int x0)), h)))
theorem uX10_more_0 {G : GG} {d : Nat} (hd : 1 ≤ d)   {x0  x1 } {h : Hp} {o : OU} {h' : Hp} (e : kX10_more_0  x0 x1 h = some (o, h')) : VM G mX10_more d [.int x0, .int x1] h o h' := by
  unfold kX10_more_0 at e
  refine eX10_more x0 x1 ?_
  refine ⟨fun c1 => ?_, fun c1 => ?_⟩
  · have e := if_t e c1
    cases e
    exact ⟨rfl, rfl⟩
  · have e := if_f e c1
    cases e
    exact ⟨rfl, rfl⟩
def fX10_more (x0 : Int32) (x1 : Int32) (h : Hp) : RS := kX10_more_0 x0 x1 h
theorem tX10_more {G : GG} {d : Nat} {x0 x1} {h : Hp} {o : OU} {h' : Hp} (e : fX10_more x0 x1 h = some (o, h')) (hd : 1 ≤ d) : VM G mX10_more d [.int x0, .int x1] h o h' := uX10_more_0 hd e
def kX10_feed_0 (rec : Nat → List Value → List Value → Hp → RS)  (r0 : Nat) (x1 : Int32) (x2 : Int32) (x3 : Int32) (x4 : Int32) (x5 : Int32) (h : Hp) : RS := (if kH h r0 = 18 then (if (((upI h.2 r0 0 0) r0 1) + 20) ≤ 600 then (rec 23 [.ref r0, .int x1, .int x2, .int x3, .int x4, .int x5, .int 0, uV] [] (h.1, (upI h.2 r0 0 0))) else (some (.inl (some (.int (-1))), (h.1, (upI h.2 r0 0 0))))) else none)
theorem uX10_feed_0 {G : GG} {d : Nat} (hd : 1 ≤ d) (rec : Nat → List Value → List Value → Hp → RS) (hrec : ∀ pc loc st h o h', rec pc loc st h = some (o, h') → V G mX10_feed d pc loc st h o h')   {r0  x1  x2  x3  x4  x5 } {h : Hp} {o : OU} {h' : Hp} (e : kX10_feed_0 rec  r0 x1 x2 x3 x4 x5 h = some (o, h')) : VM G mX10_feed d [.ref r0, .int x1, .int x2, .int x3, .int x4, .int x5] h o h' := by
  unfold kX10_feed_0 at e
  refine eX10_feed r0 x1 x2 x3 x4 x5 ?_
  obtain ⟨q1, e⟩ := ob_e e
  refine ⟨q1, ?_⟩
  refine ⟨fun c2 => ?_, fun c2 => ?_⟩
  · have e := if_t e c2
    exact hrec _ _ _ _ _ _ e
  · have e := if_f e c2
    cases e
    exact ⟨rfl, rfl⟩
def kX10_feed_23 (rec : Nat → List Value → List Value → Hp → RS)  (r0 : Nat) (x1 : Int32) (x2 : Int32) (x3 : Int32) (x4 : Int32) (x5 : Int32) (x6 : Int32) (h : Hp) : RS := (if 20 ≤ x6 then (if kH h r0 = 18 then (some (.inl (some (.int (h.2 r0 1))), h)) else none) else (if 4 ≤ x6 then (if 8 ≤ x6 then (if 12 ≤ x6 then (if 16 ≤ x6 then (rec 76 [.ref r0, .int x1, .int x2, .int x3, .int x4, .int x5, .int x6, uV] [.int x5] h) else (rec 76 [.ref r0, .int x1, .int x2, .int x3, .int x4, .int x5, .int x6, uV] [.int x4] h)) else (rec 76 [.ref r0, .int x1, .int x2, .int x3, .int x4, .int x5, .int x6, uV] [.int x3] h)) else (rec 76 [.ref r0, .int x1, .int x2, .int x3, .int x4, .int x5, .int x6, uV] [.int x2] h)) else (rec 76 [.ref r0, .int x1, .int x2, .int x3, .int x4, .int x5, .int x6, uV] [.int x1] h)))
theorem uX10_feed_23 {G : GG} {d : Nat} (hd : 1 ≤ d) (rec : Nat → List Value → List Value → Hp → RS) (hrec : ∀ pc loc st h o h', rec pc loc st h = some (o, h') → V G mX10_feed d pc loc st h o h')   {r0  x1  x2  x3  x4  x5  x6 } {h : Hp} {o : OU} {h' : Hp} (e : kX10_feed_23 rec  r0 x1 x2 x3 x4 x5 x6 h = some (o, h')) : V G mX10_feed d 23 [.ref r0, .int x1, .int x2, .int x3, .int x4, .int x5, .int x6, uV] [] h o h' := by
  unfold kX10_feed_23 at e
  refine bX10_feed_23 r0 x1 x2 x3 x4 x5 x6 ?_
  refine ⟨fun c1 => ?_, fun c1 => ?_⟩
  · have e := if_t e c1
    obtain ⟨q2, e⟩ := ob_e e
    refine ⟨q2, ?_⟩
    cases e
    exact ⟨rfl, rfl⟩
  · have e := if_f e c1
    refine ⟨fun c3 => ?_, fun c3 => ?_⟩
    · have e := if_t e c3
      refine ⟨fun c4 => ?_, fun c4 => ?_⟩
      · have e := if_t e c4
        refine ⟨fun c5 => ?_, fun c5 => ?_⟩
        · have e := if_t e c5
          refine ⟨fun c6 => ?_, fun c6 => ?_⟩
          · have e := if_t e c6
            exact hrec _ _ _ _ _ _ e
          · have e := if_f e c6
            exact hrec _ _ _ _ _ _ e
        · have e := if_f e c5
          exact hrec _ _ _ _ _ _ e
      · have e := if_f e c4
        exact hrec _ _ _ _ _ _ e
    · have e := if_f e c3
      exact hrec _ _ _ _ _ _ e
def kX10_feed_76 (rec : Nat → List Value → List Value → Hp → RS)  (r0 : Nat) (x1 : Int32) (x2 : Int32) (x3 : Int32) (x4 : Int32) (x5 : Int32) (x6 : Int32) (s0 : Int32) (h : Hp) : RS := (if kH h r0 = 18 then (if kH h (rH h r0 9) = 1 then (if inB (h.2 r0 1) (lH h (rH h r0 9)) = true then (letH (upI (upI h.2 (rH h r0 9) (h.2 r0 1).toNatClampNeg ((s0 >>> ((24 - (8 * (x6 - x6 / 4 * 4))) &&& 31)) &&& 255)) r0 1 (((upI h.2 (rH h r0 9) (h.2 r0 1).toNatClampNeg ((s0 >>> ((24 - (8 * (x6 - x6 / 4 * 4))) &&& 31)) &&& 255)) r0 1) + 1)) fun (i4 : Nat → Nat → Int32) => (rec 23 [.ref r0, .int x1, .int x2, .int x3, .int x4, .int x5, .int (x6 + 1), uV] [] (h.1, i4))) else none) else none) else none)
theorem uX10_feed_76 {G : GG} {d : Nat} (hd : 1 ≤ d) (rec : Nat → List Value → List Value → Hp → RS) (hrec : ∀ pc loc st h o h', rec pc loc st h = some (o, h') → V G mX10_feed d pc loc st h o h')   {r0  x1  x2  x3  x4  x5  x6  s0 } {h : Hp} {o : OU} {h' : Hp} (e : kX10_feed_76 rec  r0 x1 x2 x3 x4 x5 x6 s0 h = some (o, h')) : V G mX10_feed d 76 [.ref r0, .int x1, .int x2, .int x3, .int x4, .int x5, .int x6, uV] [.int s0] h o h' := by
  unfold kX10_feed_76 at e
  refine bX10_feed_76 r0 x1 x2 x3 x4 x5 x6 s0 ?_
  obtain ⟨q1, e⟩ := ob_e e
  refine ⟨q1, ?_⟩
  obtain ⟨q2, e⟩ := ob_e e
  refine ⟨q2, ?_⟩
  obtain ⟨q3, e⟩ := ob_in e
  refine ⟨q3, ?_⟩
  intro i4 evi4
  have e := lt_e evi4 e
  exact hrec _ _ _ _ _ _ e
def sX10_feed  (rec : Nat → List Value → List Value → Hp → RS) (pc : Nat) (loc st : List Value) (h : Hp) : RS := match pc, loc, st with
  | 23, [.ref r0, .int x1, .int x2, .int x3, .int x4, .int x5, .int x6, _], [] => kX10_feed_23 rec  r0 x1 x2 x3 x4 x5 x6 h
  | 76, [.ref r0, .int x1, .int x2, .int x3, .int x4, .int x5, .int x6, _], [.int s0] => kX10_feed_76 rec  r0 x1 x2 x3 x4 x5 x6 s0 h
  | _, _, _ => none
def gX10_feed  : Nat → Nat → List Value → List Value → Hp → RS
  | 0 => fun _ _ _ _ => none
  | n + 1 => sX10_feed  (gX10_feed  n)
theorem wX10_feed {G : GG} {d : Nat} (hd : 1 ≤ d)   : ∀ (n pc : Nat) (loc st : List Value) (h : Hp) (o : OU) (h' : Hp), gX10_feed  n pc loc st h = some (o, h') → V G mX10_feed d pc loc st h o h' := by
  intro n
  induction n with
  | zero => intro pc loc st h o h' e; cases e
  | succ n ih =>
    intro pc loc st h o h' e
    unfold gX10_feed sX10_feed at e
    split at e
    · exact V.drop (llp_r (llp_r (llp_r (llp_r (llp_r (llp_r (llp_r (llp_u llp_nil)))))))) (uX10_feed_23 hd _ ih   e)
    · exact V.drop (llp_r (llp_r (llp_r (llp_r (llp_r (llp_r (llp_r (llp_u llp_nil)))))))) (uX10_feed_76 hd _ ih   e)
    · cases e
theorem zX10_feed_23  (n : Nat) (r0 : Nat) (x1 : Int32) (x2 : Int32) (x3 : Int32) (x4 : Int32) (x5 : Int32) (x6 : Int32) (y7 : Value) (h : Hp) : gX10_feed  (n + 1) 23 [.ref r0, .int x1, .int x2, .int x3, .int x4, .int x5, .int x6, y7] [] h = kX10_feed_23 (gX10_feed  n)  r0 x1 x2 x3 x4 x5 x6 h := rfl
theorem zX10_feed_76  (n : Nat) (r0 : Nat) (x1 : Int32) (x2 : Int32) (x3 : Int32) (x4 : Int32) (x5 : Int32) (x6 : Int32) (s0 : Int32) (y7 : Value) (h : Hp) : gX10_feed  (n + 1) 76 [.ref r0, .int x1, .int x2, .int x3, .int x4, .int x5, .int x6, y7] [.int s0] h = kX10_feed_76 (gX10_feed  n)  r0 x1 x2 x3 x4 x5 x6 s0 h := rfl
def fX10_feed (r0 : Nat) (x1 : Int32) (x2 : Int32) (x3 : Int32) (x4 : Int32) (x5 : Int32) (h : Hp) : RS := kX10_feed_0 (gX10_feed FF) r0 x1 x2 x3 x4 x5 h
theorem tX10_feed {G : GG} {d : Nat} {r0 x1 x2 x3 x4 x5} {h : Hp} {o : OU} {h' : Hp} (e : fX10_feed r0 x1 x2 x3 x4 x5 h = some (o, h')) (hd : 1 ≤ d) : VM G mX10_feed d [.ref r0, .int x1, .int x2, .int x3, .int x4, .int x5] h o h' := uX10_feed_0 hd _ (wX10_feed hd FF) e
def kX10_byteAt_0  (r0 : Nat) (x1 : Int32) (h : Hp) : RS := (if kH h r0 = 18 then (if x1 < (h.2 r0 2) then (if kH h (rH h r0 9) = 1 then (if inB x1 (lH h (rH h r0 9)) = true then (some (.inl (some (.int (h.2 (rH h r0 9) x1.toNatClampNeg))), h)) else none) else none) else (some (.inl (some (.int (-1))), h))) else none)
theorem uX10_byteAt_0 {G : GG} {d : Nat} (hd : 1 ≤ d)   {r0  x1 } {h : Hp} {o : OU} {h' : Hp} (e : kX10_byteAt_0  r0 x1 h = some (o, h')) : VM G mX10_byteAt d [.ref r0, .int x1] h o h' := by
  unfold kX10_byteAt_0 at e
  refine eX10_byteAt r0 x1 ?_
  obtain ⟨q1, e⟩ := ob_e e
  refine ⟨q1, ?_⟩
  refine ⟨fun c2 => ?_, fun c2 => ?_⟩
  · have e := if_t e c2
    obtain ⟨q3, e⟩ := ob_e e
    refine ⟨q3, ?_⟩
    obtain ⟨q4, e⟩ := ob_in e
    refine ⟨q4, ?_⟩
    cases e
    exact ⟨rfl, rfl⟩
  · have e := if_f e c2
    cases e
    exact ⟨rfl, rfl⟩
def fX10_byteAt (r0 : Nat) (x1 : Int32) (h : Hp) : RS := kX10_byteAt_0 r0 x1 h
theorem tX10_byteAt {G : GG} {d : Nat} {r0 x1} {h : Hp} {o : OU} {h' : Hp} (e : fX10_byteAt r0 x1 h = some (o, h')) (hd : 1 ≤ d) : VM G mX10_byteAt d [.ref r0, .int x1] h o h' := uX10_byteAt_0 hd e
def kX10_blanks_0 (rec : Nat → List Value → List Value → Hp → RS)  (r0 : Nat) (h : Hp) : RS := (if kH h r0 = 18 then (bI (fX10_byteAt r0 (h.2 r0 4) h) fun z3 h2 => (if ¬ z3 = 32 then (some (.inl none, h2)) else (if kH h2 r0 = 18 then (rec 0 [.ref r0] [] (h2.1, (upI h2.2 r0 4 ((h2.2 r0 4) + 1)))) else none))) else none)
theorem uX10_blanks_0 {G : GG} {d : Nat} (hd : 2 ≤ d) (rec : Nat → List Value → List Value → Hp → RS) (hrec : ∀ pc loc st h o h', rec pc loc st h = some (o, h') → V G mX10_blanks d pc loc st h o h')   {r0 } {h : Hp} {o : OU} {h' : Hp} (e : kX10_blanks_0 rec  r0 h = some (o, h')) : V G mX10_blanks d 0 [.ref r0] [] h o h' := by
  unfold kX10_blanks_0 at e
  refine bX10_blanks_0 r0 (by omega) ?_
  obtain ⟨q1, e⟩ := ob_e e
  refine ⟨q1, ?_⟩
  obtain ⟨z3, h2, e2, e⟩ := bI_e e
  refine ⟨z3, h2, (tX10_byteAt e2 (by omega)), ?_⟩
  refine ⟨fun c3 => ?_, fun c3 => ?_⟩
  · have e := if_t e c3
    cases e
    exact ⟨rfl, rfl⟩
  · have e := if_n e c3
    obtain ⟨q4, e⟩ := ob_e e
    refine ⟨q4, ?_⟩
    exact hrec _ _ _ _ _ _ e
def sX10_blanks  (rec : Nat → List Value → List Value → Hp → RS) (pc : Nat) (loc st : List Value) (h : Hp) : RS := match pc, loc, st with
  | 0, [.ref r0], [] => kX10_blanks_0 rec  r0 h
  | _, _, _ => none
def gX10_blanks  : Nat → Nat → List Value → List Value → Hp → RS
  | 0 => fun _ _ _ _ => none
  | n + 1 => sX10_blanks  (gX10_blanks  n)
theorem wX10_blanks {G : GG} {d : Nat} (hd : 2 ≤ d)   : ∀ (n pc : Nat) (loc st : List Value) (h : Hp) (o : OU) (h' : Hp), gX10_blanks  n pc loc st h = some (o, h') → V G mX10_blanks d pc loc st h o h' := by
  intro n
  induction n with
  | zero => intro pc loc st h o h' e; cases e
  | succ n ih =>
    intro pc loc st h o h' e
    unfold gX10_blanks sX10_blanks at e
    split at e
    · exact uX10_blanks_0 hd _ ih   e
    · cases e
theorem zX10_blanks_0  (n : Nat) (r0 : Nat)  (h : Hp) : gX10_blanks  (n + 1) 0 [.ref r0] [] h = kX10_blanks_0 (gX10_blanks  n)  r0 h := rfl
def fX10_blanks (r0 : Nat) (h : Hp) : RS := gX10_blanks FF 0 [.ref r0] [] h
theorem tX10_blanks {G : GG} {d : Nat} {r0} {h : Hp} {o : OU} {h' : Hp} (e : fX10_blanks r0 h = some (o, h')) (hd : 2 ≤ d) : VM G mX10_blanks d [.ref r0] h o h' := V.toM rfl rfl (le_l rfl) (cat_all rfl) (wX10_blanks hd FF 0 [.ref r0] [] h o h' e)
def kX10_wrong_0  (r0 : Nat) (x1 : Int32) (x2 : Int32) (h : Hp) : RS := (if kH h r0 = 18 then (if ¬ (h.2 r0 5) = 0 then (some (.inl none, h)) else (some (.inl none, (h.1, (upI (upI h.2 r0 5 x1) r0 6 x2))))) else none)
theorem uX10_wrong_0 {G : GG} {d : Nat} (hd : 1 ≤ d)   {r0  x1  x2 } {h : Hp} {o : OU} {h' : Hp} (e : kX10_wrong_0  r0 x1 x2 h = some (o, h')) : VM G mX10_wrong d [.ref r0, .int x1, .int x2] h o h' := by
  unfold kX10_wrong_0 at e
  refine eX10_wrong r0 x1 x2 ?_
  obtain ⟨q1, e⟩ := ob_e e
  refine ⟨q1, ?_⟩
  refine ⟨fun c2 => ?_, fun c2 => ?_⟩
  · have e := if_t e c2
    cases e
    exact ⟨rfl, rfl⟩
  · have e := if_n e c2
    cases e
    exact ⟨rfl, rfl⟩
def fX10_wrong (r0 : Nat) (x1 : Int32) (x2 : Int32) (h : Hp) : RS := kX10_wrong_0 r0 x1 x2 h
theorem tX10_wrong {G : GG} {d : Nat} {r0 x1 x2} {h : Hp} {o : OU} {h' : Hp} (e : fX10_wrong r0 x1 x2 h = some (o, h')) (hd : 1 ≤ d) : VM G mX10_wrong d [.ref r0, .int x1, .int x2] h o h' := uX10_wrong_0 hd e
def kX10_isDigit_0  (x0 : Int32) (h : Hp) : RS := (if x0 < 48 then (some (.inl (some (.int 0)), h)) else (if 57 < x0 then (some (.inl (some (.int 0)), h)) else (some (.inl (some (.int 1)), h))))
theorem uX10_isDigit_0 {G : GG} {d : Nat} (hd : 1 ≤ d)   {x0 } {h : Hp} {o : OU} {h' : Hp} (e : kX10_isDigit_0  x0 h = some (o, h')) : VM G mX10_isDigit d [.int x0] h o h' := by
  unfold kX10_isDigit_0 at e
  refine eX10_isDigit x0 ?_
  refine ⟨fun c1 => ?_, fun c1 => ?_⟩
  · have e := if_t e c1
    cases e
    exact ⟨rfl, rfl⟩
  · have e := if_f e c1
    refine ⟨fun c2 => ?_, fun c2 => ?_⟩
    · have e := if_t e c2
      cases e
      exact ⟨rfl, rfl⟩
    · have e := if_f e c2
      cases e
      exact ⟨rfl, rfl⟩
def fX10_isDigit (x0 : Int32) (h : Hp) : RS := kX10_isDigit_0 x0 h
theorem tX10_isDigit {G : GG} {d : Nat} {x0} {h : Hp} {o : OU} {h' : Hp} (e : fX10_isDigit x0 h = some (o, h')) (hd : 1 ≤ d) : VM G mX10_isDigit d [.int x0] h o h' := uX10_isDigit_0 hd e
def kX10_isSmall_0  (x0 : Int32) (h : Hp) : RS := (if x0 < 97 then (some (.inl (some (.int 0)), h)) else (if 122 < x0 then (some (.inl (some (.int 0)), h)) else (some (.inl (some (.int 1)), h))))
theorem uX10_isSmall_0 {G : GG} {d : Nat} (hd : 1 ≤ d)   {x0 } {h : Hp} {o : OU} {h' : Hp} (e : kX10_isSmall_0  x0 h = some (o, h')) : VM G mX10_isSmall d [.int x0] h o h' := by
  unfold kX10_isSmall_0 at e
  refine eX10_isSmall x0 ?_
  refine ⟨fun c1 => ?_, fun c1 => ?_⟩
  · have e := if_t e c1
    cases e
    exact ⟨rfl, rfl⟩
  · have e := if_f e c1
    refine ⟨fun c2 => ?_, fun c2 => ?_⟩
    · have e := if_t e c2
      cases e
      exact ⟨rfl, rfl⟩
    · have e := if_f e c2
      cases e
      exact ⟨rfl, rfl⟩
def fX10_isSmall (x0 : Int32) (h : Hp) : RS := kX10_isSmall_0 x0 h
theorem tX10_isSmall {G : GG} {d : Nat} {x0} {h : Hp} {o : OU} {h' : Hp} (e : fX10_isSmall x0 h = some (o, h')) (hd : 1 ≤ d) : VM G mX10_isSmall d [.int x0] h o h' := uX10_isSmall_0 hd e
def kX10_number_0 (rec : Nat → List Value → List Value → Hp → RS)  (r0 : Nat) (x1 : Int32) (x2 : Int32) (h : Hp) : RS := (if kH h r0 = 18 then (if (h.2 r0 5) = 0 then (bV (fX10_blanks r0 h) fun h3 => (if kH h3 r0 = 18 then (bI (fX10_byteAt r0 (h3.2 r0 4) h3) fun z7 h6 => (bI (fX10_isDigit z7 h6) fun z10 h9 => (if ¬ z10 = 0 then (rec 44 [.ref r0, .int x1, .int x2, .int (h3.2 r0 4), .int 0] [] h9) else (if kH h9 r0 = 18 then (bV (fX10_wrong r0 1 (h9.2 r0 4) h9) fun h14 => (rec 44 [.ref r0, .int x1, .int x2, .int (h3.2 r0 4), .int 0] [] h14)) else none)))) else none)) else (some (.inl (some (.int 0)), h))) else none)
theorem uX10_number_0 {G : GG} {d : Nat} (hd : 3 ≤ d) (rec : Nat → List Value → List Value → Hp → RS) (hrec : ∀ pc loc st h o h', rec pc loc st h = some (o, h') → V G mX10_number d pc loc st h o h')   {r0  x1  x2 } {h : Hp} {o : OU} {h' : Hp} (e : kX10_number_0 rec  r0 x1 x2 h = some (o, h')) : VM G mX10_number d [.ref r0, .int x1, .int x2] h o h' := by
  unfold kX10_number_0 at e
  refine eX10_number r0 x1 x2 (by omega) ?_
  obtain ⟨q1, e⟩ := ob_e e
  refine ⟨q1, ?_⟩
  refine ⟨fun c2 => ?_, fun c2 => ?_⟩
  · have e := if_t e c2
    obtain ⟨h3, e3, e⟩ := bV_e e
    refine ⟨h3, (tX10_blanks e3 (by omega)), ?_⟩
    obtain ⟨q4, e⟩ := ob_e e
    refine ⟨q4, ?_⟩
    obtain ⟨z7, h6, e5, e⟩ := bI_e e
    refine ⟨z7, h6, (tX10_byteAt e5 (by omega)), ?_⟩
    obtain ⟨z10, h9, e6, e⟩ := bI_e e
    refine ⟨z10, h9, (tX10_isDigit e6 (by omega)), ?_⟩
    refine ⟨fun c7 => ?_, fun c7 => ?_⟩
    · have e := if_t e c7
      exact hrec _ _ _ _ _ _ e
    · have e := if_n e c7
      obtain ⟨q8, e⟩ := ob_e e
      refine ⟨q8, ?_⟩
      obtain ⟨h14, e9, e⟩ := bV_e e
      refine ⟨h14, (tX10_wrong e9 (by omega)), ?_⟩
      exact hrec _ _ _ _ _ _ e
  · have e := if_f e c2
    cases e
    exact ⟨rfl, rfl⟩
def kX10_number_44 (rec : Nat → List Value → List Value → Hp → RS)  (r0 : Nat) (x1 : Int32) (x2 : Int32) (x3 : Int32) (x4 : Int32) (h : Hp) : RS := (if kH h r0 = 18 then (bI (fX10_byteAt r0 (h.2 r0 4) h) fun z3 h2 => (bI (fX10_isDigit z3 h2) fun z6 h5 => (if z6 = 0 then (bI (fX10_in x4 x1 x2 h5) fun z10 h9 => (if ¬ z10 = 0 then (if kH h9 r0 = 18 then (if ¬ (h9.2 r0 5) = 0 then (some (.inl (some (.int 0)), h9)) else (some (.inl (some (.int x4)), h9))) else none) else (if kH h9 r0 = 18 then (bV (fX10_wrong r0 2 x3 h9) fun h15 => (if kH h15 r0 = 18 then (if ¬ (h15.2 r0 5) = 0 then (some (.inl (some (.int 0)), h15)) else (some (.inl (some (.int x4)), h15))) else none)) else none))) else (if kH h5 r0 = 18 then (bI (fX10_byteAt r0 (h5.2 r0 4) h5) fun z22 h21 => (if (((10 * x4) + z22) - 48) ≤ 100000 then (if kH h21 r0 = 18 then (rec 44 [.ref r0, .int x1, .int x2, .int x3, .int (((10 * x4) + z22) - 48)] [] (h21.1, (upI h21.2 r0 4 ((h21.2 r0 4) + 1)))) else none) else (if kH h21 r0 = 18 then (rec 44 [.ref r0, .int x1, .int x2, .int x3, .int 100000] [] (h21.1, (upI h21.2 r0 4 ((h21.2 r0 4) + 1)))) else none))) else none)))) else none)
theorem uX10_number_44 {G : GG} {d : Nat} (hd : 3 ≤ d) (rec : Nat → List Value → List Value → Hp → RS) (hrec : ∀ pc loc st h o h', rec pc loc st h = some (o, h') → V G mX10_number d pc loc st h o h')   {r0  x1  x2  x3  x4 } {h : Hp} {o : OU} {h' : Hp} (e : kX10_number_44 rec  r0 x1 x2 x3 x4 h = some (o, h')) : V G mX10_number d 44 [.ref r0, .int x1, .int x2, .int x3, .int x4] [] h o h' := by
  unfold kX10_number_44 at e
  refine bX10_number_44 r0 x1 x2 x3 x4 (by omega) ?_
  obtain ⟨q1, e⟩ := ob_e e
  refine ⟨q1, ?_⟩
  obtain ⟨z3, h2, e2, e⟩ := bI_e e
  refine ⟨z3, h2, (tX10_byteAt e2 (by omega)), ?_⟩
  obtain ⟨z6, h5, e3, e⟩ := bI_e e
  refine ⟨z6, h5, (tX10_isDigit e3 (by omega)), ?_⟩
  refine ⟨fun c4 => ?_, fun c4 => ?_⟩
  · have e := if_t e c4
    obtain ⟨z10, h9, e5, e⟩ := bI_e e
    refine ⟨z10, h9, (tX10_in e5 (by omega)), ?_⟩
    refine ⟨fun c6 => ?_, fun c6 => ?_⟩
    · have e := if_t e c6
      obtain ⟨q7, e⟩ := ob_e e
      refine ⟨q7, ?_⟩
      refine ⟨fun c8 => ?_, fun c8 => ?_⟩
      · have e := if_t e c8
        cases e
        exact ⟨rfl, rfl⟩
      · have e := if_n e c8
        cases e
        exact ⟨rfl, rfl⟩
    · have e := if_n e c6
      obtain ⟨q9, e⟩ := ob_e e
      refine ⟨q9, ?_⟩
      obtain ⟨h15, e10, e⟩ := bV_e e
      refine ⟨h15, (tX10_wrong e10 (by omega)), ?_⟩
      obtain ⟨q11, e⟩ := ob_e e
      refine ⟨q11, ?_⟩
      refine ⟨fun c12 => ?_, fun c12 => ?_⟩
      · have e := if_t e c12
        cases e
        exact ⟨rfl, rfl⟩
      · have e := if_n e c12
        cases e
        exact ⟨rfl, rfl⟩
  · have e := if_f e c4
    obtain ⟨q13, e⟩ := ob_e e
    refine ⟨q13, ?_⟩
    obtain ⟨z22, h21, e14, e⟩ := bI_e e
    refine ⟨z22, h21, (tX10_byteAt e14 (by omega)), ?_⟩
    refine ⟨fun c15 => ?_, fun c15 => ?_⟩
    · have e := if_t e c15
      obtain ⟨q16, e⟩ := ob_e e
      refine ⟨q16, ?_⟩
      exact hrec _ _ _ _ _ _ e
    · have e := if_f e c15
      obtain ⟨q17, e⟩ := ob_e e
      refine ⟨q17, ?_⟩
      exact hrec _ _ _ _ _ _ e
def sX10_number  (rec : Nat → List Value → List Value → Hp → RS) (pc : Nat) (loc st : List Value) (h : Hp) : RS := match pc, loc, st with
  | 44, [.ref r0, .int x1, .int x2, .int x3, .int x4], [] => kX10_number_44 rec  r0 x1 x2 x3 x4 h
  | _, _, _ => none
def gX10_number  : Nat → Nat → List Value → List Value → Hp → RS
  | 0 => fun _ _ _ _ => none
  | n + 1 => sX10_number  (gX10_number  n)
theorem wX10_number {G : GG} {d : Nat} (hd : 3 ≤ d)   : ∀ (n pc : Nat) (loc st : List Value) (h : Hp) (o : OU) (h' : Hp), gX10_number  n pc loc st h = some (o, h') → V G mX10_number d pc loc st h o h' := by
  intro n
  induction n with
  | zero => intro pc loc st h o h' e; cases e
  | succ n ih =>
    intro pc loc st h o h' e
    unfold gX10_number sX10_number at e
    split at e
    · exact uX10_number_44 hd _ ih   e
    · cases e
theorem zX10_number_44  (n : Nat) (r0 : Nat) (x1 : Int32) (x2 : Int32) (x3 : Int32) (x4 : Int32)  (h : Hp) : gX10_number  (n + 1) 44 [.ref r0, .int x1, .int x2, .int x3, .int x4] [] h = kX10_number_44 (gX10_number  n)  r0 x1 x2 x3 x4 h := rfl
def fX10_number (r0 : Nat) (x1 : Int32) (x2 : Int32) (h : Hp) : RS := kX10_number_0 (gX10_number FF) r0 x1 x2 h
theorem tX10_number {G : GG} {d : Nat} {r0 x1 x2} {h : Hp} {o : OU} {h' : Hp} (e : fX10_number r0 x1 x2 h = some (o, h')) (hd : 3 ≤ d) : VM G mX10_number d [.ref r0, .int x1, .int x2] h o h' := uX10_number_0 hd _ (wX10_number hd FF) e
def kX10_wordHere_0 (rec : Nat → List Value → List Value → Hp → RS)  (r0 : Nat) (h : Hp) : RS := (if kH h r0 = 18 then (bV (fX10_blanks r0 h) fun h1 => (rec 8 [.ref r0, .int 0, .int 0] [] h1)) else none)
theorem uX10_wordHere_0 {G : GG} {d : Nat} (hd : 3 ≤ d) (rec : Nat → List Value → List Value → Hp → RS) (hrec : ∀ pc loc st h o h', rec pc loc st h = some (o, h') → V G mX10_wordHere d pc loc st h o h')   {r0 } {h : Hp} {o : OU} {h' : Hp} (e : kX10_wordHere_0 rec  r0 h = some (o, h')) : VM G mX10_wordHere d [.ref r0] h o h' := by
  unfold kX10_wordHere_0 at e
  refine eX10_wordHere r0 (by omega) ?_
  obtain ⟨q1, e⟩ := ob_e e
  refine ⟨q1, ?_⟩
  obtain ⟨h1, e2, e⟩ := bV_e e
  refine ⟨h1, (tX10_blanks e2 (by omega)), ?_⟩
  exact hrec _ _ _ _ _ _ e
def kX10_wordHere_8 (rec : Nat → List Value → List Value → Hp → RS)  (r0 : Nat) (x1 : Int32) (x2 : Int32) (h : Hp) : RS := (if kH h r0 = 18 then (bI (fX10_byteAt r0 ((h.2 r0 4) + x2) h) fun z3 h2 => (bI (fX10_isSmall z3 h2) fun z6 h5 => (if z6 = 0 then (if x2 ≤ 6 then (some (.inl (some (.int x1)), h5)) else (some (.inl (some (.int (-1))), h5))) else (if 6 ≤ x2 then (rec 8 [.ref r0, .int x1, .int (x2 + 1)] [] h5) else (if kH h5 r0 = 18 then (bI (fX10_byteAt r0 ((h5.2 r0 4) + x2) h5) fun z13 h12 => (rec 8 [.ref r0, .int ((((27 * x1) + z13) - 97) + 1), .int (x2 + 1)] [] h12)) else none))))) else none)
theorem uX10_wordHere_8 {G : GG} {d : Nat} (hd : 3 ≤ d) (rec : Nat → List Value → List Value → Hp → RS) (hrec : ∀ pc loc st h o h', rec pc loc st h = some (o, h') → V G mX10_wordHere d pc loc st h o h')   {r0  x1  x2 } {h : Hp} {o : OU} {h' : Hp} (e : kX10_wordHere_8 rec  r0 x1 x2 h = some (o, h')) : V G mX10_wordHere d 8 [.ref r0, .int x1, .int x2] [] h o h' := by
  unfold kX10_wordHere_8 at e
  refine bX10_wordHere_8 r0 x1 x2 (by omega) ?_
  obtain ⟨q1, e⟩ := ob_e e
  refine ⟨q1, ?_⟩
  obtain ⟨z3, h2, e2, e⟩ := bI_e e
  refine ⟨z3, h2, (tX10_byteAt e2 (by omega)), ?_⟩
  obtain ⟨z6, h5, e3, e⟩ := bI_e e
  refine ⟨z6, h5, (tX10_isSmall e3 (by omega)), ?_⟩
  refine ⟨fun c4 => ?_, fun c4 => ?_⟩
  · have e := if_t e c4
    refine ⟨fun c5 => ?_, fun c5 => ?_⟩
    · have e := if_t e c5
      cases e
      exact ⟨rfl, rfl⟩
    · have e := if_f e c5
      cases e
      exact ⟨rfl, rfl⟩
  · have e := if_f e c4
    refine ⟨fun c6 => ?_, fun c6 => ?_⟩
    · have e := if_t e c6
      exact hrec _ _ _ _ _ _ e
    · have e := if_f e c6
      obtain ⟨q7, e⟩ := ob_e e
      refine ⟨q7, ?_⟩
      obtain ⟨z13, h12, e8, e⟩ := bI_e e
      refine ⟨z13, h12, (tX10_byteAt e8 (by omega)), ?_⟩
      exact hrec _ _ _ _ _ _ e
def sX10_wordHere  (rec : Nat → List Value → List Value → Hp → RS) (pc : Nat) (loc st : List Value) (h : Hp) : RS := match pc, loc, st with
  | 8, [.ref r0, .int x1, .int x2], [] => kX10_wordHere_8 rec  r0 x1 x2 h
  | _, _, _ => none
def gX10_wordHere  : Nat → Nat → List Value → List Value → Hp → RS
  | 0 => fun _ _ _ _ => none
  | n + 1 => sX10_wordHere  (gX10_wordHere  n)
theorem wX10_wordHere {G : GG} {d : Nat} (hd : 3 ≤ d)   : ∀ (n pc : Nat) (loc st : List Value) (h : Hp) (o : OU) (h' : Hp), gX10_wordHere  n pc loc st h = some (o, h') → V G mX10_wordHere d pc loc st h o h' := by
  intro n
  induction n with
  | zero => intro pc loc st h o h' e; cases e
  | succ n ih =>
    intro pc loc st h o h' e
    unfold gX10_wordHere sX10_wordHere at e
    split at e
    · exact uX10_wordHere_8 hd _ ih   e
    · cases e
theorem zX10_wordHere_8  (n : Nat) (r0 : Nat) (x1 : Int32) (x2 : Int32)  (h : Hp) : gX10_wordHere  (n + 1) 8 [.ref r0, .int x1, .int x2] [] h = kX10_wordHere_8 (gX10_wordHere  n)  r0 x1 x2 h := rfl
def fX10_wordHere (r0 : Nat) (h : Hp) : RS := kX10_wordHere_0 (gX10_wordHere FF) r0 h
theorem tX10_wordHere {G : GG} {d : Nat} {r0} {h : Hp} {o : OU} {h' : Hp} (e : fX10_wordHere r0 h = some (o, h')) (hd : 3 ≤ d) : VM G mX10_wordHere d [.ref r0] h o h' := uX10_wordHere_0 hd _ (wX10_wordHere hd FF) e
def kX10_six_0  (x0 : Int32) (x1 : Int32) (x2 : Int32) (x3 : Int32) (x4 : Int32) (x5 : Int32) (h : Hp) : RS := (if ¬ x3 = 0 then (if ¬ x4 = 0 then (if ¬ x5 = 0 then (some (.inl (some (.int ((27 * ((27 * ((27 * ((27 * ((27 * x0) + x1)) + x2)) + x3)) + x4)) + x5))), h)) else (some (.inl (some (.int ((27 * ((27 * ((27 * ((27 * x0) + x1)) + x2)) + x3)) + x4))), h))) else (if ¬ x5 = 0 then (some (.inl (some (.int ((27 * ((27 * ((27 * ((27 * x0) + x1)) + x2)) + x3)) + x5))), h)) else (some (.inl (some (.int ((27 * ((27 * ((27 * x0) + x1)) + x2)) + x3))), h)))) else (if ¬ x4 = 0 then (if ¬ x5 = 0 then (some (.inl (some (.int ((27 * ((27 * ((27 * ((27 * x0) + x1)) + x2)) + x4)) + x5))), h)) else (some (.inl (some (.int ((27 * ((27 * ((27 * x0) + x1)) + x2)) + x4))), h))) else (if ¬ x5 = 0 then (some (.inl (some (.int ((27 * ((27 * ((27 * x0) + x1)) + x2)) + x5))), h)) else (some (.inl (some (.int ((27 * ((27 * x0) + x1)) + x2))), h)))))
theorem uX10_six_0 {G : GG} {d : Nat} (hd : 1 ≤ d)   {x0  x1  x2  x3  x4  x5 } {h : Hp} {o : OU} {h' : Hp} (e : kX10_six_0  x0 x1 x2 x3 x4 x5 h = some (o, h')) : VM G mX10_six d [.int x0, .int x1, .int x2, .int x3, .int x4, .int x5] h o h' := by
  unfold kX10_six_0 at e
  refine eX10_six x0 x1 x2 x3 x4 x5 ?_
  refine ⟨fun c1 => ?_, fun c1 => ?_⟩
  · have e := if_t e c1
    refine ⟨fun c2 => ?_, fun c2 => ?_⟩
    · have e := if_t e c2
      refine ⟨fun c3 => ?_, fun c3 => ?_⟩
      · have e := if_t e c3
        cases e
        exact ⟨rfl, rfl⟩
      · have e := if_n e c3
        cases e
        exact ⟨rfl, rfl⟩
    · have e := if_n e c2
      refine ⟨fun c4 => ?_, fun c4 => ?_⟩
      · have e := if_t e c4
        cases e
        exact ⟨rfl, rfl⟩
      · have e := if_n e c4
        cases e
        exact ⟨rfl, rfl⟩
  · have e := if_n e c1
    refine ⟨fun c5 => ?_, fun c5 => ?_⟩
    · have e := if_t e c5
      refine ⟨fun c6 => ?_, fun c6 => ?_⟩
      · have e := if_t e c6
        cases e
        exact ⟨rfl, rfl⟩
      · have e := if_n e c6
        cases e
        exact ⟨rfl, rfl⟩
    · have e := if_n e c5
      refine ⟨fun c7 => ?_, fun c7 => ?_⟩
      · have e := if_t e c7
        cases e
        exact ⟨rfl, rfl⟩
      · have e := if_n e c7
        cases e
        exact ⟨rfl, rfl⟩
def fX10_six (x0 : Int32) (x1 : Int32) (x2 : Int32) (x3 : Int32) (x4 : Int32) (x5 : Int32) (h : Hp) : RS := kX10_six_0 x0 x1 x2 x3 x4 x5 h
theorem tX10_six {G : GG} {d : Nat} {x0 x1 x2 x3 x4 x5} {h : Hp} {o : OU} {h' : Hp} (e : fX10_six x0 x1 x2 x3 x4 x5 h = some (o, h')) (hd : 1 ≤ d) : VM G mX10_six d [.int x0, .int x1, .int x2, .int x3, .int x4, .int x5] h o h' := uX10_six_0 hd e
def kX10_isWord_0  (r0 : Nat) (x1 : Int32) (x2 : Int32) (x3 : Int32) (x4 : Int32) (x5 : Int32) (x6 : Int32) (h : Hp) : RS := (if kH h r0 = 18 then (if ¬ (h.2 r0 5) = 0 then (some (.inl (some (.int 0)), h)) else (bI (fX10_wordHere r0 h) fun z4 h3 => (bI (fX10_six x1 x2 x3 x4 x5 x6 h3) fun z7 h6 => (if ¬ z4 = z7 then (some (.inl (some (.int 0)), h6)) else (some (.inl (some (.int 1)), h6)))))) else none)
theorem uX10_isWord_0 {G : GG} {d : Nat} (hd : 4 ≤ d)   {r0  x1  x2  x3  x4  x5  x6 } {h : Hp} {o : OU} {h' : Hp} (e : kX10_isWord_0  r0 x1 x2 x3 x4 x5 x6 h = some (o, h')) : VM G mX10_isWord d [.ref r0, .int x1, .int x2, .int x3, .int x4, .int x5, .int x6] h o h' := by
  unfold kX10_isWord_0 at e
  refine eX10_isWord r0 x1 x2 x3 x4 x5 x6 (by omega) ?_
  obtain ⟨q1, e⟩ := ob_e e
  refine ⟨q1, ?_⟩
  refine ⟨fun c2 => ?_, fun c2 => ?_⟩
  · have e := if_t e c2
    cases e
    exact ⟨rfl, rfl⟩
  · have e := if_n e c2
    obtain ⟨z4, h3, e3, e⟩ := bI_e e
    refine ⟨z4, h3, (tX10_wordHere e3 (by omega)), ?_⟩
    obtain ⟨z7, h6, e4, e⟩ := bI_e e
    refine ⟨z7, h6, (tX10_six e4 (by omega)), ?_⟩
    refine ⟨fun c5 => ?_, fun c5 => ?_⟩
    · have e := if_t e c5
      cases e
      exact ⟨rfl, rfl⟩
    · have e := if_n e c5
      cases e
      exact ⟨rfl, rfl⟩
def fX10_isWord (r0 : Nat) (x1 : Int32) (x2 : Int32) (x3 : Int32) (x4 : Int32) (x5 : Int32) (x6 : Int32) (h : Hp) : RS := kX10_isWord_0 r0 x1 x2 x3 x4 x5 x6 h
theorem tX10_isWord {G : GG} {d : Nat} {r0 x1 x2 x3 x4 x5 x6} {h : Hp} {o : OU} {h' : Hp} (e : fX10_isWord r0 x1 x2 x3 x4 x5 x6 h = some (o, h')) (hd : 4 ≤ d) : VM G mX10_isWord d [.ref r0, .int x1, .int x2, .int x3, .int x4, .int x5, .int x6] h o h' := uX10_isWord_0 hd e
def kX10_skipWord_0 (rec : Nat → List Value → List Value → Hp → RS)  (r0 : Nat) (h : Hp) : RS := (if kH h r0 = 18 then (bI (fX10_byteAt r0 (h.2 r0 4) h) fun z3 h2 => (bI (fX10_isSmall z3 h2) fun z6 h5 => (if z6 = 0 then (some (.inl none, h5)) else (if kH h5 r0 = 18 then (rec 0 [.ref r0] [] (h5.1, (upI h5.2 r0 4 ((h5.2 r0 4) + 1)))) else none)))) else none)
theorem uX10_skipWord_0 {G : GG} {d : Nat} (hd : 2 ≤ d) (rec : Nat → List Value → List Value → Hp → RS) (hrec : ∀ pc loc st h o h', rec pc loc st h = some (o, h') → V G mX10_skipWord d pc loc st h o h')   {r0 } {h : Hp} {o : OU} {h' : Hp} (e : kX10_skipWord_0 rec  r0 h = some (o, h')) : V G mX10_skipWord d 0 [.ref r0] [] h o h' := by
  unfold kX10_skipWord_0 at e
  refine bX10_skipWord_0 r0 (by omega) ?_
  obtain ⟨q1, e⟩ := ob_e e
  refine ⟨q1, ?_⟩
  obtain ⟨z3, h2, e2, e⟩ := bI_e e
  refine ⟨z3, h2, (tX10_byteAt e2 (by omega)), ?_⟩
  obtain ⟨z6, h5, e3, e⟩ := bI_e e
  refine ⟨z6, h5, (tX10_isSmall e3 (by omega)), ?_⟩
  refine ⟨fun c4 => ?_, fun c4 => ?_⟩
  · have e := if_t e c4
    cases e
    exact ⟨rfl, rfl⟩
  · have e := if_f e c4
    obtain ⟨q5, e⟩ := ob_e e
    refine ⟨q5, ?_⟩
    exact hrec _ _ _ _ _ _ e
def sX10_skipWord  (rec : Nat → List Value → List Value → Hp → RS) (pc : Nat) (loc st : List Value) (h : Hp) : RS := match pc, loc, st with
  | 0, [.ref r0], [] => kX10_skipWord_0 rec  r0 h
  | _, _, _ => none
def gX10_skipWord  : Nat → Nat → List Value → List Value → Hp → RS
  | 0 => fun _ _ _ _ => none
  | n + 1 => sX10_skipWord  (gX10_skipWord  n)
theorem wX10_skipWord {G : GG} {d : Nat} (hd : 2 ≤ d)   : ∀ (n pc : Nat) (loc st : List Value) (h : Hp) (o : OU) (h' : Hp), gX10_skipWord  n pc loc st h = some (o, h') → V G mX10_skipWord d pc loc st h o h' := by
  intro n
  induction n with
  | zero => intro pc loc st h o h' e; cases e
  | succ n ih =>
    intro pc loc st h o h' e
    unfold gX10_skipWord sX10_skipWord at e
    split at e
    · exact uX10_skipWord_0 hd _ ih   e
    · cases e
theorem zX10_skipWord_0  (n : Nat) (r0 : Nat)  (h : Hp) : gX10_skipWord  (n + 1) 0 [.ref r0] [] h = kX10_skipWord_0 (gX10_skipWord  n)  r0 h := rfl
def fX10_skipWord (r0 : Nat) (h : Hp) : RS := gX10_skipWord FF 0 [.ref r0] [] h
theorem tX10_skipWord {G : GG} {d : Nat} {r0} {h : Hp} {o : OU} {h' : Hp} (e : fX10_skipWord r0 h = some (o, h')) (hd : 2 ≤ d) : VM G mX10_skipWord d [.ref r0] h o h' := V.toM rfl rfl (le_l rfl) (cat_all rfl) (wX10_skipWord hd FF 0 [.ref r0] [] h o h' e)
def kX10_sign_0  (r0 : Nat) (x1 : Int32) (h : Hp) : RS := (if kH h r0 = 18 then (if (h.2 r0 5) = 0 then (bV (fX10_blanks r0 h) fun h3 => (if kH h3 r0 = 18 then (bI (fX10_byteAt r0 (h3.2 r0 4) h3) fun z7 h6 => (if ¬ z7 = x1 then (if kH h6 r0 = 18 then (bV (fX10_wrong r0 1 (h6.2 r0 4) h6) fun h11 => (some (.inl none, h11))) else none) else (if kH h6 r0 = 18 then (some (.inl none, (h6.1, (upI h6.2 r0 4 ((h6.2 r0 4) + 1))))) else none))) else none)) else (some (.inl none, h))) else none)
theorem uX10_sign_0 {G : GG} {d : Nat} (hd : 3 ≤ d)   {r0  x1 } {h : Hp} {o : OU} {h' : Hp} (e : kX10_sign_0  r0 x1 h = some (o, h')) : VM G mX10_sign d [.ref r0, .int x1] h o h' := by
  unfold kX10_sign_0 at e
  refine eX10_sign r0 x1 (by omega) ?_
  obtain ⟨q1, e⟩ := ob_e e
  refine ⟨q1, ?_⟩
  refine ⟨fun c2 => ?_, fun c2 => ?_⟩
  · have e := if_t e c2
    obtain ⟨h3, e3, e⟩ := bV_e e
    refine ⟨h3, (tX10_blanks e3 (by omega)), ?_⟩
    obtain ⟨q4, e⟩ := ob_e e
    refine ⟨q4, ?_⟩
    obtain ⟨z7, h6, e5, e⟩ := bI_e e
    refine ⟨z7, h6, (tX10_byteAt e5 (by omega)), ?_⟩
    refine ⟨fun c6 => ?_, fun c6 => ?_⟩
    · have e := if_t e c6
      obtain ⟨q7, e⟩ := ob_e e
      refine ⟨q7, ?_⟩
      obtain ⟨h11, e8, e⟩ := bV_e e
      refine ⟨h11, (tX10_wrong e8 (by omega)), ?_⟩
      cases e
      exact ⟨rfl, rfl⟩
    · have e := if_n e c6
      obtain ⟨q9, e⟩ := ob_e e
      refine ⟨q9, ?_⟩
      cases e
      exact ⟨rfl, rfl⟩
  · have e := if_f e c2
    cases e
    exact ⟨rfl, rfl⟩
def fX10_sign (r0 : Nat) (x1 : Int32) (h : Hp) : RS := kX10_sign_0 r0 x1 h
theorem tX10_sign {G : GG} {d : Nat} {r0 x1} {h : Hp} {o : OU} {h' : Hp} (e : fX10_sign r0 x1 h = some (o, h')) (hd : 3 ≤ d) : VM G mX10_sign d [.ref r0, .int x1] h o h' := uX10_sign_0 hd e
def kX10_starts_0  (r0 : Nat) (x1 : Int32) (h : Hp) : RS := (if kH h r0 = 18 then (bV (fX10_blanks r0 (h.1, (upI (upI (upI (upI (upI (upI (upI h.2 r0 1 0) r0 2 x1) r0 4 0) r0 5 0) r0 6 (-1)) r0 7 0) r0 8 0))) fun h2 => (some (.inl none, h2))) else none)
theorem uX10_starts_0 {G : GG} {d : Nat} (hd : 3 ≤ d)   {r0  x1 } {h : Hp} {o : OU} {h' : Hp} (e : kX10_starts_0  r0 x1 h = some (o, h')) : VM G mX10_starts d [.ref r0, .int x1] h o h' := by
  unfold kX10_starts_0 at e
  refine eX10_starts r0 x1 (by omega) ?_
  obtain ⟨q1, e⟩ := ob_e e
  refine ⟨q1, ?_⟩
  obtain ⟨h2, e2, e⟩ := bV_e e
  refine ⟨h2, (tX10_blanks e2 (by omega)), ?_⟩
  cases e
  exact ⟨rfl, rfl⟩
def fX10_starts (r0 : Nat) (x1 : Int32) (h : Hp) : RS := kX10_starts_0 r0 x1 h
theorem tX10_starts {G : GG} {d : Nat} {r0 x1} {h : Hp} {o : OU} {h' : Hp} (e : fX10_starts r0 x1 h = some (o, h')) (hd : 3 ≤ d) : VM G mX10_starts d [.ref r0, .int x1] h o h' := uX10_starts_0 hd e
def kX10_ends_0  (r0 : Nat) (h : Hp) : RS := (if kH h r0 = 18 then (some (.inl (some (.int (((upI h.2 r0 3 (h.2 r0 6)) r0 5) - 10))), (h.1, (upI h.2 r0 3 (h.2 r0 6))))) else none)
theorem uX10_ends_0 {G : GG} {d : Nat} (hd : 1 ≤ d)   {r0 } {h : Hp} {o : OU} {h' : Hp} (e : kX10_ends_0  r0 h = some (o, h')) : VM G mX10_ends d [.ref r0] h o h' := by
  unfold kX10_ends_0 at e
  refine eX10_ends r0 ?_
  obtain ⟨q1, e⟩ := ob_e e
  refine ⟨q1, ?_⟩
  cases e
  exact ⟨rfl, rfl⟩
def fX10_ends (r0 : Nat) (h : Hp) : RS := kX10_ends_0 r0 h
theorem tX10_ends {G : GG} {d : Nat} {r0} {h : Hp} {o : OU} {h' : Hp} (e : fX10_ends r0 h = some (o, h')) (hd : 1 ≤ d) : VM G mX10_ends d [.ref r0] h o h' := uX10_ends_0 hd e
