def kX8_depthOf_0 (rec : Nat → List Value → List Value → Hp → RS) (FX8_depthOf : Nat → Int32 → Int32 → Nat → Int32 → Hp → RS) (r0 : Nat) (x1 : Int32) (x2 : Int32) (r3 : Nat) (x4 : Int32) (h : Hp) : RS := (if kH h r0 = 15 then (bI (fX5_isDirectory r0 x1 x2 h) fun z2 h1 => (if z2 = 0 then (some (.inl (some (.int 0)), h1)) else (if kH h1 r3 = 1 then (if ((lH h1 r3).toInt32) ≤ x2 then (some (.inl (some (.int 0)), h1)) else (if x4 < 12 then (if inB x2 (lH h1 r3) = true then (if (h1.2 r3 x2.toNatClampNeg) = (-1) then (rec 41 [.ref r0, .int x1, .int x2, .ref r3, .int x4, .int 0, .int 0, uV] [] h1) else (some (.inl (some (.int (h1.2 r3 x2.toNatClampNeg))), h1))) else none) else (some (.inl (some (.int 0)), h1)))) else none))) else none)
theorem uX8_depthOf_0 {G : GG} {d : Nat} (hd : 3 ≤ d) (rec : Nat → List Value → List Value → Hp → RS) (hrec : ∀ pc loc st h o h', rec pc loc st h = some (o, h') → V G mX8_depthOf d pc loc st h o h') (FX8_depthOf : Nat → Int32 → Int32 → Nat → Int32 → Hp → RS) (TFX8_depthOf : ∀ {a0 a1 a2 a3 a4} {h : Hp} {o : OU} {h' : Hp}, FX8_depthOf a0 a1 a2 a3 a4 h = some (o, h') → VM G mX8_depthOf (d - 1) [.ref a0, .int a1, .int a2, .ref a3, .int a4] h o h') {r0  x1  x2  r3  x4 } {h : Hp} {o : OU} {h' : Hp} (e : kX8_depthOf_0 rec FX8_depthOf r0 x1 x2 r3 x4 h = some (o, h')) : VM G mX8_depthOf d [.ref r0, .int x1, .int x2, .ref r3, .int x4] h o h' := by
  unfold kX8_depthOf_0 at e
  refine eX8_depthOf r0 x1 x2 r3 x4 (by omega) ?_
  obtain ⟨q1, e⟩ := ob_e e
  refine ⟨q1, ?_⟩
  obtain ⟨z2, h1, e2, e⟩ := bI_e e
  refine ⟨z2, h1, (tX5_isDirectory e2 (by omega)), ?_⟩
  refine ⟨fun c3 => ?_, fun c3 => ?_⟩
  · have e := if_t e c3
    cases e
    exact ⟨rfl, rfl⟩
  · have e := if_f e c3
    obtain ⟨q4, e⟩ := ob_e e
    refine ⟨q4, ?_⟩
    refine ⟨fun c5 => ?_, fun c5 => ?_⟩
    · have e := if_t e c5
      cases e
      exact ⟨rfl, rfl⟩
    · have e := if_f e c5
      refine ⟨fun c6 => ?_, fun c6 => ?_⟩
      · have e := if_t e c6
        obtain ⟨q7, e⟩ := ob_in e
        refine ⟨q7, ?_⟩
        refine ⟨fun c8 => ?_, fun c8 => ?_⟩
        · have e := if_t e c8
          exact hrec _ _ _ _ _ _ e
        · have e := if_f e c8
          cases e
          exact ⟨rfl, rfl⟩
      · have e := if_f e c6
        cases e
        exact ⟨rfl, rfl⟩
def kX8_depthOf_41 (rec : Nat → List Value → List Value → Hp → RS) (FX8_depthOf : Nat → Int32 → Int32 → Nat → Int32 → Hp → RS) (r0 : Nat) (x1 : Int32) (x2 : Int32) (r3 : Nat) (x4 : Int32) (x5 : Int32) (x6 : Int32) (h : Hp) : RS := (if 16 ≤ x6 then (if kH h r3 = 1 then (if inB x2 (lH h r3) = true then (some (.inl (some (.int (1 + x5))), (h.1, (upI h.2 r3 x2.toNatClampNeg (1 + x5))))) else none) else none) else (bI (fX8_namedAt r0 x1 x2 x6 h) fun z5 h4 => (if z5 = (-1) then (rec 41 [.ref r0, .int x1, .int x2, .ref r3, .int x4, .int x5, .int (x6 + 1), uV] [] h4) else (bI (FX8_depthOf r0 x1 z5 r3 (x4 + 1) h4) fun z9 h8 => (rec 41 [.ref r0, .int x1, .int x2, .ref r3, .int x4, .int (if x5 < z9 then z9 else x5), .int (x6 + 1), uV] [] h8)))))
theorem uX8_depthOf_41 {G : GG} {d : Nat} (hd : 3 ≤ d) (rec : Nat → List Value → List Value → Hp → RS) (hrec : ∀ pc loc st h o h', rec pc loc st h = some (o, h') → V G mX8_depthOf d pc loc st h o h') (FX8_depthOf : Nat → Int32 → Int32 → Nat → Int32 → Hp → RS) (TFX8_depthOf : ∀ {a0 a1 a2 a3 a4} {h : Hp} {o : OU} {h' : Hp}, FX8_depthOf a0 a1 a2 a3 a4 h = some (o, h') → VM G mX8_depthOf (d - 1) [.ref a0, .int a1, .int a2, .ref a3, .int a4] h o h') {r0  x1  x2  r3  x4  x5  x6 } {h : Hp} {o : OU} {h' : Hp} (e : kX8_depthOf_41 rec FX8_depthOf r0 x1 x2 r3 x4 x5 x6 h = some (o, h')) : V G mX8_depthOf d 41 [.ref r0, .int x1, .int x2, .ref r3, .int x4, .int x5, .int x6, uV] [] h o h' := by
  unfold kX8_depthOf_41 at e
  refine bX8_depthOf_41 r0 x1 x2 r3 x4 x5 x6 (by omega) ?_
  refine ⟨fun c1 => ?_, fun c1 => ?_⟩
  · have e := if_t e c1
    obtain ⟨q2, e⟩ := ob_e e
    refine ⟨q2, ?_⟩
    obtain ⟨q3, e⟩ := ob_in e
    refine ⟨q3, ?_⟩
    cases e
    exact ⟨rfl, rfl⟩
  · have e := if_f e c1
    obtain ⟨z5, h4, e4, e⟩ := bI_e e
    refine ⟨z5, h4, (tX8_namedAt e4 (by omega)), ?_⟩
    refine ⟨fun c5 => ?_, fun c5 => ?_⟩
    · have e := if_t e c5
      exact hrec _ _ _ _ _ _ e
    · have e := if_f e c5
      obtain ⟨z9, h8, e6, e⟩ := bI_e e
      refine ⟨z9, h8, (TFX8_depthOf e6), ?_⟩
      exact hrec _ _ _ _ _ _ e
def sX8_depthOf (FX8_depthOf : Nat → Int32 → Int32 → Nat → Int32 → Hp → RS) (rec : Nat → List Value → List Value → Hp → RS) (pc : Nat) (loc st : List Value) (h : Hp) : RS := match pc, loc, st with
  | 41, [.ref r0, .int x1, .int x2, .ref r3, .int x4, .int x5, .int x6, _], [] => kX8_depthOf_41 rec FX8_depthOf r0 x1 x2 r3 x4 x5 x6 h
  | _, _, _ => none
def gX8_depthOf (FX8_depthOf : Nat → Int32 → Int32 → Nat → Int32 → Hp → RS) : Nat → Nat → List Value → List Value → Hp → RS
  | 0 => fun _ _ _ _ => none
  | n + 1 => sX8_depthOf FX8_depthOf (gX8_depthOf FX8_depthOf n)
theorem wX8_depthOf {G : GG} {d : Nat} (hd : 3 ≤ d) (FX8_depthOf : Nat → Int32 → Int32 → Nat → Int32 → Hp → RS) (TFX8_depthOf : ∀ {a0 a1 a2 a3 a4} {h : Hp} {o : OU} {h' : Hp}, FX8_depthOf a0 a1 a2 a3 a4 h = some (o, h') → VM G mX8_depthOf (d - 1) [.ref a0, .int a1, .int a2, .ref a3, .int a4] h o h') : ∀ (n pc : Nat) (loc st : List Value) (h : Hp) (o : OU) (h' : Hp), gX8_depthOf FX8_depthOf n pc loc st h = some (o, h') → V G mX8_depthOf d pc loc st h o h' := by
  intro n
  induction n with
  | zero => intro pc loc st h o h' e; cases e
  | succ n ih =>
    intro pc loc st h o h' e
    unfold gX8_depthOf sX8_depthOf at e
    split at e
    · exact V.drop (llp_r (llp_r (llp_r (llp_r (llp_r (llp_r (llp_r (llp_u llp_nil)))))))) (uX8_depthOf_41 hd _ ih _ TFX8_depthOf e)
    · cases e
theorem zX8_depthOf_41 (FX8_depthOf : Nat → Int32 → Int32 → Nat → Int32 → Hp → RS) (n : Nat) (r0 : Nat) (x1 : Int32) (x2 : Int32) (r3 : Nat) (x4 : Int32) (x5 : Int32) (x6 : Int32) (y7 : Value) (h : Hp) : gX8_depthOf FX8_depthOf (n + 1) 41 [.ref r0, .int x1, .int x2, .ref r3, .int x4, .int x5, .int x6, y7] [] h = kX8_depthOf_41 (gX8_depthOf FX8_depthOf n) FX8_depthOf r0 x1 x2 r3 x4 x5 x6 h := rfl
def rX8_depthOf : Nat → (Nat → Int32 → Int32 → Nat → Int32 → Hp → RS)
  | 0 => fun _ _ _ _ _ _ => none
  | n + 1 => fun a0 a1 a2 a3 a4 h => kX8_depthOf_0 (gX8_depthOf ((rX8_depthOf n)) FF) ((rX8_depthOf n)) a0 a1 a2 a3 a4 h
theorem rtX8_depthOf {G : GG} : ∀ (n d : Nat), 3 + n ≤ d → (∀ (a0 : Nat) (a1 : Int32) (a2 : Int32) (a3 : Nat) (a4 : Int32) (h : Hp) (o : OU) (h' : Hp), (rX8_depthOf n) a0 a1 a2 a3 a4 h = some (o, h') → VM G mX8_depthOf d [.ref a0, .int a1, .int a2, .ref a3, .int a4] h o h') := by
  intro n
  induction n with
  | zero => intro d hd; exact fun _ _ _ _ _ _ _ _ e => (by cases e)
  | succ n ih =>
    intro d hd
    have ih := ih (d - 1) (by omega)
    exact fun _ _ _ _ _ _ _ _ e => uX8_depthOf_0 (by omega) _ (wX8_depthOf (by omega) _ (@fun _ _ _ _ _ _ _ _ e => ih _ _ _ _ _ _ _ _ e) FF) _ (@fun _ _ _ _ _ _ _ _ e => ih _ _ _ _ _ _ _ _ e) e
def fX8_depthOf (a0 : Nat) (a1 : Int32) (a2 : Int32) (a3 : Nat) (a4 : Int32) (h : Hp) : RS := (rX8_depthOf 40) a0 a1 a2 a3 a4 h
theorem tX8_depthOf {G : GG} {d : Nat} {a0 a1 a2 a3 a4} {h : Hp} {o : OU} {h' : Hp} (e : fX8_depthOf a0 a1 a2 a3 a4 h = some (o, h')) (hd : 3 + 40 ≤ d) : VM G mX8_depthOf d [.ref a0, .int a1, .int a2, .ref a3, .int a4] h o h' := (rtX8_depthOf 40 d hd) _ _ _ _ _ _ _ _ e
def kX9_clearBook_0 (rec : Nat → List Value → List Value → Hp → RS)  (r0 : Nat) (h : Hp) : RS := (rec 2 [.ref r0, .int 0] [] h)
theorem uX9_clearBook_0 {G : GG} {d : Nat} (hd : 1 ≤ d) (rec : Nat → List Value → List Value → Hp → RS) (hrec : ∀ pc loc st h o h', rec pc loc st h = some (o, h') → V G mX9_clearBook d pc loc st h o h')   {r0 } {h : Hp} {o : OU} {h' : Hp} (e : kX9_clearBook_0 rec  r0 h = some (o, h')) : VM G mX9_clearBook d [.ref r0] h o h' := by
  unfold kX9_clearBook_0 at e
  refine eX9_clearBook r0 ?_
  exact hrec _ _ _ _ _ _ e
def kX9_clearBook_2 (rec : Nat → List Value → List Value → Hp → RS)  (r0 : Nat) (x1 : Int32) (h : Hp) : RS := (if 16 ≤ x1 then (if kH h r0 = 19 then (some (.inl none, (h.1, (upI h.2 r0 13 0)))) else none) else (if kH h r0 = 19 then (if kH h (rH h r0 8) = 1 then (if inB x1 (lH h (rH h r0 8)) = true then (rec 2 [.ref r0, .int (x1 + 1)] [] (h.1, (upI h.2 (rH h r0 8) x1.toNatClampNeg (-1)))) else none) else none) else none))
theorem uX9_clearBook_2 {G : GG} {d : Nat} (hd : 1 ≤ d) (rec : Nat → List Value → List Value → Hp → RS) (hrec : ∀ pc loc st h o h', rec pc loc st h = some (o, h') → V G mX9_clearBook d pc loc st h o h')   {r0  x1 } {h : Hp} {o : OU} {h' : Hp} (e : kX9_clearBook_2 rec  r0 x1 h = some (o, h')) : V G mX9_clearBook d 2 [.ref r0, .int x1] [] h o h' := by
  unfold kX9_clearBook_2 at e
  refine bX9_clearBook_2 r0 x1 ?_
  refine ⟨fun c1 => ?_, fun c1 => ?_⟩
  · have e := if_t e c1
    obtain ⟨q2, e⟩ := ob_e e
    refine ⟨q2, ?_⟩
    cases e
    exact ⟨rfl, rfl⟩
  · have e := if_f e c1
    obtain ⟨q3, e⟩ := ob_e e
    refine ⟨q3, ?_⟩
    obtain ⟨q4, e⟩ := ob_e e
    refine ⟨q4, ?_⟩
    obtain ⟨q5, e⟩ := ob_in e
    refine ⟨q5, ?_⟩
    exact hrec _ _ _ _ _ _ e
def sX9_clearBook  (rec : Nat → List Value → List Value → Hp → RS) (pc : Nat) (loc st : List Value) (h : Hp) : RS := match pc, loc, st with
  | 2, [.ref r0, .int x1], [] => kX9_clearBook_2 rec  r0 x1 h
  | _, _, _ => none
def gX9_clearBook  : Nat → Nat → List Value → List Value → Hp → RS
  | 0 => fun _ _ _ _ => none
  | n + 1 => sX9_clearBook  (gX9_clearBook  n)
theorem wX9_clearBook {G : GG} {d : Nat} (hd : 1 ≤ d)   : ∀ (n pc : Nat) (loc st : List Value) (h : Hp) (o : OU) (h' : Hp), gX9_clearBook  n pc loc st h = some (o, h') → V G mX9_clearBook d pc loc st h o h' := by
  intro n
  induction n with
  | zero => intro pc loc st h o h' e; cases e
  | succ n ih =>
    intro pc loc st h o h' e
    unfold gX9_clearBook sX9_clearBook at e
    split at e
    · exact uX9_clearBook_2 hd _ ih   e
    · cases e
theorem zX9_clearBook_2  (n : Nat) (r0 : Nat) (x1 : Int32)  (h : Hp) : gX9_clearBook  (n + 1) 2 [.ref r0, .int x1] [] h = kX9_clearBook_2 (gX9_clearBook  n)  r0 x1 h := rfl
def fX9_clearBook (r0 : Nat) (h : Hp) : RS := kX9_clearBook_0 (gX9_clearBook FF) r0 h
theorem tX9_clearBook {G : GG} {d : Nat} {r0} {h : Hp} {o : OU} {h' : Hp} (e : fX9_clearBook r0 h = some (o, h')) (hd : 1 ≤ d) : VM G mX9_clearBook d [.ref r0] h o h' := uX9_clearBook_0 hd _ (wX9_clearBook hd FF) e
def kX9_init_0 (rec : Nat → List Value → List Value → Hp → RS)  (r0 : Nat) (h : Hp) : RS := (if r0 ≠ 0 then (letH (nwH h 15 0 16) fun (h2 : Hp) => (if (nH h) ≠ 0 then (bV (fX5_init (nH h) h2) fun h4 => (if kH h4 r0 = 19 then (letH (sR h4 r0 0 (nH h)) fun (h8 : Hp) => (letH (nwH h8 10 0 2) fun (h10 : Hp) => (if (nH h8) ≠ 0 then (bV (fX0_init (nH h8) h10) fun h12 => (if kH h12 r0 = 19 then (letH (sR h12 r0 1 (nH h8)) fun (h16 : Hp) => (letH (nwH h16 6 3 3) fun (h18 : Hp) => (if kH h18 r0 = 19 then (letH (sR h18 r0 2 (nH h16)) fun (h21 : Hp) => (letH (nwH h21 5 5 5) fun (h23 : Hp) => (if kH h23 r0 = 19 then (letH (sR h23 r0 3 (nH h21)) fun (h26 : Hp) => (letH (nwH h26 12 0 6) fun (h28 : Hp) => (if (nH h26) ≠ 0 then (bV (fX2_init (nH h26) h28) fun h30 => (if kH h30 r0 = 19 then (letH (sR h30 r0 4 (nH h26)) fun (h34 : Hp) => (letH (nwH h34 16 0 1) fun (h36 : Hp) => (if (nH h34) ≠ 0 then (bV (fX6_init (nH h34) h36) fun h38 => (if kH h38 r0 = 19 then (letH (sR h38 r0 5 (nH h34)) fun (h42 : Hp) => (letH (nwH h42 2 600 600) fun (h44 : Hp) => (if kH h44 r0 = 19 then (letH (sR h44 r0 6 (nH h42)) fun (h47 : Hp) => (letH (nwH h47 13 0 10) fun (h49 : Hp) => (if (nH h47) ≠ 0 then (bV (fX3_init (nH h47) h49) fun h51 => (if kH h51 r0 = 19 then (letH (sR h51 r0 7 (nH h47)) fun (h55 : Hp) => (letH (nwH h55 1 16 16) fun (h57 : Hp) => (if kH h57 r0 = 19 then (letH (sR h57 r0 8 (nH h55)) fun (h60 : Hp) => (letH (nwH h60 2 256 256) fun (h62 : Hp) => (if kH h62 r0 = 19 then (letH (sR h62 r0 9 (nH h60)) fun (h65 : Hp) => (letH (nwH h65 1 12 12) fun (h67 : Hp) => (if kH h67 r0 = 19 then (letH (sR h67 r0 16 (nH h65)) fun (h70 : Hp) => (letH (nwH h70 1 4 4) fun (h72 : Hp) => (if kH h72 r0 = 19 then (letH (sR h72 r0 10 (nH h70)) fun (h75 : Hp) => (if kH h75 r0 = 19 then (rec 123 [.ref r0, .int 0] [] (h75.1, (upI h75.2 r0 14 (-1)))) else none)) else none))) else none))) else none))) else none))) else none)) else none))) else none))) else none)) else none))) else none)) else none))) else none))) else none))) else none)) else none))) else none)) else none)) else none)
theorem uX9_init_0 {G : GG} {d : Nat} (hd : 4 ≤ d) (rec : Nat → List Value → List Value → Hp → RS) (hrec : ∀ pc loc st h o h', rec pc loc st h = some (o, h') → V G mX9_init d pc loc st h o h')   {r0 } {h : Hp} {o : OU} {h' : Hp} (e : kX9_init_0 rec  r0 h = some (o, h')) : VM G mX9_init d [.ref r0] h o h' := by
  unfold kX9_init_0 at e
  refine eX9_init r0 (by omega) ?_
  obtain ⟨q1, e⟩ := ob_e e
  refine ⟨q1, ?_⟩
  intro h2 evh2
  have e := lt_e evh2 e
  obtain ⟨q2, e⟩ := ob_e e
  refine ⟨q2, ?_⟩
  obtain ⟨h4, e3, e⟩ := bV_e e
  refine ⟨h4, (tX5_init e3 (by omega)), ?_⟩
  obtain ⟨q4, e⟩ := ob_e e
  refine ⟨q4, ?_⟩
  intro h8 evh8
  have e := lt_e evh8 e
  intro h10 evh10
  have e := lt_e evh10 e
  obtain ⟨q5, e⟩ := ob_e e
  refine ⟨q5, ?_⟩
  obtain ⟨h12, e6, e⟩ := bV_e e
  refine ⟨h12, (tX0_init e6 (by omega)), ?_⟩
  obtain ⟨q7, e⟩ := ob_e e
  refine ⟨q7, ?_⟩
  intro h16 evh16
  have e := lt_e evh16 e
  intro h18 evh18
  have e := lt_e evh18 e
  obtain ⟨q8, e⟩ := ob_e e
  refine ⟨q8, ?_⟩
  intro h21 evh21
  have e := lt_e evh21 e
  intro h23 evh23
  have e := lt_e evh23 e
  obtain ⟨q9, e⟩ := ob_e e
  refine ⟨q9, ?_⟩
  intro h26 evh26
  have e := lt_e evh26 e
  intro h28 evh28
  have e := lt_e evh28 e
  obtain ⟨q10, e⟩ := ob_e e
  refine ⟨q10, ?_⟩
  obtain ⟨h30, e11, e⟩ := bV_e e
  refine ⟨h30, (tX2_init e11 (by omega)), ?_⟩
  obtain ⟨q12, e⟩ := ob_e e
  refine ⟨q12, ?_⟩
  intro h34 evh34
  have e := lt_e evh34 e
  intro h36 evh36
  have e := lt_e evh36 e
  obtain ⟨q13, e⟩ := ob_e e
  refine ⟨q13, ?_⟩
  obtain ⟨h38, e14, e⟩ := bV_e e
  refine ⟨h38, (tX6_init e14 (by omega)), ?_⟩
  obtain ⟨q15, e⟩ := ob_e e
  refine ⟨q15, ?_⟩
  intro h42 evh42
  have e := lt_e evh42 e
  intro h44 evh44
  have e := lt_e evh44 e
  obtain ⟨q16, e⟩ := ob_e e
  refine ⟨q16, ?_⟩
  intro h47 evh47
  have e := lt_e evh47 e
  intro h49 evh49
  have e := lt_e evh49 e
  obtain ⟨q17, e⟩ := ob_e e
  refine ⟨q17, ?_⟩
  obtain ⟨h51, e18, e⟩ := bV_e e
  refine ⟨h51, (tX3_init e18 (by omega)), ?_⟩
  obtain ⟨q19, e⟩ := ob_e e
  refine ⟨q19, ?_⟩
  intro h55 evh55
  have e := lt_e evh55 e
  intro h57 evh57
  have e := lt_e evh57 e
  obtain ⟨q20, e⟩ := ob_e e
  refine ⟨q20, ?_⟩
  intro h60 evh60
  have e := lt_e evh60 e
  intro h62 evh62
  have e := lt_e evh62 e
  obtain ⟨q21, e⟩ := ob_e e
  refine ⟨q21, ?_⟩
  intro h65 evh65
  have e := lt_e evh65 e
  intro h67 evh67
  have e := lt_e evh67 e
  obtain ⟨q22, e⟩ := ob_e e
  refine ⟨q22, ?_⟩
  intro h70 evh70
  have e := lt_e evh70 e
  intro h72 evh72
  have e := lt_e evh72 e
  obtain ⟨q23, e⟩ := ob_e e
  refine ⟨q23, ?_⟩
  intro h75 evh75
  have e := lt_e evh75 e
  obtain ⟨q24, e⟩ := ob_e e
  refine ⟨q24, ?_⟩
  exact hrec _ _ _ _ _ _ e
def kX9_init_123 (rec : Nat → List Value → List Value → Hp → RS)  (r0 : Nat) (x1 : Int32) (h : Hp) : RS := (if kH h r0 = 19 then (if kH h (rH h r0 3) = 5 then (if ((lH h (rH h r0 3)).toInt32) ≤ x1 then (bV (fX9_clearBook r0 h) fun h4 => (some (.inl none, h4))) else (letH (nwH h 15 0 16) fun (h6 : Hp) => (if (nH h) ≠ 0 then (bV (fX5_init (nH h) h6) fun h8 => (if kH h8 (rH h r0 3) = 5 then (if kH h8 (nH h) = 15 then (if inB x1 (lH h8 (rH h r0 3)) = true then (letH (sR h8 (rH h r0 3) x1.toNatClampNeg (nH h)) fun (h14 : Hp) => (rec 123 [.ref r0, .int (x1 + 1)] [] h14)) else none) else none) else none)) else none))) else none) else none)
theorem uX9_init_123 {G : GG} {d : Nat} (hd : 4 ≤ d) (rec : Nat → List Value → List Value → Hp → RS) (hrec : ∀ pc loc st h o h', rec pc loc st h = some (o, h') → V G mX9_init d pc loc st h o h')   {r0  x1 } {h : Hp} {o : OU} {h' : Hp} (e : kX9_init_123 rec  r0 x1 h = some (o, h')) : V G mX9_init d 123 [.ref r0, .int x1] [] h o h' := by
  unfold kX9_init_123 at e
  refine bX9_init_123 r0 x1 (by omega) ?_
  obtain ⟨q1, e⟩ := ob_e e
  refine ⟨q1, ?_⟩
  obtain ⟨q2, e⟩ := ob_e e
  refine ⟨q2, ?_⟩
  refine ⟨fun c3 => ?_, fun c3 => ?_⟩
  · have e := if_t e c3
    obtain ⟨h4, e4, e⟩ := bV_e e
    refine ⟨h4, (tX9_clearBook e4 (by omega)), ?_⟩
    cases e
    exact ⟨rfl, rfl⟩
  · have e := if_f e c3
    intro h6 evh6
    have e := lt_e evh6 e
    obtain ⟨q5, e⟩ := ob_e e
    refine ⟨q5, ?_⟩
    obtain ⟨h8, e6, e⟩ := bV_e e
    refine ⟨h8, (tX5_init e6 (by omega)), ?_⟩
    obtain ⟨q7, e⟩ := ob_e e
    refine ⟨q7, ?_⟩
    obtain ⟨q8, e⟩ := ob_e e
    refine ⟨q8, ?_⟩
    obtain ⟨q9, e⟩ := ob_in e
    refine ⟨q9, ?_⟩
    intro h14 evh14
    have e := lt_e evh14 e
    exact hrec _ _ _ _ _ _ e
def sX9_init  (rec : Nat → List Value → List Value → Hp → RS) (pc : Nat) (loc st : List Value) (h : Hp) : RS := match pc, loc, st with
  | 123, [.ref r0, .int x1], [] => kX9_init_123 rec  r0 x1 h
  | _, _, _ => none
def gX9_init  : Nat → Nat → List Value → List Value → Hp → RS
  | 0 => fun _ _ _ _ => none
  | n + 1 => sX9_init  (gX9_init  n)
theorem wX9_init {G : GG} {d : Nat} (hd : 4 ≤ d)   : ∀ (n pc : Nat) (loc st : List Value) (h : Hp) (o : OU) (h' : Hp), gX9_init  n pc loc st h = some (o, h') → V G mX9_init d pc loc st h o h' := by
  intro n
  induction n with
  | zero => intro pc loc st h o h' e; cases e
  | succ n ih =>
    intro pc loc st h o h' e
    unfold gX9_init sX9_init at e
    split at e
    · exact uX9_init_123 hd _ ih   e
    · cases e
theorem zX9_init_123  (n : Nat) (r0 : Nat) (x1 : Int32)  (h : Hp) : gX9_init  (n + 1) 123 [.ref r0, .int x1] [] h = kX9_init_123 (gX9_init  n)  r0 x1 h := rfl
def fX9_init (r0 : Nat) (h : Hp) : RS := kX9_init_0 (gX9_init FF) r0 h
theorem tX9_init {G : GG} {d : Nat} {r0} {h : Hp} {o : OU} {h' : Hp} (e : fX9_init r0 h = some (o, h')) (hd : 4 ≤ d) : VM G mX9_init d [.ref r0] h o h' := uX9_init_0 hd _ (wX9_init hd FF) e
def kX9_feedNumber_0 (rec : Nat → List Value → List Value → Hp → RS)  (r0 : Nat) (x1 : Int32) (h : Hp) : RS := (rec 3 [.ref r0, .int x1, .int 24] [] h)
theorem uX9_feedNumber_0 {G : GG} {d : Nat} (hd : 1 ≤ d) (rec : Nat → List Value → List Value → Hp → RS) (hrec : ∀ pc loc st h o h', rec pc loc st h = some (o, h') → V G mX9_feedNumber d pc loc st h o h')   {r0  x1 } {h : Hp} {o : OU} {h' : Hp} (e : kX9_feedNumber_0 rec  r0 x1 h = some (o, h')) : VM G mX9_feedNumber d [.ref r0, .int x1] h o h' := by
  unfold kX9_feedNumber_0 at e
  refine eX9_feedNumber r0 x1 ?_
  exact hrec _ _ _ _ _ _ e
def kX9_feedNumber_3 (rec : Nat → List Value → List Value → Hp → RS)  (r0 : Nat) (x1 : Int32) (x2 : Int32) (h : Hp) : RS := (if x2 < 0 then (some (.inl none, h)) else (if kH h r0 = 19 then (if 600 ≤ (h.2 r0 12) then (some (.inl none, h)) else (if kH h (rH h r0 6) = 2 then (if inB (h.2 r0 12) (lH h (rH h r0 6)) = true then (letH (upI (upI h.2 (rH h r0 6) (h.2 r0 12).toNatClampNeg (((ushr x1 x2).toInt8.toInt32).toInt8.toInt32)) r0 12 (((upI h.2 (rH h r0 6) (h.2 r0 12).toNatClampNeg (((ushr x1 x2).toInt8.toInt32).toInt8.toInt32)) r0 12) + 1)) fun (i6 : Nat → Nat → Int32) => (rec 3 [.ref r0, .int x1, .int (x2 + (-8))] [] (h.1, i6))) else none) else none)) else none))
theorem uX9_feedNumber_3 {G : GG} {d : Nat} (hd : 1 ≤ d) (rec : Nat → List Value → List Value → Hp → RS) (hrec : ∀ pc loc st h o h', rec pc loc st h = some (o, h') → V G mX9_feedNumber d pc loc st h o h')   {r0  x1  x2 } {h : Hp} {o : OU} {h' : Hp} (e : kX9_feedNumber_3 rec  r0 x1 x2 h = some (o, h')) : V G mX9_feedNumber d 3 [.ref r0, .int x1, .int x2] [] h o h' := by
  unfold kX9_feedNumber_3 at e
  refine bX9_feedNumber_3 r0 x1 x2 ?_
  refine ⟨fun c1 => ?_, fun c1 => ?_⟩
  · have e := if_t e c1
    cases e
    exact ⟨rfl, rfl⟩
  · have e := if_f e c1
    obtain ⟨q2, e⟩ := ob_e e
    refine ⟨q2, ?_⟩
    refine ⟨fun c3 => ?_, fun c3 => ?_⟩
    · have e := if_t e c3
      cases e
      exact ⟨rfl, rfl⟩
    · have e := if_f e c3
      obtain ⟨q4, e⟩ := ob_e e
      refine ⟨q4, ?_⟩
      obtain ⟨q5, e⟩ := ob_in e
      refine ⟨q5, ?_⟩
      intro i6 evi6
      have e := lt_e evi6 e
      exact hrec _ _ _ _ _ _ e
def sX9_feedNumber  (rec : Nat → List Value → List Value → Hp → RS) (pc : Nat) (loc st : List Value) (h : Hp) : RS := match pc, loc, st with
  | 3, [.ref r0, .int x1, .int x2], [] => kX9_feedNumber_3 rec  r0 x1 x2 h
  | _, _, _ => none
def gX9_feedNumber  : Nat → Nat → List Value → List Value → Hp → RS
  | 0 => fun _ _ _ _ => none
  | n + 1 => sX9_feedNumber  (gX9_feedNumber  n)
theorem wX9_feedNumber {G : GG} {d : Nat} (hd : 1 ≤ d)   : ∀ (n pc : Nat) (loc st : List Value) (h : Hp) (o : OU) (h' : Hp), gX9_feedNumber  n pc loc st h = some (o, h') → V G mX9_feedNumber d pc loc st h o h' := by
  intro n
  induction n with
  | zero => intro pc loc st h o h' e; cases e
  | succ n ih =>
    intro pc loc st h o h' e
    unfold gX9_feedNumber sX9_feedNumber at e
    split at e
    · exact uX9_feedNumber_3 hd _ ih   e
    · cases e
theorem zX9_feedNumber_3  (n : Nat) (r0 : Nat) (x1 : Int32) (x2 : Int32)  (h : Hp) : gX9_feedNumber  (n + 1) 3 [.ref r0, .int x1, .int x2] [] h = kX9_feedNumber_3 (gX9_feedNumber  n)  r0 x1 x2 h := rfl
def fX9_feedNumber (r0 : Nat) (x1 : Int32) (h : Hp) : RS := kX9_feedNumber_0 (gX9_feedNumber FF) r0 x1 h
theorem tX9_feedNumber {G : GG} {d : Nat} {r0 x1} {h : Hp} {o : OU} {h' : Hp} (e : fX9_feedNumber r0 x1 h = some (o, h')) (hd : 1 ≤ d) : VM G mX9_feedNumber d [.ref r0, .int x1] h o h' := uX9_feedNumber_0 hd _ (wX9_feedNumber hd FF) e
def kX9_feed_0  (r0 : Nat) (x1 : Int32) (x2 : Int32) (x3 : Int32) (x4 : Int32) (x5 : Int32) (h : Hp) : RS := (if kH h r0 = 19 then (if (h.2 r0 12) ≤ 580 then (bV (fX9_feedNumber r0 x1 h) fun h3 => (if kH h3 r0 = 19 then (bV (fX9_feedNumber r0 x2 h3) fun h5 => (if kH h5 r0 = 19 then (bV (fX9_feedNumber r0 x3 h5) fun h8 => (if kH h8 r0 = 19 then (bV (fX9_feedNumber r0 x4 h8) fun h11 => (if kH h11 r0 = 19 then (bV (fX9_feedNumber r0 x5 h11) fun h14 => (if kH h14 r0 = 19 then (some (.inl (some (.int (h14.2 r0 12))), h14)) else none)) else none)) else none)) else none)) else none)) else (some (.inl (some (.int (-1))), h))) else none)
theorem uX9_feed_0 {G : GG} {d : Nat} (hd : 2 ≤ d)   {r0  x1  x2  x3  x4  x5 } {h : Hp} {o : OU} {h' : Hp} (e : kX9_feed_0  r0 x1 x2 x3 x4 x5 h = some (o, h')) : VM G mX9_feed d [.ref r0, .int x1, .int x2, .int x3, .int x4, .int x5] h o h' := by
  unfold kX9_feed_0 at e
  refine eX9_feed r0 x1 x2 x3 x4 x5 (by omega) ?_
  obtain ⟨q1, e⟩ := ob_e e
  refine ⟨q1, ?_⟩
  refine ⟨fun c2 => ?_, fun c2 => ?_⟩
  · have e := if_t e c2
    obtain ⟨h3, e3, e⟩ := bV_e e
    refine ⟨h3, (tX9_feedNumber e3 (by omega)), ?_⟩
    obtain ⟨q4, e⟩ := ob_e e
    refine ⟨q4, ?_⟩
    obtain ⟨h5, e5, e⟩ := bV_e e
    refine ⟨h5, (tX9_feedNumber e5 (by omega)), ?_⟩
    obtain ⟨q6, e⟩ := ob_e e
    refine ⟨q6, ?_⟩
    obtain ⟨h8, e7, e⟩ := bV_e e
    refine ⟨h8, (tX9_feedNumber e7 (by omega)), ?_⟩
    obtain ⟨q8, e⟩ := ob_e e
    refine ⟨q8, ?_⟩
    obtain ⟨h11, e9, e⟩ := bV_e e
    refine ⟨h11, (tX9_feedNumber e9 (by omega)), ?_⟩
    obtain ⟨q10, e⟩ := ob_e e
    refine ⟨q10, ?_⟩
    obtain ⟨h14, e11, e⟩ := bV_e e
    refine ⟨h14, (tX9_feedNumber e11 (by omega)), ?_⟩
    obtain ⟨q12, e⟩ := ob_e e
    refine ⟨q12, ?_⟩
    cases e
    exact ⟨rfl, rfl⟩
  · have e := if_f e c2
    cases e
    exact ⟨rfl, rfl⟩
def fX9_feed (r0 : Nat) (x1 : Int32) (x2 : Int32) (x3 : Int32) (x4 : Int32) (x5 : Int32) (h : Hp) : RS := kX9_feed_0 r0 x1 x2 x3 x4 x5 h
theorem tX9_feed {G : GG} {d : Nat} {r0 x1 x2 x3 x4 x5} {h : Hp} {o : OU} {h' : Hp} (e : fX9_feed r0 x1 x2 x3 x4 x5 h = some (o, h')) (hd : 2 ≤ d) : VM G mX9_feed d [.ref r0, .int x1, .int x2, .int x3, .int x4, .int x5] h o h' := uX9_feed_0 hd e
def kX9_textRead_0  (r0 : Nat) (x1 : Int32) (h : Hp) : RS := (if kH h r0 = 19 then (if ¬ x1 = 0 then (if kH h (rH h r0 7) = 13 then (some (.inl none, (h.1, (upI (upI h.2 r0 12 0) r0 14 ((upI h.2 r0 12 0) (rH h r0 7) 3))))) else none) else (some (.inl none, (h.1, (upI (upI h.2 r0 12 0) r0 14 (-1)))))) else none)
theorem uX9_textRead_0 {G : GG} {d : Nat} (hd : 1 ≤ d)   {r0  x1 } {h : Hp} {o : OU} {h' : Hp} (e : kX9_textRead_0  r0 x1 h = some (o, h')) : VM G mX9_textRead d [.ref r0, .int x1] h o h' := by
  unfold kX9_textRead_0 at e
  refine eX9_textRead r0 x1 ?_
  obtain ⟨q1, e⟩ := ob_e e
  refine ⟨q1, ?_⟩
  refine ⟨fun c2 => ?_, fun c2 => ?_⟩
  · have e := if_t e c2
    obtain ⟨q3, e⟩ := ob_e e
    refine ⟨q3, ?_⟩
    cases e
    exact ⟨rfl, rfl⟩
  · have e := if_n e c2
    cases e
    exact ⟨rfl, rfl⟩
def fX9_textRead (r0 : Nat) (x1 : Int32) (h : Hp) : RS := kX9_textRead_0 r0 x1 h
theorem tX9_textRead {G : GG} {d : Nat} {r0 x1} {h : Hp} {o : OU} {h' : Hp} (e : fX9_textRead r0 x1 h = some (o, h')) (hd : 1 ≤ d) : VM G mX9_textRead d [.ref r0, .int x1] h o h' := uX9_textRead_0 hd e
def kX9_buildStore_0 (rec : Nat → List Value → List Value → Hp → RS)  (r0 : Nat) (r1 : Nat) (h : Hp) : RS := (if kH h r0 = 19 then (if kH h r1 = 14 then (if kH h (rH h r0 0) = 15 then (bV (fX5_begin (rH h r0 0) (h.2 r1 0) h) fun h3 => (rec 13 [.ref r0, .ref r1, .int 0] [] h3)) else none) else none) else none)
theorem uX9_buildStore_0 {G : GG} {d : Nat} (hd : 7 ≤ d) (rec : Nat → List Value → List Value → Hp → RS) (hrec : ∀ pc loc st h o h', rec pc loc st h = some (o, h') → V G mX9_buildStore d pc loc st h o h')   {r0  r1 } {h : Hp} {o : OU} {h' : Hp} (e : kX9_buildStore_0 rec  r0 r1 h = some (o, h')) : VM G mX9_buildStore d [.ref r0, .ref r1] h o h' := by
  unfold kX9_buildStore_0 at e
  refine eX9_buildStore r0 r1 (by omega) ?_
  obtain ⟨q1, e⟩ := ob_e e
  refine ⟨q1, ?_⟩
  obtain ⟨q2, e⟩ := ob_e e
  refine ⟨q2, ?_⟩
  obtain ⟨q3, e⟩ := ob_e e
  refine ⟨q3, ?_⟩
  obtain ⟨h3, e4, e⟩ := bV_e e
  refine ⟨h3, (tX5_begin e4 (by omega)), ?_⟩
  exact hrec _ _ _ _ _ _ e
def kX9_buildStore_13 (rec : Nat → List Value → List Value → Hp → RS)  (r0 : Nat) (r1 : Nat) (x2 : Int32) (h : Hp) : RS := (if kH h r1 = 14 then (if (h.2 r1 1) ≤ x2 then (if kH h r0 = 19 then (if kH h (rH h r0 0) = 15 then (bV (fX5_forgetCounts (rH h r0 0) h) fun h4 => (some (.inl none, h4))) else none) else none) else (if kH h r0 = 19 then (if kH h (rH h r1 2) = 1 then (if inB x2 (lH h (rH h r1 2)) = true then (if kH h (rH h r1 3) = 1 then (if inB x2 (lH h (rH h r1 3)) = true then (if kH h (rH h r1 4) = 1 then (if inB x2 (lH h (rH h r1 4)) = true then (if kH h (rH h r1 5) = 1 then (if inB x2 (lH h (rH h r1 5)) = true then (if kH h (rH h r0 5) = 16 then (bI (fX6_take (rH h r0 5) (rH h r0 0) (h.2 (rH h r1 2) x2.toNatClampNeg) (h.2 (rH h r1 3) x2.toNatClampNeg) (h.2 (rH h r1 4) x2.toNatClampNeg) (h.2 (rH h r1 5) x2.toNatClampNeg) h) fun z17 h16 => (if kH h16 r0 = 19 then (if kH h16 (rH h16 r0 0) = 15 then (bV (fX5_allOnDisk (rH h16 r0 0) h16) fun h21 => (rec 13 [.ref r0, .ref r1, .int (x2 + 1)] [] h21)) else none) else none)) else none) else none) else none) else none) else none) else none) else none) else none) else none) else none)) else none)
theorem uX9_buildStore_13 {G : GG} {d : Nat} (hd : 7 ≤ d) (rec : Nat → List Value → List Value → Hp → RS) (hrec : ∀ pc loc st h o h', rec pc loc st h = some (o, h') → V G mX9_buildStore d pc loc st h o h')   {r0  r1  x2 } {h : Hp} {o : OU} {h' : Hp} (e : kX9_buildStore_13 rec  r0 r1 x2 h = some (o, h')) : V G mX9_buildStore d 13 [.ref r0, .ref r1, .int x2] [] h o h' := by
  unfold kX9_buildStore_13 at e
  refine bX9_buildStore_13 r0 r1 x2 (by omega) ?_
  obtain ⟨q1, e⟩ := ob_e e
  refine ⟨q1, ?_⟩
  refine ⟨fun c2 => ?_, fun c2 => ?_⟩
  · have e := if_t e c2
    obtain ⟨q3, e⟩ := ob_e e
    refine ⟨q3, ?_⟩
    obtain ⟨q4, e⟩ := ob_e e
    refine ⟨q4, ?_⟩
    obtain ⟨h4, e5, e⟩ := bV_e e
    refine ⟨h4, (tX5_forgetCounts e5 (by omega)), ?_⟩
    cases e
    exact ⟨rfl, rfl⟩
  · have e := if_f e c2
    obtain ⟨q6, e⟩ := ob_e e
    refine ⟨q6, ?_⟩
    obtain ⟨q7, e⟩ := ob_e e
    refine ⟨q7, ?_⟩
    obtain ⟨q8, e⟩ := ob_in e
    refine ⟨q8, ?_⟩
    obtain ⟨q9, e⟩ := ob_e e
    refine ⟨q9, ?_⟩
    obtain ⟨q10, e⟩ := ob_in e
    refine ⟨q10, ?_⟩
    obtain ⟨q11, e⟩ := ob_e e
    refine ⟨q11, ?_⟩
    obtain ⟨q12, e⟩ := ob_in e
    refine ⟨q12, ?_⟩
    obtain ⟨q13, e⟩ := ob_e e
    refine ⟨q13, ?_⟩
    obtain ⟨q14, e⟩ := ob_in e
    refine ⟨q14, ?_⟩
    obtain ⟨q15, e⟩ := ob_e e
    refine ⟨q15, ?_⟩
    obtain ⟨z17, h16, e16, e⟩ := bI_e e
    refine ⟨z17, h16, (tX6_take e16 (by omega)), ?_⟩
    obtain ⟨q17, e⟩ := ob_e e
    refine ⟨q17, ?_⟩
    obtain ⟨q18, e⟩ := ob_e e
    refine ⟨q18, ?_⟩
    obtain ⟨h21, e19, e⟩ := bV_e e
    refine ⟨h21, (tX5_allOnDisk e19 (by omega)), ?_⟩
    exact hrec _ _ _ _ _ _ e
def sX9_buildStore  (rec : Nat → List Value → List Value → Hp → RS) (pc : Nat) (loc st : List Value) (h : Hp) : RS := match pc, loc, st with
  | 13, [.ref r0, .ref r1, .int x2], [] => kX9_buildStore_13 rec  r0 r1 x2 h
  | _, _, _ => none
def gX9_buildStore  : Nat → Nat → List Value → List Value → Hp → RS
  | 0 => fun _ _ _ _ => none
  | n + 1 => sX9_buildStore  (gX9_buildStore  n)
theorem wX9_buildStore {G : GG} {d : Nat} (hd : 7 ≤ d)   : ∀ (n pc : Nat) (loc st : List Value) (h : Hp) (o : OU) (h' : Hp), gX9_buildStore  n pc loc st h = some (o, h') → V G mX9_buildStore d pc loc st h o h' := by
  intro n
  induction n with
  | zero => intro pc loc st h o h' e; cases e
  | succ n ih =>
    intro pc loc st h o h' e
    unfold gX9_buildStore sX9_buildStore at e
    split at e
    · exact uX9_buildStore_13 hd _ ih   e
    · cases e
theorem zX9_buildStore_13  (n : Nat) (r0 : Nat) (r1 : Nat) (x2 : Int32)  (h : Hp) : gX9_buildStore  (n + 1) 13 [.ref r0, .ref r1, .int x2] [] h = kX9_buildStore_13 (gX9_buildStore  n)  r0 r1 x2 h := rfl
def fX9_buildStore (r0 : Nat) (r1 : Nat) (h : Hp) : RS := kX9_buildStore_0 (gX9_buildStore FF) r0 r1 h
theorem tX9_buildStore {G : GG} {d : Nat} {r0 r1} {h : Hp} {o : OU} {h' : Hp} (e : fX9_buildStore r0 r1 h = some (o, h')) (hd : 7 ≤ d) : VM G mX9_buildStore d [.ref r0, .ref r1] h o h' := uX9_buildStore_0 hd _ (wX9_buildStore hd FF) e
def kX9_runScript_0 (rec : Nat → List Value → List Value → Hp → RS)  (r0 : Nat) (r1 : Nat) (h : Hp) : RS := (if kH h r0 = 19 then (rec 15 [.ref r0, .ref r1, .int 0, .int 0, .int 0, .int 0, uV] [] (h.1, (upI h.2 r0 15 0))) else none)
theorem uX9_runScript_0 {G : GG} {d : Nat} (hd : 7 ≤ d) (rec : Nat → List Value → List Value → Hp → RS) (hrec : ∀ pc loc st h o h', rec pc loc st h = some (o, h') → V G mX9_runScript d pc loc st h o h')   {r0  r1 } {h : Hp} {o : OU} {h' : Hp} (e : kX9_runScript_0 rec  r0 r1 h = some (o, h')) : VM G mX9_runScript d [.ref r0, .ref r1] h o h' := by
  unfold kX9_runScript_0 at e
  refine eX9_runScript r0 r1 ?_
  obtain ⟨q1, e⟩ := ob_e e
  refine ⟨q1, ?_⟩
  exact hrec _ _ _ _ _ _ e
def kX9_runScript_15 (rec : Nat → List Value → List Value → Hp → RS)  (r0 : Nat) (r1 : Nat) (x2 : Int32) (x3 : Int32) (x4 : Int32) (x5 : Int32) (h : Hp) : RS := (if 100000 ≤ x5 then (some (.inl (some (.int x2)), h)) else (if kH h r1 = 14 then (if (h.2 r1 1) ≤ x4 then (some (.inl (some (.int x2)), h)) else (if 200 ≤ x3 then (some (.inl (some (.int x2)), h)) else (if kH h (rH h r1 2) = 1 then (if inB x4 (lH h (rH h r1 2)) = true then (if ¬ (h.2 (rH h r1 2) x4.toNatClampNeg) = 13 then (if ¬ (h.2 (rH h r1 2) x4.toNatClampNeg) = 11 then (if kH h r0 = 19 then (if kH h (rH h r1 3) = 1 then (if inB x4 (lH h (rH h r1 3)) = true then (if kH h (rH h r1 4) = 1 then (if inB x4 (lH h (rH h r1 4)) = true then (if kH h (rH h r1 5) = 1 then (if inB x4 (lH h (rH h r1 5)) = true then (if kH h (rH h r0 5) = 16 then (bI (fX6_take (rH h r0 5) (rH h r0 0) (h.2 (rH h r1 2) x4.toNatClampNeg) (h.2 (rH h r1 3) x4.toNatClampNeg) (h.2 (rH h r1 4) x4.toNatClampNeg) (h.2 (rH h r1 5) x4.toNatClampNeg) h) fun z17 h16 => (if z17 = 0 then (if kH h16 r0 = 19 then (rec 15 [.ref r0, .ref r1, .int x2, .int (x3 + 1), .int (x4 + 1), .int (x5 + 1), uV] [] (h16.1, (upI h16.2 r0 15 ((h16.2 r0 15) + 1)))) else none) else (rec 15 [.ref r0, .ref r1, .int (x2 + 1), .int (x3 + 1), .int (x4 + 1), .int (x5 + 1), uV] [] h16))) else none) else none) else none) else none) else none) else none) else none) else none) else (bI (fX4_afterAgain r1 x4 h) fun z23 h22 => (rec 15 [.ref r0, .ref r1, .int x2, .int (x3 + 1), .int z23, .int (x5 + 1), uV] [] h22))) else (bI (fX4_afterEnd r1 x4 h) fun z26 h25 => (rec 15 [.ref r0, .ref r1, .int x2, .int x3, .int z26, .int (x5 + 1), uV] [] h25))) else none) else none))) else none))
theorem uX9_runScript_15 {G : GG} {d : Nat} (hd : 7 ≤ d) (rec : Nat → List Value → List Value → Hp → RS) (hrec : ∀ pc loc st h o h', rec pc loc st h = some (o, h') → V G mX9_runScript d pc loc st h o h')   {r0  r1  x2  x3  x4  x5 } {h : Hp} {o : OU} {h' : Hp} (e : kX9_runScript_15 rec  r0 r1 x2 x3 x4 x5 h = some (o, h')) : V G mX9_runScript d 15 [.ref r0, .ref r1, .int x2, .int x3, .int x4, .int x5, uV] [] h o h' := by
  unfold kX9_runScript_15 at e
  refine bX9_runScript_15 r0 r1 x2 x3 x4 x5 (by omega) ?_
  refine ⟨fun c1 => ?_, fun c1 => ?_⟩
  · have e := if_t e c1
    cases e
    exact ⟨rfl, rfl⟩
  · have e := if_f e c1
    obtain ⟨q2, e⟩ := ob_e e
    refine ⟨q2, ?_⟩
    refine ⟨fun c3 => ?_, fun c3 => ?_⟩
    · have e := if_t e c3
      cases e
      exact ⟨rfl, rfl⟩
    · have e := if_f e c3
      refine ⟨fun c4 => ?_, fun c4 => ?_⟩
      · have e := if_t e c4
        cases e
        exact ⟨rfl, rfl⟩
      · have e := if_f e c4
        obtain ⟨q5, e⟩ := ob_e e
        refine ⟨q5, ?_⟩
        obtain ⟨q6, e⟩ := ob_in e
        refine ⟨q6, ?_⟩
        refine ⟨fun c7 => ?_, fun c7 => ?_⟩
        · have e := if_t e c7
          refine ⟨fun c8 => ?_, fun c8 => ?_⟩
          · have e := if_t e c8
            obtain ⟨q9, e⟩ := ob_e e
            refine ⟨q9, ?_⟩
            obtain ⟨q10, e⟩ := ob_e e
            refine ⟨q10, ?_⟩
            obtain ⟨q11, e⟩ := ob_in e
            refine ⟨q11, ?_⟩
            obtain ⟨q12, e⟩ := ob_e e
            refine ⟨q12, ?_⟩
            obtain ⟨q13, e⟩ := ob_in e
            refine ⟨q13, ?_⟩
            obtain ⟨q14, e⟩ := ob_e e
            refine ⟨q14, ?_⟩
            obtain ⟨q15, e⟩ := ob_in e
            refine ⟨q15, ?_⟩
            obtain ⟨q16, e⟩ := ob_e e
            refine ⟨q16, ?_⟩
            obtain ⟨z17, h16, e17, e⟩ := bI_e e
            refine ⟨z17, h16, (tX6_take e17 (by omega)), ?_⟩
            refine ⟨fun c18 => ?_, fun c18 => ?_⟩
            · have e := if_t e c18
              obtain ⟨q19, e⟩ := ob_e e
              refine ⟨q19, ?_⟩
              exact hrec _ _ _ _ _ _ e
            · have e := if_f e c18
              exact hrec _ _ _ _ _ _ e
          · have e := if_n e c8
            obtain ⟨z23, h22, e20, e⟩ := bI_e e
            refine ⟨z23, h22, (tX4_afterAgain e20 (by omega)), ?_⟩
            exact hrec _ _ _ _ _ _ e
        · have e := if_n e c7
          obtain ⟨z26, h25, e21, e⟩ := bI_e e
          refine ⟨z26, h25, (tX4_afterEnd e21 (by omega)), ?_⟩
          exact hrec _ _ _ _ _ _ e
def sX9_runScript  (rec : Nat → List Value → List Value → Hp → RS) (pc : Nat) (loc st : List Value) (h : Hp) : RS := match pc, loc, st with
  | 15, [.ref r0, .ref r1, .int x2, .int x3, .int x4, .int x5, _], [] => kX9_runScript_15 rec  r0 r1 x2 x3 x4 x5 h
  | _, _, _ => none
def gX9_runScript  : Nat → Nat → List Value → List Value → Hp → RS
  | 0 => fun _ _ _ _ => none
  | n + 1 => sX9_runScript  (gX9_runScript  n)
theorem wX9_runScript {G : GG} {d : Nat} (hd : 7 ≤ d)   : ∀ (n pc : Nat) (loc st : List Value) (h : Hp) (o : OU) (h' : Hp), gX9_runScript  n pc loc st h = some (o, h') → V G mX9_runScript d pc loc st h o h' := by
  intro n
  induction n with
  | zero => intro pc loc st h o h' e; cases e
  | succ n ih =>
    intro pc loc st h o h' e
    unfold gX9_runScript sX9_runScript at e
    split at e
    · exact V.drop (llp_r (llp_r (llp_r (llp_r (llp_r (llp_r (llp_u llp_nil))))))) (uX9_runScript_15 hd _ ih   e)
    · cases e
theorem zX9_runScript_15  (n : Nat) (r0 : Nat) (r1 : Nat) (x2 : Int32) (x3 : Int32) (x4 : Int32) (x5 : Int32) (y6 : Value) (h : Hp) : gX9_runScript  (n + 1) 15 [.ref r0, .ref r1, .int x2, .int x3, .int x4, .int x5, y6] [] h = kX9_runScript_15 (gX9_runScript  n)  r0 r1 x2 x3 x4 x5 h := rfl
def fX9_runScript (r0 : Nat) (r1 : Nat) (h : Hp) : RS := kX9_runScript_0 (gX9_runScript FF) r0 r1 h
theorem tX9_runScript {G : GG} {d : Nat} {r0 r1} {h : Hp} {o : OU} {h' : Hp} (e : fX9_runScript r0 r1 h = some (o, h')) (hd : 7 ≤ d) : VM G mX9_runScript d [.ref r0, .ref r1] h o h' := uX9_runScript_0 hd _ (wX9_runScript hd FF) e
def kX9_fault_0  (r0 : Nat) (h : Hp) : RS := (if kH h r0 = 19 then (some (.inl (some (.int (h.2 r0 14))), h)) else none)
theorem uX9_fault_0 {G : GG} {d : Nat} (hd : 1 ≤ d)   {r0 } {h : Hp} {o : OU} {h' : Hp} (e : kX9_fault_0  r0 h = some (o, h')) : VM G mX9_fault d [.ref r0] h o h' := by
  unfold kX9_fault_0 at e
  refine eX9_fault r0 ?_
  obtain ⟨q1, e⟩ := ob_e e
  refine ⟨q1, ?_⟩
  cases e
  exact ⟨rfl, rfl⟩
def fX9_fault (r0 : Nat) (h : Hp) : RS := kX9_fault_0 r0 h
theorem tX9_fault {G : GG} {d : Nat} {r0} {h : Hp} {o : OU} {h' : Hp} (e : fX9_fault r0 h = some (o, h')) (hd : 1 ≤ d) : VM G mX9_fault d [.ref r0] h o h' := uX9_fault_0 hd e
def kX9_undo_0  (r0 : Nat) (h : Hp) : RS := (if kH h r0 = 19 then (if kH h (rH h r0 1) = 10 then (if 0 < (h.2 (rH h r0 1) 1) then (bV (fX0_pop (rH h r0 1) (rH h r0 0) h) fun h4 => (if kH h4 r0 = 19 then (if kH h4 (rH h4 r0 1) = 10 then (some (.inl (some (.int ((upI h4.2 r0 15 0) (rH h4 r0 1) 1))), (h4.1, (upI h4.2 r0 15 0)))) else none) else none)) else (some (.inl (some (.int (-1))), h))) else none) else none)
theorem uX9_undo_0 {G : GG} {d : Nat} (hd : 3 ≤ d)   {r0 } {h : Hp} {o : OU} {h' : Hp} (e : kX9_undo_0  r0 h = some (o, h')) : VM G mX9_undo d [.ref r0] h o h' := by
  unfold kX9_undo_0 at e
  refine eX9_undo r0 (by omega) ?_
  obtain ⟨q1, e⟩ := ob_e e
  refine ⟨q1, ?_⟩
  obtain ⟨q2, e⟩ := ob_e e
  refine ⟨q2, ?_⟩
  refine ⟨fun c3 => ?_, fun c3 => ?_⟩
  · have e := if_t e c3
    obtain ⟨h4, e4, e⟩ := bV_e e
    refine ⟨h4, (tX0_pop e4 (by omega)), ?_⟩
    obtain ⟨q5, e⟩ := ob_e e
    refine ⟨q5, ?_⟩
    obtain ⟨q6, e⟩ := ob_e e
    refine ⟨q6, ?_⟩
    cases e
    exact ⟨rfl, rfl⟩
  · have e := if_f e c3
    cases e
    exact ⟨rfl, rfl⟩
def fX9_undo (r0 : Nat) (h : Hp) : RS := kX9_undo_0 r0 h
theorem tX9_undo {G : GG} {d : Nat} {r0} {h : Hp} {o : OU} {h' : Hp} (e : fX9_undo r0 h = some (o, h')) (hd : 3 ≤ d) : VM G mX9_undo d [.ref r0] h o h' := uX9_undo_0 hd e
def kX9_forgetKnown_0 (rec : Nat → List Value → List Value → Hp → RS)  (r0 : Nat) (h : Hp) : RS := (rec 2 [.ref r0, .int 0] [] h)
theorem uX9_forgetKnown_0 {G : GG} {d : Nat} (hd : 1 ≤ d) (rec : Nat → List Value → List Value → Hp → RS) (hrec : ∀ pc loc st h o h', rec pc loc st h = some (o, h') → V G mX9_forgetKnown d pc loc st h o h')   {r0 } {h : Hp} {o : OU} {h' : Hp} (e : kX9_forgetKnown_0 rec  r0 h = some (o, h')) : VM G mX9_forgetKnown d [.ref r0] h o h' := by
  unfold kX9_forgetKnown_0 at e
  refine eX9_forgetKnown r0 ?_
  exact hrec _ _ _ _ _ _ e
def kX9_forgetKnown_2 (rec : Nat → List Value → List Value → Hp → RS)  (r0 : Nat) (x1 : Int32) (h : Hp) : RS := (if 12 ≤ x1 then (some (.inl none, h)) else (if kH h r0 = 19 then (if kH h (rH h r0 16) = 1 then (if inB x1 (lH h (rH h r0 16)) = true then (rec 2 [.ref r0, .int (x1 + 1)] [] (h.1, (upI h.2 (rH h r0 16) x1.toNatClampNeg (-1)))) else none) else none) else none))
theorem uX9_forgetKnown_2 {G : GG} {d : Nat} (hd : 1 ≤ d) (rec : Nat → List Value → List Value → Hp → RS) (hrec : ∀ pc loc st h o h', rec pc loc st h = some (o, h') → V G mX9_forgetKnown d pc loc st h o h')   {r0  x1 } {h : Hp} {o : OU} {h' : Hp} (e : kX9_forgetKnown_2 rec  r0 x1 h = some (o, h')) : V G mX9_forgetKnown d 2 [.ref r0, .int x1] [] h o h' := by
  unfold kX9_forgetKnown_2 at e
  refine bX9_forgetKnown_2 r0 x1 ?_
  refine ⟨fun c1 => ?_, fun c1 => ?_⟩
  · have e := if_t e c1
    cases e
    exact ⟨rfl, rfl⟩
  · have e := if_f e c1
    obtain ⟨q2, e⟩ := ob_e e
    refine ⟨q2, ?_⟩
    obtain ⟨q3, e⟩ := ob_e e
    refine ⟨q3, ?_⟩
    obtain ⟨q4, e⟩ := ob_in e
    refine ⟨q4, ?_⟩
    exact hrec _ _ _ _ _ _ e
def sX9_forgetKnown  (rec : Nat → List Value → List Value → Hp → RS) (pc : Nat) (loc st : List Value) (h : Hp) : RS := match pc, loc, st with
  | 2, [.ref r0, .int x1], [] => kX9_forgetKnown_2 rec  r0 x1 h
  | _, _, _ => none
def gX9_forgetKnown  : Nat → Nat → List Value → List Value → Hp → RS
  | 0 => fun _ _ _ _ => none
  | n + 1 => sX9_forgetKnown  (gX9_forgetKnown  n)
theorem wX9_forgetKnown {G : GG} {d : Nat} (hd : 1 ≤ d)   : ∀ (n pc : Nat) (loc st : List Value) (h : Hp) (o : OU) (h' : Hp), gX9_forgetKnown  n pc loc st h = some (o, h') → V G mX9_forgetKnown d pc loc st h o h' := by
  intro n
  induction n with
  | zero => intro pc loc st h o h' e; cases e
  | succ n ih =>
    intro pc loc st h o h' e
    unfold gX9_forgetKnown sX9_forgetKnown at e
    split at e
    · exact uX9_forgetKnown_2 hd _ ih   e
    · cases e
theorem zX9_forgetKnown_2  (n : Nat) (r0 : Nat) (x1 : Int32)  (h : Hp) : gX9_forgetKnown  (n + 1) 2 [.ref r0, .int x1] [] h = kX9_forgetKnown_2 (gX9_forgetKnown  n)  r0 x1 h := rfl
def fX9_forgetKnown (r0 : Nat) (h : Hp) : RS := kX9_forgetKnown_0 (gX9_forgetKnown FF) r0 h
theorem tX9_forgetKnown {G : GG} {d : Nat} {r0} {h : Hp} {o : OU} {h' : Hp} (e : fX9_forgetKnown r0 h = some (o, h')) (hd : 1 ≤ d) : VM G mX9_forgetKnown d [.ref r0] h o h' := uX9_forgetKnown_0 hd _ (wX9_forgetKnown hd FF) e
def kX9_rings_0 (rec : Nat → List Value → List Value → Hp → RS)  (r0 : Nat) (h : Hp) : RS := (rec 4 [.ref r0, .int 0, .int 0, uV, uV] [] h)
theorem uX9_rings_0 {G : GG} {d : Nat} (hd : 2 ≤ d) (rec : Nat → List Value → List Value → Hp → RS) (hrec : ∀ pc loc st h o h', rec pc loc st h = some (o, h') → V G mX9_rings d pc loc st h o h')   {r0 } {h : Hp} {o : OU} {h' : Hp} (e : kX9_rings_0 rec  r0 h = some (o, h')) : VM G mX9_rings d [.ref r0] h o h' := by
  unfold kX9_rings_0 at e
  refine eX9_rings r0 ?_
  exact hrec _ _ _ _ _ _ e
def kX9_rings_4 (rec : Nat → List Value → List Value → Hp → RS)  (r0 : Nat) (x1 : Int32) (x2 : Int32) (h : Hp) : RS := (if kH h r0 = 19 then (if kH h (rH h r0 0) = 15 then (if (h.2 (rH h r0 0) 0) ≤ x2 then (some (.inl (some (.int x1)), h)) else (bI (fX5_blocksNeededBy (rH h r0 0) x2 h) fun z5 h4 => (rec 29 [.ref r0, .int x1, .int x2, .int z5, .int (x2 + 1)] [] h4))) else none) else none)
theorem uX9_rings_4 {G : GG} {d : Nat} (hd : 2 ≤ d) (rec : Nat → List Value → List Value → Hp → RS) (hrec : ∀ pc loc st h o h', rec pc loc st h = some (o, h') → V G mX9_rings d pc loc st h o h')   {r0  x1  x2 } {h : Hp} {o : OU} {h' : Hp} (e : kX9_rings_4 rec  r0 x1 x2 h = some (o, h')) : V G mX9_rings d 4 [.ref r0, .int x1, .int x2, uV, uV] [] h o h' := by
  unfold kX9_rings_4 at e
  refine bX9_rings_4 r0 x1 x2 (by omega) ?_
  obtain ⟨q1, e⟩ := ob_e e
  refine ⟨q1, ?_⟩
  obtain ⟨q2, e⟩ := ob_e e
  refine ⟨q2, ?_⟩
  refine ⟨fun c3 => ?_, fun c3 => ?_⟩
  · have e := if_t e c3
    cases e
    exact ⟨rfl, rfl⟩
  · have e := if_f e c3
    obtain ⟨z5, h4, e4, e⟩ := bI_e e
    refine ⟨z5, h4, (tX5_blocksNeededBy e4 (by omega)), ?_⟩
    exact hrec _ _ _ _ _ _ e
def kX9_rings_29 (rec : Nat → List Value → List Value → Hp → RS)  (r0 : Nat) (x1 : Int32) (x2 : Int32) (x3 : Int32) (x4 : Int32) (h : Hp) : RS := (if x3 = 0 then (rec 4 [.ref r0, .int x1, .int (x2 + 1), uV, uV] [] h) else (if kH h r0 = 19 then (if kH h (rH h r0 0) = 15 then (if (h.2 (rH h r0 0) 0) ≤ x4 then (rec 4 [.ref r0, .int x1, .int (x2 + 1), uV, uV] [] h) else (if ((x3 >>> (x4 &&& 31)) &&& 1) = 0 then (rec 29 [.ref r0, .int x1, .int x2, .int x3, .int (x4 + 1)] [] h) else (bI (fX5_blocksNeededBy (rH h r0 0) x4 h) fun z7 h6 => (if ((z7 >>> (x2 &&& 31)) &&& 1) = 0 then (rec 29 [.ref r0, .int x1, .int x2, .int x3, .int (x4 + 1)] [] h6) else (rec 29 [.ref r0, .int (x1 + 1), .int x2, .int x3, .int (x4 + 1)] [] h6))))) else none) else none))
theorem uX9_rings_29 {G : GG} {d : Nat} (hd : 2 ≤ d) (rec : Nat → List Value → List Value → Hp → RS) (hrec : ∀ pc loc st h o h', rec pc loc st h = some (o, h') → V G mX9_rings d pc loc st h o h')   {r0  x1  x2  x3  x4 } {h : Hp} {o : OU} {h' : Hp} (e : kX9_rings_29 rec  r0 x1 x2 x3 x4 h = some (o, h')) : V G mX9_rings d 29 [.ref r0, .int x1, .int x2, .int x3, .int x4] [] h o h' := by
  unfold kX9_rings_29 at e
  refine bX9_rings_29 r0 x1 x2 x3 x4 (by omega) ?_
  refine ⟨fun c1 => ?_, fun c1 => ?_⟩
  · have e := if_t e c1
    exact hrec _ _ _ _ _ _ e
  · have e := if_f e c1
    obtain ⟨q2, e⟩ := ob_e e
    refine ⟨q2, ?_⟩
    obtain ⟨q3, e⟩ := ob_e e
    refine ⟨q3, ?_⟩
    refine ⟨fun c4 => ?_, fun c4 => ?_⟩
    · have e := if_t e c4
      exact hrec _ _ _ _ _ _ e
    · have e := if_f e c4
      refine ⟨fun c5 => ?_, fun c5 => ?_⟩
      · have e := if_t e c5
        exact hrec _ _ _ _ _ _ e
      · have e := if_f e c5
        obtain ⟨z7, h6, e6, e⟩ := bI_e e
        refine ⟨z7, h6, (tX5_blocksNeededBy e6 (by omega)), ?_⟩
        refine ⟨fun c7 => ?_, fun c7 => ?_⟩
        · have e := if_t e c7
          exact hrec _ _ _ _ _ _ e
        · have e := if_f e c7
          exact hrec _ _ _ _ _ _ e
def sX9_rings  (rec : Nat → List Value → List Value → Hp → RS) (pc : Nat) (loc st : List Value) (h : Hp) : RS := match pc, loc, st with
  | 4, [.ref r0, .int x1, .int x2, _, _], [] => kX9_rings_4 rec  r0 x1 x2 h
  | 29, [.ref r0, .int x1, .int x2, .int x3, .int x4], [] => kX9_rings_29 rec  r0 x1 x2 x3 x4 h
  | _, _, _ => none
def gX9_rings  : Nat → Nat → List Value → List Value → Hp → RS
  | 0 => fun _ _ _ _ => none
  | n + 1 => sX9_rings  (gX9_rings  n)
theorem wX9_rings {G : GG} {d : Nat} (hd : 2 ≤ d)   : ∀ (n pc : Nat) (loc st : List Value) (h : Hp) (o : OU) (h' : Hp), gX9_rings  n pc loc st h = some (o, h') → V G mX9_rings d pc loc st h o h' := by
  intro n
  induction n with
  | zero => intro pc loc st h o h' e; cases e
  | succ n ih =>
    intro pc loc st h o h' e
    unfold gX9_rings sX9_rings at e
    split at e
    · exact V.drop (llp_r (llp_r (llp_r (llp_u (llp_u llp_nil))))) (uX9_rings_4 hd _ ih   e)
    · exact uX9_rings_29 hd _ ih   e
    · cases e
theorem zX9_rings_4  (n : Nat) (r0 : Nat) (x1 : Int32) (x2 : Int32) (y3 : Value) (y4 : Value) (h : Hp) : gX9_rings  (n + 1) 4 [.ref r0, .int x1, .int x2, y3, y4] [] h = kX9_rings_4 (gX9_rings  n)  r0 x1 x2 h := rfl
theorem zX9_rings_29  (n : Nat) (r0 : Nat) (x1 : Int32) (x2 : Int32) (x3 : Int32) (x4 : Int32)  (h : Hp) : gX9_rings  (n + 1) 29 [.ref r0, .int x1, .int x2, .int x3, .int x4] [] h = kX9_rings_29 (gX9_rings  n)  r0 x1 x2 x3 x4 h := rfl
def fX9_rings (r0 : Nat) (h : Hp) : RS := kX9_rings_0 (gX9_rings FF) r0 h
theorem tX9_rings {G : GG} {d : Nat} {r0} {h : Hp} {o : OU} {h' : Hp} (e : fX9_rings r0 h = some (o, h')) (hd : 2 ≤ d) : VM G mX9_rings d [.ref r0] h o h' := uX9_rings_0 hd _ (wX9_rings hd FF) e
def kX9_settle_0  (r0 : Nat) (h : Hp) : RS := (if kH h r0 = 19 then (if kH h (rH h r0 3) = 5 then (if inB 0 (lH h (rH h r0 3)) = true then (if kH h (rH h (rH h r0 3) 0) = 15 then (bV (fX5_copyFrom (rH h (rH h r0 3) 0) (rH h r0 0) h) fun h4 => (if kH h4 r0 = 19 then (if kH h4 (rH h4 r0 4) = 12 then (bI (fX2_settleAll (rH h4 r0 4) (rH h (rH h r0 3) 0) h4) fun z9 h8 => (if z9 ≤ 200 then (some (.inl (some (.int z9)), h8)) else (some (.inl (some (.int (-1))), h8)))) else none) else none)) else none) else none) else none) else none)
theorem uX9_settle_0 {G : GG} {d : Nat} (hd : 7 ≤ d)   {r0 } {h : Hp} {o : OU} {h' : Hp} (e : kX9_settle_0  r0 h = some (o, h')) : VM G mX9_settle d [.ref r0] h o h' := by
  unfold kX9_settle_0 at e
  refine eX9_settle r0 (by omega) ?_
  obtain ⟨q1, e⟩ := ob_e e
  refine ⟨q1, ?_⟩
  obtain ⟨q2, e⟩ := ob_e e
  refine ⟨q2, ?_⟩
  obtain ⟨q3, e⟩ := ob_in e
  refine ⟨q3, ?_⟩
  obtain ⟨q4, e⟩ := ob_e e
  refine ⟨q4, ?_⟩
  obtain ⟨h4, e5, e⟩ := bV_e e
  refine ⟨h4, (tX5_copyFrom e5 (by omega)), ?_⟩
  obtain ⟨q6, e⟩ := ob_e e
  refine ⟨q6, ?_⟩
  obtain ⟨q7, e⟩ := ob_e e
  refine ⟨q7, ?_⟩
  obtain ⟨z9, h8, e8, e⟩ := bI_e e
  refine ⟨z9, h8, (tX2_settleAll e8 (by omega)), ?_⟩
  refine ⟨fun c9 => ?_, fun c9 => ?_⟩
  · have e := if_t e c9
    cases e
    exact ⟨rfl, rfl⟩
  · have e := if_f e c9
    cases e
    exact ⟨rfl, rfl⟩
def fX9_settle (r0 : Nat) (h : Hp) : RS := kX9_settle_0 r0 h
theorem tX9_settle {G : GG} {d : Nat} {r0} {h : Hp} {o : OU} {h' : Hp} (e : fX9_settle r0 h = some (o, h')) (hd : 7 ≤ d) : VM G mX9_settle d [.ref r0] h o h' := uX9_settle_0 hd e
def kJ6_bitCount_0f7a4_0  (x0 : Int32) (h : Hp) : RS := (some (.inl (some (.int ((((((((x0 - ((ushr x0 1) &&& 1431655765)) &&& 858993459) + ((ushr (x0 - ((ushr x0 1) &&& 1431655765)) 2) &&& 858993459)) + (ushr (((x0 - ((ushr x0 1) &&& 1431655765)) &&& 858993459) + ((ushr (x0 - ((ushr x0 1) &&& 1431655765)) 2) &&& 858993459)) 4)) &&& 252645135) + (ushr (((((x0 - ((ushr x0 1) &&& 1431655765)) &&& 858993459) + ((ushr (x0 - ((ushr x0 1) &&& 1431655765)) 2) &&& 858993459)) + (ushr (((x0 - ((ushr x0 1) &&& 1431655765)) &&& 858993459) + ((ushr (x0 - ((ushr x0 1) &&& 1431655765)) 2) &&& 858993459)) 4)) &&& 252645135) 8)) + (ushr ((((((x0 - ((ushr x0 1) &&& 1431655765)) &&& 858993459) + ((ushr (x0 - ((ushr x0 1) &&& 1431655765)) 2) &&& 858993459)) + (ushr (((x0 - ((ushr x0 1) &&& 1431655765)) &&& 858993459) + ((ushr (x0 - ((ushr x0 1) &&& 1431655765)) 2) &&& 858993459)) 4)) &&& 252645135) + (ushr (((((x0 - ((ushr x0 1) &&& 1431655765)) &&& 858993459) + ((ushr (x0 - ((ushr x0 1) &&& 1431655765)) 2) &&& 858993459)) + (ushr (((x0 - ((ushr x0 1) &&& 1431655765)) &&& 858993459) + ((ushr (x0 - ((ushr x0 1) &&& 1431655765)) 2) &&& 858993459)) 4)) &&& 252645135) 8)) 16)) &&& 63))), h))
theorem uJ6_bitCount_0f7a4_0 {G : GG} {d : Nat} (hd : 1 ≤ d)   {x0 } {h : Hp} {o : OU} {h' : Hp} (e : kJ6_bitCount_0f7a4_0  x0 h = some (o, h')) : VM G mJ6_bitCount_0f7a4 d [.int x0] h o h' := by
  unfold kJ6_bitCount_0f7a4_0 at e
  refine eJ6_bitCount_0f7a4 x0 ?_
  cases e
  exact ⟨rfl, rfl⟩
def fJ6_bitCount_0f7a4 (x0 : Int32) (h : Hp) : RS := kJ6_bitCount_0f7a4_0 x0 h
theorem tJ6_bitCount_0f7a4 {G : GG} {d : Nat} {x0} {h : Hp} {o : OU} {h' : Hp} (e : fJ6_bitCount_0f7a4 x0 h = some (o, h')) (hd : 1 ≤ d) : VM G mJ6_bitCount_0f7a4 d [.int x0] h o h' := uJ6_bitCount_0f7a4_0 hd e
def kX9_safeWithin_0 (rec : Nat → List Value → List Value → Hp → RS) (FX9_safeWithin : Nat → Int32 → Int32 → Hp → RS) (r0 : Nat) (x1 : Int32) (x2 : Int32) (h : Hp) : RS := (if kH h r0 = 19 then (if kH h (rH h r0 3) = 5 then (if inB x2 (lH h (rH h r0 3)) = true then (if kH h (rH h (rH h r0 3) x2.toNatClampNeg) = 15 then (bI (fX5_dirtyBlocks (rH h (rH h r0 3) x2.toNatClampNeg) h) fun z5 h4 => (if ¬ z5 = 0 then (bI (fJ6_bitCount_0f7a4 z5 h4) fun z10 h9 => (if x1 < z10 then (some (.inl (some (.int 0)), h9)) else (if kH h9 r0 = 19 then (if kH h9 (rH h9 r0 3) = 5 then (if (x2 + 1) < ((lH h9 (rH h9 r0 3)).toInt32) then (rec 45 [.ref r0, .int x1, .int x2, .ref (rH h (rH h r0 3) x2.toNatClampNeg), .int z5, .int 0] [] h9) else (some (.inl (some (.int 0)), h9))) else none) else none))) else (some (.inl (some (.int 1)), h4)))) else none) else none) else none) else none)
theorem uX9_safeWithin_0 {G : GG} {d : Nat} (hd : 5 ≤ d) (rec : Nat → List Value → List Value → Hp → RS) (hrec : ∀ pc loc st h o h', rec pc loc st h = some (o, h') → V G mX9_safeWithin d pc loc st h o h') (FX9_safeWithin : Nat → Int32 → Int32 → Hp → RS) (TFX9_safeWithin : ∀ {a0 a1 a2} {h : Hp} {o : OU} {h' : Hp}, FX9_safeWithin a0 a1 a2 h = some (o, h') → VM G mX9_safeWithin (d - 1) [.ref a0, .int a1, .int a2] h o h') {r0  x1  x2 } {h : Hp} {o : OU} {h' : Hp} (e : kX9_safeWithin_0 rec FX9_safeWithin r0 x1 x2 h = some (o, h')) : VM G mX9_safeWithin d [.ref r0, .int x1, .int x2] h o h' := by
  unfold kX9_safeWithin_0 at e
  refine eX9_safeWithin r0 x1 x2 (by omega) ?_
  obtain ⟨q1, e⟩ := ob_e e
  refine ⟨q1, ?_⟩
  obtain ⟨q2, e⟩ := ob_e e
  refine ⟨q2, ?_⟩
  obtain ⟨q3, e⟩ := ob_in e
  refine ⟨q3, ?_⟩
  obtain ⟨q4, e⟩ := ob_e e
  refine ⟨q4, ?_⟩
  obtain ⟨z5, h4, e5, e⟩ := bI_e e
  refine ⟨z5, h4, (tX5_dirtyBlocks e5 (by omega)), ?_⟩
  refine ⟨fun c6 => ?_, fun c6 => ?_⟩
  · have e := if_t e c6
    obtain ⟨z10, h9, e7, e⟩ := bI_e e
    refine ⟨z10, h9, (tJ6_bitCount_0f7a4 e7 (by omega)), ?_⟩
    refine ⟨fun c8 => ?_, fun c8 => ?_⟩
    · have e := if_t e c8
      cases e
      exact ⟨rfl, rfl⟩
    · have e := if_f e c8
      obtain ⟨q9, e⟩ := ob_e e
      refine ⟨q9, ?_⟩
      obtain ⟨q10, e⟩ := ob_e e
      refine ⟨q10, ?_⟩
      refine ⟨fun c11 => ?_, fun c11 => ?_⟩
      · have e := if_t e c11
        exact hrec _ _ _ _ _ _ e
      · have e := if_f e c11
        cases e
        exact ⟨rfl, rfl⟩
  · have e := if_n e c6
    cases e
    exact ⟨rfl, rfl⟩
def kX9_safeWithin_45 (rec : Nat → List Value → List Value → Hp → RS) (FX9_safeWithin : Nat → Int32 → Int32 → Hp → RS) (r0 : Nat) (x1 : Int32) (x2 : Int32) (r3 : Nat) (x4 : Int32) (x5 : Int32) (h : Hp) : RS := (if kH h r3 = 15 then (if (h.2 r3 0) ≤ x5 then (some (.inl (some (.int 0)), h)) else (if ((x4 >>> (x5 &&& 31)) &&& 1) = 0 then (rec 45 [.ref r0, .int x1, .int x2, .ref r3, .int x4, .int (x5 + 1)] [] h) else (if kH h r0 = 19 then (if kH h (rH h r0 3) = 5 then (if inB (x2 + 1) (lH h (rH h r0 3)) = true then (if kH h (rH h (rH h r0 3) (x2 + 1).toNatClampNeg) = 15 then (bV (fX5_copyFrom (rH h (rH h r0 3) (x2 + 1).toNatClampNeg) r3 h) fun h7 => (if kH h7 r0 = 19 then (if kH h7 (rH h7 r0 3) = 5 then (if inB (x2 + 1) (lH h7 (rH h7 r0 3)) = true then (if kH h7 (rH h7 r0 4) = 12 then (bI (fX2_writeBlock (rH h7 r0 4) (rH h7 (rH h7 r0 3) (x2 + 1).toNatClampNeg) x5 h7) fun z14 h13 => (if kH h13 r0 = 19 then (bI (FX9_safeWithin r0 (x1 - 1) (x2 + 1) h13) fun z18 h17 => (if z18 = 0 then (rec 45 [.ref r0, .int x1, .int x2, .ref r3, .int x4, .int (x5 + 1)] [] h17) else (some (.inl (some (.int 1)), h17)))) else none)) else none) else none) else none) else none)) else none) else none) else none) else none))) else none)
theorem uX9_safeWithin_45 {G : GG} {d : Nat} (hd : 5 ≤ d) (rec : Nat → List Value → List Value → Hp → RS) (hrec : ∀ pc loc st h o h', rec pc loc st h = some (o, h') → V G mX9_safeWithin d pc loc st h o h') (FX9_safeWithin : Nat → Int32 → Int32 → Hp → RS) (TFX9_safeWithin : ∀ {a0 a1 a2} {h : Hp} {o : OU} {h' : Hp}, FX9_safeWithin a0 a1 a2 h = some (o, h') → VM G mX9_safeWithin (d - 1) [.ref a0, .int a1, .int a2] h o h') {r0  x1  x2  r3  x4  x5 } {h : Hp} {o : OU} {h' : Hp} (e : kX9_safeWithin_45 rec FX9_safeWithin r0 x1 x2 r3 x4 x5 h = some (o, h')) : V G mX9_safeWithin d 45 [.ref r0, .int x1, .int x2, .ref r3, .int x4, .int x5] [] h o h' := by
  unfold kX9_safeWithin_45 at e
  refine bX9_safeWithin_45 r0 x1 x2 r3 x4 x5 (by omega) ?_
  obtain ⟨q1, e⟩ := ob_e e
  refine ⟨q1, ?_⟩
  refine ⟨fun c2 => ?_, fun c2 => ?_⟩
  · have e := if_t e c2
    cases e
    exact ⟨rfl, rfl⟩
  · have e := if_f e c2
    refine ⟨fun c3 => ?_, fun c3 => ?_⟩
    · have e := if_t e c3
      exact hrec _ _ _ _ _ _ e
    · have e := if_f e c3
      obtain ⟨q4, e⟩ := ob_e e
      refine ⟨q4, ?_⟩
      obtain ⟨q5, e⟩ := ob_e e
      refine ⟨q5, ?_⟩
      obtain ⟨q6, e⟩ := ob_in e
      refine ⟨q6, ?_⟩
      obtain ⟨q7, e⟩ := ob_e e
      refine ⟨q7, ?_⟩
      obtain ⟨h7, e8, e⟩ := bV_e e
      refine ⟨h7, (tX5_copyFrom e8 (by omega)), ?_⟩
      obtain ⟨q9, e⟩ := ob_e e
      refine ⟨q9, ?_⟩
      obtain ⟨q10, e⟩ := ob_e e
      refine ⟨q10, ?_⟩
      obtain ⟨q11, e⟩ := ob_in e
      refine ⟨q11, ?_⟩
      obtain ⟨q12, e⟩ := ob_e e
      refine ⟨q12, ?_⟩
      obtain ⟨z14, h13, e13, e⟩ := bI_e e
      refine ⟨z14, h13, (tX2_writeBlock e13 (by omega)), ?_⟩
      obtain ⟨q14, e⟩ := ob_e e
      refine ⟨q14, ?_⟩
      obtain ⟨z18, h17, e15, e⟩ := bI_e e
      refine ⟨z18, h17, (TFX9_safeWithin e15), ?_⟩
      refine ⟨fun c16 => ?_, fun c16 => ?_⟩
      · have e := if_t e c16
        exact hrec _ _ _ _ _ _ e
      · have e := if_f e c16
        cases e
        exact ⟨rfl, rfl⟩
def sX9_safeWithin (FX9_safeWithin : Nat → Int32 → Int32 → Hp → RS) (rec : Nat → List Value → List Value → Hp → RS) (pc : Nat) (loc st : List Value) (h : Hp) : RS := match pc, loc, st with
  | 45, [.ref r0, .int x1, .int x2, .ref r3, .int x4, .int x5], [] => kX9_safeWithin_45 rec FX9_safeWithin r0 x1 x2 r3 x4 x5 h
  | _, _, _ => none
def gX9_safeWithin (FX9_safeWithin : Nat → Int32 → Int32 → Hp → RS) : Nat → Nat → List Value → List Value → Hp → RS
  | 0 => fun _ _ _ _ => none
  | n + 1 => sX9_safeWithin FX9_safeWithin (gX9_safeWithin FX9_safeWithin n)
theorem wX9_safeWithin {G : GG} {d : Nat} (hd : 5 ≤ d) (FX9_safeWithin : Nat → Int32 → Int32 → Hp → RS) (TFX9_safeWithin : ∀ {a0 a1 a2} {h : Hp} {o : OU} {h' : Hp}, FX9_safeWithin a0 a1 a2 h = some (o, h') → VM G mX9_safeWithin (d - 1) [.ref a0, .int a1, .int a2] h o h') : ∀ (n pc : Nat) (loc st : List Value) (h : Hp) (o : OU) (h' : Hp), gX9_safeWithin FX9_safeWithin n pc loc st h = some (o, h') → V G mX9_safeWithin d pc loc st h o h' := by
  intro n
  induction n with
  | zero => intro pc loc st h o h' e; cases e
  | succ n ih =>
    intro pc loc st h o h' e
    unfold gX9_safeWithin sX9_safeWithin at e
    split at e
    · exact uX9_safeWithin_45 hd _ ih _ TFX9_safeWithin e
    · cases e
theorem zX9_safeWithin_45 (FX9_safeWithin : Nat → Int32 → Int32 → Hp → RS) (n : Nat) (r0 : Nat) (x1 : Int32) (x2 : Int32) (r3 : Nat) (x4 : Int32) (x5 : Int32)  (h : Hp) : gX9_safeWithin FX9_safeWithin (n + 1) 45 [.ref r0, .int x1, .int x2, .ref r3, .int x4, .int x5] [] h = kX9_safeWithin_45 (gX9_safeWithin FX9_safeWithin n) FX9_safeWithin r0 x1 x2 r3 x4 x5 h := rfl
def rX9_safeWithin : Nat → (Nat → Int32 → Int32 → Hp → RS)
  | 0 => fun _ _ _ _ => none
  | n + 1 => fun a0 a1 a2 h => kX9_safeWithin_0 (gX9_safeWithin ((rX9_safeWithin n)) FF) ((rX9_safeWithin n)) a0 a1 a2 h
theorem rtX9_safeWithin {G : GG} : ∀ (n d : Nat), 5 + n ≤ d → (∀ (a0 : Nat) (a1 : Int32) (a2 : Int32) (h : Hp) (o : OU) (h' : Hp), (rX9_safeWithin n) a0 a1 a2 h = some (o, h') → VM G mX9_safeWithin d [.ref a0, .int a1, .int a2] h o h') := by
  intro n
  induction n with
  | zero => intro d hd; exact fun _ _ _ _ _ _ e => (by cases e)
  | succ n ih =>
    intro d hd
    have ih := ih (d - 1) (by omega)
    exact fun _ _ _ _ _ _ e => uX9_safeWithin_0 (by omega) _ (wX9_safeWithin (by omega) _ (@fun _ _ _ _ _ _ e => ih _ _ _ _ _ _ e) FF) _ (@fun _ _ _ _ _ _ e => ih _ _ _ _ _ _ e) e
def fX9_safeWithin (a0 : Nat) (a1 : Int32) (a2 : Int32) (h : Hp) : RS := (rX9_safeWithin 40) a0 a1 a2 h
theorem tX9_safeWithin {G : GG} {d : Nat} {a0 a1 a2} {h : Hp} {o : OU} {h' : Hp} (e : fX9_safeWithin a0 a1 a2 h = some (o, h')) (hd : 5 + 40 ≤ d) : VM G mX9_safeWithin d [.ref a0, .int a1, .int a2] h o h' := (rtX9_safeWithin 40 d hd) _ _ _ _ _ _ e
def kX9_fewest_0 (rec : Nat → List Value → List Value → Hp → RS)  (r0 : Nat) (h : Hp) : RS := (rec 2 [.ref r0, .int 0] [] h)
theorem uX9_fewest_0 {G : GG} {d : Nat} (hd : 46 ≤ d) (rec : Nat → List Value → List Value → Hp → RS) (hrec : ∀ pc loc st h o h', rec pc loc st h = some (o, h') → V G mX9_fewest d pc loc st h o h')   {r0 } {h : Hp} {o : OU} {h' : Hp} (e : kX9_fewest_0 rec  r0 h = some (o, h')) : VM G mX9_fewest d [.ref r0] h o h' := by
  unfold kX9_fewest_0 at e
  refine eX9_fewest r0 ?_
  exact hrec _ _ _ _ _ _ e
def kX9_fewest_2 (rec : Nat → List Value → List Value → Hp → RS)  (r0 : Nat) (x1 : Int32) (h : Hp) : RS := (if 4 < x1 then (some (.inl (some (.int (-1))), h)) else (if kH h r0 = 19 then (if kH h (rH h r0 3) = 5 then (if inB 0 (lH h (rH h r0 3)) = true then (if kH h (rH h (rH h r0 3) 0) = 15 then (bV (fX5_copyFrom (rH h (rH h r0 3) 0) (rH h r0 0) h) fun h5 => (if kH h5 r0 = 19 then (bI (fX9_safeWithin r0 x1 0 h5) fun z9 h8 => (if z9 = 0 then (rec 2 [.ref r0, .int (x1 + 1)] [] h8) else (some (.inl (some (.int x1)), h8)))) else none)) else none) else none) else none) else none))
theorem uX9_fewest_2 {G : GG} {d : Nat} (hd : 46 ≤ d) (rec : Nat → List Value → List Value → Hp → RS) (hrec : ∀ pc loc st h o h', rec pc loc st h = some (o, h') → V G mX9_fewest d pc loc st h o h')   {r0  x1 } {h : Hp} {o : OU} {h' : Hp} (e : kX9_fewest_2 rec  r0 x1 h = some (o, h')) : V G mX9_fewest d 2 [.ref r0, .int x1] [] h o h' := by
  unfold kX9_fewest_2 at e
  refine bX9_fewest_2 r0 x1 (by omega) ?_
  refine ⟨fun c1 => ?_, fun c1 => ?_⟩
  · have e := if_t e c1
    cases e
    exact ⟨rfl, rfl⟩
  · have e := if_f e c1
    obtain ⟨q2, e⟩ := ob_e e
    refine ⟨q2, ?_⟩
    obtain ⟨q3, e⟩ := ob_e e
    refine ⟨q3, ?_⟩
    obtain ⟨q4, e⟩ := ob_in e
    refine ⟨q4, ?_⟩
    obtain ⟨q5, e⟩ := ob_e e
    refine ⟨q5, ?_⟩
    obtain ⟨h5, e6, e⟩ := bV_e e
    refine ⟨h5, (tX5_copyFrom e6 (by omega)), ?_⟩
    obtain ⟨q7, e⟩ := ob_e e
    refine ⟨q7, ?_⟩
    obtain ⟨z9, h8, e8, e⟩ := bI_e e
    refine ⟨z9, h8, (tX9_safeWithin e8 (by omega)), ?_⟩
    refine ⟨fun c9 => ?_, fun c9 => ?_⟩
    · have e := if_t e c9
      exact hrec _ _ _ _ _ _ e
    · have e := if_f e c9
      cases e
      exact ⟨rfl, rfl⟩
def sX9_fewest  (rec : Nat → List Value → List Value → Hp → RS) (pc : Nat) (loc st : List Value) (h : Hp) : RS := match pc, loc, st with
  | 2, [.ref r0, .int x1], [] => kX9_fewest_2 rec  r0 x1 h
  | _, _, _ => none
def gX9_fewest  : Nat → Nat → List Value → List Value → Hp → RS
  | 0 => fun _ _ _ _ => none
  | n + 1 => sX9_fewest  (gX9_fewest  n)
theorem wX9_fewest {G : GG} {d : Nat} (hd : 46 ≤ d)   : ∀ (n pc : Nat) (loc st : List Value) (h : Hp) (o : OU) (h' : Hp), gX9_fewest  n pc loc st h = some (o, h') → V G mX9_fewest d pc loc st h o h' := by
  intro n
  induction n with
  | zero => intro pc loc st h o h' e; cases e
  | succ n ih =>
    intro pc loc st h o h' e
    unfold gX9_fewest sX9_fewest at e
    split at e
    · exact uX9_fewest_2 hd _ ih   e
    · cases e
theorem zX9_fewest_2  (n : Nat) (r0 : Nat) (x1 : Int32)  (h : Hp) : gX9_fewest  (n + 1) 2 [.ref r0, .int x1] [] h = kX9_fewest_2 (gX9_fewest  n)  r0 x1 h := rfl
def fX9_fewest (r0 : Nat) (h : Hp) : RS := kX9_fewest_0 (gX9_fewest FF) r0 h
theorem tX9_fewest {G : GG} {d : Nat} {r0} {h : Hp} {o : OU} {h' : Hp} (e : fX9_fewest r0 h = some (o, h')) (hd : 46 ≤ d) : VM G mX9_fewest d [.ref r0] h o h' := uX9_fewest_0 hd _ (wX9_fewest hd FF) e
def kX9_finds_0  (r0 : Nat) (h : Hp) : RS := (if kH h r0 = 19 then (if kH h (rH h r0 5) = 16 then (bI (fX6_firstFound (rH h r0 5) (rH h r0 0) h) fun z3 h2 => (some (.inl (some (.int z3)), h2))) else none) else none)
theorem uX9_finds_0 {G : GG} {d : Nat} (hd : 5 ≤ d)   {r0 } {h : Hp} {o : OU} {h' : Hp} (e : kX9_finds_0  r0 h = some (o, h')) : VM G mX9_finds d [.ref r0] h o h' := by
  unfold kX9_finds_0 at e
  refine eX9_finds r0 (by omega) ?_
  obtain ⟨q1, e⟩ := ob_e e
  refine ⟨q1, ?_⟩
  obtain ⟨q2, e⟩ := ob_e e
  refine ⟨q2, ?_⟩
  obtain ⟨z3, h2, e3, e⟩ := bI_e e
  refine ⟨z3, h2, (tX6_firstFound e3 (by omega)), ?_⟩
  cases e
  exact ⟨rfl, rfl⟩
def fX9_finds (r0 : Nat) (h : Hp) : RS := kX9_finds_0 r0 h
theorem tX9_finds {G : GG} {d : Nat} {r0} {h : Hp} {o : OU} {h' : Hp} (e : fX9_finds r0 h = some (o, h')) (hd : 5 ≤ d) : VM G mX9_finds d [.ref r0] h o h' := uX9_finds_0 hd e
def kX9_sweeps_0 (rec : Nat → List Value → List Value → Hp → RS)  (r0 : Nat) (h : Hp) : RS := (if kH h r0 = 19 then (if kH h (rH h r0 3) = 5 then (if inB 0 (lH h (rH h r0 3)) = true then (if kH h (rH h (rH h r0 3) 0) = 15 then (bV (fX5_copyFrom (rH h (rH h r0 3) 0) (rH h r0 0) h) fun h4 => (if kH h4 (rH h (rH h r0 3) 0) = 15 then (bV (fX5_crash (rH h (rH h r0 3) 0) h4) fun h7 => (rec 23 [.ref r0, .ref (rH h (rH h r0 3) 0), .int 0, .int 0] [] h7)) else none)) else none) else none) else none) else none)
theorem uX9_sweeps_0 {G : GG} {d : Nat} (hd : 7 ≤ d) (rec : Nat → List Value → List Value → Hp → RS) (hrec : ∀ pc loc st h o h', rec pc loc st h = some (o, h') → V G mX9_sweeps d pc loc st h o h')   {r0 } {h : Hp} {o : OU} {h' : Hp} (e : kX9_sweeps_0 rec  r0 h = some (o, h')) : VM G mX9_sweeps d [.ref r0] h o h' := by
  unfold kX9_sweeps_0 at e
  refine eX9_sweeps r0 (by omega) ?_
  obtain ⟨q1, e⟩ := ob_e e
  refine ⟨q1, ?_⟩
  obtain ⟨q2, e⟩ := ob_e e
  refine ⟨q2, ?_⟩
  obtain ⟨q3, e⟩ := ob_in e
  refine ⟨q3, ?_⟩
  obtain ⟨q4, e⟩ := ob_e e
  refine ⟨q4, ?_⟩
  obtain ⟨h4, e5, e⟩ := bV_e e
  refine ⟨h4, (tX5_copyFrom e5 (by omega)), ?_⟩
  obtain ⟨q6, e⟩ := ob_e e
  refine ⟨q6, ?_⟩
  obtain ⟨h7, e7, e⟩ := bV_e e
  refine ⟨h7, (tX5_crash e7 (by omega)), ?_⟩
  exact hrec _ _ _ _ _ _ e
def kX9_sweeps_23 (rec : Nat → List Value → List Value → Hp → RS)  (r0 : Nat) (r1 : Nat) (x2 : Int32) (x3 : Int32) (h : Hp) : RS := (if 10000 ≤ x3 then (some (.inl (some (.int x2)), h)) else (if kH h r0 = 19 then (if kH h (rH h r0 5) = 16 then (bI (fX6_take (rH h r0 5) r1 7 0 0 0 h) fun z4 h3 => (if ¬ z4 = 0 then (if kH h3 r0 = 19 then (if kH h3 (rH h3 r0 4) = 12 then (bI (fX2_settleAll (rH h3 r0 4) r1 h3) fun z10 h9 => (rec 23 [.ref r0, .ref r1, .int (x2 + 1), .int (x3 + 1)] [] h9)) else none) else none) else (some (.inl (some (.int x2)), h3)))) else none) else none))
theorem uX9_sweeps_23 {G : GG} {d : Nat} (hd : 7 ≤ d) (rec : Nat → List Value → List Value → Hp → RS) (hrec : ∀ pc loc st h o h', rec pc loc st h = some (o, h') → V G mX9_sweeps d pc loc st h o h')   {r0  r1  x2  x3 } {h : Hp} {o : OU} {h' : Hp} (e : kX9_sweeps_23 rec  r0 r1 x2 x3 h = some (o, h')) : V G mX9_sweeps d 23 [.ref r0, .ref r1, .int x2, .int x3] [] h o h' := by
  unfold kX9_sweeps_23 at e
  refine bX9_sweeps_23 r0 r1 x2 x3 (by omega) ?_
  refine ⟨fun c1 => ?_, fun c1 => ?_⟩
  · have e := if_t e c1
    cases e
    exact ⟨rfl, rfl⟩
  · have e := if_f e c1
    obtain ⟨q2, e⟩ := ob_e e
    refine ⟨q2, ?_⟩
    obtain ⟨q3, e⟩ := ob_e e
    refine ⟨q3, ?_⟩
    obtain ⟨z4, h3, e4, e⟩ := bI_e e
    refine ⟨z4, h3, (tX6_take e4 (by omega)), ?_⟩
    refine ⟨fun c5 => ?_, fun c5 => ?_⟩
    · have e := if_t e c5
      obtain ⟨q6, e⟩ := ob_e e
      refine ⟨q6, ?_⟩
      obtain ⟨q7, e⟩ := ob_e e
      refine ⟨q7, ?_⟩
      obtain ⟨z10, h9, e8, e⟩ := bI_e e
      refine ⟨z10, h9, (tX2_settleAll e8 (by omega)), ?_⟩
      exact hrec _ _ _ _ _ _ e
    · have e := if_n e c5
      cases e
      exact ⟨rfl, rfl⟩
def sX9_sweeps  (rec : Nat → List Value → List Value → Hp → RS) (pc : Nat) (loc st : List Value) (h : Hp) : RS := match pc, loc, st with
  | 23, [.ref r0, .ref r1, .int x2, .int x3], [] => kX9_sweeps_23 rec  r0 r1 x2 x3 h
  | _, _, _ => none
def gX9_sweeps  : Nat → Nat → List Value → List Value → Hp → RS
  | 0 => fun _ _ _ _ => none
  | n + 1 => sX9_sweeps  (gX9_sweeps  n)
theorem wX9_sweeps {G : GG} {d : Nat} (hd : 7 ≤ d)   : ∀ (n pc : Nat) (loc st : List Value) (h : Hp) (o : OU) (h' : Hp), gX9_sweeps  n pc loc st h = some (o, h') → V G mX9_sweeps d pc loc st h o h' := by
  intro n
  induction n with
  | zero => intro pc loc st h o h' e; cases e
  | succ n ih =>
    intro pc loc st h o h' e
    unfold gX9_sweeps sX9_sweeps at e
    split at e
    · exact uX9_sweeps_23 hd _ ih   e
    · cases e
theorem zX9_sweeps_23  (n : Nat) (r0 : Nat) (r1 : Nat) (x2 : Int32) (x3 : Int32)  (h : Hp) : gX9_sweeps  (n + 1) 23 [.ref r0, .ref r1, .int x2, .int x3] [] h = kX9_sweeps_23 (gX9_sweeps  n)  r0 r1 x2 x3 h := rfl
def fX9_sweeps (r0 : Nat) (h : Hp) : RS := kX9_sweeps_0 (gX9_sweeps FF) r0 h
theorem tX9_sweeps {G : GG} {d : Nat} {r0} {h : Hp} {o : OU} {h' : Hp} (e : fX9_sweeps r0 h = some (o, h')) (hd : 7 ≤ d) : VM G mX9_sweeps d [.ref r0] h o h' := uX9_sweeps_0 hd _ (wX9_sweeps hd FF) e
def kX9_fitsBook_0 (rec : Nat → List Value → List Value → Hp → RS)  (r0 : Nat) (x1 : Int32) (h : Hp) : RS := (rec 2 [.ref r0, .int x1, .int 0] [] h)
theorem uX9_fitsBook_0 {G : GG} {d : Nat} (hd : 1 ≤ d) (rec : Nat → List Value → List Value → Hp → RS) (hrec : ∀ pc loc st h o h', rec pc loc st h = some (o, h') → V G mX9_fitsBook d pc loc st h o h')   {r0  x1 } {h : Hp} {o : OU} {h' : Hp} (e : kX9_fitsBook_0 rec  r0 x1 h = some (o, h')) : VM G mX9_fitsBook d [.ref r0, .int x1] h o h' := by
  unfold kX9_fitsBook_0 at e
  refine eX9_fitsBook r0 x1 ?_
  exact hrec _ _ _ _ _ _ e
def kX9_fitsBook_2 (rec : Nat → List Value → List Value → Hp → RS)  (r0 : Nat) (x1 : Int32) (x2 : Int32) (h : Hp) : RS := (if 16 ≤ x2 then (some (.inl (some (.int 1)), h)) else (if kH h r0 = 19 then (if kH h (rH h r0 8) = 1 then (if inB x2 (lH h (rH h r0 8)) = true then (if (h.2 (rH h r0 8) x2.toNatClampNeg) = (-1) then (rec 2 [.ref r0, .int x1, .int (x2 + 1)] [] h) else (if kH h (rH h r0 9) = 2 then (if inB ((x1 * 16) + x2) (lH h (rH h r0 9)) = true then (if (h.2 (rH h r0 8) x2.toNatClampNeg) = (h.2 (rH h r0 9) ((x1 * 16) + x2).toNatClampNeg) then (rec 2 [.ref r0, .int x1, .int (x2 + 1)] [] h) else (some (.inl (some (.int 0)), h))) else none) else none)) else none) else none) else none))
theorem uX9_fitsBook_2 {G : GG} {d : Nat} (hd : 1 ≤ d) (rec : Nat → List Value → List Value → Hp → RS) (hrec : ∀ pc loc st h o h', rec pc loc st h = some (o, h') → V G mX9_fitsBook d pc loc st h o h')   {r0  x1  x2 } {h : Hp} {o : OU} {h' : Hp} (e : kX9_fitsBook_2 rec  r0 x1 x2 h = some (o, h')) : V G mX9_fitsBook d 2 [.ref r0, .int x1, .int x2] [] h o h' := by
  unfold kX9_fitsBook_2 at e
  refine bX9_fitsBook_2 r0 x1 x2 ?_
  refine ⟨fun c1 => ?_, fun c1 => ?_⟩
  · have e := if_t e c1
    cases e
    exact ⟨rfl, rfl⟩
  · have e := if_f e c1
    obtain ⟨q2, e⟩ := ob_e e
    refine ⟨q2, ?_⟩
    obtain ⟨q3, e⟩ := ob_e e
    refine ⟨q3, ?_⟩
    obtain ⟨q4, e⟩ := ob_in e
    refine ⟨q4, ?_⟩
    refine ⟨fun c5 => ?_, fun c5 => ?_⟩
    · have e := if_t e c5
      exact hrec _ _ _ _ _ _ e
    · have e := if_f e c5
      obtain ⟨q6, e⟩ := ob_e e
      refine ⟨q6, ?_⟩
      obtain ⟨q7, e⟩ := ob_in e
      refine ⟨q7, ?_⟩
      refine ⟨fun c8 => ?_, fun c8 => ?_⟩
      · have e := if_t e c8
        exact hrec _ _ _ _ _ _ e
      · have e := if_f e c8
        cases e
        exact ⟨rfl, rfl⟩
def sX9_fitsBook  (rec : Nat → List Value → List Value → Hp → RS) (pc : Nat) (loc st : List Value) (h : Hp) : RS := match pc, loc, st with
  | 2, [.ref r0, .int x1, .int x2], [] => kX9_fitsBook_2 rec  r0 x1 x2 h
  | _, _, _ => none
def gX9_fitsBook  : Nat → Nat → List Value → List Value → Hp → RS
  | 0 => fun _ _ _ _ => none
  | n + 1 => sX9_fitsBook  (gX9_fitsBook  n)
theorem wX9_fitsBook {G : GG} {d : Nat} (hd : 1 ≤ d)   : ∀ (n pc : Nat) (loc st : List Value) (h : Hp) (o : OU) (h' : Hp), gX9_fitsBook  n pc loc st h = some (o, h') → V G mX9_fitsBook d pc loc st h o h' := by
  intro n
  induction n with
  | zero => intro pc loc st h o h' e; cases e
  | succ n ih =>
    intro pc loc st h o h' e
    unfold gX9_fitsBook sX9_fitsBook at e
    split at e
    · exact uX9_fitsBook_2 hd _ ih   e
    · cases e
theorem zX9_fitsBook_2  (n : Nat) (r0 : Nat) (x1 : Int32) (x2 : Int32)  (h : Hp) : gX9_fitsBook  (n + 1) 2 [.ref r0, .int x1, .int x2] [] h = kX9_fitsBook_2 (gX9_fitsBook  n)  r0 x1 x2 h := rfl
def fX9_fitsBook (r0 : Nat) (x1 : Int32) (h : Hp) : RS := kX9_fitsBook_0 (gX9_fitsBook FF) r0 x1 h
theorem tX9_fitsBook {G : GG} {d : Nat} {r0 x1} {h : Hp} {o : OU} {h' : Hp} (e : fX9_fitsBook r0 x1 h = some (o, h')) (hd : 1 ≤ d) : VM G mX9_fitsBook d [.ref r0, .int x1] h o h' := uX9_fitsBook_0 hd _ (wX9_fitsBook hd FF) e
def kX9_fittingBlocks_0 (rec : Nat → List Value → List Value → Hp → RS)  (r0 : Nat) (h : Hp) : RS := (if kH h r0 = 19 then (if kH h (rH h r0 0) = 15 then (bI (fX5_dirtyBlocks (rH h r0 0) h) fun z3 h2 => (rec 12 [.ref r0, .int z3, .int 0, .int 0] [] h2)) else none) else none)
theorem uX9_fittingBlocks_0 {G : GG} {d : Nat} (hd : 4 ≤ d) (rec : Nat → List Value → List Value → Hp → RS) (hrec : ∀ pc loc st h o h', rec pc loc st h = some (o, h') → V G mX9_fittingBlocks d pc loc st h o h')   {r0 } {h : Hp} {o : OU} {h' : Hp} (e : kX9_fittingBlocks_0 rec  r0 h = some (o, h')) : VM G mX9_fittingBlocks d [.ref r0] h o h' := by
  unfold kX9_fittingBlocks_0 at e
  refine eX9_fittingBlocks r0 (by omega) ?_
  obtain ⟨q1, e⟩ := ob_e e
  refine ⟨q1, ?_⟩
  obtain ⟨q2, e⟩ := ob_e e
  refine ⟨q2, ?_⟩
  obtain ⟨z3, h2, e3, e⟩ := bI_e e
  refine ⟨z3, h2, (tX5_dirtyBlocks e3 (by omega)), ?_⟩
  exact hrec _ _ _ _ _ _ e
def kX9_fittingBlocks_12 (rec : Nat → List Value → List Value → Hp → RS)  (r0 : Nat) (x1 : Int32) (x2 : Int32) (x3 : Int32) (h : Hp) : RS := (if kH h r0 = 19 then (if kH h (rH h r0 0) = 15 then (if (h.2 (rH h r0 0) 0) ≤ x3 then (some (.inl (some (.int x2)), h)) else (if ((x1 >>> (x3 &&& 31)) &&& 1) = 0 then (rec 12 [.ref r0, .int x1, .int x2, .int (x3 + 1)] [] h) else (if kH h (rH h r0 4) = 12 then (bV (fX2_draft (rH h r0 4) (rH h r0 0) x3 h) fun h5 => (if kH h5 r0 = 19 then (if kH h5 (rH h5 r0 4) = 12 then (if kH h5 (rH h5 (rH h5 r0 4) 2) = 2 then (if kH h5 (rH h5 r0 9) = 2 then (if ¬ (x3 * 16) < 0 then (if 0 + 16 ≤ lH h5 (rH h5 (rH h5 r0 4) 2) then (if (x3 * 16).toNatClampNeg + 16 ≤ lH h5 (rH h5 r0 9) then (bI (fX9_fitsBook r0 x3 (h5.1, (cpI h5.2 (rH h5 (rH h5 r0 4) 2) (rH h5 r0 9) 0 (x3 * 16).toNatClampNeg 16))) fun z16 h15 => (if z16 = 0 then (rec 12 [.ref r0, .int x1, .int x2, .int (x3 + 1)] [] h15) else (rec 12 [.ref r0, .int x1, .int (x2 ||| (1 <<< (x3 &&& 31))), .int (x3 + 1)] [] h15))) else none) else none) else none) else none) else none) else none) else none)) else none))) else none) else none)
theorem uX9_fittingBlocks_12 {G : GG} {d : Nat} (hd : 4 ≤ d) (rec : Nat → List Value → List Value → Hp → RS) (hrec : ∀ pc loc st h o h', rec pc loc st h = some (o, h') → V G mX9_fittingBlocks d pc loc st h o h')   {r0  x1  x2  x3 } {h : Hp} {o : OU} {h' : Hp} (e : kX9_fittingBlocks_12 rec  r0 x1 x2 x3 h = some (o, h')) : V G mX9_fittingBlocks d 12 [.ref r0, .int x1, .int x2, .int x3] [] h o h' := by
  unfold kX9_fittingBlocks_12 at e
  refine bX9_fittingBlocks_12 r0 x1 x2 x3 (by omega) ?_
  obtain ⟨q1, e⟩ := ob_e e
  refine ⟨q1, ?_⟩
  obtain ⟨q2, e⟩ := ob_e e
  refine ⟨q2, ?_⟩
  refine ⟨fun c3 => ?_, fun c3 => ?_⟩
  · have e := if_t e c3
    cases e
    exact ⟨rfl, rfl⟩
  · have e := if_f e c3
    refine ⟨fun c4 => ?_, fun c4 => ?_⟩
    · have e := if_t e c4
      exact hrec _ _ _ _ _ _ e
    · have e := if_f e c4
      obtain ⟨q5, e⟩ := ob_e e
      refine ⟨q5, ?_⟩
      obtain ⟨h5, e6, e⟩ := bV_e e
      refine ⟨h5, (tX2_draft e6 (by omega)), ?_⟩
      obtain ⟨q7, e⟩ := ob_e e
      refine ⟨q7, ?_⟩
      obtain ⟨q8, e⟩ := ob_e e
      refine ⟨q8, ?_⟩
      obtain ⟨q9, e⟩ := ob_e e
      refine ⟨q9, ?_⟩
      obtain ⟨q10, e⟩ := ob_e e
      refine ⟨q10, ?_⟩
      obtain ⟨q11, e⟩ := ob_e e
      refine ⟨q11, ?_⟩
      obtain ⟨q12, e⟩ := ob_e e
      refine ⟨q12, ?_⟩
      obtain ⟨q13, e⟩ := ob_e e
      refine ⟨q13, ?_⟩
      obtain ⟨z16, h15, e14, e⟩ := bI_e e
      refine ⟨z16, h15, (tX9_fitsBook e14 (by omega)), ?_⟩
      refine ⟨fun c15 => ?_, fun c15 => ?_⟩
      · have e := if_t e c15
        exact hrec _ _ _ _ _ _ e
      · have e := if_f e c15
        exact hrec _ _ _ _ _ _ e
def sX9_fittingBlocks  (rec : Nat → List Value → List Value → Hp → RS) (pc : Nat) (loc st : List Value) (h : Hp) : RS := match pc, loc, st with
  | 12, [.ref r0, .int x1, .int x2, .int x3], [] => kX9_fittingBlocks_12 rec  r0 x1 x2 x3 h
  | _, _, _ => none
def gX9_fittingBlocks  : Nat → Nat → List Value → List Value → Hp → RS
  | 0 => fun _ _ _ _ => none
  | n + 1 => sX9_fittingBlocks  (gX9_fittingBlocks  n)
theorem wX9_fittingBlocks {G : GG} {d : Nat} (hd : 4 ≤ d)   : ∀ (n pc : Nat) (loc st : List Value) (h : Hp) (o : OU) (h' : Hp), gX9_fittingBlocks  n pc loc st h = some (o, h') → V G mX9_fittingBlocks d pc loc st h o h' := by
  intro n
  induction n with
  | zero => intro pc loc st h o h' e; cases e
  | succ n ih =>
    intro pc loc st h o h' e
    unfold gX9_fittingBlocks sX9_fittingBlocks at e
    split at e
    · exact uX9_fittingBlocks_12 hd _ ih   e
    · cases e
theorem zX9_fittingBlocks_12  (n : Nat) (r0 : Nat) (x1 : Int32) (x2 : Int32) (x3 : Int32)  (h : Hp) : gX9_fittingBlocks  (n + 1) 12 [.ref r0, .int x1, .int x2, .int x3] [] h = kX9_fittingBlocks_12 (gX9_fittingBlocks  n)  r0 x1 x2 x3 h := rfl
def fX9_fittingBlocks (r0 : Nat) (h : Hp) : RS := kX9_fittingBlocks_0 (gX9_fittingBlocks FF) r0 h
theorem tX9_fittingBlocks {G : GG} {d : Nat} {r0} {h : Hp} {o : OU} {h' : Hp} (e : fX9_fittingBlocks r0 h = some (o, h')) (hd : 4 ≤ d) : VM G mX9_fittingBlocks d [.ref r0] h o h' := uX9_fittingBlocks_0 hd _ (wX9_fittingBlocks hd FF) e
def kX9_fits_0  (r0 : Nat) (h : Hp) : RS := (if kH h r0 = 19 then (bI (fX9_fittingBlocks r0 h) fun z2 h1 => (some (.inl (some (.int z2)), h1))) else none)
theorem uX9_fits_0 {G : GG} {d : Nat} (hd : 5 ≤ d)   {r0 } {h : Hp} {o : OU} {h' : Hp} (e : kX9_fits_0  r0 h = some (o, h')) : VM G mX9_fits d [.ref r0] h o h' := by
  unfold kX9_fits_0 at e
  refine eX9_fits r0 (by omega) ?_
  obtain ⟨q1, e⟩ := ob_e e
  refine ⟨q1, ?_⟩
  obtain ⟨z2, h1, e2, e⟩ := bI_e e
  refine ⟨z2, h1, (tX9_fittingBlocks e2 (by omega)), ?_⟩
  cases e
  exact ⟨rfl, rfl⟩
def fX9_fits (r0 : Nat) (h : Hp) : RS := kX9_fits_0 r0 h
theorem tX9_fits {G : GG} {d : Nat} {r0} {h : Hp} {o : OU} {h' : Hp} (e : fX9_fits r0 h = some (o, h')) (hd : 5 ≤ d) : VM G mX9_fits d [.ref r0] h o h' := uX9_fits_0 hd e
def kX9_mostAlike_0 (rec : Nat → List Value → List Value → Hp → RS)  (r0 : Nat) (x1 : Int32) (x2 : Int32) (h : Hp) : RS := (rec 5 [.ref r0, .int x1, .int x2, .int 0, .int 0, uV, uV] [] h)
theorem uX9_mostAlike_0 {G : GG} {d : Nat} (hd : 1 ≤ d) (rec : Nat → List Value → List Value → Hp → RS) (hrec : ∀ pc loc st h o h', rec pc loc st h = some (o, h') → V G mX9_mostAlike d pc loc st h o h')   {r0  x1  x2 } {h : Hp} {o : OU} {h' : Hp} (e : kX9_mostAlike_0 rec  r0 x1 x2 h = some (o, h')) : VM G mX9_mostAlike d [.ref r0, .int x1, .int x2] h o h' := by
  unfold kX9_mostAlike_0 at e
  refine eX9_mostAlike r0 x1 x2 ?_
  exact hrec _ _ _ _ _ _ e
def kX9_mostAlike_5 (rec : Nat → List Value → List Value → Hp → RS)  (r0 : Nat) (x1 : Int32) (x2 : Int32) (x3 : Int32) (x4 : Int32) (h : Hp) : RS := (if kH h r0 = 19 then (if kH h (rH h r0 0) = 15 then (if (h.2 (rH h r0 0) 0) ≤ x4 then (some (.inl (some (.int x3)), h)) else (rec 24 [.ref r0, .int x1, .int x2, .int x3, .int x4, .int 0, .int x4] [] h)) else none) else none)
theorem uX9_mostAlike_5 {G : GG} {d : Nat} (hd : 1 ≤ d) (rec : Nat → List Value → List Value → Hp → RS) (hrec : ∀ pc loc st h o h', rec pc loc st h = some (o, h') → V G mX9_mostAlike d pc loc st h o h')   {r0  x1  x2  x3  x4 } {h : Hp} {o : OU} {h' : Hp} (e : kX9_mostAlike_5 rec  r0 x1 x2 x3 x4 h = some (o, h')) : V G mX9_mostAlike d 5 [.ref r0, .int x1, .int x2, .int x3, .int x4, uV, uV] [] h o h' := by
  unfold kX9_mostAlike_5 at e
  refine bX9_mostAlike_5 r0 x1 x2 x3 x4 ?_
  obtain ⟨q1, e⟩ := ob_e e
  refine ⟨q1, ?_⟩
  obtain ⟨q2, e⟩ := ob_e e
  refine ⟨q2, ?_⟩
  refine ⟨fun c3 => ?_, fun c3 => ?_⟩
  · have e := if_t e c3
    cases e
    exact ⟨rfl, rfl⟩
  · have e := if_f e c3
    exact hrec _ _ _ _ _ _ e
def kX9_mostAlike_24 (rec : Nat → List Value → List Value → Hp → RS)  (r0 : Nat) (x1 : Int32) (x2 : Int32) (x3 : Int32) (x4 : Int32) (x5 : Int32) (x6 : Int32) (h : Hp) : RS := (if ((x1 >>> (x4 &&& 31)) &&& 1) = 0 then (rec 5 [.ref r0, .int x1, .int x2, .int (if x3 < x5 then x5 else x3), .int (x4 + 1), uV, uV] [] h) else (if kH h r0 = 19 then (if kH h (rH h r0 0) = 15 then (if (h.2 (rH h r0 0) 0) ≤ x6 then (rec 5 [.ref r0, .int x1, .int x2, .int (if x3 < x5 then x5 else x3), .int (x4 + 1), uV, uV] [] h) else (if ((x1 >>> (x6 &&& 31)) &&& 1) = 0 then (rec 24 [.ref r0, .int x1, .int x2, .int x3, .int x4, .int x5, .int (x6 + 1)] [] h) else (if kH h (rH h r0 9) = 2 then (if inB ((x6 * 16) + x2) (lH h (rH h r0 9)) = true then (if inB ((x4 * 16) + x2) (lH h (rH h r0 9)) = true then (if ¬ (h.2 (rH h r0 9) ((x6 * 16) + x2).toNatClampNeg) = (h.2 (rH h r0 9) ((x4 * 16) + x2).toNatClampNeg) then (rec 24 [.ref r0, .int x1, .int x2, .int x3, .int x4, .int x5, .int (x6 + 1)] [] h) else (rec 24 [.ref r0, .int x1, .int x2, .int x3, .int x4, .int (x5 + 1), .int (x6 + 1)] [] h)) else none) else none) else none))) else none) else none))
theorem uX9_mostAlike_24 {G : GG} {d : Nat} (hd : 1 ≤ d) (rec : Nat → List Value → List Value → Hp → RS) (hrec : ∀ pc loc st h o h', rec pc loc st h = some (o, h') → V G mX9_mostAlike d pc loc st h o h')   {r0  x1  x2  x3  x4  x5  x6 } {h : Hp} {o : OU} {h' : Hp} (e : kX9_mostAlike_24 rec  r0 x1 x2 x3 x4 x5 x6 h = some (o, h')) : V G mX9_mostAlike d 24 [.ref r0, .int x1, .int x2, .int x3, .int x4, .int x5, .int x6] [] h o h' := by
  unfold kX9_mostAlike_24 at e
  refine bX9_mostAlike_24 r0 x1 x2 x3 x4 x5 x6 (by omega) ?_
  refine ⟨fun c1 => ?_, fun c1 => ?_⟩
  · have e := if_t e c1
    exact hrec _ _ _ _ _ _ e
  · have e := if_f e c1
    obtain ⟨q2, e⟩ := ob_e e
    refine ⟨q2, ?_⟩
    obtain ⟨q3, e⟩ := ob_e e
    refine ⟨q3, ?_⟩
    refine ⟨fun c4 => ?_, fun c4 => ?_⟩
    · have e := if_t e c4
      exact hrec _ _ _ _ _ _ e
    · have e := if_f e c4
      refine ⟨fun c5 => ?_, fun c5 => ?_⟩
      · have e := if_t e c5
        exact hrec _ _ _ _ _ _ e
      · have e := if_f e c5
        obtain ⟨q6, e⟩ := ob_e e
        refine ⟨q6, ?_⟩
        obtain ⟨q7, e⟩ := ob_in e
        refine ⟨q7, ?_⟩
        obtain ⟨q8, e⟩ := ob_in e
        refine ⟨q8, ?_⟩
        refine ⟨fun c9 => ?_, fun c9 => ?_⟩
        · have e := if_t e c9
          exact hrec _ _ _ _ _ _ e
        · have e := if_n e c9
          exact hrec _ _ _ _ _ _ e
def sX9_mostAlike  (rec : Nat → List Value → List Value → Hp → RS) (pc : Nat) (loc st : List Value) (h : Hp) : RS := match pc, loc, st with
  | 5, [.ref r0, .int x1, .int x2, .int x3, .int x4, _, _], [] => kX9_mostAlike_5 rec  r0 x1 x2 x3 x4 h
  | 24, [.ref r0, .int x1, .int x2, .int x3, .int x4, .int x5, .int x6], [] => kX9_mostAlike_24 rec  r0 x1 x2 x3 x4 x5 x6 h
  | _, _, _ => none
def gX9_mostAlike  : Nat → Nat → List Value → List Value → Hp → RS
  | 0 => fun _ _ _ _ => none
  | n + 1 => sX9_mostAlike  (gX9_mostAlike  n)
theorem wX9_mostAlike {G : GG} {d : Nat} (hd : 1 ≤ d)   : ∀ (n pc : Nat) (loc st : List Value) (h : Hp) (o : OU) (h' : Hp), gX9_mostAlike  n pc loc st h = some (o, h') → V G mX9_mostAlike d pc loc st h o h' := by
  intro n
  induction n with
  | zero => intro pc loc st h o h' e; cases e
  | succ n ih =>
    intro pc loc st h o h' e
    unfold gX9_mostAlike sX9_mostAlike at e
    split at e
    · exact V.drop (llp_r (llp_r (llp_r (llp_r (llp_r (llp_u (llp_u llp_nil))))))) (uX9_mostAlike_5 hd _ ih   e)
    · exact uX9_mostAlike_24 hd _ ih   e
    · cases e
theorem zX9_mostAlike_5  (n : Nat) (r0 : Nat) (x1 : Int32) (x2 : Int32) (x3 : Int32) (x4 : Int32) (y5 : Value) (y6 : Value) (h : Hp) : gX9_mostAlike  (n + 1) 5 [.ref r0, .int x1, .int x2, .int x3, .int x4, y5, y6] [] h = kX9_mostAlike_5 (gX9_mostAlike  n)  r0 x1 x2 x3 x4 h := rfl
theorem zX9_mostAlike_24  (n : Nat) (r0 : Nat) (x1 : Int32) (x2 : Int32) (x3 : Int32) (x4 : Int32) (x5 : Int32) (x6 : Int32)  (h : Hp) : gX9_mostAlike  (n + 1) 24 [.ref r0, .int x1, .int x2, .int x3, .int x4, .int x5, .int x6] [] h = kX9_mostAlike_24 (gX9_mostAlike  n)  r0 x1 x2 x3 x4 x5 x6 h := rfl
def fX9_mostAlike (r0 : Nat) (x1 : Int32) (x2 : Int32) (h : Hp) : RS := kX9_mostAlike_0 (gX9_mostAlike FF) r0 x1 x2 h
theorem tX9_mostAlike {G : GG} {d : Nat} {r0 x1 x2} {h : Hp} {o : OU} {h' : Hp} (e : fX9_mostAlike r0 x1 x2 h = some (o, h')) (hd : 1 ≤ d) : VM G mX9_mostAlike d [.ref r0, .int x1, .int x2] h o h' := uX9_mostAlike_0 hd _ (wX9_mostAlike hd FF) e
def kX9_blow_0 (rec : Nat → List Value → List Value → Hp → RS)  (r0 : Nat) (x1 : Int32) (x2 : Int32) (x3 : Int32) (h : Hp) : RS := (if kH h r0 = 19 then (if kH h (rH h r0 3) = 5 then (if inB 0 (lH h (rH h r0 3)) = true then (if kH h (rH h (rH h r0 3) 0) = 15 then (bV (fX5_copyFrom (rH h (rH h r0 3) 0) (rH h r0 0) h) fun h4 => (letH (nwH h4 17 0 4) fun (h7 : Hp) => (if (nH h4) ≠ 0 then (bV (fX7_init (nH h4) x1 h7) fun h9 => (rec 30 [.ref r0, uV, .int x2, .int x3, .ref (rH h (rH h r0 3) 0), .ref (nH h4), .int 0] [] h9)) else none))) else none) else none) else none) else none)
theorem uX9_blow_0 {G : GG} {d : Nat} (hd : 7 ≤ d) (rec : Nat → List Value → List Value → Hp → RS) (hrec : ∀ pc loc st h o h', rec pc loc st h = some (o, h') → V G mX9_blow d pc loc st h o h')   {r0  x1  x2  x3 } {h : Hp} {o : OU} {h' : Hp} (e : kX9_blow_0 rec  r0 x1 x2 x3 h = some (o, h')) : VM G mX9_blow d [.ref r0, .int x1, .int x2, .int x3] h o h' := by
  unfold kX9_blow_0 at e
  refine eX9_blow r0 x1 x2 x3 (by omega) ?_
  obtain ⟨q1, e⟩ := ob_e e
  refine ⟨q1, ?_⟩
  obtain ⟨q2, e⟩ := ob_e e
  refine ⟨q2, ?_⟩
  obtain ⟨q3, e⟩ := ob_in e
  refine ⟨q3, ?_⟩
  obtain ⟨q4, e⟩ := ob_e e
  refine ⟨q4, ?_⟩
  obtain ⟨h4, e5, e⟩ := bV_e e
  refine ⟨h4, (tX5_copyFrom e5 (by omega)), ?_⟩
  intro h7 evh7
  have e := lt_e evh7 e
  obtain ⟨q6, e⟩ := ob_e e
  refine ⟨q6, ?_⟩
  obtain ⟨h9, e7, e⟩ := bV_e e
  refine ⟨h9, (tX7_init e7 (by omega)), ?_⟩
  exact hrec _ _ _ _ _ _ e
def kX9_blow_30 (rec : Nat → List Value → List Value → Hp → RS)  (r0 : Nat) (x2 : Int32) (x3 : Int32) (r4 : Nat) (r5 : Nat) (x6 : Int32) (h : Hp) : RS := (if x2 ≤ x6 then (some (.inl (some (.ref r4)), h)) else (if kH h r4 = 15 then (if kH h r5 = 17 then (bV (fX7_drawStep r5 (h.2 r4 0) h) fun h3 => (if kH h3 r0 = 19 then (if kH h3 r5 = 17 then (if kH h3 (rH h3 r0 5) = 16 then (bI (fX6_take (rH h3 r0 5) r4 (h3.2 r5 1) (h3.2 r5 2) (h3.2 r5 3) 0 h3) fun z9 h8 => (if kH h8 r5 = 17 then (bI (fX7_drawn r5 16 h8) fun z13 h12 => (if x3 ≤ z13 then (rec 30 [.ref r0, uV, .int x2, .int x3, .ref r4, .ref r5, .int (x6 + 1)] [] h12) else (if kH h12 r4 = 15 then (bV (fX5_crash r4 h12) fun h17 => (rec 30 [.ref r0, uV, .int x2, .int x3, .ref r4, .ref r5, .int (x6 + 1)] [] h17)) else none))) else none)) else none) else none) else none)) else none) else none))
theorem uX9_blow_30 {G : GG} {d : Nat} (hd : 7 ≤ d) (rec : Nat → List Value → List Value → Hp → RS) (hrec : ∀ pc loc st h o h', rec pc loc st h = some (o, h') → V G mX9_blow d pc loc st h o h')   {r0  x2  x3  r4  r5  x6 } {h : Hp} {o : OU} {h' : Hp} (e : kX9_blow_30 rec  r0 x2 x3 r4 r5 x6 h = some (o, h')) : V G mX9_blow d 30 [.ref r0, uV, .int x2, .int x3, .ref r4, .ref r5, .int x6] [] h o h' := by
  unfold kX9_blow_30 at e
  refine bX9_blow_30 r0 x2 x3 r4 r5 x6 (by omega) ?_
  refine ⟨fun c1 => ?_, fun c1 => ?_⟩
  · have e := if_t e c1
    cases e
    exact ⟨rfl, rfl⟩
  · have e := if_f e c1
    obtain ⟨q2, e⟩ := ob_e e
    refine ⟨q2, ?_⟩
    obtain ⟨q3, e⟩ := ob_e e
    refine ⟨q3, ?_⟩
    obtain ⟨h3, e4, e⟩ := bV_e e
    refine ⟨h3, (tX7_drawStep e4 (by omega)), ?_⟩
    obtain ⟨q5, e⟩ := ob_e e
    refine ⟨q5, ?_⟩
    obtain ⟨q6, e⟩ := ob_e e
    refine ⟨q6, ?_⟩
    obtain ⟨q7, e⟩ := ob_e e
    refine ⟨q7, ?_⟩
    obtain ⟨z9, h8, e8, e⟩ := bI_e e
    refine ⟨z9, h8, (tX6_take e8 (by omega)), ?_⟩
    obtain ⟨q9, e⟩ := ob_e e
    refine ⟨q9, ?_⟩
    obtain ⟨z13, h12, e10, e⟩ := bI_e e
    refine ⟨z13, h12, (tX7_drawn e10 (by omega)), ?_⟩
    refine ⟨fun c11 => ?_, fun c11 => ?_⟩
    · have e := if_t e c11
      exact hrec _ _ _ _ _ _ e
    · have e := if_f e c11
      obtain ⟨q12, e⟩ := ob_e e
      refine ⟨q12, ?_⟩
      obtain ⟨h17, e13, e⟩ := bV_e e
      refine ⟨h17, (tX5_crash e13 (by omega)), ?_⟩
      exact hrec _ _ _ _ _ _ e
def sX9_blow  (rec : Nat → List Value → List Value → Hp → RS) (pc : Nat) (loc st : List Value) (h : Hp) : RS := match pc, loc, st with
  | 30, [.ref r0, _, .int x2, .int x3, .ref r4, .ref r5, .int x6], [] => kX9_blow_30 rec  r0 x2 x3 r4 r5 x6 h
  | _, _, _ => none
def gX9_blow  : Nat → Nat → List Value → List Value → Hp → RS
  | 0 => fun _ _ _ _ => none
  | n + 1 => sX9_blow  (gX9_blow  n)
theorem wX9_blow {G : GG} {d : Nat} (hd : 7 ≤ d)   : ∀ (n pc : Nat) (loc st : List Value) (h : Hp) (o : OU) (h' : Hp), gX9_blow  n pc loc st h = some (o, h') → V G mX9_blow d pc loc st h o h' := by
  intro n
  induction n with
  | zero => intro pc loc st h o h' e; cases e
  | succ n ih =>
    intro pc loc st h o h' e
    unfold gX9_blow sX9_blow at e
    split at e
    · exact V.drop (llp_r (llp_u (llp_r (llp_r (llp_r (llp_r (llp_r llp_nil))))))) (uX9_blow_30 hd _ ih   e)
    · cases e
theorem zX9_blow_30  (n : Nat) (r0 : Nat) (x2 : Int32) (x3 : Int32) (r4 : Nat) (r5 : Nat) (x6 : Int32) (y1 : Value) (h : Hp) : gX9_blow  (n + 1) 30 [.ref r0, y1, .int x2, .int x3, .ref r4, .ref r5, .int x6] [] h = kX9_blow_30 (gX9_blow  n)  r0 x2 x3 r4 r5 x6 h := rfl
def fX9_blow (r0 : Nat) (x1 : Int32) (x2 : Int32) (x3 : Int32) (h : Hp) : RS := kX9_blow_0 (gX9_blow FF) r0 x1 x2 x3 h
theorem tX9_blow {G : GG} {d : Nat} {r0 x1 x2 x3} {h : Hp} {o : OU} {h' : Hp} (e : fX9_blow r0 x1 x2 x3 h = some (o, h')) (hd : 7 ≤ d) : VM G mX9_blow d [.ref r0, .int x1, .int x2, .int x3] h o h' := uX9_blow_0 hd _ (wX9_blow hd FF) e
def kX9_image_0  (r0 : Nat) (h : Hp) : RS := (if kH h r0 = 19 then (if (h.2 r0 11) < 3 then (if kH h (rH h r0 2) = 6 then (if inB (h.2 r0 11) (lH h (rH h r0 2)) = true then (if ¬ (rH h (rH h r0 2) (h.2 r0 11).toNatClampNeg) = 0 then (if kH h (rH h (rH h r0 2) (h.2 r0 11).toNatClampNeg) = 11 then (if kH h (rH h (rH h (rH h r0 2) (h.2 r0 11).toNatClampNeg) 0) = 15 then (bV (fX5_copyFrom (rH h (rH h (rH h r0 2) (h.2 r0 11).toNatClampNeg) 0) (rH h r0 0) h) fun h7 => (if kH h7 r0 = 19 then (if kH h7 (rH h7 r0 2) = 6 then (if inB (h7.2 r0 11) (lH h7 (rH h7 r0 2)) = true then (if kH h7 (rH h7 (rH h7 r0 2) (h7.2 r0 11).toNatClampNeg) = 11 then (if kH h7 (rH h7 (rH h7 (rH h7 r0 2) (h7.2 r0 11).toNatClampNeg) 1) = 10 then (bV (fX0_takeOver (rH h7 (rH h7 (rH h7 r0 2) (h7.2 r0 11).toNatClampNeg) 1) (rH h7 r0 1) h7) fun h14 => (if kH h14 r0 = 19 then (some (.inl (some (.int ((upI h14.2 r0 11 ((h14.2 r0 11) + 1)) r0 11))), (h14.1, (upI h14.2 r0 11 ((h14.2 r0 11) + 1))))) else none)) else none) else none) else none) else none) else none)) else none) else none) else (letH (nwH h 11 0 2) fun (h18 : Hp) => (if (nH h) ≠ 0 then (bV (fX1_init (nH h) h18) fun h20 => (if kH h20 (rH h r0 2) = 6 then (if kH h20 (nH h) = 11 then (if inB (h.2 r0 11) (lH h20 (rH h r0 2)) = true then (letH (sR h20 (rH h r0 2) (h.2 r0 11).toNatClampNeg (nH h)) fun (h26 : Hp) => (if kH h26 r0 = 19 then (if kH h26 (rH h26 r0 2) = 6 then (if inB (h26.2 r0 11) (lH h26 (rH h26 r0 2)) = true then (if kH h26 (rH h26 (rH h26 r0 2) (h26.2 r0 11).toNatClampNeg) = 11 then (if kH h26 (rH h26 (rH h26 (rH h26 r0 2) (h26.2 r0 11).toNatClampNeg) 0) = 15 then (bV (fX5_copyFrom (rH h26 (rH h26 (rH h26 r0 2) (h26.2 r0 11).toNatClampNeg) 0) (rH h26 r0 0) h26) fun h32 => (if kH h32 r0 = 19 then (if kH h32 (rH h32 r0 2) = 6 then (if inB (h32.2 r0 11) (lH h32 (rH h32 r0 2)) = true then (if kH h32 (rH h32 (rH h32 r0 2) (h32.2 r0 11).toNatClampNeg) = 11 then (if kH h32 (rH h32 (rH h32 (rH h32 r0 2) (h32.2 r0 11).toNatClampNeg) 1) = 10 then (bV (fX0_takeOver (rH h32 (rH h32 (rH h32 r0 2) (h32.2 r0 11).toNatClampNeg) 1) (rH h32 r0 1) h32) fun h39 => (if kH h39 r0 = 19 then (some (.inl (some (.int ((upI h39.2 r0 11 ((h39.2 r0 11) + 1)) r0 11))), (h39.1, (upI h39.2 r0 11 ((h39.2 r0 11) + 1))))) else none)) else none) else none) else none) else none) else none)) else none) else none) else none) else none) else none)) else none) else none) else none)) else none))) else none) else none) else (some (.inl (some (.int (-1))), h))) else none)
theorem uX9_image_0 {G : GG} {d : Nat} (hd : 6 ≤ d)   {r0 } {h : Hp} {o : OU} {h' : Hp} (e : kX9_image_0  r0 h = some (o, h')) : VM G mX9_image d [.ref r0] h o h' := by
  unfold kX9_image_0 at e
  refine eX9_image r0 (by omega) ?_
  obtain ⟨q1, e⟩ := ob_e e
  refine ⟨q1, ?_⟩
  refine ⟨fun c2 => ?_, fun c2 => ?_⟩
  · have e := if_t e c2
    obtain ⟨q3, e⟩ := ob_e e
    refine ⟨q3, ?_⟩
    obtain ⟨q4, e⟩ := ob_in e
    refine ⟨q4, ?_⟩
    refine ⟨fun c5 => ?_, fun c5 => ?_⟩
    · have e := if_t e c5
      obtain ⟨q6, e⟩ := ob_e e
      refine ⟨q6, ?_⟩
      obtain ⟨q7, e⟩ := ob_e e
      refine ⟨q7, ?_⟩
      obtain ⟨h7, e8, e⟩ := bV_e e
      refine ⟨h7, (tX5_copyFrom e8 (by omega)), ?_⟩
      obtain ⟨q9, e⟩ := ob_e e
      refine ⟨q9, ?_⟩
      obtain ⟨q10, e⟩ := ob_e e
      refine ⟨q10, ?_⟩
      obtain ⟨q11, e⟩ := ob_in e
      refine ⟨q11, ?_⟩
      obtain ⟨q12, e⟩ := ob_e e
      refine ⟨q12, ?_⟩
      obtain ⟨q13, e⟩ := ob_e e
      refine ⟨q13, ?_⟩
      obtain ⟨h14, e14, e⟩ := bV_e e
      refine ⟨h14, (tX0_takeOver e14 (by omega)), ?_⟩
      obtain ⟨q15, e⟩ := ob_e e
      refine ⟨q15, ?_⟩
      cases e
      exact ⟨rfl, rfl⟩
    · have e := if_n e c5
      intro h18 evh18
      have e := lt_e evh18 e
      obtain ⟨q16, e⟩ := ob_e e
      refine ⟨q16, ?_⟩
      obtain ⟨h20, e17, e⟩ := bV_e e
      refine ⟨h20, (tX1_init e17 (by omega)), ?_⟩
      obtain ⟨q18, e⟩ := ob_e e
      refine ⟨q18, ?_⟩
      obtain ⟨q19, e⟩ := ob_e e
      refine ⟨q19, ?_⟩
      obtain ⟨q20, e⟩ := ob_in e
      refine ⟨q20, ?_⟩
      intro h26 evh26
      have e := lt_e evh26 e
      obtain ⟨q21, e⟩ := ob_e e
      refine ⟨q21, ?_⟩
      obtain ⟨q22, e⟩ := ob_e e
      refine ⟨q22, ?_⟩
      obtain ⟨q23, e⟩ := ob_in e
      refine ⟨q23, ?_⟩
      obtain ⟨q24, e⟩ := ob_e e
      refine ⟨q24, ?_⟩
      obtain ⟨q25, e⟩ := ob_e e
      refine ⟨q25, ?_⟩
      obtain ⟨h32, e26, e⟩ := bV_e e
      refine ⟨h32, (tX5_copyFrom e26 (by omega)), ?_⟩
      obtain ⟨q27, e⟩ := ob_e e
      refine ⟨q27, ?_⟩
      obtain ⟨q28, e⟩ := ob_e e
      refine ⟨q28, ?_⟩
      obtain ⟨q29, e⟩ := ob_in e
      refine ⟨q29, ?_⟩
      obtain ⟨q30, e⟩ := ob_e e
      refine ⟨q30, ?_⟩
      obtain ⟨q31, e⟩ := ob_e e
      refine ⟨q31, ?_⟩
      obtain ⟨h39, e32, e⟩ := bV_e e
      refine ⟨h39, (tX0_takeOver e32 (by omega)), ?_⟩
      obtain ⟨q33, e⟩ := ob_e e
      refine ⟨q33, ?_⟩
      cases e
      exact ⟨rfl, rfl⟩
  · have e := if_f e c2
    cases e
    exact ⟨rfl, rfl⟩
def fX9_image (r0 : Nat) (h : Hp) : RS := kX9_image_0 r0 h
theorem tX9_image {G : GG} {d : Nat} {r0} {h : Hp} {o : OU} {h' : Hp} (e : fX9_image r0 h = some (o, h')) (hd : 6 ≤ d) : VM G mX9_image d [.ref r0] h o h' := uX9_image_0 hd e
def kX9_restore_0  (r0 : Nat) (h : Hp) : RS := (if kH h r0 = 19 then (if (h.2 r0 11) ≤ 0 then (some (.inl (some (.int (-1))), h)) else (if kH h (rH h r0 2) = 6 then (if inB ((h.2 r0 11) - 1) (lH h (rH h r0 2)) = true then (if ¬ (rH h (rH h r0 2) ((h.2 r0 11) - 1).toNatClampNeg) = 0 then (if inB ((upI h.2 r0 11 ((h.2 r0 11) - 1)) r0 11) (lH h (rH h r0 2)) = true then (if kH h (rH h (rH h r0 2) ((upI h.2 r0 11 ((h.2 r0 11) - 1)) r0 11).toNatClampNeg) = 11 then (if kH h (rH h r0 0) = 15 then (bV (fX5_copyFrom (rH h r0 0) (rH h (rH h (rH h r0 2) ((upI h.2 r0 11 ((h.2 r0 11) - 1)) r0 11).toNatClampNeg) 0) (h.1, (upI h.2 r0 11 ((h.2 r0 11) - 1)))) fun h8 => (if kH h8 r0 = 19 then (if kH h8 (rH h8 r0 2) = 6 then (if inB (h8.2 r0 11) (lH h8 (rH h8 r0 2)) = true then (if kH h8 (rH h8 (rH h8 r0 2) (h8.2 r0 11).toNatClampNeg) = 11 then (if kH h8 (rH h8 r0 1) = 10 then (bV (fX0_takeOver (rH h8 r0 1) (rH h8 (rH h8 (rH h8 r0 2) (h8.2 r0 11).toNatClampNeg) 1) h8) fun h15 => (if kH h15 r0 = 19 then (some (.inl (some (.int ((upI h15.2 r0 15 0) r0 11))), (h15.1, (upI h15.2 r0 15 0)))) else none)) else none) else none) else none) else none) else none)) else none) else none) else none) else (some (.inl (some (.int (-1))), h))) else none) else none)) else none)
theorem uX9_restore_0 {G : GG} {d : Nat} (hd : 6 ≤ d)   {r0 } {h : Hp} {o : OU} {h' : Hp} (e : kX9_restore_0  r0 h = some (o, h')) : VM G mX9_restore d [.ref r0] h o h' := by
  unfold kX9_restore_0 at e
  refine eX9_restore r0 (by omega) ?_
  obtain ⟨q1, e⟩ := ob_e e
  refine ⟨q1, ?_⟩
  refine ⟨fun c2 => ?_, fun c2 => ?_⟩
  · have e := if_t e c2
    cases e
    exact ⟨rfl, rfl⟩
  · have e := if_f e c2
    obtain ⟨q3, e⟩ := ob_e e
    refine ⟨q3, ?_⟩
    obtain ⟨q4, e⟩ := ob_in e
    refine ⟨q4, ?_⟩
    refine ⟨fun c5 => ?_, fun c5 => ?_⟩
    · have e := if_t e c5
      obtain ⟨q6, e⟩ := ob_in e
      refine ⟨q6, ?_⟩
      obtain ⟨q7, e⟩ := ob_e e
      refine ⟨q7, ?_⟩
      obtain ⟨q8, e⟩ := ob_e e
      refine ⟨q8, ?_⟩
      obtain ⟨h8, e9, e⟩ := bV_e e
      refine ⟨h8, (tX5_copyFrom e9 (by omega)), ?_⟩
      obtain ⟨q10, e⟩ := ob_e e
      refine ⟨q10, ?_⟩
      obtain ⟨q11, e⟩ := ob_e e
      refine ⟨q11, ?_⟩
      obtain ⟨q12, e⟩ := ob_in e
      refine ⟨q12, ?_⟩
      obtain ⟨q13, e⟩ := ob_e e
      refine ⟨q13, ?_⟩
      obtain ⟨q14, e⟩ := ob_e e
      refine ⟨q14, ?_⟩
      obtain ⟨h15, e15, e⟩ := bV_e e
      refine ⟨h15, (tX0_takeOver e15 (by omega)), ?_⟩
      obtain ⟨q16, e⟩ := ob_e e
      refine ⟨q16, ?_⟩
      cases e
      exact ⟨rfl, rfl⟩
    · have e := if_n e c5
      cases e
      exact ⟨rfl, rfl⟩
def fX9_restore (r0 : Nat) (h : Hp) : RS := kX9_restore_0 r0 h
theorem tX9_restore {G : GG} {d : Nat} {r0} {h : Hp} {o : OU} {h' : Hp} (e : fX9_restore r0 h = some (o, h')) (hd : 6 ≤ d) : VM G mX9_restore d [.ref r0] h o h' := uX9_restore_0 hd e
def kX9_status_0  (r0 : Nat) (x1 : Int32) (h : Hp) : RS := (if x1 < 0 then (some (.inl (some (.int (-1))), h)) else (if kH h r0 = 19 then (if kH h (rH h r0 10) = 1 then (if ((lH h (rH h r0 10)).toInt32) ≤ x1 then (some (.inl (some (.int (-1))), h)) else (if inB x1 (lH h (rH h r0 10)) = true then (some (.inl (some (.int (h.2 (rH h r0 10) x1.toNatClampNeg))), h)) else none)) else none) else none))
theorem uX9_status_0 {G : GG} {d : Nat} (hd : 1 ≤ d)   {r0  x1 } {h : Hp} {o : OU} {h' : Hp} (e : kX9_status_0  r0 x1 h = some (o, h')) : VM G mX9_status d [.ref r0, .int x1] h o h' := by
  unfold kX9_status_0 at e
  refine eX9_status r0 x1 ?_
  refine ⟨fun c1 => ?_, fun c1 => ?_⟩
  · have e := if_t e c1
    cases e
    exact ⟨rfl, rfl⟩
  · have e := if_f e c1
    obtain ⟨q2, e⟩ := ob_e e
    refine ⟨q2, ?_⟩
    obtain ⟨q3, e⟩ := ob_e e
    refine ⟨q3, ?_⟩
    refine ⟨fun c4 => ?_, fun c4 => ?_⟩
    · have e := if_t e c4
      cases e
      exact ⟨rfl, rfl⟩
    · have e := if_f e c4
      obtain ⟨q5, e⟩ := ob_in e
      refine ⟨q5, ?_⟩
      cases e
      exact ⟨rfl, rfl⟩
def fX9_status (r0 : Nat) (x1 : Int32) (h : Hp) : RS := kX9_status_0 r0 x1 h
theorem tX9_status {G : GG} {d : Nat} {r0 x1} {h : Hp} {o : OU} {h' : Hp} (e : fX9_status r0 x1 h = some (o, h')) (hd : 1 ≤ d) : VM G mX9_status d [.ref r0, .int x1] h o h' := uX9_status_0 hd e
def kX9_count_0  (r0 : Nat) (x1 : Int32) (h : Hp) : RS := (if x1 = 0 then (if kH h r0 = 19 then (some (.inl (some (.int (h.2 r0 11))), h)) else none) else (if x1 = 1 then (if kH h r0 = 19 then (some (.inl (some (.int (h.2 r0 12))), h)) else none) else (if x1 = 2 then (if kH h r0 = 19 then (if kH h (rH h r0 1) = 10 then (some (.inl (some (.int (h.2 (rH h r0 1) 1))), h)) else none) else none) else (some (.inl (some (.int (-1))), h)))))
theorem uX9_count_0 {G : GG} {d : Nat} (hd : 1 ≤ d)   {r0  x1 } {h : Hp} {o : OU} {h' : Hp} (e : kX9_count_0  r0 x1 h = some (o, h')) : VM G mX9_count d [.ref r0, .int x1] h o h' := by
  unfold kX9_count_0 at e
  refine eX9_count r0 x1 ?_
  refine ⟨?_, ?_, ?_, ?_⟩
  · intro cc
    have e := if_t e cc
    obtain ⟨q1, e⟩ := ob_e e
    refine ⟨q1, ?_⟩
    cases e
    exact ⟨rfl, rfl⟩
  · intro cc
    have e := if_f e (by rw [cc]; decide)
    have e := if_t e cc
    obtain ⟨q2, e⟩ := ob_e e
    refine ⟨q2, ?_⟩
    cases e
    exact ⟨rfl, rfl⟩
  · intro cc
    have e := if_f e (by rw [cc]; decide)
    have e := if_f e (by rw [cc]; decide)
    have e := if_t e cc
    obtain ⟨q3, e⟩ := ob_e e
    refine ⟨q3, ?_⟩
    obtain ⟨q4, e⟩ := ob_e e
    refine ⟨q4, ?_⟩
    cases e
    exact ⟨rfl, rfl⟩
  · intro n0 n1 n2
    have e := if_f e n0
    have e := if_f e n1
    have e := if_f e n2
    cases e
    exact ⟨rfl, rfl⟩
def fX9_count (r0 : Nat) (x1 : Int32) (h : Hp) : RS := kX9_count_0 r0 x1 h
theorem tX9_count {G : GG} {d : Nat} {r0 x1} {h : Hp} {o : OU} {h' : Hp} (e : fX9_count r0 x1 h = some (o, h')) (hd : 1 ≤ d) : VM G mX9_count d [.ref r0, .int x1] h o h' := uX9_count_0 hd e
def kX10_byteOf_0  (x0 : Int32) (x1 : Int32) (h : Hp) : RS := (some (.inl (some (.int (((16 * (1 + (x0 / 4))) + (4 * (x0 - x0 / 4 * 4))) + x1))), h))
theorem uX10_byteOf_0 {G : GG} {d : Nat} (hd : 1 ≤ d)   {x0  x1 } {h : Hp} {o : OU} {h' : Hp} (e : kX10_byteOf_0  x0 x1 h = some (o, h')) : VM G mX10_byteOf d [.int x0, .int x1] h o h' := by
  unfold kX10_byteOf_0 at e
  refine eX10_byteOf x0 x1 ?_
  cases e
  exact ⟨rfl, rfl⟩
def fX10_byteOf (x0 : Int32) (x1 : Int32) (h : Hp) : RS := kX10_byteOf_0 x0 x1 h
theorem tX10_byteOf {G : GG} {d : Nat} {x0 x1} {h : Hp} {o : OU} {h' : Hp} (e : fX10_byteOf x0 x1 h = some (o, h')) (hd : 1 ≤ d) : VM G mX10_byteOf d [.int x0, .int x1] h o h' := uX10_byteOf_0 hd e
def kX10_safe_0 (rec : Nat → List Value → List Value → Hp → RS)  (r0 : Nat) (h : Hp) : RS := (rec 2 [.ref r0, .int 0] [] h)
theorem uX10_safe_0 {G : GG} {d : Nat} (hd : 1 ≤ d) (rec : Nat → List Value → List Value → Hp → RS) (hrec : ∀ pc loc st h o h', rec pc loc st h = some (o, h') → V G mX10_safe d pc loc st h o h')   {r0 } {h : Hp} {o : OU} {h' : Hp} (e : kX10_safe_0 rec  r0 h = some (o, h')) : VM G mX10_safe d [.ref r0] h o h' := by
  unfold kX10_safe_0 at e
  refine eX10_safe r0 ?_
  exact hrec _ _ _ _ _ _ e
def kX10_safe_2 (rec : Nat → List Value → List Value → Hp → RS)  (r0 : Nat) (x1 : Int32) (h : Hp) : RS := (if 256 ≤ x1 then (if kH h r0 = 1 then (if inB 3392 (lH h r0) = true then (if inB 3393 (lH h r0) = true then (some (.inl none, (h.1, (upI (upI h.2 r0 3392 0) r0 3393 0)))) else none) else none) else none) else (if kH h r0 = 1 then (if inB (0 + x1) (lH h r0) = true then (if inB (256 + x1) (lH h r0) = true then (rec 2 [.ref r0, .int (x1 + 1)] [] (h.1, (upI h.2 r0 (256 + x1).toNatClampNeg (h.2 r0 (0 + x1).toNatClampNeg)))) else none) else none) else none))
theorem uX10_safe_2 {G : GG} {d : Nat} (hd : 1 ≤ d) (rec : Nat → List Value → List Value → Hp → RS) (hrec : ∀ pc loc st h o h', rec pc loc st h = some (o, h') → V G mX10_safe d pc loc st h o h')   {r0  x1 } {h : Hp} {o : OU} {h' : Hp} (e : kX10_safe_2 rec  r0 x1 h = some (o, h')) : V G mX10_safe d 2 [.ref r0, .int x1] [] h o h' := by
  unfold kX10_safe_2 at e
  refine bX10_safe_2 r0 x1 ?_
  refine ⟨fun c1 => ?_, fun c1 => ?_⟩
  · have e := if_t e c1
    obtain ⟨q2, e⟩ := ob_e e
    refine ⟨q2, ?_⟩
    obtain ⟨q3, e⟩ := ob_in e
    refine ⟨q3, ?_⟩
    obtain ⟨q4, e⟩ := ob_in e
    refine ⟨q4, ?_⟩
    cases e
    exact ⟨rfl, rfl⟩
  · have e := if_f e c1
    obtain ⟨q5, e⟩ := ob_e e
    refine ⟨q5, ?_⟩
    obtain ⟨q6, e⟩ := ob_in e
    refine ⟨q6, ?_⟩
    obtain ⟨q7, e⟩ := ob_in e
    refine ⟨q7, ?_⟩
    exact hrec _ _ _ _ _ _ e
def sX10_safe  (rec : Nat → List Value → List Value → Hp → RS) (pc : Nat) (loc st : List Value) (h : Hp) : RS := match pc, loc, st with
  | 2, [.ref r0, .int x1], [] => kX10_safe_2 rec  r0 x1 h
  | _, _, _ => none
def gX10_safe  : Nat → Nat → List Value → List Value → Hp → RS
  | 0 => fun _ _ _ _ => none
  | n + 1 => sX10_safe  (gX10_safe  n)
theorem wX10_safe {G : GG} {d : Nat} (hd : 1 ≤ d)   : ∀ (n pc : Nat) (loc st : List Value) (h : Hp) (o : OU) (h' : Hp), gX10_safe  n pc loc st h = some (o, h') → V G mX10_safe d pc loc st h o h' := by
  intro n
  induction n with
  | zero => intro pc loc st h o h' e; cases e
  | succ n ih =>
    intro pc loc st h o h' e
    unfold gX10_safe sX10_safe at e
    split at e
    · exact uX10_safe_2 hd _ ih   e
    · cases e
theorem zX10_safe_2  (n : Nat) (r0 : Nat) (x1 : Int32)  (h : Hp) : gX10_safe  (n + 1) 2 [.ref r0, .int x1] [] h = kX10_safe_2 (gX10_safe  n)  r0 x1 h := rfl
def fX10_safe (r0 : Nat) (h : Hp) : RS := kX10_safe_0 (gX10_safe FF) r0 h
theorem tX10_safe {G : GG} {d : Nat} {r0} {h : Hp} {o : OU} {h' : Hp} (e : fX10_safe r0 h = some (o, h')) (hd : 1 ≤ d) : VM G mX10_safe d [.ref r0] h o h' := uX10_safe_0 hd _ (wX10_safe hd FF) e
def kX10_isFull_0  (r0 : Nat) (h : Hp) : RS := (if kH h r0 = 1 then (if inB 3392 (lH h r0) = true then (if 60 ≤ (h.2 r0 3392) then (some (.inl (some (.int 1)), h)) else (if inB 3393 (lH h r0) = true then (if (h.2 r0 3393) < 30 then (some (.inl (some (.int 0)), h)) else (some (.inl (some (.int 1)), h))) else none)) else none) else none)
theorem uX10_isFull_0 {G : GG} {d : Nat} (hd : 1 ≤ d)   {r0 } {h : Hp} {o : OU} {h' : Hp} (e : kX10_isFull_0  r0 h = some (o, h')) : VM G mX10_isFull d [.ref r0] h o h' := by
  unfold kX10_isFull_0 at e
  refine eX10_isFull r0 ?_
  obtain ⟨q1, e⟩ := ob_e e
  refine ⟨q1, ?_⟩
  obtain ⟨q2, e⟩ := ob_in e
  refine ⟨q2, ?_⟩
  refine ⟨fun c3 => ?_, fun c3 => ?_⟩
  · have e := if_t e c3
    cases e
    exact ⟨rfl, rfl⟩
  · have e := if_f e c3
    obtain ⟨q4, e⟩ := ob_in e
    refine ⟨q4, ?_⟩
    refine ⟨fun c5 => ?_, fun c5 => ?_⟩
    · have e := if_t e c5
      cases e
      exact ⟨rfl, rfl⟩
    · have e := if_f e c5
      cases e
      exact ⟨rfl, rfl⟩
def fX10_isFull (r0 : Nat) (h : Hp) : RS := kX10_isFull_0 r0 h
theorem tX10_isFull {G : GG} {d : Nat} {r0} {h : Hp} {o : OU} {h' : Hp} (e : fX10_isFull r0 h = some (o, h')) (hd : 1 ≤ d) : VM G mX10_isFull d [.ref r0] h o h' := uX10_isFull_0 hd e
def kX10_fieldOf_0  (r0 : Nat) (x1 : Int32) (x2 : Int32) (x3 : Int32) (h : Hp) : RS := (bI (fX10_byteOf x2 x3 h) fun z2 h1 => (if kH h1 r0 = 1 then (if inB (x1 + z2) (lH h1 r0) = true then (some (.inl (some (.int (h1.2 r0 (x1 + z2).toNatClampNeg))), h1)) else none) else none))
theorem uX10_fieldOf_0 {G : GG} {d : Nat} (hd : 2 ≤ d)   {r0  x1  x2  x3 } {h : Hp} {o : OU} {h' : Hp} (e : kX10_fieldOf_0  r0 x1 x2 x3 h = some (o, h')) : VM G mX10_fieldOf d [.ref r0, .int x1, .int x2, .int x3] h o h' := by
  unfold kX10_fieldOf_0 at e
  refine eX10_fieldOf r0 x1 x2 x3 (by omega) ?_
  obtain ⟨z2, h1, e1, e⟩ := bI_e e
  refine ⟨z2, h1, (tX10_byteOf e1 (by omega)), ?_⟩
  obtain ⟨q2, e⟩ := ob_e e
  refine ⟨q2, ?_⟩
  obtain ⟨q3, e⟩ := ob_in e
  refine ⟨q3, ?_⟩
  cases e
  exact ⟨rfl, rfl⟩
def fX10_fieldOf (r0 : Nat) (x1 : Int32) (x2 : Int32) (x3 : Int32) (h : Hp) : RS := kX10_fieldOf_0 r0 x1 x2 x3 h
theorem tX10_fieldOf {G : GG} {d : Nat} {r0 x1 x2 x3} {h : Hp} {o : OU} {h' : Hp} (e : fX10_fieldOf r0 x1 x2 x3 h = some (o, h')) (hd : 2 ≤ d) : VM G mX10_fieldOf d [.ref r0, .int x1, .int x2, .int x3] h o h' := uX10_fieldOf_0 hd e
def kX10_freeNode_0 (rec : Nat → List Value → List Value → Hp → RS)  (r0 : Nat) (h : Hp) : RS := (rec 2 [.ref r0, .int 0] [] h)
theorem uX10_freeNode_0 {G : GG} {d : Nat} (hd : 3 ≤ d) (rec : Nat → List Value → List Value → Hp → RS) (hrec : ∀ pc loc st h o h', rec pc loc st h = some (o, h') → V G mX10_freeNode d pc loc st h o h')   {r0 } {h : Hp} {o : OU} {h' : Hp} (e : kX10_freeNode_0 rec  r0 h = some (o, h')) : VM G mX10_freeNode d [.ref r0] h o h' := by
  unfold kX10_freeNode_0 at e
  refine eX10_freeNode r0 ?_
  exact hrec _ _ _ _ _ _ e
def kX10_freeNode_2 (rec : Nat → List Value → List Value → Hp → RS)  (r0 : Nat) (x1 : Int32) (h : Hp) : RS := (if 12 ≤ x1 then (some (.inl (some (.int (-1))), h)) else (bI (fX10_fieldOf r0 0 x1 0 h) fun z3 h2 => (if ¬ z3 = 0 then (rec 2 [.ref r0, .int (x1 + 1)] [] h2) else (bI (fX10_fieldOf r0 0 x1 1 h2) fun z7 h6 => (if ¬ z7 = 0 then (rec 2 [.ref r0, .int (x1 + 1)] [] h6) else (some (.inl (some (.int x1)), h6)))))))
theorem uX10_freeNode_2 {G : GG} {d : Nat} (hd : 3 ≤ d) (rec : Nat → List Value → List Value → Hp → RS) (hrec : ∀ pc loc st h o h', rec pc loc st h = some (o, h') → V G mX10_freeNode d pc loc st h o h')   {r0  x1 } {h : Hp} {o : OU} {h' : Hp} (e : kX10_freeNode_2 rec  r0 x1 h = some (o, h')) : V G mX10_freeNode d 2 [.ref r0, .int x1] [] h o h' := by
  unfold kX10_freeNode_2 at e
  refine bX10_freeNode_2 r0 x1 (by omega) ?_
  refine ⟨fun c1 => ?_, fun c1 => ?_⟩
  · have e := if_t e c1
    cases e
    exact ⟨rfl, rfl⟩
  · have e := if_f e c1
    obtain ⟨z3, h2, e2, e⟩ := bI_e e
    refine ⟨z3, h2, (tX10_fieldOf e2 (by omega)), ?_⟩
    refine ⟨fun c3 => ?_, fun c3 => ?_⟩
    · have e := if_t e c3
      exact hrec _ _ _ _ _ _ e
    · have e := if_n e c3
      obtain ⟨z7, h6, e4, e⟩ := bI_e e
      refine ⟨z7, h6, (tX10_fieldOf e4 (by omega)), ?_⟩
      refine ⟨fun c5 => ?_, fun c5 => ?_⟩
      · have e := if_t e c5
        exact hrec _ _ _ _ _ _ e
      · have e := if_n e c5
        cases e
        exact ⟨rfl, rfl⟩
def sX10_freeNode  (rec : Nat → List Value → List Value → Hp → RS) (pc : Nat) (loc st : List Value) (h : Hp) : RS := match pc, loc, st with
  | 2, [.ref r0, .int x1], [] => kX10_freeNode_2 rec  r0 x1 h
  | _, _, _ => none
def gX10_freeNode  : Nat → Nat → List Value → List Value → Hp → RS
  | 0 => fun _ _ _ _ => none
  | n + 1 => sX10_freeNode  (gX10_freeNode  n)
theorem wX10_freeNode {G : GG} {d : Nat} (hd : 3 ≤ d)   : ∀ (n pc : Nat) (loc st : List Value) (h : Hp) (o : OU) (h' : Hp), gX10_freeNode  n pc loc st h = some (o, h') → V G mX10_freeNode d pc loc st h o h' := by
  intro n
  induction n with
  | zero => intro pc loc st h o h' e; cases e
  | succ n ih =>
    intro pc loc st h o h' e
    unfold gX10_freeNode sX10_freeNode at e
    split at e
    · exact uX10_freeNode_2 hd _ ih   e
    · cases e
theorem zX10_freeNode_2  (n : Nat) (r0 : Nat) (x1 : Int32)  (h : Hp) : gX10_freeNode  (n + 1) 2 [.ref r0, .int x1] [] h = kX10_freeNode_2 (gX10_freeNode  n)  r0 x1 h := rfl
def fX10_freeNode (r0 : Nat) (h : Hp) : RS := kX10_freeNode_0 (gX10_freeNode FF) r0 h
theorem tX10_freeNode {G : GG} {d : Nat} {r0} {h : Hp} {o : OU} {h' : Hp} (e : fX10_freeNode r0 h = some (o, h')) (hd : 3 ≤ d) : VM G mX10_freeNode d [.ref r0] h o h' := uX10_freeNode_0 hd _ (wX10_freeNode hd FF) e
def kX10_freeBlock_0 (rec : Nat → List Value → List Value → Hp → RS)  (r0 : Nat) (r1 : Nat) (h : Hp) : RS := (rec 2 [.ref r0, .ref r1, .int 4] [] h)
theorem uX10_freeBlock_0 {G : GG} {d : Nat} (hd : 1 ≤ d) (rec : Nat → List Value → List Value → Hp → RS) (hrec : ∀ pc loc st h o h', rec pc loc st h = some (o, h') → V G mX10_freeBlock d pc loc st h o h')   {r0  r1 } {h : Hp} {o : OU} {h' : Hp} (e : kX10_freeBlock_0 rec  r0 r1 h = some (o, h')) : VM G mX10_freeBlock d [.ref r0, .ref r1] h o h' := by
  unfold kX10_freeBlock_0 at e
  refine eX10_freeBlock r0 r1 ?_
  exact hrec _ _ _ _ _ _ e
def kX10_freeBlock_2 (rec : Nat → List Value → List Value → Hp → RS)  (r0 : Nat) (r1 : Nat) (x2 : Int32) (h : Hp) : RS := (if kH h r0 = 18 then (if (h.2 r0 11) ≤ x2 then (some (.inl (some (.int (-1))), h)) else (if kH h r1 = 1 then (if inB (0 + x2) (lH h r1) = true then (if ¬ (h.2 r1 (0 + x2).toNatClampNeg) = 0 then (rec 2 [.ref r0, .ref r1, .int (x2 + 1)] [] h) else (some (.inl (some (.int x2)), h))) else none) else none)) else none)
theorem uX10_freeBlock_2 {G : GG} {d : Nat} (hd : 1 ≤ d) (rec : Nat → List Value → List Value → Hp → RS) (hrec : ∀ pc loc st h o h', rec pc loc st h = some (o, h') → V G mX10_freeBlock d pc loc st h o h')   {r0  r1  x2 } {h : Hp} {o : OU} {h' : Hp} (e : kX10_freeBlock_2 rec  r0 r1 x2 h = some (o, h')) : V G mX10_freeBlock d 2 [.ref r0, .ref r1, .int x2] [] h o h' := by
  unfold kX10_freeBlock_2 at e
  refine bX10_freeBlock_2 r0 r1 x2 ?_
  obtain ⟨q1, e⟩ := ob_e e
  refine ⟨q1, ?_⟩
  refine ⟨fun c2 => ?_, fun c2 => ?_⟩
  · have e := if_t e c2
    cases e
    exact ⟨rfl, rfl⟩
  · have e := if_f e c2
    obtain ⟨q3, e⟩ := ob_e e
    refine ⟨q3, ?_⟩
    obtain ⟨q4, e⟩ := ob_in e
    refine ⟨q4, ?_⟩
    refine ⟨fun c5 => ?_, fun c5 => ?_⟩
    · have e := if_t e c5
      exact hrec _ _ _ _ _ _ e
    · have e := if_n e c5
      cases e
      exact ⟨rfl, rfl⟩
def sX10_freeBlock  (rec : Nat → List Value → List Value → Hp → RS) (pc : Nat) (loc st : List Value) (h : Hp) : RS := match pc, loc, st with
  | 2, [.ref r0, .ref r1, .int x2], [] => kX10_freeBlock_2 rec  r0 r1 x2 h
  | _, _, _ => none
def gX10_freeBlock  : Nat → Nat → List Value → List Value → Hp → RS
  | 0 => fun _ _ _ _ => none
  | n + 1 => sX10_freeBlock  (gX10_freeBlock  n)
theorem wX10_freeBlock {G : GG} {d : Nat} (hd : 1 ≤ d)   : ∀ (n pc : Nat) (loc st : List Value) (h : Hp) (o : OU) (h' : Hp), gX10_freeBlock  n pc loc st h = some (o, h') → V G mX10_freeBlock d pc loc st h o h' := by
  intro n
  induction n with
  | zero => intro pc loc st h o h' e; cases e
  | succ n ih =>
    intro pc loc st h o h' e
    unfold gX10_freeBlock sX10_freeBlock at e
    split at e
    · exact uX10_freeBlock_2 hd _ ih   e
    · cases e
theorem zX10_freeBlock_2  (n : Nat) (r0 : Nat) (r1 : Nat) (x2 : Int32)  (h : Hp) : gX10_freeBlock  (n + 1) 2 [.ref r0, .ref r1, .int x2] [] h = kX10_freeBlock_2 (gX10_freeBlock  n)  r0 r1 x2 h := rfl
def fX10_freeBlock (r0 : Nat) (r1 : Nat) (h : Hp) : RS := kX10_freeBlock_0 (gX10_freeBlock FF) r0 r1 h
theorem tX10_freeBlock {G : GG} {d : Nat} {r0 r1} {h : Hp} {o : OU} {h' : Hp} (e : fX10_freeBlock r0 r1 h = some (o, h')) (hd : 1 ≤ d) : VM G mX10_freeBlock d [.ref r0, .ref r1] h o h' := uX10_freeBlock_0 hd _ (wX10_freeBlock hd FF) e
def kX10_isKind_0  (r0 : Nat) (x1 : Int32) (x2 : Int32) (x3 : Int32) (h : Hp) : RS := (bI (fX10_fieldOf r0 x1 x2 0 h) fun z2 h1 => (if z2 ≤ 0 then (some (.inl (some (.int 0)), h1)) else (bI (fX10_fieldOf r0 x1 x2 1 h1) fun z6 h5 => (if ¬ z6 = x3 then (some (.inl (some (.int 0)), h5)) else (some (.inl (some (.int 1)), h5))))))
theorem uX10_isKind_0 {G : GG} {d : Nat} (hd : 3 ≤ d)   {r0  x1  x2  x3 } {h : Hp} {o : OU} {h' : Hp} (e : kX10_isKind_0  r0 x1 x2 x3 h = some (o, h')) : VM G mX10_isKind d [.ref r0, .int x1, .int x2, .int x3] h o h' := by
  unfold kX10_isKind_0 at e
  refine eX10_isKind r0 x1 x2 x3 (by omega) ?_
  obtain ⟨z2, h1, e1, e⟩ := bI_e e
  refine ⟨z2, h1, (tX10_fieldOf e1 (by omega)), ?_⟩
  refine ⟨fun c2 => ?_, fun c2 => ?_⟩
  · have e := if_t e c2
    cases e
    exact ⟨rfl, rfl⟩
  · have e := if_f e c2
    obtain ⟨z6, h5, e3, e⟩ := bI_e e
    refine ⟨z6, h5, (tX10_fieldOf e3 (by omega)), ?_⟩
    refine ⟨fun c4 => ?_, fun c4 => ?_⟩
    · have e := if_t e c4
      cases e
      exact ⟨rfl, rfl⟩
    · have e := if_n e c4
      cases e
      exact ⟨rfl, rfl⟩
def fX10_isKind (r0 : Nat) (x1 : Int32) (x2 : Int32) (x3 : Int32) (h : Hp) : RS := kX10_isKind_0 r0 x1 x2 x3 h
theorem tX10_isKind {G : GG} {d : Nat} {r0 x1 x2 x3} {h : Hp} {o : OU} {h' : Hp} (e : fX10_isKind r0 x1 x2 x3 h = some (o, h')) (hd : 3 ≤ d) : VM G mX10_isKind d [.ref r0, .int x1, .int x2, .int x3] h o h' := uX10_isKind_0 hd e
def kX10_has_0  (x0 : Int32) (x1 : Int32) (h : Hp) : RS := (if ¬ ((x0 >>> (x1 &&& 31)) &&& 1) = 1 then (some (.inl (some (.int 0)), h)) else (some (.inl (some (.int 1)), h)))
theorem uX10_has_0 {G : GG} {d : Nat} (hd : 1 ≤ d)   {x0  x1 } {h : Hp} {o : OU} {h' : Hp} (e : kX10_has_0  x0 x1 h = some (o, h')) : VM G mX10_has d [.int x0, .int x1] h o h' := by
  unfold kX10_has_0 at e
  refine eX10_has x0 x1 ?_
  refine ⟨fun c1 => ?_, fun c1 => ?_⟩
  · have e := if_t e c1
    cases e
    exact ⟨rfl, rfl⟩
  · have e := if_n e c1
    cases e
    exact ⟨rfl, rfl⟩
def fX10_has (x0 : Int32) (x1 : Int32) (h : Hp) : RS := kX10_has_0 x0 x1 h
theorem tX10_has {G : GG} {d : Nat} {x0 x1} {h : Hp} {o : OU} {h' : Hp} (e : fX10_has x0 x1 h = some (o, h')) (hd : 1 ≤ d) : VM G mX10_has d [.int x0, .int x1] h o h' := uX10_has_0 hd e
def kX10_entryOf_0 (rec : Nat → List Value → List Value → Hp → RS)  (r0 : Nat) (x1 : Int32) (x2 : Int32) (x3 : Int32) (h : Hp) : RS := (bI (fX10_fieldOf r0 x1 x2 2 h) fun z2 h1 => (bI (fX10_fieldOf r0 x1 x2 3 h1) fun z5 h4 => (if ¬ z2 = 0 then (rec 29 [uV, uV, uV, .int x3, .int z2, .int z5, uV, uV] [.int 8] h4) else (rec 29 [uV, uV, uV, .int x3, .int z2, .int z5, uV, uV] [.int 0] h4))))
theorem uX10_entryOf_0 {G : GG} {d : Nat} (hd : 3 ≤ d) (rec : Nat → List Value → List Value → Hp → RS) (hrec : ∀ pc loc st h o h', rec pc loc st h = some (o, h') → V G mX10_entryOf d pc loc st h o h')   {r0  x1  x2  x3 } {h : Hp} {o : OU} {h' : Hp} (e : kX10_entryOf_0 rec  r0 x1 x2 x3 h = some (o, h')) : VM G mX10_entryOf d [.ref r0, .int x1, .int x2, .int x3] h o h' := by
  unfold kX10_entryOf_0 at e
  refine eX10_entryOf r0 x1 x2 x3 (by omega) ?_
  obtain ⟨z2, h1, e1, e⟩ := bI_e e
  refine ⟨z2, h1, (tX10_fieldOf e1 (by omega)), ?_⟩
  obtain ⟨z5, h4, e2, e⟩ := bI_e e
  refine ⟨z5, h4, (tX10_fieldOf e2 (by omega)), ?_⟩
  refine ⟨fun c3 => ?_, fun c3 => ?_⟩
  · have e := if_t e c3
    exact hrec _ _ _ _ _ _ e
  · have e := if_n e c3
    exact hrec _ _ _ _ _ _ e
def kX10_entryOf_29 (rec : Nat → List Value → List Value → Hp → RS)  (x3 : Int32) (x4 : Int32) (x5 : Int32) (s0 : Int32) (h : Hp) : RS := (if ¬ x5 = 0 then (rec 40 [uV, uV, uV, .int x3, .int x4, .int x5, uV, uV] [.int 8, .int s0] h) else (rec 40 [uV, uV, uV, .int x3, .int x4, .int x5, uV, uV] [.int 0, .int s0] h))
theorem uX10_entryOf_29 {G : GG} {d : Nat} (hd : 3 ≤ d) (rec : Nat → List Value → List Value → Hp → RS) (hrec : ∀ pc loc st h o h', rec pc loc st h = some (o, h') → V G mX10_entryOf d pc loc st h o h')   {x3  x4  x5  s0 } {h : Hp} {o : OU} {h' : Hp} (e : kX10_entryOf_29 rec  x3 x4 x5 s0 h = some (o, h')) : V G mX10_entryOf d 29 [uV, uV, uV, .int x3, .int x4, .int x5, uV, uV] [.int s0] h o h' := by
  unfold kX10_entryOf_29 at e
  refine bX10_entryOf_29 x3 x4 x5 s0 ?_
  refine ⟨fun c1 => ?_, fun c1 => ?_⟩
  · have e := if_t e c1
    exact hrec _ _ _ _ _ _ e
  · have e := if_n e c1
    exact hrec _ _ _ _ _ _ e
def kX10_entryOf_40 (rec : Nat → List Value → List Value → Hp → RS)  (x3 : Int32) (x4 : Int32) (x5 : Int32) (s0 : Int32) (s1 : Int32) (h : Hp) : RS := (if x3 < (s1 + s0) then (if 8 ≤ x3 then (some (.inl (some (.int ((16 * x5) + (2 * (x3 - x3 / 8 * 8))))), h)) else (if x4 = 0 then (some (.inl (some (.int ((16 * x5) + (2 * (x3 - x3 / 8 * 8))))), h)) else (some (.inl (some (.int ((16 * x4) + (2 * (x3 - x3 / 8 * 8))))), h)))) else (some (.inl (some (.int (-1))), h)))
theorem uX10_entryOf_40 {G : GG} {d : Nat} (hd : 3 ≤ d) (rec : Nat → List Value → List Value → Hp → RS) (hrec : ∀ pc loc st h o h', rec pc loc st h = some (o, h') → V G mX10_entryOf d pc loc st h o h')   {x3  x4  x5  s0  s1 } {h : Hp} {o : OU} {h' : Hp} (e : kX10_entryOf_40 rec  x3 x4 x5 s0 s1 h = some (o, h')) : V G mX10_entryOf d 40 [uV, uV, uV, .int x3, .int x4, .int x5, uV, uV] [.int s0, .int s1] h o h' := by
  unfold kX10_entryOf_40 at e
  refine bX10_entryOf_40 x3 x4 x5 s0 s1 ?_
  refine ⟨fun c1 => ?_, fun c1 => ?_⟩
  · have e := if_t e c1
    refine ⟨fun c2 => ?_, fun c2 => ?_⟩
    · have e := if_t e c2
      cases e
      exact ⟨rfl, rfl⟩
    · have e := if_f e c2
      refine ⟨fun c3 => ?_, fun c3 => ?_⟩
      · have e := if_t e c3
        cases e
        exact ⟨rfl, rfl⟩
      · have e := if_f e c3
        cases e
        exact ⟨rfl, rfl⟩
  · have e := if_f e c1
    cases e
    exact ⟨rfl, rfl⟩
def sX10_entryOf  (rec : Nat → List Value → List Value → Hp → RS) (pc : Nat) (loc st : List Value) (h : Hp) : RS := match pc, loc, st with
  | 29, [_, _, _, .int x3, .int x4, .int x5, _, _], [.int s0] => kX10_entryOf_29 rec  x3 x4 x5 s0 h
  | 40, [_, _, _, .int x3, .int x4, .int x5, _, _], [.int s0, .int s1] => kX10_entryOf_40 rec  x3 x4 x5 s0 s1 h
  | _, _, _ => none
def gX10_entryOf  : Nat → Nat → List Value → List Value → Hp → RS
  | 0 => fun _ _ _ _ => none
  | n + 1 => sX10_entryOf  (gX10_entryOf  n)
theorem wX10_entryOf {G : GG} {d : Nat} (hd : 3 ≤ d)   : ∀ (n pc : Nat) (loc st : List Value) (h : Hp) (o : OU) (h' : Hp), gX10_entryOf  n pc loc st h = some (o, h') → V G mX10_entryOf d pc loc st h o h' := by
  intro n
  induction n with
  | zero => intro pc loc st h o h' e; cases e
  | succ n ih =>
    intro pc loc st h o h' e
    unfold gX10_entryOf sX10_entryOf at e
    split at e
    · exact V.drop (llp_u (llp_u (llp_u (llp_r (llp_r (llp_r (llp_u (llp_u llp_nil)))))))) (uX10_entryOf_29 hd _ ih   e)
    · exact V.drop (llp_u (llp_u (llp_u (llp_r (llp_r (llp_r (llp_u (llp_u llp_nil)))))))) (uX10_entryOf_40 hd _ ih   e)
    · cases e
theorem zX10_entryOf_29  (n : Nat) (x3 : Int32) (x4 : Int32) (x5 : Int32) (s0 : Int32) (y0 : Value) (y1 : Value) (y2 : Value) (y6 : Value) (y7 : Value) (h : Hp) : gX10_entryOf  (n + 1) 29 [y0, y1, y2, .int x3, .int x4, .int x5, y6, y7] [.int s0] h = kX10_entryOf_29 (gX10_entryOf  n)  x3 x4 x5 s0 h := rfl
theorem zX10_entryOf_40  (n : Nat) (x3 : Int32) (x4 : Int32) (x5 : Int32) (s0 : Int32) (s1 : Int32) (y0 : Value) (y1 : Value) (y2 : Value) (y6 : Value) (y7 : Value) (h : Hp) : gX10_entryOf  (n + 1) 40 [y0, y1, y2, .int x3, .int x4, .int x5, y6, y7] [.int s0, .int s1] h = kX10_entryOf_40 (gX10_entryOf  n)  x3 x4 x5 s0 s1 h := rfl
def fX10_entryOf (r0 : Nat) (x1 : Int32) (x2 : Int32) (x3 : Int32) (h : Hp) : RS := kX10_entryOf_0 (gX10_entryOf FF) r0 x1 x2 x3 h
theorem tX10_entryOf {G : GG} {d : Nat} {r0 x1 x2 x3} {h : Hp} {o : OU} {h' : Hp} (e : fX10_entryOf r0 x1 x2 x3 h = some (o, h')) (hd : 3 ≤ d) : VM G mX10_entryOf d [.ref r0, .int x1, .int x2, .int x3] h o h' := uX10_entryOf_0 hd _ (wX10_entryOf hd FF) e
def kX10_reached_0 (rec : Nat → List Value → List Value → Hp → RS)  (r0 : Nat) (x1 : Int32) (h : Hp) : RS := (rec 4 [.ref r0, .int x1, .int 1, .int 0, uV, uV, uV] [] h)
theorem uX10_reached_0 {G : GG} {d : Nat} (hd : 4 ≤ d) (rec : Nat → List Value → List Value → Hp → RS) (hrec : ∀ pc loc st h o h', rec pc loc st h = some (o, h') → V G mX10_reached d pc loc st h o h')   {r0  x1 } {h : Hp} {o : OU} {h' : Hp} (e : kX10_reached_0 rec  r0 x1 h = some (o, h')) : VM G mX10_reached d [.ref r0, .int x1] h o h' := by
  unfold kX10_reached_0 at e
  refine eX10_reached r0 x1 ?_
  exact hrec _ _ _ _ _ _ e
def kX10_reached_4 (rec : Nat → List Value → List Value → Hp → RS)  (r0 : Nat) (x1 : Int32) (x2 : Int32) (x3 : Int32) (h : Hp) : RS := (if x2 = x3 then (some (.inl (some (.int x2)), h)) else (rec 14 [.ref r0, .int x1, .int x2, .int x2, .int 0, uV, uV] [] h))
theorem uX10_reached_4 {G : GG} {d : Nat} (hd : 4 ≤ d) (rec : Nat → List Value → List Value → Hp → RS) (hrec : ∀ pc loc st h o h', rec pc loc st h = some (o, h') → V G mX10_reached d pc loc st h o h')   {r0  x1  x2  x3 } {h : Hp} {o : OU} {h' : Hp} (e : kX10_reached_4 rec  r0 x1 x2 x3 h = some (o, h')) : V G mX10_reached d 4 [.ref r0, .int x1, .int x2, .int x3, uV, uV, uV] [] h o h' := by
  unfold kX10_reached_4 at e
  refine bX10_reached_4 r0 x1 x2 x3 ?_
  refine ⟨fun c1 => ?_, fun c1 => ?_⟩
  · have e := if_t e c1
    cases e
    exact ⟨rfl, rfl⟩
  · have e := if_f e c1
    exact hrec _ _ _ _ _ _ e
def kX10_reached_14 (rec : Nat → List Value → List Value → Hp → RS)  (r0 : Nat) (x1 : Int32) (x2 : Int32) (x3 : Int32) (x4 : Int32) (h : Hp) : RS := (if 12 ≤ x4 then (rec 4 [.ref r0, .int x1, .int x2, .int x3, uV, uV, uV] [] h) else (bI (fX10_has x3 x4 h) fun z3 h2 => (if z3 = 0 then (rec 14 [.ref r0, .int x1, .int x2, .int x3, .int (x4 + 1), uV, uV] [] h2) else (bI (fX10_fieldOf r0 x1 x4 1 h2) fun z7 h6 => (if z7 = 2 then (rec 48 [.ref r0, .int x1, .int x2, .int x3, .int x4, .int 0, uV] [] h6) else (rec 14 [.ref r0, .int x1, .int x2, .int x3, .int (x4 + 1), uV, uV] [] h6))))))
theorem uX10_reached_14 {G : GG} {d : Nat} (hd : 4 ≤ d) (rec : Nat → List Value → List Value → Hp → RS) (hrec : ∀ pc loc st h o h', rec pc loc st h = some (o, h') → V G mX10_reached d pc loc st h o h')   {r0  x1  x2  x3  x4 } {h : Hp} {o : OU} {h' : Hp} (e : kX10_reached_14 rec  r0 x1 x2 x3 x4 h = some (o, h')) : V G mX10_reached d 14 [.ref r0, .int x1, .int x2, .int x3, .int x4, uV, uV] [] h o h' := by
  unfold kX10_reached_14 at e
  refine bX10_reached_14 r0 x1 x2 x3 x4 (by omega) ?_
  refine ⟨fun c1 => ?_, fun c1 => ?_⟩
  · have e := if_t e c1
    exact hrec _ _ _ _ _ _ e
  · have e := if_f e c1
    obtain ⟨z3, h2, e2, e⟩ := bI_e e
    refine ⟨z3, h2, (tX10_has e2 (by omega)), ?_⟩
    refine ⟨fun c3 => ?_, fun c3 => ?_⟩
    · have e := if_t e c3
      exact hrec _ _ _ _ _ _ e
    · have e := if_f e c3
      obtain ⟨z7, h6, e4, e⟩ := bI_e e
      refine ⟨z7, h6, (tX10_fieldOf e4 (by omega)), ?_⟩
      refine ⟨fun c5 => ?_, fun c5 => ?_⟩
      · have e := if_t e c5
        exact hrec _ _ _ _ _ _ e
      · have e := if_f e c5
        exact hrec _ _ _ _ _ _ e
def kX10_reached_48 (rec : Nat → List Value → List Value → Hp → RS)  (r0 : Nat) (x1 : Int32) (x2 : Int32) (x3 : Int32) (x4 : Int32) (x5 : Int32) (h : Hp) : RS := (bI (fX10_entryOf r0 x1 x4 x5 h) fun z2 h1 => (if z2 = (-1) then (rec 14 [.ref r0, .int x1, .int x2, .int x3, .int (x4 + 1), uV, uV] [] h1) else (bI (fX10_entryOf r0 x1 x4 x5 h1) fun z6 h5 => (if kH h5 r0 = 1 then (if inB (x1 + z6) (lH h5 r0) = true then (if ¬ (h5.2 r0 (x1 + z6).toNatClampNeg) = 0 then (if inB ((x1 + z6) + 1) (lH h5 r0) = true then (rec 48 [.ref r0, .int x1, .int (x2 ||| (1 <<< ((h5.2 r0 ((x1 + z6) + 1).toNatClampNeg) &&& 31))), .int x3, .int x4, .int (x5 + 1), uV] [] h5) else none) else (rec 48 [.ref r0, .int x1, .int (x2 ||| 0), .int x3, .int x4, .int (x5 + 1), uV] [] h5)) else none) else none))))
theorem uX10_reached_48 {G : GG} {d : Nat} (hd : 4 ≤ d) (rec : Nat → List Value → List Value → Hp → RS) (hrec : ∀ pc loc st h o h', rec pc loc st h = some (o, h') → V G mX10_reached d pc loc st h o h')   {r0  x1  x2  x3  x4  x5 } {h : Hp} {o : OU} {h' : Hp} (e : kX10_reached_48 rec  r0 x1 x2 x3 x4 x5 h = some (o, h')) : V G mX10_reached d 48 [.ref r0, .int x1, .int x2, .int x3, .int x4, .int x5, uV] [] h o h' := by
  unfold kX10_reached_48 at e
  refine bX10_reached_48 r0 x1 x2 x3 x4 x5 (by omega) ?_
  obtain ⟨z2, h1, e1, e⟩ := bI_e e
  refine ⟨z2, h1, (tX10_entryOf e1 (by omega)), ?_⟩
  refine ⟨fun c2 => ?_, fun c2 => ?_⟩
  · have e := if_t e c2
    exact hrec _ _ _ _ _ _ e
  · have e := if_f e c2
    obtain ⟨z6, h5, e3, e⟩ := bI_e e
    refine ⟨z6, h5, (tX10_entryOf e3 (by omega)), ?_⟩
    obtain ⟨q4, e⟩ := ob_e e
    refine ⟨q4, ?_⟩
    obtain ⟨q5, e⟩ := ob_in e
    refine ⟨q5, ?_⟩
    refine ⟨fun c6 => ?_, fun c6 => ?_⟩
    · have e := if_t e c6
      obtain ⟨q7, e⟩ := ob_in e
      refine ⟨q7, ?_⟩
      exact hrec _ _ _ _ _ _ e
    · have e := if_n e c6
      exact hrec _ _ _ _ _ _ e
def sX10_reached  (rec : Nat → List Value → List Value → Hp → RS) (pc : Nat) (loc st : List Value) (h : Hp) : RS := match pc, loc, st with
  | 4, [.ref r0, .int x1, .int x2, .int x3, _, _, _], [] => kX10_reached_4 rec  r0 x1 x2 x3 h
  | 14, [.ref r0, .int x1, .int x2, .int x3, .int x4, _, _], [] => kX10_reached_14 rec  r0 x1 x2 x3 x4 h
  | 48, [.ref r0, .int x1, .int x2, .int x3, .int x4, .int x5, _], [] => kX10_reached_48 rec  r0 x1 x2 x3 x4 x5 h
  | _, _, _ => none
def gX10_reached  : Nat → Nat → List Value → List Value → Hp → RS
  | 0 => fun _ _ _ _ => none
  | n + 1 => sX10_reached  (gX10_reached  n)
theorem wX10_reached {G : GG} {d : Nat} (hd : 4 ≤ d)   : ∀ (n pc : Nat) (loc st : List Value) (h : Hp) (o : OU) (h' : Hp), gX10_reached  n pc loc st h = some (o, h') → V G mX10_reached d pc loc st h o h' := by
  intro n
  induction n with
  | zero => intro pc loc st h o h' e; cases e
  | succ n ih =>
    intro pc loc st h o h' e
    unfold gX10_reached sX10_reached at e
    split at e
    · exact V.drop (llp_r (llp_r (llp_r (llp_r (llp_u (llp_u (llp_u llp_nil))))))) (uX10_reached_4 hd _ ih   e)
    · exact V.drop (llp_r (llp_r (llp_r (llp_r (llp_r (llp_u (llp_u llp_nil))))))) (uX10_reached_14 hd _ ih   e)
    · exact V.drop (llp_r (llp_r (llp_r (llp_r (llp_r (llp_r (llp_u llp_nil))))))) (uX10_reached_48 hd _ ih   e)
    · cases e
theorem zX10_reached_4  (n : Nat) (r0 : Nat) (x1 : Int32) (x2 : Int32) (x3 : Int32) (y4 : Value) (y5 : Value) (y6 : Value) (h : Hp) : gX10_reached  (n + 1) 4 [.ref r0, .int x1, .int x2, .int x3, y4, y5, y6] [] h = kX10_reached_4 (gX10_reached  n)  r0 x1 x2 x3 h := rfl
theorem zX10_reached_14  (n : Nat) (r0 : Nat) (x1 : Int32) (x2 : Int32) (x3 : Int32) (x4 : Int32) (y5 : Value) (y6 : Value) (h : Hp) : gX10_reached  (n + 1) 14 [.ref r0, .int x1, .int x2, .int x3, .int x4, y5, y6] [] h = kX10_reached_14 (gX10_reached  n)  r0 x1 x2 x3 x4 h := rfl
theorem zX10_reached_48  (n : Nat) (r0 : Nat) (x1 : Int32) (x2 : Int32) (x3 : Int32) (x4 : Int32) (x5 : Int32) (y6 : Value) (h : Hp) : gX10_reached  (n + 1) 48 [.ref r0, .int x1, .int x2, .int x3, .int x4, .int x5, y6] [] h = kX10_reached_48 (gX10_reached  n)  r0 x1 x2 x3 x4 x5 h := rfl
def fX10_reached (r0 : Nat) (x1 : Int32) (h : Hp) : RS := kX10_reached_0 (gX10_reached FF) r0 x1 h
theorem tX10_reached {G : GG} {d : Nat} {r0 x1} {h : Hp} {o : OU} {h' : Hp} (e : fX10_reached r0 x1 h = some (o, h')) (hd : 4 ≤ d) : VM G mX10_reached d [.ref r0, .int x1] h o h' := uX10_reached_0 hd _ (wX10_reached hd FF) e
def kX10_entry_0 (rec : Nat → List Value → List Value → Hp → RS)  (r0 : Nat) (x1 : Int32) (x2 : Int32) (x3 : Int32) (h : Hp) : RS := (rec 3 [.ref r0, .int x1, .int x2, .int x3, .int 0] [] h)
theorem uX10_entry_0 {G : GG} {d : Nat} (hd : 4 ≤ d) (rec : Nat → List Value → List Value → Hp → RS) (hrec : ∀ pc loc st h o h', rec pc loc st h = some (o, h') → V G mX10_entry d pc loc st h o h')   {r0  x1  x2  x3 } {h : Hp} {o : OU} {h' : Hp} (e : kX10_entry_0 rec  r0 x1 x2 x3 h = some (o, h')) : VM G mX10_entry d [.ref r0, .int x1, .int x2, .int x3] h o h' := by
  unfold kX10_entry_0 at e
  refine eX10_entry r0 x1 x2 x3 ?_
  exact hrec _ _ _ _ _ _ e
def kX10_entry_3 (rec : Nat → List Value → List Value → Hp → RS)  (r0 : Nat) (x1 : Int32) (x2 : Int32) (x3 : Int32) (x4 : Int32) (h : Hp) : RS := (bI (fX10_entryOf r0 x1 x2 x4 h) fun z2 h1 => (if z2 = (-1) then (some (.inl (some (.int (-1))), h1)) else (bI (fX10_entryOf r0 x1 x2 x4 h1) fun z6 h5 => (if kH h5 r0 = 1 then (if inB (x1 + z6) (lH h5 r0) = true then (if ¬ (h5.2 r0 (x1 + z6).toNatClampNeg) = x3 then (rec 3 [.ref r0, .int x1, .int x2, .int x3, .int (x4 + 1)] [] h5) else (bI (fX10_entryOf r0 x1 x2 x4 h5) fun z12 h11 => (some (.inl (some (.int z12)), h11)))) else none) else none))))
theorem uX10_entry_3 {G : GG} {d : Nat} (hd : 4 ≤ d) (rec : Nat → List Value → List Value → Hp → RS) (hrec : ∀ pc loc st h o h', rec pc loc st h = some (o, h') → V G mX10_entry d pc loc st h o h')   {r0  x1  x2  x3  x4 } {h : Hp} {o : OU} {h' : Hp} (e : kX10_entry_3 rec  r0 x1 x2 x3 x4 h = some (o, h')) : V G mX10_entry d 3 [.ref r0, .int x1, .int x2, .int x3, .int x4] [] h o h' := by
  unfold kX10_entry_3 at e
  refine bX10_entry_3 r0 x1 x2 x3 x4 (by omega) ?_
  obtain ⟨z2, h1, e1, e⟩ := bI_e e
  refine ⟨z2, h1, (tX10_entryOf e1 (by omega)), ?_⟩
  refine ⟨fun c2 => ?_, fun c2 => ?_⟩
  · have e := if_t e c2
    cases e
    exact ⟨rfl, rfl⟩
  · have e := if_f e c2
    obtain ⟨z6, h5, e3, e⟩ := bI_e e
    refine ⟨z6, h5, (tX10_entryOf e3 (by omega)), ?_⟩
    obtain ⟨q4, e⟩ := ob_e e
    refine ⟨q4, ?_⟩
    obtain ⟨q5, e⟩ := ob_in e
    refine ⟨q5, ?_⟩
    refine ⟨fun c6 => ?_, fun c6 => ?_⟩
    · have e := if_t e c6
      exact hrec _ _ _ _ _ _ e
    · have e := if_n e c6
      obtain ⟨z12, h11, e7, e⟩ := bI_e e
      refine ⟨z12, h11, (tX10_entryOf e7 (by omega)), ?_⟩
      cases e
      exact ⟨rfl, rfl⟩
def sX10_entry  (rec : Nat → List Value → List Value → Hp → RS) (pc : Nat) (loc st : List Value) (h : Hp) : RS := match pc, loc, st with
  | 3, [.ref r0, .int x1, .int x2, .int x3, .int x4], [] => kX10_entry_3 rec  r0 x1 x2 x3 x4 h
  | _, _, _ => none
def gX10_entry  : Nat → Nat → List Value → List Value → Hp → RS
  | 0 => fun _ _ _ _ => none
  | n + 1 => sX10_entry  (gX10_entry  n)
theorem wX10_entry {G : GG} {d : Nat} (hd : 4 ≤ d)   : ∀ (n pc : Nat) (loc st : List Value) (h : Hp) (o : OU) (h' : Hp), gX10_entry  n pc loc st h = some (o, h') → V G mX10_entry d pc loc st h o h' := by
  intro n
  induction n with
  | zero => intro pc loc st h o h' e; cases e
  | succ n ih =>
    intro pc loc st h o h' e
    unfold gX10_entry sX10_entry at e
    split at e
    · exact uX10_entry_3 hd _ ih   e
    · cases e
theorem zX10_entry_3  (n : Nat) (r0 : Nat) (x1 : Int32) (x2 : Int32) (x3 : Int32) (x4 : Int32)  (h : Hp) : gX10_entry  (n + 1) 3 [.ref r0, .int x1, .int x2, .int x3, .int x4] [] h = kX10_entry_3 (gX10_entry  n)  r0 x1 x2 x3 x4 h := rfl
def fX10_entry (r0 : Nat) (x1 : Int32) (x2 : Int32) (x3 : Int32) (h : Hp) : RS := kX10_entry_0 (gX10_entry FF) r0 x1 x2 x3 h
theorem tX10_entry {G : GG} {d : Nat} {r0 x1 x2 x3} {h : Hp} {o : OU} {h' : Hp} (e : fX10_entry r0 x1 x2 x3 h = some (o, h')) (hd : 4 ≤ d) : VM G mX10_entry d [.ref r0, .int x1, .int x2, .int x3] h o h' := uX10_entry_0 hd _ (wX10_entry hd FF) e
def kX10_isNewName_0  (r0 : Nat) (r1 : Nat) (x2 : Int32) (x3 : Int32) (h : Hp) : RS := (bI (fX10_isKind r1 0 x2 2 h) fun z2 h1 => (if z2 = 0 then (some (.inl (some (.int 0)), h1)) else (bI (fX10_reached r1 0 h1) fun z6 h5 => (bI (fX10_has z6 x2 h5) fun z9 h8 => (if z9 = 0 then (some (.inl (some (.int 0)), h8)) else (bI (fX10_entry r1 0 x2 x3 h8) fun z13 h12 => (if ¬ z13 = (-1) then (some (.inl (some (.int 0)), h12)) else (bI (fX10_entry r1 0 x2 0 h12) fun z17 h16 => (if z17 = (-1) then (some (.inl (some (.int 0)), h16)) else (some (.inl (some (.int 1)), h16)))))))))))
theorem uX10_isNewName_0 {G : GG} {d : Nat} (hd : 5 ≤ d)   {r0  r1  x2  x3 } {h : Hp} {o : OU} {h' : Hp} (e : kX10_isNewName_0  r0 r1 x2 x3 h = some (o, h')) : VM G mX10_isNewName d [.ref r0, .ref r1, .int x2, .int x3] h o h' := by
  unfold kX10_isNewName_0 at e
  refine eX10_isNewName r0 r1 x2 x3 (by omega) ?_
  obtain ⟨z2, h1, e1, e⟩ := bI_e e
  refine ⟨z2, h1, (tX10_isKind e1 (by omega)), ?_⟩
  refine ⟨fun c2 => ?_, fun c2 => ?_⟩
  · have e := if_t e c2
    cases e
    exact ⟨rfl, rfl⟩
  · have e := if_f e c2
    obtain ⟨z6, h5, e3, e⟩ := bI_e e
    refine ⟨z6, h5, (tX10_reached e3 (by omega)), ?_⟩
    obtain ⟨z9, h8, e4, e⟩ := bI_e e
    refine ⟨z9, h8, (tX10_has e4 (by omega)), ?_⟩
    refine ⟨fun c5 => ?_, fun c5 => ?_⟩
    · have e := if_t e c5
      cases e
      exact ⟨rfl, rfl⟩
    · have e := if_f e c5
      obtain ⟨z13, h12, e6, e⟩ := bI_e e
      refine ⟨z13, h12, (tX10_entry e6 (by omega)), ?_⟩
      refine ⟨fun c7 => ?_, fun c7 => ?_⟩
      · have e := if_t e c7
        cases e
        exact ⟨rfl, rfl⟩
      · have e := if_n e c7
        obtain ⟨z17, h16, e8, e⟩ := bI_e e
        refine ⟨z17, h16, (tX10_entry e8 (by omega)), ?_⟩
        refine ⟨fun c9 => ?_, fun c9 => ?_⟩
        · have e := if_t e c9
          cases e
          exact ⟨rfl, rfl⟩
        · have e := if_f e c9
          cases e
          exact ⟨rfl, rfl⟩
def fX10_isNewName (r0 : Nat) (r1 : Nat) (x2 : Int32) (x3 : Int32) (h : Hp) : RS := kX10_isNewName_0 r0 r1 x2 x3 h
theorem tX10_isNewName {G : GG} {d : Nat} {r0 r1 x2 x3} {h : Hp} {o : OU} {h' : Hp} (e : fX10_isNewName r0 r1 x2 x3 h = some (o, h')) (hd : 5 ≤ d) : VM G mX10_isNewName d [.ref r0, .ref r1, .int x2, .int x3] h o h' := uX10_isNewName_0 hd e
def kX10_isThere_0 (rec : Nat → List Value → List Value → Hp → RS)  (r0 : Nat) (x1 : Int32) (x2 : Int32) (x3 : Int32) (h : Hp) : RS := (rec 6 [.ref r0, .int x1, .int x2, .int x3, .int 1, .int 0] [] h)
theorem uX10_isThere_0 {G : GG} {d : Nat} (hd : 1 ≤ d) (rec : Nat → List Value → List Value → Hp → RS) (hrec : ∀ pc loc st h o h', rec pc loc st h = some (o, h') → V G mX10_isThere d pc loc st h o h')   {r0  x1  x2  x3 } {h : Hp} {o : OU} {h' : Hp} (e : kX10_isThere_0 rec  r0 x1 x2 x3 h = some (o, h')) : VM G mX10_isThere d [.ref r0, .int x1, .int x2, .int x3] h o h' := by
  unfold kX10_isThere_0 at e
  refine eX10_isThere r0 x1 x2 x3 ?_
  exact hrec _ _ _ _ _ _ e
def kX10_isThere_6 (rec : Nat → List Value → List Value → Hp → RS)  (r0 : Nat) (x1 : Int32) (x2 : Int32) (x3 : Int32) (x4 : Int32) (x5 : Int32) (h : Hp) : RS := (if 16 ≤ x5 then (if (x4 = 0 ∨ x4 = 1) then (some (.inl (some (.int x4)), h)) else none) else (if 16 ≤ x2 then (if kH h r0 = 1 then (if inB ((0 + (16 * x1)) + x5) (lH h r0) = true then (if ¬ (h.2 r0 ((0 + (16 * x1)) + x5).toNatClampNeg) = x3 then (rec 6 [.ref r0, .int x1, .int x2, .int x3, .int (x4 &&& 0), .int (x5 + 1)] [] h) else (rec 6 [.ref r0, .int x1, .int x2, .int x3, .int (x4 &&& 1), .int (x5 + 1)] [] h)) else none) else none) else (if ¬ x5 = x2 then (rec 6 [.ref r0, .int x1, .int x2, .int x3, .int (x4 &&& 1), .int (x5 + 1)] [] h) else (if kH h r0 = 1 then (if inB ((0 + (16 * x1)) + x5) (lH h r0) = true then (if ¬ (h.2 r0 ((0 + (16 * x1)) + x5).toNatClampNeg) = x3 then (rec 6 [.ref r0, .int x1, .int x2, .int x3, .int (x4 &&& 0), .int (x5 + 1)] [] h) else (rec 6 [.ref r0, .int x1, .int x2, .int x3, .int (x4 &&& 1), .int (x5 + 1)] [] h)) else none) else none))))
theorem uX10_isThere_6 {G : GG} {d : Nat} (hd : 1 ≤ d) (rec : Nat → List Value → List Value → Hp → RS) (hrec : ∀ pc loc st h o h', rec pc loc st h = some (o, h') → V G mX10_isThere d pc loc st h o h')   {r0  x1  x2  x3  x4  x5 } {h : Hp} {o : OU} {h' : Hp} (e : kX10_isThere_6 rec  r0 x1 x2 x3 x4 x5 h = some (o, h')) : V G mX10_isThere d 6 [.ref r0, .int x1, .int x2, .int x3, .int x4, .int x5] [] h o h' := by
  unfold kX10_isThere_6 at e
  refine bX10_isThere_6 r0 x1 x2 x3 x4 x5 ?_
  refine ⟨fun c1 => ?_, fun c1 => ?_⟩
  · have e := if_t e c1
    obtain ⟨q2, e⟩ := ob_e e
    refine ⟨q2, ?_⟩
    cases e
    exact ⟨rfl, rfl⟩
  · have e := if_f e c1
    refine ⟨fun c3 => ?_, fun c3 => ?_⟩
    · have e := if_t e c3
      obtain ⟨q4, e⟩ := ob_e e
      refine ⟨q4, ?_⟩
      obtain ⟨q5, e⟩ := ob_in e
      refine ⟨q5, ?_⟩
      refine ⟨fun c6 => ?_, fun c6 => ?_⟩
      · have e := if_t e c6
        exact hrec _ _ _ _ _ _ e
      · have e := if_n e c6
        exact hrec _ _ _ _ _ _ e
    · have e := if_f e c3
      refine ⟨fun c7 => ?_, fun c7 => ?_⟩
      · have e := if_t e c7
        exact hrec _ _ _ _ _ _ e
      · have e := if_n e c7
        obtain ⟨q8, e⟩ := ob_e e
        refine ⟨q8, ?_⟩
        obtain ⟨q9, e⟩ := ob_in e
        refine ⟨q9, ?_⟩
        refine ⟨fun c10 => ?_, fun c10 => ?_⟩
        · have e := if_t e c10
          exact hrec _ _ _ _ _ _ e
        · have e := if_n e c10
          exact hrec _ _ _ _ _ _ e
def sX10_isThere  (rec : Nat → List Value → List Value → Hp → RS) (pc : Nat) (loc st : List Value) (h : Hp) : RS := match pc, loc, st with
  | 6, [.ref r0, .int x1, .int x2, .int x3, .int x4, .int x5], [] => kX10_isThere_6 rec  r0 x1 x2 x3 x4 x5 h
  | _, _, _ => none
def gX10_isThere  : Nat → Nat → List Value → List Value → Hp → RS
  | 0 => fun _ _ _ _ => none
  | n + 1 => sX10_isThere  (gX10_isThere  n)
theorem wX10_isThere {G : GG} {d : Nat} (hd : 1 ≤ d)   : ∀ (n pc : Nat) (loc st : List Value) (h : Hp) (o : OU) (h' : Hp), gX10_isThere  n pc loc st h = some (o, h') → V G mX10_isThere d pc loc st h o h' := by
  intro n
  induction n with
  | zero => intro pc loc st h o h' e; cases e
  | succ n ih =>
    intro pc loc st h o h' e
    unfold gX10_isThere sX10_isThere at e
    split at e
    · exact uX10_isThere_6 hd _ ih   e
    · cases e
theorem zX10_isThere_6  (n : Nat) (r0 : Nat) (x1 : Int32) (x2 : Int32) (x3 : Int32) (x4 : Int32) (x5 : Int32)  (h : Hp) : gX10_isThere  (n + 1) 6 [.ref r0, .int x1, .int x2, .int x3, .int x4, .int x5] [] h = kX10_isThere_6 (gX10_isThere  n)  r0 x1 x2 x3 x4 x5 h := rfl
def fX10_isThere (r0 : Nat) (x1 : Int32) (x2 : Int32) (x3 : Int32) (h : Hp) : RS := kX10_isThere_0 (gX10_isThere FF) r0 x1 x2 x3 h
theorem tX10_isThere {G : GG} {d : Nat} {r0 x1 x2 x3} {h : Hp} {o : OU} {h' : Hp} (e : fX10_isThere r0 x1 x2 x3 h = some (o, h')) (hd : 1 ≤ d) : VM G mX10_isThere d [.ref r0, .int x1, .int x2, .int x3] h o h' := uX10_isThere_0 hd _ (wX10_isThere hd FF) e
def kX10_cell_0  (x0 : Int32) (h : Hp) : RS := (some (.inl (some (.int (512 + (12 * x0)))), h))
theorem uX10_cell_0 {G : GG} {d : Nat} (hd : 1 ≤ d)   {x0 } {h : Hp} {o : OU} {h' : Hp} (e : kX10_cell_0  x0 h = some (o, h')) : VM G mX10_cell d [.int x0] h o h' := by
  unfold kX10_cell_0 at e
  refine eX10_cell x0 ?_
  cases e
  exact ⟨rfl, rfl⟩
def fX10_cell (x0 : Int32) (h : Hp) : RS := kX10_cell_0 x0 h
theorem tX10_cell {G : GG} {d : Nat} {x0} {h : Hp} {o : OU} {h' : Hp} (e : fX10_cell x0 h = some (o, h')) (hd : 1 ≤ d) : VM G mX10_cell d [.int x0] h o h' := uX10_cell_0 hd e
def kX10_makes_0 (rec : Nat → List Value → List Value → Hp → RS)  (r0 : Nat) (x1 : Int32) (x2 : Int32) (x3 : Int32) (x4 : Int32) (x5 : Int32) (x6 : Int32) (x7 : Int32) (h : Hp) : RS := (bI (fX10_isThere r0 x1 x2 x3 h) fun z2 h1 => (if z2 = 0 then (if kH h1 r0 = 1 then (if inB 3392 (lH h1 r0) = true then (bI (fX10_cell (h1.2 r0 3392) h1) fun z8 h7 => (if kH h7 r0 = 1 then (if inB 3392 (lH h7 r0) = true then (if inB 3394 (lH h7 r0) = true then (if inB z8 (lH h7 r0) = true then (letH (upI (upI (upI h7.2 r0 3392 ((h7.2 r0 3392) + 1)) r0 3394 (((upI h7.2 r0 3392 ((h7.2 r0 3392) + 1)) r0 3394) + 1)) r0 z8.toNatClampNeg ((upI (upI h7.2 r0 3392 ((h7.2 r0 3392) + 1)) r0 3394 (((upI h7.2 r0 3392 ((h7.2 r0 3392) + 1)) r0 3394) + 1)) r0 3394)) fun (i14 : Nat → Nat → Int32) => (if inB (z8 + 1) (lH h7 r0) = true then (if inB (z8 + 2) (lH h7 r0) = true then (if inB (z8 + 3) (lH h7 r0) = true then (if inB (z8 + 4) (lH h7 r0) = true then (letH (upI (upI (upI (upI i14 r0 (z8 + 1).toNatClampNeg x1) r0 (z8 + 2).toNatClampNeg x2) r0 (z8 + 3).toNatClampNeg x3) r0 (z8 + 4).toNatClampNeg x4) fun (i20 : Nat → Nat → Int32) => (if inB (z8 + 5) (lH h7 r0) = true then (if inB (z8 + 6) (lH h7 r0) = true then (if inB (z8 + 7) (lH h7 r0) = true then (rec 116 [.ref r0, uV, .int x2, .int x3, uV, uV, uV, uV, .int z8, .int (0 + (16 * x1)), .int 8] [] (h7.1, (upI (upI (upI i20 r0 (z8 + 5).toNatClampNeg x5) r0 (z8 + 6).toNatClampNeg x6) r0 (z8 + 7).toNatClampNeg x7))) else none) else none) else none)) else none) else none) else none) else none)) else none) else none) else none) else none)) else none) else none) else (some (.inl (some (.int 0)), h1))))
theorem uX10_makes_0 {G : GG} {d : Nat} (hd : 2 ≤ d) (rec : Nat → List Value → List Value → Hp → RS) (hrec : ∀ pc loc st h o h', rec pc loc st h = some (o, h') → V G mX10_makes d pc loc st h o h')   {r0  x1  x2  x3  x4  x5  x6  x7 } {h : Hp} {o : OU} {h' : Hp} (e : kX10_makes_0 rec  r0 x1 x2 x3 x4 x5 x6 x7 h = some (o, h')) : VM G mX10_makes d [.ref r0, .int x1, .int x2, .int x3, .int x4, .int x5, .int x6, .int x7] h o h' := by
  unfold kX10_makes_0 at e
  refine eX10_makes r0 x1 x2 x3 x4 x5 x6 x7 (by omega) ?_
  obtain ⟨z2, h1, e1, e⟩ := bI_e e
  refine ⟨z2, h1, (tX10_isThere e1 (by omega)), ?_⟩
  refine ⟨fun c2 => ?_, fun c2 => ?_⟩
  · have e := if_t e c2
    obtain ⟨q3, e⟩ := ob_e e
    refine ⟨q3, ?_⟩
    obtain ⟨q4, e⟩ := ob_in e
    refine ⟨q4, ?_⟩
    obtain ⟨z8, h7, e5, e⟩ := bI_e e
    refine ⟨z8, h7, (tX10_cell e5 (by omega)), ?_⟩
    obtain ⟨q6, e⟩ := ob_e e
    refine ⟨q6, ?_⟩
    obtain ⟨q7, e⟩ := ob_in e
    refine ⟨q7, ?_⟩
    obtain ⟨q8, e⟩ := ob_in e
    refine ⟨q8, ?_⟩
    obtain ⟨q9, e⟩ := ob_in e
    refine ⟨q9, ?_⟩
    intro i14 evi14
    have e := lt_e evi14 e
    obtain ⟨q10, e⟩ := ob_in e
    refine ⟨q10, ?_⟩
    obtain ⟨q11, e⟩ := ob_in e
    refine ⟨q11, ?_⟩
    obtain ⟨q12, e⟩ := ob_in e
    refine ⟨q12, ?_⟩
    obtain ⟨q13, e⟩ := ob_in e
    refine ⟨q13, ?_⟩
    intro i20 evi20
    have e := lt_e evi20 e
    obtain ⟨q14, e⟩ := ob_in e
    refine ⟨q14, ?_⟩
    obtain ⟨q15, e⟩ := ob_in e
    refine ⟨q15, ?_⟩
    obtain ⟨q16, e⟩ := ob_in e
    refine ⟨q16, ?_⟩
    exact hrec _ _ _ _ _ _ e
  · have e := if_f e c2
    cases e
    exact ⟨rfl, rfl⟩
def kX10_makes_116 (rec : Nat → List Value → List Value → Hp → RS)  (r0 : Nat) (x2 : Int32) (x3 : Int32) (x8 : Int32) (x9 : Int32) (x10 : Int32) (h : Hp) : RS := (if 12 ≤ x10 then (if 16 ≤ x2 then (rec 171 [.ref r0, uV, uV, .int x3, uV, uV, uV, uV, .int x8, .int x9, .int 0] [] h) else (if kH h r0 = 1 then (if inB (x9 + x2) (lH h r0) = true then (if inB (x8 + 8) (lH h r0) = true then (if inB x8 (lH h r0) = true then (some (.inl (some (.int ((upI (upI h.2 r0 (x8 + 8).toNatClampNeg (h.2 r0 (x9 + x2).toNatClampNeg)) r0 (x9 + x2).toNatClampNeg x3) r0 x8.toNatClampNeg))), (h.1, (upI (upI h.2 r0 (x8 + 8).toNatClampNeg (h.2 r0 (x9 + x2).toNatClampNeg)) r0 (x9 + x2).toNatClampNeg x3)))) else none) else none) else none) else none)) else (if kH h r0 = 1 then (if inB (x8 + x10) (lH h r0) = true then (rec 116 [.ref r0, uV, .int x2, .int x3, uV, uV, uV, uV, .int x8, .int x9, .int (x10 + 1)] [] (h.1, (upI h.2 r0 (x8 + x10).toNatClampNeg 0))) else none) else none))
theorem uX10_makes_116 {G : GG} {d : Nat} (hd : 2 ≤ d) (rec : Nat → List Value → List Value → Hp → RS) (hrec : ∀ pc loc st h o h', rec pc loc st h = some (o, h') → V G mX10_makes d pc loc st h o h')   {r0  x2  x3  x8  x9  x10 } {h : Hp} {o : OU} {h' : Hp} (e : kX10_makes_116 rec  r0 x2 x3 x8 x9 x10 h = some (o, h')) : V G mX10_makes d 116 [.ref r0, uV, .int x2, .int x3, uV, uV, uV, uV, .int x8, .int x9, .int x10] [] h o h' := by
  unfold kX10_makes_116 at e
  refine bX10_makes_116 r0 x2 x3 x8 x9 x10 ?_
  refine ⟨fun c1 => ?_, fun c1 => ?_⟩
  · have e := if_t e c1
    refine ⟨fun c2 => ?_, fun c2 => ?_⟩
    · have e := if_t e c2
      exact hrec _ _ _ _ _ _ e
    · have e := if_f e c2
      obtain ⟨q3, e⟩ := ob_e e
      refine ⟨q3, ?_⟩
      obtain ⟨q4, e⟩ := ob_in e
      refine ⟨q4, ?_⟩
      obtain ⟨q5, e⟩ := ob_in e
      refine ⟨q5, ?_⟩
      obtain ⟨q6, e⟩ := ob_in e
      refine ⟨q6, ?_⟩
      cases e
      exact ⟨rfl, rfl⟩
  · have e := if_f e c1
    obtain ⟨q7, e⟩ := ob_e e
    refine ⟨q7, ?_⟩
    obtain ⟨q8, e⟩ := ob_in e
    refine ⟨q8, ?_⟩
    exact hrec _ _ _ _ _ _ e
def kX10_makes_171 (rec : Nat → List Value → List Value → Hp → RS)  (r0 : Nat) (x3 : Int32) (x8 : Int32) (x9 : Int32) (x10 : Int32) (h : Hp) : RS := (if 16 ≤ x10 then (if kH h r0 = 1 then (if inB x8 (lH h r0) = true then (some (.inl (some (.int (h.2 r0 x8.toNatClampNeg))), h)) else none) else none) else (if kH h r0 = 1 then (if inB ((x8 + 8) + (x10 / 4)) (lH h r0) = true then (if inB (x9 + x10) (lH h r0) = true then (letH (upI h.2 r0 ((x8 + 8) + (x10 / 4)).toNatClampNeg ((h.2 r0 ((x8 + 8) + (x10 / 4)).toNatClampNeg) ||| ((h.2 r0 (x9 + x10).toNatClampNeg) <<< ((8 * (x10 - x10 / 4 * 4)) &&& 31)))) fun (i7 : Nat → Nat → Int32) => (rec 171 [.ref r0, uV, uV, .int x3, uV, uV, uV, uV, .int x8, .int x9, .int (x10 + 1)] [] (h.1, (upI i7 r0 (x9 + x10).toNatClampNeg x3)))) else none) else none) else none))
theorem uX10_makes_171 {G : GG} {d : Nat} (hd : 2 ≤ d) (rec : Nat → List Value → List Value → Hp → RS) (hrec : ∀ pc loc st h o h', rec pc loc st h = some (o, h') → V G mX10_makes d pc loc st h o h')   {r0  x3  x8  x9  x10 } {h : Hp} {o : OU} {h' : Hp} (e : kX10_makes_171 rec  r0 x3 x8 x9 x10 h = some (o, h')) : V G mX10_makes d 171 [.ref r0, uV, uV, .int x3, uV, uV, uV, uV, .int x8, .int x9, .int x10] [] h o h' := by
  unfold kX10_makes_171 at e
  refine bX10_makes_171 r0 x3 x8 x9 x10 ?_
  refine ⟨fun c1 => ?_, fun c1 => ?_⟩
  · have e := if_t e c1
    obtain ⟨q2, e⟩ := ob_e e
    refine ⟨q2, ?_⟩
    obtain ⟨q3, e⟩ := ob_in e
    refine ⟨q3, ?_⟩
    cases e
    exact ⟨rfl, rfl⟩
  · have e := if_f e c1
    obtain ⟨q4, e⟩ := ob_e e
    refine ⟨q4, ?_⟩
    obtain ⟨q5, e⟩ := ob_in e
    refine ⟨q5, ?_⟩
    obtain ⟨q6, e⟩ := ob_in e
    refine ⟨q6, ?_⟩
    intro i7 evi7
    have e := lt_e evi7 e
    exact hrec _ _ _ _ _ _ e
def sX10_makes  (rec : Nat → List Value → List Value → Hp → RS) (pc : Nat) (loc st : List Value) (h : Hp) : RS := match pc, loc, st with
  | 116, [.ref r0, _, .int x2, .int x3, _, _, _, _, .int x8, .int x9, .int x10], [] => kX10_makes_116 rec  r0 x2 x3 x8 x9 x10 h
  | 171, [.ref r0, _, _, .int x3, _, _, _, _, .int x8, .int x9, .int x10], [] => kX10_makes_171 rec  r0 x3 x8 x9 x10 h
  | _, _, _ => none
def gX10_makes  : Nat → Nat → List Value → List Value → Hp → RS
  | 0 => fun _ _ _ _ => none
  | n + 1 => sX10_makes  (gX10_makes  n)
theorem wX10_makes {G : GG} {d : Nat} (hd : 2 ≤ d)   : ∀ (n pc : Nat) (loc st : List Value) (h : Hp) (o : OU) (h' : Hp), gX10_makes  n pc loc st h = some (o, h') → V G mX10_makes d pc loc st h o h' := by
  intro n
  induction n with
  | zero => intro pc loc st h o h' e; cases e
  | succ n ih =>
    intro pc loc st h o h' e
    unfold gX10_makes sX10_makes at e
    split at e
    · exact V.drop (llp_r (llp_u (llp_r (llp_r (llp_u (llp_u (llp_u (llp_u (llp_r (llp_r (llp_r llp_nil))))))))))) (uX10_makes_116 hd _ ih   e)
    · exact V.drop (llp_r (llp_u (llp_u (llp_r (llp_u (llp_u (llp_u (llp_u (llp_r (llp_r (llp_r llp_nil))))))))))) (uX10_makes_171 hd _ ih   e)
    · cases e
theorem zX10_makes_116  (n : Nat) (r0 : Nat) (x2 : Int32) (x3 : Int32) (x8 : Int32) (x9 : Int32) (x10 : Int32) (y1 : Value) (y4 : Value) (y5 : Value) (y6 : Value) (y7 : Value) (h : Hp) : gX10_makes  (n + 1) 116 [.ref r0, y1, .int x2, .int x3, y4, y5, y6, y7, .int x8, .int x9, .int x10] [] h = kX10_makes_116 (gX10_makes  n)  r0 x2 x3 x8 x9 x10 h := rfl
theorem zX10_makes_171  (n : Nat) (r0 : Nat) (x3 : Int32) (x8 : Int32) (x9 : Int32) (x10 : Int32) (y1 : Value) (y2 : Value) (y4 : Value) (y5 : Value) (y6 : Value) (y7 : Value) (h : Hp) : gX10_makes  (n + 1) 171 [.ref r0, y1, y2, .int x3, y4, y5, y6, y7, .int x8, .int x9, .int x10] [] h = kX10_makes_171 (gX10_makes  n)  r0 x3 x8 x9 x10 h := rfl
def fX10_makes (r0 : Nat) (x1 : Int32) (x2 : Int32) (x3 : Int32) (x4 : Int32) (x5 : Int32) (x6 : Int32) (x7 : Int32) (h : Hp) : RS := kX10_makes_0 (gX10_makes FF) r0 x1 x2 x3 x4 x5 x6 x7 h
theorem tX10_makes {G : GG} {d : Nat} {r0 x1 x2 x3 x4 x5 x6 x7} {h : Hp} {o : OU} {h' : Hp} (e : fX10_makes r0 x1 x2 x3 x4 x5 x6 x7 h = some (o, h')) (hd : 2 ≤ d) : VM G mX10_makes d [.ref r0, .int x1, .int x2, .int x3, .int x4, .int x5, .int x6, .int x7] h o h' := uX10_makes_0 hd _ (wX10_makes hd FF) e
def kX10_field_0  (r0 : Nat) (x1 : Int32) (x2 : Int32) (x3 : Int32) (x4 : Int32) (x5 : Int32) (h : Hp) : RS := (bI (fX10_byteOf x1 x2 h) fun z2 h1 => (bI (fX10_byteOf x1 x2 h1) fun z5 h4 => (bI (fX10_makes r0 (z2 / 16) (z5 - z5 / 16 * 16) x3 x4 x5 0 0 h4) fun z8 h7 => (some (.inl (some (.int z8)), h7)))))
theorem uX10_field_0 {G : GG} {d : Nat} (hd : 3 ≤ d)   {r0  x1  x2  x3  x4  x5 } {h : Hp} {o : OU} {h' : Hp} (e : kX10_field_0  r0 x1 x2 x3 x4 x5 h = some (o, h')) : VM G mX10_field d [.ref r0, .int x1, .int x2, .int x3, .int x4, .int x5] h o h' := by
  unfold kX10_field_0 at e
  refine eX10_field r0 x1 x2 x3 x4 x5 (by omega) ?_
  obtain ⟨z2, h1, e1, e⟩ := bI_e e
  refine ⟨z2, h1, (tX10_byteOf e1 (by omega)), ?_⟩
  obtain ⟨z5, h4, e2, e⟩ := bI_e e
  refine ⟨z5, h4, (tX10_byteOf e2 (by omega)), ?_⟩
  obtain ⟨z8, h7, e3, e⟩ := bI_e e
  refine ⟨z8, h7, (tX10_makes e3 (by omega)), ?_⟩
  cases e
  exact ⟨rfl, rfl⟩
def fX10_field (r0 : Nat) (x1 : Int32) (x2 : Int32) (x3 : Int32) (x4 : Int32) (x5 : Int32) (h : Hp) : RS := kX10_field_0 r0 x1 x2 x3 x4 x5 h
theorem tX10_field {G : GG} {d : Nat} {r0 x1 x2 x3 x4 x5} {h : Hp} {o : OU} {h' : Hp} (e : fX10_field r0 x1 x2 x3 x4 x5 h = some (o, h')) (hd : 3 ≤ d) : VM G mX10_field d [.ref r0, .int x1, .int x2, .int x3, .int x4, .int x5] h o h' := uX10_field_0 hd e
def kX10_latest_0 (rec : Nat → List Value → List Value → Hp → RS)  (r0 : Nat) (x1 : Int32) (x2 : Int32) (h : Hp) : RS := (rec 5 [.ref r0, .int x1, .int x2, .int 0, .int 0] [] h)
theorem uX10_latest_0 {G : GG} {d : Nat} (hd : 2 ≤ d) (rec : Nat → List Value → List Value → Hp → RS) (hrec : ∀ pc loc st h o h', rec pc loc st h = some (o, h') → V G mX10_latest d pc loc st h o h')   {r0  x1  x2 } {h : Hp} {o : OU} {h' : Hp} (e : kX10_latest_0 rec  r0 x1 x2 h = some (o, h')) : VM G mX10_latest d [.ref r0, .int x1, .int x2] h o h' := by
  unfold kX10_latest_0 at e
  refine eX10_latest r0 x1 x2 ?_
  exact hrec _ _ _ _ _ _ e
def kX10_latest_5 (rec : Nat → List Value → List Value → Hp → RS)  (r0 : Nat) (x1 : Int32) (x2 : Int32) (x3 : Int32) (x4 : Int32) (h : Hp) : RS := (if kH h r0 = 1 then (if inB 3392 (lH h r0) = true then (if (h.2 r0 3392) ≤ x4 then (some (.inl (some (.int x3)), h)) else (bI (fX10_cell x4 h) fun z5 h4 => (if kH h4 r0 = 1 then (if inB (z5 + 1) (lH h4 r0) = true then (if ¬ (h4.2 r0 (z5 + 1).toNatClampNeg) = x1 then (rec 5 [.ref r0, .int x1, .int x2, .int x3, .int (x4 + 1)] [] h4) else (bI (fX10_cell x4 h4) fun z11 h10 => (if kH h10 r0 = 1 then (if inB (z11 + 2) (lH h10 r0) = true then (if ¬ (h10.2 r0 (z11 + 2).toNatClampNeg) = x2 then (rec 5 [.ref r0, .int x1, .int x2, .int x3, .int (x4 + 1)] [] h10) else (bI (fX10_cell x4 h10) fun z17 h16 => (if kH h16 r0 = 1 then (if inB z17 (lH h16 r0) = true then (rec 5 [.ref r0, .int x1, .int x2, .int (h16.2 r0 z17.toNatClampNeg), .int (x4 + 1)] [] h16) else none) else none))) else none) else none))) else none) else none))) else none) else none)
theorem uX10_latest_5 {G : GG} {d : Nat} (hd : 2 ≤ d) (rec : Nat → List Value → List Value → Hp → RS) (hrec : ∀ pc loc st h o h', rec pc loc st h = some (o, h') → V G mX10_latest d pc loc st h o h')   {r0  x1  x2  x3  x4 } {h : Hp} {o : OU} {h' : Hp} (e : kX10_latest_5 rec  r0 x1 x2 x3 x4 h = some (o, h')) : V G mX10_latest d 5 [.ref r0, .int x1, .int x2, .int x3, .int x4] [] h o h' := by
  unfold kX10_latest_5 at e
  refine bX10_latest_5 r0 x1 x2 x3 x4 (by omega) ?_
  obtain ⟨q1, e⟩ := ob_e e
  refine ⟨q1, ?_⟩
  obtain ⟨q2, e⟩ := ob_in e
  refine ⟨q2, ?_⟩
  refine ⟨fun c3 => ?_, fun c3 => ?_⟩
  · have e := if_t e c3
    cases e
    exact ⟨rfl, rfl⟩
  · have e := if_f e c3
    obtain ⟨z5, h4, e4, e⟩ := bI_e e
    refine ⟨z5, h4, (tX10_cell e4 (by omega)), ?_⟩
    obtain ⟨q5, e⟩ := ob_e e
    refine ⟨q5, ?_⟩
    obtain ⟨q6, e⟩ := ob_in e
    refine ⟨q6, ?_⟩
    refine ⟨fun c7 => ?_, fun c7 => ?_⟩
    · have e := if_t e c7
      exact hrec _ _ _ _ _ _ e
    · have e := if_n e c7
      obtain ⟨z11, h10, e8, e⟩ := bI_e e
      refine ⟨z11, h10, (tX10_cell e8 (by omega)), ?_⟩
      obtain ⟨q9, e⟩ := ob_e e
      refine ⟨q9, ?_⟩
      obtain ⟨q10, e⟩ := ob_in e
      refine ⟨q10, ?_⟩
      refine ⟨fun c11 => ?_, fun c11 => ?_⟩
      · have e := if_t e c11
        exact hrec _ _ _ _ _ _ e
      · have e := if_n e c11
        obtain ⟨z17, h16, e12, e⟩ := bI_e e
        refine ⟨z17, h16, (tX10_cell e12 (by omega)), ?_⟩
        obtain ⟨q13, e⟩ := ob_e e
        refine ⟨q13, ?_⟩
        obtain ⟨q14, e⟩ := ob_in e
        refine ⟨q14, ?_⟩
        exact hrec _ _ _ _ _ _ e
def sX10_latest  (rec : Nat → List Value → List Value → Hp → RS) (pc : Nat) (loc st : List Value) (h : Hp) : RS := match pc, loc, st with
  | 5, [.ref r0, .int x1, .int x2, .int x3, .int x4], [] => kX10_latest_5 rec  r0 x1 x2 x3 x4 h
  | _, _, _ => none
def gX10_latest  : Nat → Nat → List Value → List Value → Hp → RS
  | 0 => fun _ _ _ _ => none
  | n + 1 => sX10_latest  (gX10_latest  n)
theorem wX10_latest {G : GG} {d : Nat} (hd : 2 ≤ d)   : ∀ (n pc : Nat) (loc st : List Value) (h : Hp) (o : OU) (h' : Hp), gX10_latest  n pc loc st h = some (o, h') → V G mX10_latest d pc loc st h o h' := by
  intro n
  induction n with
  | zero => intro pc loc st h o h' e; cases e
  | succ n ih =>
    intro pc loc st h o h' e
    unfold gX10_latest sX10_latest at e
    split at e
    · exact uX10_latest_5 hd _ ih   e
    · cases e
theorem zX10_latest_5  (n : Nat) (r0 : Nat) (x1 : Int32) (x2 : Int32) (x3 : Int32) (x4 : Int32)  (h : Hp) : gX10_latest  (n + 1) 5 [.ref r0, .int x1, .int x2, .int x3, .int x4] [] h = kX10_latest_5 (gX10_latest  n)  r0 x1 x2 x3 x4 h := rfl
def fX10_latest (r0 : Nat) (x1 : Int32) (x2 : Int32) (h : Hp) : RS := kX10_latest_0 (gX10_latest FF) r0 x1 x2 h
theorem tX10_latest {G : GG} {d : Nat} {r0 x1 x2} {h : Hp} {o : OU} {h' : Hp} (e : fX10_latest r0 x1 x2 h = some (o, h')) (hd : 2 ≤ d) : VM G mX10_latest d [.ref r0, .int x1, .int x2] h o h' := uX10_latest_0 hd _ (wX10_latest hd FF) e
def kX10_names_0  (r0 : Nat) (x1 : Int32) (x2 : Int32) (x3 : Int32) (x4 : Int32) (x5 : Int32) (x6 : Int32) (h : Hp) : RS := (bI (fX10_latest r0 (x1 / 16) (x1 - x1 / 16 * 16) h) fun z2 h1 => (bI (fX10_makes r0 (x1 / 16) ((x1 - x1 / 16 * 16) + 1) x3 z2 0 0 0 h1) fun z5 h4 => (bI (fX10_makes r0 (x1 / 16) (x1 - x1 / 16 * 16) x2 x4 x5 x6 z5 h4) fun z8 h7 => (some (.inl none, h7)))))
theorem uX10_names_0 {G : GG} {d : Nat} (hd : 3 ≤ d)   {r0  x1  x2  x3  x4  x5  x6 } {h : Hp} {o : OU} {h' : Hp} (e : kX10_names_0  r0 x1 x2 x3 x4 x5 x6 h = some (o, h')) : VM G mX10_names d [.ref r0, .int x1, .int x2, .int x3, .int x4, .int x5, .int x6] h o h' := by
  unfold kX10_names_0 at e
  refine eX10_names r0 x1 x2 x3 x4 x5 x6 (by omega) ?_
  obtain ⟨z2, h1, e1, e⟩ := bI_e e
  refine ⟨z2, h1, (tX10_latest e1 (by omega)), ?_⟩
  obtain ⟨z5, h4, e2, e⟩ := bI_e e
  refine ⟨z5, h4, (tX10_makes e2 (by omega)), ?_⟩
  obtain ⟨z8, h7, e3, e⟩ := bI_e e
  refine ⟨z8, h7, (tX10_makes e3 (by omega)), ?_⟩
  cases e
  exact ⟨rfl, rfl⟩
def fX10_names (r0 : Nat) (x1 : Int32) (x2 : Int32) (x3 : Int32) (x4 : Int32) (x5 : Int32) (x6 : Int32) (h : Hp) : RS := kX10_names_0 r0 x1 x2 x3 x4 x5 x6 h
theorem tX10_names {G : GG} {d : Nat} {r0 x1 x2 x3 x4 x5 x6} {h : Hp} {o : OU} {h' : Hp} (e : fX10_names r0 x1 x2 x3 x4 x5 x6 h = some (o, h')) (hd : 3 ≤ d) : VM G mX10_names d [.ref r0, .int x1, .int x2, .int x3, .int x4, .int x5, .int x6] h o h' := uX10_names_0 hd e
def kX10_bare_0  (r0 : Nat) (x1 : Int32) (x2 : Int32) (x3 : Int32) (h : Hp) : RS := (bI (fX10_makes r0 x1 x2 x3 0 0 0 0 h) fun z2 h1 => (some (.inl (some (.int z2)), h1)))
theorem uX10_bare_0 {G : GG} {d : Nat} (hd : 3 ≤ d)   {r0  x1  x2  x3 } {h : Hp} {o : OU} {h' : Hp} (e : kX10_bare_0  r0 x1 x2 x3 h = some (o, h')) : VM G mX10_bare d [.ref r0, .int x1, .int x2, .int x3] h o h' := by
  unfold kX10_bare_0 at e
  refine eX10_bare r0 x1 x2 x3 (by omega) ?_
  obtain ⟨z2, h1, e1, e⟩ := bI_e e
  refine ⟨z2, h1, (tX10_makes e1 (by omega)), ?_⟩
  cases e
  exact ⟨rfl, rfl⟩
def fX10_bare (r0 : Nat) (x1 : Int32) (x2 : Int32) (x3 : Int32) (h : Hp) : RS := kX10_bare_0 r0 x1 x2 x3 h
theorem tX10_bare {G : GG} {d : Nat} {r0 x1 x2 x3} {h : Hp} {o : OU} {h' : Hp} (e : fX10_bare r0 x1 x2 x3 h = some (o, h')) (hd : 3 ≤ d) : VM G mX10_bare d [.ref r0, .int x1, .int x2, .int x3] h o h' := uX10_bare_0 hd e
def kX10_gets_0  (r0 : Nat) (x1 : Int32) (x2 : Int32) (x3 : Int32) (x4 : Int32) (h : Hp) : RS := (bI (fX10_bare r0 0 x2 1 h) fun z2 h1 => (bI (fX10_bare r0 x2 16 x4 h1) fun z5 h4 => (if ¬ z5 = 0 then (bI (fX10_field r0 x1 x3 x2 z2 z5 h4) fun z9 h8 => (some (.inl (some (.int z9)), h8))) else (bI (fX10_field r0 x1 x3 x2 z2 (-x2) h4) fun z12 h11 => (some (.inl (some (.int z12)), h11))))))
theorem uX10_gets_0 {G : GG} {d : Nat} (hd : 4 ≤ d)   {r0  x1  x2  x3  x4 } {h : Hp} {o : OU} {h' : Hp} (e : kX10_gets_0  r0 x1 x2 x3 x4 h = some (o, h')) : VM G mX10_gets d [.ref r0, .int x1, .int x2, .int x3, .int x4] h o h' := by
  unfold kX10_gets_0 at e
  refine eX10_gets r0 x1 x2 x3 x4 (by omega) ?_
  obtain ⟨z2, h1, e1, e⟩ := bI_e e
  refine ⟨z2, h1, (tX10_bare e1 (by omega)), ?_⟩
  obtain ⟨z5, h4, e2, e⟩ := bI_e e
  refine ⟨z5, h4, (tX10_bare e2 (by omega)), ?_⟩
  refine ⟨fun c3 => ?_, fun c3 => ?_⟩
  · have e := if_t e c3
    obtain ⟨z9, h8, e4, e⟩ := bI_e e
    refine ⟨z9, h8, (tX10_field e4 (by omega)), ?_⟩
    cases e
    exact ⟨rfl, rfl⟩
  · have e := if_n e c3
    obtain ⟨z12, h11, e5, e⟩ := bI_e e
    refine ⟨z12, h11, (tX10_field e5 (by omega)), ?_⟩
    cases e
    exact ⟨rfl, rfl⟩
def fX10_gets (r0 : Nat) (x1 : Int32) (x2 : Int32) (x3 : Int32) (x4 : Int32) (h : Hp) : RS := kX10_gets_0 r0 x1 x2 x3 x4 h
theorem tX10_gets {G : GG} {d : Nat} {r0 x1 x2 x3 x4} {h : Hp} {o : OU} {h' : Hp} (e : fX10_gets r0 x1 x2 x3 x4 h = some (o, h')) (hd : 4 ≤ d) : VM G mX10_gets d [.ref r0, .int x1, .int x2, .int x3, .int x4] h o h' := uX10_gets_0 hd e
def kX10_begins_0 (rec : Nat → List Value → List Value → Hp → RS)  (r0 : Nat) (r1 : Nat) (x2 : Int32) (x3 : Int32) (x4 : Int32) (h : Hp) : RS := (bI (fX10_freeNode r1 h) fun z2 h1 => (if kH h1 r0 = 18 then (bI (fX10_freeBlock r0 r1 h1) fun z5 h4 => (if kH h4 r0 = 18 then (bI (fX10_isNewName r0 r1 x2 x3 h4) fun z9 h8 => (if z9 = 0 then (some (.inl (some (.int 0)), h8)) else (if z2 = (-1) then (some (.inl (some (.int 0)), h8)) else (if ¬ x4 = 2 then (rec 43 [uV, .ref r1, .int x2, .int x3, .int x4, .int z2, .int z5, uV, uV, uV, uV] [] h8) else (if ¬ z5 = (-1) then (rec 43 [uV, .ref r1, .int x2, .int x3, .int x4, .int z2, .int z5, uV, uV, uV, uV] [] h8) else (some (.inl (some (.int 0)), h8))))))) else none)) else none))
theorem uX10_begins_0 {G : GG} {d : Nat} (hd : 6 ≤ d) (rec : Nat → List Value → List Value → Hp → RS) (hrec : ∀ pc loc st h o h', rec pc loc st h = some (o, h') → V G mX10_begins d pc loc st h o h')   {r0  r1  x2  x3  x4 } {h : Hp} {o : OU} {h' : Hp} (e : kX10_begins_0 rec  r0 r1 x2 x3 x4 h = some (o, h')) : VM G mX10_begins d [.ref r0, .ref r1, .int x2, .int x3, .int x4] h o h' := by
  unfold kX10_begins_0 at e
  refine eX10_begins r0 r1 x2 x3 x4 (by omega) ?_
  obtain ⟨z2, h1, e1, e⟩ := bI_e e
  refine ⟨z2, h1, (tX10_freeNode e1 (by omega)), ?_⟩
  obtain ⟨q2, e⟩ := ob_e e
  refine ⟨q2, ?_⟩
  obtain ⟨z5, h4, e3, e⟩ := bI_e e
  refine ⟨z5, h4, (tX10_freeBlock e3 (by omega)), ?_⟩
  obtain ⟨q4, e⟩ := ob_e e
  refine ⟨q4, ?_⟩
  obtain ⟨z9, h8, e5, e⟩ := bI_e e
  refine ⟨z9, h8, (tX10_isNewName e5 (by omega)), ?_⟩
  refine ⟨fun c6 => ?_, fun c6 => ?_⟩
  · have e := if_t e c6
    cases e
    exact ⟨rfl, rfl⟩
  · have e := if_f e c6
    refine ⟨fun c7 => ?_, fun c7 => ?_⟩
    · have e := if_t e c7
      cases e
      exact ⟨rfl, rfl⟩
    · have e := if_f e c7
      refine ⟨fun c8 => ?_, fun c8 => ?_⟩
      · have e := if_t e c8
        exact hrec _ _ _ _ _ _ e
      · have e := if_n e c8
        refine ⟨fun c9 => ?_, fun c9 => ?_⟩
        · have e := if_t e c9
          exact hrec _ _ _ _ _ _ e
        · have e := if_n e c9
          cases e
          exact ⟨rfl, rfl⟩
def kX10_begins_43 (rec : Nat → List Value → List Value → Hp → RS)  (r1 : Nat) (x2 : Int32) (x3 : Int32) (x4 : Int32) (x5 : Int32) (x6 : Int32) (h : Hp) : RS := (bI (fX10_entry r1 0 x2 0 h) fun z2 h1 => (bI (fX10_field r1 x5 0 1 0 0 h1) fun z5 h4 => (bI (fX10_field r1 x5 1 x4 0 0 h4) fun z8 h7 => (if ¬ x4 = 2 then (bV (fX10_names r1 z2 x3 x5 z5 z8 0 h7) fun h11 => (some (.inl (some (.int 1)), h11))) else (bI (fX10_gets r1 x5 x6 2 0 h7) fun z14 h13 => (bV (fX10_names r1 z2 x3 x5 z5 z8 z14 h13) fun h16 => (some (.inl (some (.int 1)), h16))))))))
theorem uX10_begins_43 {G : GG} {d : Nat} (hd : 6 ≤ d) (rec : Nat → List Value → List Value → Hp → RS) (hrec : ∀ pc loc st h o h', rec pc loc st h = some (o, h') → V G mX10_begins d pc loc st h o h')   {r1  x2  x3  x4  x5  x6 } {h : Hp} {o : OU} {h' : Hp} (e : kX10_begins_43 rec  r1 x2 x3 x4 x5 x6 h = some (o, h')) : V G mX10_begins d 43 [uV, .ref r1, .int x2, .int x3, .int x4, .int x5, .int x6, uV, uV, uV, uV] [] h o h' := by
  unfold kX10_begins_43 at e
  refine bX10_begins_43 r1 x2 x3 x4 x5 x6 (by omega) ?_
  obtain ⟨z2, h1, e1, e⟩ := bI_e e
  refine ⟨z2, h1, (tX10_entry e1 (by omega)), ?_⟩
  obtain ⟨z5, h4, e2, e⟩ := bI_e e
  refine ⟨z5, h4, (tX10_field e2 (by omega)), ?_⟩
  obtain ⟨z8, h7, e3, e⟩ := bI_e e
  refine ⟨z8, h7, (tX10_field e3 (by omega)), ?_⟩
  refine ⟨fun c4 => ?_, fun c4 => ?_⟩
  · have e := if_t e c4
    obtain ⟨h11, e5, e⟩ := bV_e e
    refine ⟨h11, (tX10_names e5 (by omega)), ?_⟩
    cases e
    exact ⟨rfl, rfl⟩
  · have e := if_n e c4
    obtain ⟨z14, h13, e6, e⟩ := bI_e e
    refine ⟨z14, h13, (tX10_gets e6 (by omega)), ?_⟩
    obtain ⟨h16, e7, e⟩ := bV_e e
    refine ⟨h16, (tX10_names e7 (by omega)), ?_⟩
    cases e
    exact ⟨rfl, rfl⟩
def sX10_begins  (rec : Nat → List Value → List Value → Hp → RS) (pc : Nat) (loc st : List Value) (h : Hp) : RS := match pc, loc, st with
  | 43, [_, .ref r1, .int x2, .int x3, .int x4, .int x5, .int x6, _, _, _, _], [] => kX10_begins_43 rec  r1 x2 x3 x4 x5 x6 h
  | _, _, _ => none
def gX10_begins  : Nat → Nat → List Value → List Value → Hp → RS
  | 0 => fun _ _ _ _ => none
  | n + 1 => sX10_begins  (gX10_begins  n)
theorem wX10_begins {G : GG} {d : Nat} (hd : 6 ≤ d)   : ∀ (n pc : Nat) (loc st : List Value) (h : Hp) (o : OU) (h' : Hp), gX10_begins  n pc loc st h = some (o, h') → V G mX10_begins d pc loc st h o h' := by
  intro n
  induction n with
  | zero => intro pc loc st h o h' e; cases e
  | succ n ih =>
    intro pc loc st h o h' e
    unfold gX10_begins sX10_begins at e
    split at e
    · exact V.drop (llp_u (llp_r (llp_r (llp_r (llp_r (llp_r (llp_r (llp_u (llp_u (llp_u (llp_u llp_nil))))))))))) (uX10_begins_43 hd _ ih   e)
    · cases e
theorem zX10_begins_43  (n : Nat) (r1 : Nat) (x2 : Int32) (x3 : Int32) (x4 : Int32) (x5 : Int32) (x6 : Int32) (y0 : Value) (y7 : Value) (y8 : Value) (y9 : Value) (y10 : Value) (h : Hp) : gX10_begins  (n + 1) 43 [y0, .ref r1, .int x2, .int x3, .int x4, .int x5, .int x6, y7, y8, y9, y10] [] h = kX10_begins_43 (gX10_begins  n)  r1 x2 x3 x4 x5 x6 h := rfl
def fX10_begins (r0 : Nat) (r1 : Nat) (x2 : Int32) (x3 : Int32) (x4 : Int32) (h : Hp) : RS := kX10_begins_0 (gX10_begins FF) r0 r1 x2 x3 x4 h
theorem tX10_begins {G : GG} {d : Nat} {r0 r1 x2 x3 x4} {h : Hp} {o : OU} {h' : Hp} (e : fX10_begins r0 r1 x2 x3 x4 h = some (o, h')) (hd : 6 ≤ d) : VM G mX10_begins d [.ref r0, .ref r1, .int x2, .int x3, .int x4] h o h' := uX10_begins_0 hd _ (wX10_begins hd FF) e
def kX10_links_0  (r0 : Nat) (r1 : Nat) (x2 : Int32) (x3 : Int32) (x4 : Int32) (h : Hp) : RS := (bI (fX10_fieldOf r1 0 x4 0 h) fun z2 h1 => (bI (fX10_isKind r1 0 x4 1 h1) fun z5 h4 => (if z5 = 0 then (some (.inl (some (.int 0)), h4)) else (if 8 < z2 then (some (.inl (some (.int 0)), h4)) else (if kH h4 r0 = 18 then (bI (fX10_isNewName r0 r1 x2 x3 h4) fun z10 h9 => (if ¬ z10 = 0 then (bI (fX10_entry r1 0 x2 0 h9) fun z15 h14 => (bI (fX10_field r1 x4 0 (z2 + 1) 0 0 h14) fun z18 h17 => (bV (fX10_names r1 z15 x3 x4 z18 0 0 h17) fun h20 => (some (.inl (some (.int 1)), h20))))) else (some (.inl (some (.int 0)), h9)))) else none)))))
theorem uX10_links_0 {G : GG} {d : Nat} (hd : 6 ≤ d)   {r0  r1  x2  x3  x4 } {h : Hp} {o : OU} {h' : Hp} (e : kX10_links_0  r0 r1 x2 x3 x4 h = some (o, h')) : VM G mX10_links d [.ref r0, .ref r1, .int x2, .int x3, .int x4] h o h' := by
  unfold kX10_links_0 at e
  refine eX10_links r0 r1 x2 x3 x4 (by omega) ?_
  obtain ⟨z2, h1, e1, e⟩ := bI_e e
  refine ⟨z2, h1, (tX10_fieldOf e1 (by omega)), ?_⟩
  obtain ⟨z5, h4, e2, e⟩ := bI_e e
  refine ⟨z5, h4, (tX10_isKind e2 (by omega)), ?_⟩
  refine ⟨fun c3 => ?_, fun c3 => ?_⟩
  · have e := if_t e c3
    cases e
    exact ⟨rfl, rfl⟩
  · have e := if_f e c3
    refine ⟨fun c4 => ?_, fun c4 => ?_⟩
    · have e := if_t e c4
      cases e
      exact ⟨rfl, rfl⟩
    · have e := if_f e c4
      obtain ⟨q5, e⟩ := ob_e e
      refine ⟨q5, ?_⟩
      obtain ⟨z10, h9, e6, e⟩ := bI_e e
      refine ⟨z10, h9, (tX10_isNewName e6 (by omega)), ?_⟩
      refine ⟨fun c7 => ?_, fun c7 => ?_⟩
      · have e := if_t e c7
        obtain ⟨z15, h14, e8, e⟩ := bI_e e
        refine ⟨z15, h14, (tX10_entry e8 (by omega)), ?_⟩
        obtain ⟨z18, h17, e9, e⟩ := bI_e e
        refine ⟨z18, h17, (tX10_field e9 (by omega)), ?_⟩
        obtain ⟨h20, e10, e⟩ := bV_e e
        refine ⟨h20, (tX10_names e10 (by omega)), ?_⟩
        cases e
        exact ⟨rfl, rfl⟩
      · have e := if_n e c7
        cases e
        exact ⟨rfl, rfl⟩
def fX10_links (r0 : Nat) (r1 : Nat) (x2 : Int32) (x3 : Int32) (x4 : Int32) (h : Hp) : RS := kX10_links_0 r0 r1 x2 x3 x4 h
theorem tX10_links {G : GG} {d : Nat} {r0 r1 x2 x3 x4} {h : Hp} {o : OU} {h' : Hp} (e : fX10_links r0 r1 x2 x3 x4 h = some (o, h')) (hd : 6 ≤ d) : VM G mX10_links d [.ref r0, .ref r1, .int x2, .int x3, .int x4] h o h' := uX10_links_0 hd e
def kX10_grows_0 (rec : Nat → List Value → List Value → Hp → RS)  (r0 : Nat) (r1 : Nat) (x2 : Int32) (x3 : Int32) (h : Hp) : RS := (if kH h r0 = 18 then (bI (fX10_freeBlock r0 r1 h) fun z2 h1 => (bI (fX10_fieldOf r1 0 x2 2 h1) fun z6 h5 => (bI (fX10_fieldOf r1 0 x2 0 h5) fun z9 h8 => (if z9 = 0 then (some (.inl (some (.int 0)), h8)) else (if z2 = (-1) then (some (.inl (some (.int 0)), h8)) else (if z6 = 0 then (rec 49 [uV, .ref r1, .int x2, .int x3, .int z2, .int z6] [] h8) else (bI (fX10_fieldOf r1 0 x2 3 h8) fun z15 h14 => (if z15 = 0 then (rec 49 [uV, .ref r1, .int x2, .int x3, .int z2, .int z6] [] h14) else (some (.inl (some (.int 0)), h14)))))))))) else none)
theorem uX10_grows_0 {G : GG} {d : Nat} (hd : 5 ≤ d) (rec : Nat → List Value → List Value → Hp → RS) (hrec : ∀ pc loc st h o h', rec pc loc st h = some (o, h') → V G mX10_grows d pc loc st h o h')   {r0  r1  x2  x3 } {h : Hp} {o : OU} {h' : Hp} (e : kX10_grows_0 rec  r0 r1 x2 x3 h = some (o, h')) : VM G mX10_grows d [.ref r0, .ref r1, .int x2, .int x3] h o h' := by
  unfold kX10_grows_0 at e
  refine eX10_grows r0 r1 x2 x3 (by omega) ?_
  obtain ⟨q1, e⟩ := ob_e e
  refine ⟨q1, ?_⟩
  obtain ⟨z2, h1, e2, e⟩ := bI_e e
  refine ⟨z2, h1, (tX10_freeBlock e2 (by omega)), ?_⟩
  obtain ⟨z6, h5, e3, e⟩ := bI_e e
  refine ⟨z6, h5, (tX10_fieldOf e3 (by omega)), ?_⟩
  obtain ⟨z9, h8, e4, e⟩ := bI_e e
  refine ⟨z9, h8, (tX10_fieldOf e4 (by omega)), ?_⟩
  refine ⟨fun c5 => ?_, fun c5 => ?_⟩
  · have e := if_t e c5
    cases e
    exact ⟨rfl, rfl⟩
  · have e := if_f e c5
    refine ⟨fun c6 => ?_, fun c6 => ?_⟩
    · have e := if_t e c6
      cases e
      exact ⟨rfl, rfl⟩
    · have e := if_f e c6
      refine ⟨fun c7 => ?_, fun c7 => ?_⟩
      · have e := if_t e c7
        exact hrec _ _ _ _ _ _ e
      · have e := if_f e c7
        obtain ⟨z15, h14, e8, e⟩ := bI_e e
        refine ⟨z15, h14, (tX10_fieldOf e8 (by omega)), ?_⟩
        refine ⟨fun c9 => ?_, fun c9 => ?_⟩
        · have e := if_t e c9
          exact hrec _ _ _ _ _ _ e
        · have e := if_f e c9
          cases e
          exact ⟨rfl, rfl⟩
def kX10_grows_49 (rec : Nat → List Value → List Value → Hp → RS)  (r1 : Nat) (x2 : Int32) (x3 : Int32) (x4 : Int32) (x5 : Int32) (h : Hp) : RS := (if ¬ x5 = 0 then (bI (fX10_fieldOf r1 0 x2 1 h) fun z3 h2 => (if ¬ z3 = 2 then (bI (fX10_gets r1 x2 x4 3 x3 h2) fun z7 h6 => (some (.inl (some (.int 1)), h6))) else (bI (fX10_gets r1 x2 x4 3 0 h2) fun z10 h9 => (some (.inl (some (.int 1)), h9))))) else (bI (fX10_fieldOf r1 0 x2 1 h) fun z13 h12 => (if ¬ z13 = 2 then (bI (fX10_gets r1 x2 x4 2 x3 h12) fun z17 h16 => (some (.inl (some (.int 1)), h16))) else (bI (fX10_gets r1 x2 x4 2 0 h12) fun z20 h19 => (some (.inl (some (.int 1)), h19))))))
theorem uX10_grows_49 {G : GG} {d : Nat} (hd : 5 ≤ d) (rec : Nat → List Value → List Value → Hp → RS) (hrec : ∀ pc loc st h o h', rec pc loc st h = some (o, h') → V G mX10_grows d pc loc st h o h')   {r1  x2  x3  x4  x5 } {h : Hp} {o : OU} {h' : Hp} (e : kX10_grows_49 rec  r1 x2 x3 x4 x5 h = some (o, h')) : V G mX10_grows d 49 [uV, .ref r1, .int x2, .int x3, .int x4, .int x5] [] h o h' := by
  unfold kX10_grows_49 at e
  refine bX10_grows_49 r1 x2 x3 x4 x5 (by omega) ?_
  refine ⟨fun c1 => ?_, fun c1 => ?_⟩
  · have e := if_t e c1
    obtain ⟨z3, h2, e2, e⟩ := bI_e e
    refine ⟨z3, h2, (tX10_fieldOf e2 (by omega)), ?_⟩
    refine ⟨fun c3 => ?_, fun c3 => ?_⟩
    · have e := if_t e c3
      obtain ⟨z7, h6, e4, e⟩ := bI_e e
      refine ⟨z7, h6, (tX10_gets e4 (by omega)), ?_⟩
      cases e
      exact ⟨rfl, rfl⟩
    · have e := if_n e c3
      obtain ⟨z10, h9, e5, e⟩ := bI_e e
      refine ⟨z10, h9, (tX10_gets e5 (by omega)), ?_⟩
      cases e
      exact ⟨rfl, rfl⟩
  · have e := if_n e c1
    obtain ⟨z13, h12, e6, e⟩ := bI_e e
    refine ⟨z13, h12, (tX10_fieldOf e6 (by omega)), ?_⟩
    refine ⟨fun c7 => ?_, fun c7 => ?_⟩
    · have e := if_t e c7
      obtain ⟨z17, h16, e8, e⟩ := bI_e e
      refine ⟨z17, h16, (tX10_gets e8 (by omega)), ?_⟩
      cases e
      exact ⟨rfl, rfl⟩
    · have e := if_n e c7
      obtain ⟨z20, h19, e9, e⟩ := bI_e e
      refine ⟨z20, h19, (tX10_gets e9 (by omega)), ?_⟩
      cases e
      exact ⟨rfl, rfl⟩
def sX10_grows  (rec : Nat → List Value → List Value → Hp → RS) (pc : Nat) (loc st : List Value) (h : Hp) : RS := match pc, loc, st with
  | 49, [_, .ref r1, .int x2, .int x3, .int x4, .int x5], [] => kX10_grows_49 rec  r1 x2 x3 x4 x5 h
  | _, _, _ => none
def gX10_grows  : Nat → Nat → List Value → List Value → Hp → RS
  | 0 => fun _ _ _ _ => none
  | n + 1 => sX10_grows  (gX10_grows  n)
theorem wX10_grows {G : GG} {d : Nat} (hd : 5 ≤ d)   : ∀ (n pc : Nat) (loc st : List Value) (h : Hp) (o : OU) (h' : Hp), gX10_grows  n pc loc st h = some (o, h') → V G mX10_grows d pc loc st h o h' := by
  intro n
  induction n with
  | zero => intro pc loc st h o h' e; cases e
  | succ n ih =>
    intro pc loc st h o h' e
    unfold gX10_grows sX10_grows at e
    split at e
    · exact V.drop (llp_u (llp_r (llp_r (llp_r (llp_r (llp_r llp_nil)))))) (uX10_grows_49 hd _ ih   e)
    · cases e
theorem zX10_grows_49  (n : Nat) (r1 : Nat) (x2 : Int32) (x3 : Int32) (x4 : Int32) (x5 : Int32) (y0 : Value) (h : Hp) : gX10_grows  (n + 1) 49 [y0, .ref r1, .int x2, .int x3, .int x4, .int x5] [] h = kX10_grows_49 (gX10_grows  n)  r1 x2 x3 x4 x5 h := rfl
def fX10_grows (r0 : Nat) (r1 : Nat) (x2 : Int32) (x3 : Int32) (h : Hp) : RS := kX10_grows_0 (gX10_grows FF) r0 r1 x2 x3 h
theorem tX10_grows {G : GG} {d : Nat} {r0 r1 x2 x3} {h : Hp} {o : OU} {h' : Hp} (e : fX10_grows r0 r1 x2 x3 h = some (o, h')) (hd : 5 ≤ d) : VM G mX10_grows d [.ref r0, .ref r1, .int x2, .int x3] h o h' := uX10_grows_0 hd _ (wX10_grows hd FF) e
def kX10_setsByte_0  (r0 : Nat) (x1 : Int32) (x2 : Int32) (x3 : Int32) (h : Hp) : RS := (if 16 ≤ x2 then (bI (fX10_fieldOf r0 0 x1 3 h) fun z3 h2 => (bI (fX10_isKind r0 0 x1 1 h2) fun z6 h5 => (if z6 = 0 then (some (.inl (some (.int 0)), h5)) else (if z3 = 0 then (some (.inl (some (.int 0)), h5)) else (bI (fX10_bare r0 z3 (x2 - x2 / 16 * 16) x3 h5) fun z11 h10 => (if z11 = 0 then (some (.inl (some (.int 0)), h10)) else (some (.inl (some (.int 1)), h10)))))))) else (bI (fX10_fieldOf r0 0 x1 2 h) fun z15 h14 => (bI (fX10_isKind r0 0 x1 1 h14) fun z18 h17 => (if z18 = 0 then (some (.inl (some (.int 0)), h17)) else (if z15 = 0 then (some (.inl (some (.int 0)), h17)) else (bI (fX10_bare r0 z15 (x2 - x2 / 16 * 16) x3 h17) fun z23 h22 => (if z23 = 0 then (some (.inl (some (.int 0)), h22)) else (some (.inl (some (.int 1)), h22)))))))))
theorem uX10_setsByte_0 {G : GG} {d : Nat} (hd : 4 ≤ d)   {r0  x1  x2  x3 } {h : Hp} {o : OU} {h' : Hp} (e : kX10_setsByte_0  r0 x1 x2 x3 h = some (o, h')) : VM G mX10_setsByte d [.ref r0, .int x1, .int x2, .int x3] h o h' := by
  unfold kX10_setsByte_0 at e
  refine eX10_setsByte r0 x1 x2 x3 (by omega) ?_
  refine ⟨fun c1 => ?_, fun c1 => ?_⟩
  · have e := if_t e c1
    obtain ⟨z3, h2, e2, e⟩ := bI_e e
    refine ⟨z3, h2, (tX10_fieldOf e2 (by omega)), ?_⟩
    obtain ⟨z6, h5, e3, e⟩ := bI_e e
    refine ⟨z6, h5, (tX10_isKind e3 (by omega)), ?_⟩
    refine ⟨fun c4 => ?_, fun c4 => ?_⟩
    · have e := if_t e c4
      cases e
      exact ⟨rfl, rfl⟩
    · have e := if_f e c4
      refine ⟨fun c5 => ?_, fun c5 => ?_⟩
      · have e := if_t e c5
        cases e
        exact ⟨rfl, rfl⟩
      · have e := if_f e c5
        obtain ⟨z11, h10, e6, e⟩ := bI_e e
        refine ⟨z11, h10, (tX10_bare e6 (by omega)), ?_⟩
        refine ⟨fun c7 => ?_, fun c7 => ?_⟩
        · have e := if_t e c7
          cases e
          exact ⟨rfl, rfl⟩
        · have e := if_f e c7
          cases e
          exact ⟨rfl, rfl⟩
  · have e := if_f e c1
    obtain ⟨z15, h14, e8, e⟩ := bI_e e
    refine ⟨z15, h14, (tX10_fieldOf e8 (by omega)), ?_⟩
    obtain ⟨z18, h17, e9, e⟩ := bI_e e
    refine ⟨z18, h17, (tX10_isKind e9 (by omega)), ?_⟩
    refine ⟨fun c10 => ?_, fun c10 => ?_⟩
    · have e := if_t e c10
      cases e
      exact ⟨rfl, rfl⟩
    · have e := if_f e c10
      refine ⟨fun c11 => ?_, fun c11 => ?_⟩
      · have e := if_t e c11
        cases e
        exact ⟨rfl, rfl⟩
      · have e := if_f e c11
        obtain ⟨z23, h22, e12, e⟩ := bI_e e
        refine ⟨z23, h22, (tX10_bare e12 (by omega)), ?_⟩
        refine ⟨fun c13 => ?_, fun c13 => ?_⟩
        · have e := if_t e c13
          cases e
          exact ⟨rfl, rfl⟩
        · have e := if_f e c13
          cases e
          exact ⟨rfl, rfl⟩
def fX10_setsByte (r0 : Nat) (x1 : Int32) (x2 : Int32) (x3 : Int32) (h : Hp) : RS := kX10_setsByte_0 r0 x1 x2 x3 h
theorem tX10_setsByte {G : GG} {d : Nat} {r0 x1 x2 x3} {h : Hp} {o : OU} {h' : Hp} (e : fX10_setsByte r0 x1 x2 x3 h = some (o, h')) (hd : 4 ≤ d) : VM G mX10_setsByte d [.ref r0, .int x1, .int x2, .int x3] h o h' := uX10_setsByte_0 hd e
def kX10_putsOff_0  (r0 : Nat) (x1 : Int32) (x2 : Int32) (x3 : Int32) (h : Hp) : RS := (if kH h r0 = 1 then (if inB 3393 (lH h r0) = true then (if inB (2912 + (3 * (h.2 r0 3393))) (lH h r0) = true then (if inB ((2912 + (3 * (h.2 r0 3393))) + 1) (lH h r0) = true then (if inB ((2912 + (3 * (h.2 r0 3393))) + 2) (lH h r0) = true then (letH (upI (upI (upI h.2 r0 (2912 + (3 * (h.2 r0 3393))).toNatClampNeg x1) r0 ((2912 + (3 * (h.2 r0 3393))) + 1).toNatClampNeg x2) r0 ((2912 + (3 * (h.2 r0 3393))) + 2).toNatClampNeg x3) fun (i6 : Nat → Nat → Int32) => (some (.inl none, (h.1, (upI i6 r0 3393 ((i6 r0 3393) + 1)))))) else none) else none) else none) else none) else none)
theorem uX10_putsOff_0 {G : GG} {d : Nat} (hd : 1 ≤ d)   {r0  x1  x2  x3 } {h : Hp} {o : OU} {h' : Hp} (e : kX10_putsOff_0  r0 x1 x2 x3 h = some (o, h')) : VM G mX10_putsOff d [.ref r0, .int x1, .int x2, .int x3] h o h' := by
  unfold kX10_putsOff_0 at e
  refine eX10_putsOff r0 x1 x2 x3 ?_
  obtain ⟨q1, e⟩ := ob_e e
  refine ⟨q1, ?_⟩
  obtain ⟨q2, e⟩ := ob_in e
  refine ⟨q2, ?_⟩
  obtain ⟨q3, e⟩ := ob_in e
  refine ⟨q3, ?_⟩
  obtain ⟨q4, e⟩ := ob_in e
  refine ⟨q4, ?_⟩
  obtain ⟨q5, e⟩ := ob_in e
  refine ⟨q5, ?_⟩
  intro i6 evi6
  have e := lt_e evi6 e
  cases e
  exact ⟨rfl, rfl⟩
def fX10_putsOff (r0 : Nat) (x1 : Int32) (x2 : Int32) (x3 : Int32) (h : Hp) : RS := kX10_putsOff_0 r0 x1 x2 x3 h
theorem tX10_putsOff {G : GG} {d : Nat} {r0 x1 x2 x3} {h : Hp} {o : OU} {h' : Hp} (e : fX10_putsOff r0 x1 x2 x3 h = some (o, h')) (hd : 1 ≤ d) : VM G mX10_putsOff d [.ref r0, .int x1, .int x2, .int x3] h o h' := uX10_putsOff_0 hd e
