def kX10_deepOf_0 (rec : Nat → List Value → List Value → Hp → RS) (FX10_deepOf : Nat → Int32 → Int32 → Hp → RS) (r0 : Nat) (x1 : Int32) (x2 : Int32) (h : Hp) : RS := (if kH h r0 = 18 then (bI (fX10_isKind (rH h r0 22) x1 x2 2 h) fun z3 h2 => (if ¬ z3 = 0 then (rec 20 [.ref r0, .int x1, .int x2, .int 0, .int 0, uV] [] h2) else (some (.inl (some (.int 0)), h2)))) else none)
theorem uX10_deepOf_0 {G : GG} {d : Nat} (hd : 4 ≤ d) (rec : Nat → List Value → List Value → Hp → RS) (hrec : ∀ pc loc st h o h', rec pc loc st h = some (o, h') → V G mX10_deepOf d pc loc st h o h') (FX10_deepOf : Nat → Int32 → Int32 → Hp → RS) (TFX10_deepOf : ∀ {a0 a1 a2} {h : Hp} {o : OU} {h' : Hp}, FX10_deepOf a0 a1 a2 h = some (o, h') → VM G mX10_deepOf (d - 1) [.ref a0, .int a1, .int a2] h o h') {r0  x1  x2 } {h : Hp} {o : OU} {h' : Hp} (e : kX10_deepOf_0 rec FX10_deepOf r0 x1 x2 h = some (o, h')) : VM G mX10_deepOf d [.ref r0, .int x1, .int x2] h o h' := by
  unfold kX10_deepOf_0 at e
  refine eX10_deepOf r0 x1 x2 (by omega) ?_
  obtain ⟨q1, e⟩ := ob_e e
  refine ⟨q1, ?_⟩
  obtain ⟨z3, h2, e2, e⟩ := bI_e e
  refine ⟨z3, h2, (tX10_isKind e2 (by omega)), ?_⟩
  refine ⟨fun c3 => ?_, fun c3 => ?_⟩
  · have e := if_t e c3
    exact hrec _ _ _ _ _ _ e
  · have e := if_n e c3
    cases e
    exact ⟨rfl, rfl⟩
def kX10_deepOf_20 (rec : Nat → List Value → List Value → Hp → RS) (FX10_deepOf : Nat → Int32 → Int32 → Hp → RS) (r0 : Nat) (x1 : Int32) (x2 : Int32) (x3 : Int32) (x4 : Int32) (h : Hp) : RS := (if kH h r0 = 18 then (bI (fX10_entryOf (rH h r0 22) x1 x2 x4 h) fun z3 h2 => (if z3 = (-1) then (some (.inl (some (.int (x3 + 1))), h2)) else (if kH h2 r0 = 18 then (bI (fX10_entryOf (rH h2 r0 22) x1 x2 x4 h2) fun z8 h7 => (if kH h7 r0 = 18 then (if kH h7 (rH h7 r0 22) = 1 then (if inB (x1 + z8) (lH h7 (rH h7 r0 22)) = true then (if ¬ (h7.2 (rH h7 r0 22) (x1 + z8).toNatClampNeg) = 0 then (if inB ((x1 + z8) + 1) (lH h7 (rH h7 r0 22)) = true then (bI (FX10_deepOf r0 x1 (h7.2 (rH h7 r0 22) ((x1 + z8) + 1).toNatClampNeg) h7) fun z16 h15 => (bI (fX10_more x3 z16 h15) fun z19 h18 => (rec 20 [.ref r0, .int x1, .int x2, .int z19, .int (x4 + 1), uV] [] h18))) else none) else (rec 20 [.ref r0, .int x1, .int x2, .int x3, .int (x4 + 1), uV] [] h7)) else none) else none) else none)) else none))) else none)
theorem uX10_deepOf_20 {G : GG} {d : Nat} (hd : 4 ≤ d) (rec : Nat → List Value → List Value → Hp → RS) (hrec : ∀ pc loc st h o h', rec pc loc st h = some (o, h') → V G mX10_deepOf d pc loc st h o h') (FX10_deepOf : Nat → Int32 → Int32 → Hp → RS) (TFX10_deepOf : ∀ {a0 a1 a2} {h : Hp} {o : OU} {h' : Hp}, FX10_deepOf a0 a1 a2 h = some (o, h') → VM G mX10_deepOf (d - 1) [.ref a0, .int a1, .int a2] h o h') {r0  x1  x2  x3  x4 } {h : Hp} {o : OU} {h' : Hp} (e : kX10_deepOf_20 rec FX10_deepOf r0 x1 x2 x3 x4 h = some (o, h')) : V G mX10_deepOf d 20 [.ref r0, .int x1, .int x2, .int x3, .int x4, uV] [] h o h' := by
  unfold kX10_deepOf_20 at e
  refine bX10_deepOf_20 r0 x1 x2 x3 x4 (by omega) ?_
  obtain ⟨q1, e⟩ := ob_e e
  refine ⟨q1, ?_⟩
  obtain ⟨z3, h2, e2, e⟩ := bI_e e
  refine ⟨z3, h2, (tX10_entryOf e2 (by omega)), ?_⟩
  refine ⟨fun c3 => ?_, fun c3 => ?_⟩
  · have e := if_t e c3
    cases e
    exact ⟨rfl, rfl⟩
  · have e := if_f e c3
    obtain ⟨q4, e⟩ := ob_e e
    refine ⟨q4, ?_⟩
    obtain ⟨z8, h7, e5, e⟩ := bI_e e
    refine ⟨z8, h7, (tX10_entryOf e5 (by omega)), ?_⟩
    obtain ⟨q6, e⟩ := ob_e e
    refine ⟨q6, ?_⟩
    obtain ⟨q7, e⟩ := ob_e e
    refine ⟨q7, ?_⟩
    obtain ⟨q8, e⟩ := ob_in e
    refine ⟨q8, ?_⟩
    refine ⟨fun c9 => ?_, fun c9 => ?_⟩
    · have e := if_t e c9
      obtain ⟨q10, e⟩ := ob_in e
      refine ⟨q10, ?_⟩
      obtain ⟨z16, h15, e11, e⟩ := bI_e e
      refine ⟨z16, h15, (TFX10_deepOf e11), ?_⟩
      obtain ⟨z19, h18, e12, e⟩ := bI_e e
      refine ⟨z19, h18, (tX10_more e12 (by omega)), ?_⟩
      exact hrec _ _ _ _ _ _ e
    · have e := if_n e c9
      exact hrec _ _ _ _ _ _ e
def sX10_deepOf (FX10_deepOf : Nat → Int32 → Int32 → Hp → RS) (rec : Nat → List Value → List Value → Hp → RS) (pc : Nat) (loc st : List Value) (h : Hp) : RS := match pc, loc, st with
  | 20, [.ref r0, .int x1, .int x2, .int x3, .int x4, _], [] => kX10_deepOf_20 rec FX10_deepOf r0 x1 x2 x3 x4 h
  | _, _, _ => none
def gX10_deepOf (FX10_deepOf : Nat → Int32 → Int32 → Hp → RS) : Nat → Nat → List Value → List Value → Hp → RS
  | 0 => fun _ _ _ _ => none
  | n + 1 => sX10_deepOf FX10_deepOf (gX10_deepOf FX10_deepOf n)
theorem wX10_deepOf {G : GG} {d : Nat} (hd : 4 ≤ d) (FX10_deepOf : Nat → Int32 → Int32 → Hp → RS) (TFX10_deepOf : ∀ {a0 a1 a2} {h : Hp} {o : OU} {h' : Hp}, FX10_deepOf a0 a1 a2 h = some (o, h') → VM G mX10_deepOf (d - 1) [.ref a0, .int a1, .int a2] h o h') : ∀ (n pc : Nat) (loc st : List Value) (h : Hp) (o : OU) (h' : Hp), gX10_deepOf FX10_deepOf n pc loc st h = some (o, h') → V G mX10_deepOf d pc loc st h o h' := by
  intro n
  induction n with
  | zero => intro pc loc st h o h' e; cases e
  | succ n ih =>
    intro pc loc st h o h' e
    unfold gX10_deepOf sX10_deepOf at e
    split at e
    · exact V.drop (llp_r (llp_r (llp_r (llp_r (llp_r (llp_u llp_nil)))))) (uX10_deepOf_20 hd _ ih _ TFX10_deepOf e)
    · cases e
theorem zX10_deepOf_20 (FX10_deepOf : Nat → Int32 → Int32 → Hp → RS) (n : Nat) (r0 : Nat) (x1 : Int32) (x2 : Int32) (x3 : Int32) (x4 : Int32) (y5 : Value) (h : Hp) : gX10_deepOf FX10_deepOf (n + 1) 20 [.ref r0, .int x1, .int x2, .int x3, .int x4, y5] [] h = kX10_deepOf_20 (gX10_deepOf FX10_deepOf n) FX10_deepOf r0 x1 x2 x3 x4 h := rfl
def rX10_deepOf : Nat → (Nat → Int32 → Int32 → Hp → RS)
  | 0 => fun _ _ _ _ => none
  | n + 1 => fun a0 a1 a2 h => kX10_deepOf_0 (gX10_deepOf ((rX10_deepOf n)) FF) ((rX10_deepOf n)) a0 a1 a2 h
theorem rtX10_deepOf {G : GG} : ∀ (n d : Nat), 4 + n ≤ d → (∀ (a0 : Nat) (a1 : Int32) (a2 : Int32) (h : Hp) (o : OU) (h' : Hp), (rX10_deepOf n) a0 a1 a2 h = some (o, h') → VM G mX10_deepOf d [.ref a0, .int a1, .int a2] h o h') := by
  intro n
  induction n with
  | zero => intro d hd; exact fun _ _ _ _ _ _ e => (by cases e)
  | succ n ih =>
    intro d hd
    have ih := ih (d - 1) (by omega)
    exact fun _ _ _ _ _ _ e => uX10_deepOf_0 (by omega) _ (wX10_deepOf (by omega) _ (@fun _ _ _ _ _ _ e => ih _ _ _ _ _ _ e) FF) _ (@fun _ _ _ _ _ _ e => ih _ _ _ _ _ _ e) e
def fX10_deepOf (a0 : Nat) (a1 : Int32) (a2 : Int32) (h : Hp) : RS := (rX10_deepOf 40) a0 a1 a2 h
theorem tX10_deepOf {G : GG} {d : Nat} {a0 a1 a2} {h : Hp} {o : OU} {h' : Hp} (e : fX10_deepOf a0 a1 a2 h = some (o, h')) (hd : 4 + 40 ≤ d) : VM G mX10_deepOf d [.ref a0, .int a1, .int a2] h o h' := (rtX10_deepOf 40 d hd) _ _ _ _ _ _ e
def kX10_deep_0  (r0 : Nat) (x1 : Int32) (x2 : Int32) (h : Hp) : RS := (if kH h r0 = 18 then (bI (fX10_isNode x1 (h.1, (upI h.2 r0 0 0))) fun z3 h2 => (if ¬ z3 = 0 then (if kH h2 r0 = 18 then (bI (fX10_bad r0 0 1 0 h2) fun z7 h6 => (if ¬ z7 = 0 then (some (.inl (some (.int 0)), h6)) else (bI (fX10_isWhere x2 h6) fun z12 h11 => (if ¬ z12 = 0 then (if kH h11 r0 = 18 then (bI (fX10_bad r0 0 2 1 h11) fun z16 h15 => (if z16 = 0 then (bI (fX10_whereOf x2 h15) fun z21 h20 => (if kH h20 r0 = 18 then (bI (fX10_deepOf r0 z21 x1 h20) fun z24 h23 => (some (.inl (some (.int z24)), h23))) else none)) else (some (.inl (some (.int 0)), h15)))) else none) else (if kH h11 r0 = 18 then (bI (fX10_bad r0 1 2 1 h11) fun z28 h27 => (if z28 = 0 then (bI (fX10_whereOf x2 h27) fun z33 h32 => (if kH h32 r0 = 18 then (bI (fX10_deepOf r0 z33 x1 h32) fun z36 h35 => (some (.inl (some (.int z36)), h35))) else none)) else (some (.inl (some (.int 0)), h27)))) else none))))) else none) else (if kH h2 r0 = 18 then (bI (fX10_bad r0 1 1 0 h2) fun z40 h39 => (if ¬ z40 = 0 then (some (.inl (some (.int 0)), h39)) else (bI (fX10_isWhere x2 h39) fun z45 h44 => (if ¬ z45 = 0 then (if kH h44 r0 = 18 then (bI (fX10_bad r0 0 2 1 h44) fun z49 h48 => (if z49 = 0 then (bI (fX10_whereOf x2 h48) fun z54 h53 => (if kH h53 r0 = 18 then (bI (fX10_deepOf r0 z54 x1 h53) fun z57 h56 => (some (.inl (some (.int z57)), h56))) else none)) else (some (.inl (some (.int 0)), h48)))) else none) else (if kH h44 r0 = 18 then (bI (fX10_bad r0 1 2 1 h44) fun z61 h60 => (if z61 = 0 then (bI (fX10_whereOf x2 h60) fun z66 h65 => (if kH h65 r0 = 18 then (bI (fX10_deepOf r0 z66 x1 h65) fun z69 h68 => (some (.inl (some (.int z69)), h68))) else none)) else (some (.inl (some (.int 0)), h60)))) else none))))) else none))) else none)
theorem uX10_deep_0 {G : GG} {d : Nat} (hd : 45 ≤ d)   {r0  x1  x2 } {h : Hp} {o : OU} {h' : Hp} (e : kX10_deep_0  r0 x1 x2 h = some (o, h')) : VM G mX10_deep d [.ref r0, .int x1, .int x2] h o h' := by
  unfold kX10_deep_0 at e
  refine eX10_deep r0 x1 x2 (by omega) ?_
  obtain ⟨q1, e⟩ := ob_e e
  refine ⟨q1, ?_⟩
  obtain ⟨z3, h2, e2, e⟩ := bI_e e
  refine ⟨z3, h2, (tX10_isNode e2 (by omega)), ?_⟩
  refine ⟨fun c3 => ?_, fun c3 => ?_⟩
  · have e := if_t e c3
    obtain ⟨q4, e⟩ := ob_e e
    refine ⟨q4, ?_⟩
    obtain ⟨z7, h6, e5, e⟩ := bI_e e
    refine ⟨z7, h6, (tX10_bad e5 (by omega)), ?_⟩
    refine ⟨fun c6 => ?_, fun c6 => ?_⟩
    · have e := if_t e c6
      cases e
      exact ⟨rfl, rfl⟩
    · have e := if_n e c6
      obtain ⟨z12, h11, e7, e⟩ := bI_e e
      refine ⟨z12, h11, (tX10_isWhere e7 (by omega)), ?_⟩
      refine ⟨fun c8 => ?_, fun c8 => ?_⟩
      · have e := if_t e c8
        obtain ⟨q9, e⟩ := ob_e e
        refine ⟨q9, ?_⟩
        obtain ⟨z16, h15, e10, e⟩ := bI_e e
        refine ⟨z16, h15, (tX10_bad e10 (by omega)), ?_⟩
        refine ⟨fun c11 => ?_, fun c11 => ?_⟩
        · have e := if_t e c11
          obtain ⟨z21, h20, e12, e⟩ := bI_e e
          refine ⟨z21, h20, (tX10_whereOf e12 (by omega)), ?_⟩
          obtain ⟨q13, e⟩ := ob_e e
          refine ⟨q13, ?_⟩
          obtain ⟨z24, h23, e14, e⟩ := bI_e e
          refine ⟨z24, h23, (tX10_deepOf e14 (by omega)), ?_⟩
          cases e
          exact ⟨rfl, rfl⟩
        · have e := if_f e c11
          cases e
          exact ⟨rfl, rfl⟩
      · have e := if_n e c8
        obtain ⟨q15, e⟩ := ob_e e
        refine ⟨q15, ?_⟩
        obtain ⟨z28, h27, e16, e⟩ := bI_e e
        refine ⟨z28, h27, (tX10_bad e16 (by omega)), ?_⟩
        refine ⟨fun c17 => ?_, fun c17 => ?_⟩
        · have e := if_t e c17
          obtain ⟨z33, h32, e18, e⟩ := bI_e e
          refine ⟨z33, h32, (tX10_whereOf e18 (by omega)), ?_⟩
          obtain ⟨q19, e⟩ := ob_e e
          refine ⟨q19, ?_⟩
          obtain ⟨z36, h35, e20, e⟩ := bI_e e
          refine ⟨z36, h35, (tX10_deepOf e20 (by omega)), ?_⟩
          cases e
          exact ⟨rfl, rfl⟩
        · have e := if_f e c17
          cases e
          exact ⟨rfl, rfl⟩
  · have e := if_n e c3
    obtain ⟨q21, e⟩ := ob_e e
    refine ⟨q21, ?_⟩
    obtain ⟨z40, h39, e22, e⟩ := bI_e e
    refine ⟨z40, h39, (tX10_bad e22 (by omega)), ?_⟩
    refine ⟨fun c23 => ?_, fun c23 => ?_⟩
    · have e := if_t e c23
      cases e
      exact ⟨rfl, rfl⟩
    · have e := if_n e c23
      obtain ⟨z45, h44, e24, e⟩ := bI_e e
      refine ⟨z45, h44, (tX10_isWhere e24 (by omega)), ?_⟩
      refine ⟨fun c25 => ?_, fun c25 => ?_⟩
      · have e := if_t e c25
        obtain ⟨q26, e⟩ := ob_e e
        refine ⟨q26, ?_⟩
        obtain ⟨z49, h48, e27, e⟩ := bI_e e
        refine ⟨z49, h48, (tX10_bad e27 (by omega)), ?_⟩
        refine ⟨fun c28 => ?_, fun c28 => ?_⟩
        · have e := if_t e c28
          obtain ⟨z54, h53, e29, e⟩ := bI_e e
          refine ⟨z54, h53, (tX10_whereOf e29 (by omega)), ?_⟩
          obtain ⟨q30, e⟩ := ob_e e
          refine ⟨q30, ?_⟩
          obtain ⟨z57, h56, e31, e⟩ := bI_e e
          refine ⟨z57, h56, (tX10_deepOf e31 (by omega)), ?_⟩
          cases e
          exact ⟨rfl, rfl⟩
        · have e := if_f e c28
          cases e
          exact ⟨rfl, rfl⟩
      · have e := if_n e c25
        obtain ⟨q32, e⟩ := ob_e e
        refine ⟨q32, ?_⟩
        obtain ⟨z61, h60, e33, e⟩ := bI_e e
        refine ⟨z61, h60, (tX10_bad e33 (by omega)), ?_⟩
        refine ⟨fun c34 => ?_, fun c34 => ?_⟩
        · have e := if_t e c34
          obtain ⟨z66, h65, e35, e⟩ := bI_e e
          refine ⟨z66, h65, (tX10_whereOf e35 (by omega)), ?_⟩
          obtain ⟨q36, e⟩ := ob_e e
          refine ⟨q36, ?_⟩
          obtain ⟨z69, h68, e37, e⟩ := bI_e e
          refine ⟨z69, h68, (tX10_deepOf e37 (by omega)), ?_⟩
          cases e
          exact ⟨rfl, rfl⟩
        · have e := if_f e c34
          cases e
          exact ⟨rfl, rfl⟩
def fX10_deep (r0 : Nat) (x1 : Int32) (x2 : Int32) (h : Hp) : RS := kX10_deep_0 r0 x1 x2 h
theorem tX10_deep {G : GG} {d : Nat} {r0 x1 x2} {h : Hp} {o : OU} {h' : Hp} (e : fX10_deep r0 x1 x2 h = some (o, h')) (hd : 45 ≤ d) : VM G mX10_deep d [.ref r0, .int x1, .int x2] h o h' := uX10_deep_0 hd e
def kX10_change_0 (rec : Nat → List Value → List Value → Hp → RS)  (r0 : Nat) (x1 : Int32) (x2 : Int32) (h : Hp) : RS := (if kH h r0 = 18 then (bI (fX10_in x2 0 5 (h.1, (upI h.2 r0 0 0))) fun z3 h2 => (if ¬ z3 = 0 then (rec 20 [.ref r0, .int x1, .int x2, uV, uV, uV] [.int 0, .ref r0] h2) else (rec 20 [.ref r0, .int x1, .int x2, uV, uV, uV] [.int 1, .ref r0] h2))) else none)
theorem uX10_change_0 {G : GG} {d : Nat} (hd : 5 ≤ d) (rec : Nat → List Value → List Value → Hp → RS) (hrec : ∀ pc loc st h o h', rec pc loc st h = some (o, h') → V G mX10_change d pc loc st h o h')   {r0  x1  x2 } {h : Hp} {o : OU} {h' : Hp} (e : kX10_change_0 rec  r0 x1 x2 h = some (o, h')) : VM G mX10_change d [.ref r0, .int x1, .int x2] h o h' := by
  unfold kX10_change_0 at e
  refine eX10_change r0 x1 x2 (by omega) ?_
  obtain ⟨q1, e⟩ := ob_e e
  refine ⟨q1, ?_⟩
  obtain ⟨z3, h2, e2, e⟩ := bI_e e
  refine ⟨z3, h2, (tX10_in e2 (by omega)), ?_⟩
  refine ⟨fun c3 => ?_, fun c3 => ?_⟩
  · have e := if_t e c3
    exact hrec _ _ _ _ _ _ e
  · have e := if_n e c3
    exact hrec _ _ _ _ _ _ e
def kX10_change_20 (rec : Nat → List Value → List Value → Hp → RS)  (r0 : Nat) (x1 : Int32) (x2 : Int32) (s0 : Int32) (t1 : Nat) (h : Hp) : RS := (if kH h t1 = 18 then (bI (fX10_bad t1 s0 1 1 h) fun z2 h1 => (if ¬ z2 = 0 then (some (.inl (some (.int 0)), h1)) else (bI (fX10_in x1 0 255 h1) fun z7 h6 => (if ¬ z7 = 0 then (rec 45 [.ref r0, .int x1, .int x2, uV, uV, uV] [.int 0, .ref r0] h6) else (rec 45 [.ref r0, .int x1, .int x2, uV, uV, uV] [.int 1, .ref r0] h6))))) else none)
theorem uX10_change_20 {G : GG} {d : Nat} (hd : 5 ≤ d) (rec : Nat → List Value → List Value → Hp → RS) (hrec : ∀ pc loc st h o h', rec pc loc st h = some (o, h') → V G mX10_change d pc loc st h o h')   {r0  x1  x2  s0  t1 } {h : Hp} {o : OU} {h' : Hp} (e : kX10_change_20 rec  r0 x1 x2 s0 t1 h = some (o, h')) : V G mX10_change d 20 [.ref r0, .int x1, .int x2, uV, uV, uV] [.int s0, .ref t1] h o h' := by
  unfold kX10_change_20 at e
  refine bX10_change_20 r0 x1 x2 s0 t1 (by omega) ?_
  obtain ⟨q1, e⟩ := ob_e e
  refine ⟨q1, ?_⟩
  obtain ⟨z2, h1, e2, e⟩ := bI_e e
  refine ⟨z2, h1, (tX10_bad e2 (by omega)), ?_⟩
  refine ⟨fun c3 => ?_, fun c3 => ?_⟩
  · have e := if_t e c3
    cases e
    exact ⟨rfl, rfl⟩
  · have e := if_n e c3
    obtain ⟨z7, h6, e4, e⟩ := bI_e e
    refine ⟨z7, h6, (tX10_in e4 (by omega)), ?_⟩
    refine ⟨fun c5 => ?_, fun c5 => ?_⟩
    · have e := if_t e c5
      exact hrec _ _ _ _ _ _ e
    · have e := if_n e c5
      exact hrec _ _ _ _ _ _ e
def kX10_change_45 (rec : Nat → List Value → List Value → Hp → RS)  (r0 : Nat) (x1 : Int32) (x2 : Int32) (s0 : Int32) (t1 : Nat) (h : Hp) : RS := (if kH h t1 = 18 then (bI (fX10_bad t1 s0 3 3 h) fun z2 h1 => (if ¬ z2 = 0 then (some (.inl (some (.int 0)), h1)) else (if kH h1 r0 = 18 then (if kH h1 (rH h1 r0 22) = 1 then (if inB 3392 (lH h1 (rH h1 r0 22)) = true then (if x1 < (h1.2 (rH h1 r0 22) 3392) then (rec 71 [.ref r0, .int x1, .int x2, uV, uV, uV] [.int 0, .ref r0] h1) else (rec 71 [.ref r0, .int x1, .int x2, uV, uV, uV] [.int 1, .ref r0] h1)) else none) else none) else none))) else none)
theorem uX10_change_45 {G : GG} {d : Nat} (hd : 5 ≤ d) (rec : Nat → List Value → List Value → Hp → RS) (hrec : ∀ pc loc st h o h', rec pc loc st h = some (o, h') → V G mX10_change d pc loc st h o h')   {r0  x1  x2  s0  t1 } {h : Hp} {o : OU} {h' : Hp} (e : kX10_change_45 rec  r0 x1 x2 s0 t1 h = some (o, h')) : V G mX10_change d 45 [.ref r0, .int x1, .int x2, uV, uV, uV] [.int s0, .ref t1] h o h' := by
  unfold kX10_change_45 at e
  refine bX10_change_45 r0 x1 x2 s0 t1 (by omega) ?_
  obtain ⟨q1, e⟩ := ob_e e
  refine ⟨q1, ?_⟩
  obtain ⟨z2, h1, e2, e⟩ := bI_e e
  refine ⟨z2, h1, (tX10_bad e2 (by omega)), ?_⟩
  refine ⟨fun c3 => ?_, fun c3 => ?_⟩
  · have e := if_t e c3
    cases e
    exact ⟨rfl, rfl⟩
  · have e := if_n e c3
    obtain ⟨q4, e⟩ := ob_e e
    refine ⟨q4, ?_⟩
    obtain ⟨q5, e⟩ := ob_e e
    refine ⟨q5, ?_⟩
    obtain ⟨q6, e⟩ := ob_in e
    refine ⟨q6, ?_⟩
    refine ⟨fun c7 => ?_, fun c7 => ?_⟩
    · have e := if_t e c7
      exact hrec _ _ _ _ _ _ e
    · have e := if_f e c7
      exact hrec _ _ _ _ _ _ e
def kX10_change_71 (rec : Nat → List Value → List Value → Hp → RS)  (r0 : Nat) (x1 : Int32) (x2 : Int32) (s0 : Int32) (t1 : Nat) (h : Hp) : RS := (if kH h t1 = 18 then (bI (fX10_bad t1 s0 2 2 h) fun z2 h1 => (if z2 = 0 then (bI (fX10_cell x1 h1) fun z7 h6 => (if 2 ≤ x2 then (if ¬ x2 = 2 then (if ¬ x2 = 3 then (rec 137 [.ref r0, .int x1, .int x2, .int z7, .int 0, .int 4] [] h6) else (if kH h6 r0 = 18 then (if kH h6 (rH h6 r0 22) = 1 then (if inB (z7 + 3) (lH h6 (rH h6 r0 22)) = true then (some (.inl (some (.int (h6.2 (rH h6 r0 22) (z7 + 3).toNatClampNeg))), h6)) else none) else none) else none)) else (if kH h6 r0 = 18 then (bI (fX10_wasAt (rH h6 r0 22) z7 0 h6) fun z17 h16 => (some (.inl (some (.int z17)), h16))) else none)) else (if kH h6 r0 = 18 then (if kH h6 (rH h6 r0 22) = 1 then (if inB ((z7 + 1) + x2) (lH h6 (rH h6 r0 22)) = true then (some (.inl (some (.int (h6.2 (rH h6 r0 22) ((z7 + 1) + x2).toNatClampNeg))), h6)) else none) else none) else none))) else (some (.inl (some (.int 0)), h1)))) else none)
theorem uX10_change_71 {G : GG} {d : Nat} (hd : 5 ≤ d) (rec : Nat → List Value → List Value → Hp → RS) (hrec : ∀ pc loc st h o h', rec pc loc st h = some (o, h') → V G mX10_change d pc loc st h o h')   {r0  x1  x2  s0  t1 } {h : Hp} {o : OU} {h' : Hp} (e : kX10_change_71 rec  r0 x1 x2 s0 t1 h = some (o, h')) : V G mX10_change d 71 [.ref r0, .int x1, .int x2, uV, uV, uV] [.int s0, .ref t1] h o h' := by
  unfold kX10_change_71 at e
  refine bX10_change_71 r0 x1 x2 s0 t1 (by omega) ?_
  obtain ⟨q1, e⟩ := ob_e e
  refine ⟨q1, ?_⟩
  obtain ⟨z2, h1, e2, e⟩ := bI_e e
  refine ⟨z2, h1, (tX10_bad e2 (by omega)), ?_⟩
  refine ⟨fun c3 => ?_, fun c3 => ?_⟩
  · have e := if_t e c3
    obtain ⟨z7, h6, e4, e⟩ := bI_e e
    refine ⟨z7, h6, (tX10_cell e4 (by omega)), ?_⟩
    refine ⟨fun c5 => ?_, fun c5 => ?_⟩
    · have e := if_t e c5
      refine ⟨fun c6 => ?_, fun c6 => ?_⟩
      · have e := if_t e c6
        refine ⟨fun c7 => ?_, fun c7 => ?_⟩
        · have e := if_t e c7
          exact hrec _ _ _ _ _ _ e
        · have e := if_n e c7
          obtain ⟨q8, e⟩ := ob_e e
          refine ⟨q8, ?_⟩
          obtain ⟨q9, e⟩ := ob_e e
          refine ⟨q9, ?_⟩
          obtain ⟨q10, e⟩ := ob_in e
          refine ⟨q10, ?_⟩
          cases e
          exact ⟨rfl, rfl⟩
      · have e := if_n e c6
        obtain ⟨q11, e⟩ := ob_e e
        refine ⟨q11, ?_⟩
        obtain ⟨z17, h16, e12, e⟩ := bI_e e
        refine ⟨z17, h16, (tX10_wasAt e12 (by omega)), ?_⟩
        cases e
        exact ⟨rfl, rfl⟩
    · have e := if_f e c5
      obtain ⟨q13, e⟩ := ob_e e
      refine ⟨q13, ?_⟩
      obtain ⟨q14, e⟩ := ob_e e
      refine ⟨q14, ?_⟩
      obtain ⟨q15, e⟩ := ob_in e
      refine ⟨q15, ?_⟩
      cases e
      exact ⟨rfl, rfl⟩
  · have e := if_f e c3
    cases e
    exact ⟨rfl, rfl⟩
def kX10_change_137 (rec : Nat → List Value → List Value → Hp → RS)  (r0 : Nat) (x1 : Int32) (x2 : Int32) (x3 : Int32) (x4 : Int32) (x5 : Int32) (h : Hp) : RS := (if 8 ≤ x5 then (if ¬ x2 = 4 then (if kH h r0 = 18 then (if kH h (rH h r0 22) = 1 then (if inB (x3 + 1) (lH h (rH h r0 22)) = true then (bI (fX10_copiesBlock r0 (rH h r0 22) (h.2 (rH h r0 22) (x3 + 1).toNatClampNeg) h) fun z7 h6 => (if kH h6 r0 = 18 then (if kH h6 (rH h6 r0 27) = 3 then (if inB x1 (lH h6 (rH h6 r0 27)) = true then (if (h6.2 (rH h6 r0 27) x1.toNatClampNeg) = 0 then (some (.inl (some (.int 0)), h6)) else (some (.inl (some (.int 1)), h6))) else none) else none) else none)) else none) else none) else none) else (some (.inl (some (.int x4)), h))) else (if kH h r0 = 18 then (if kH h (rH h r0 22) = 1 then (if inB (x3 + x5) (lH h (rH h r0 22)) = true then (if 0 ≤ (h.2 (rH h r0 22) (x3 + x5).toNatClampNeg) then (bI (fX10_which (rH h r0 22) (h.2 (rH h r0 22) (x3 + x5).toNatClampNeg) h) fun z18 h17 => (if ¬ z18 = (-1) then (rec 137 [.ref r0, .int x1, .int x2, .int x3, .int (x4 + 1), .int (x5 + 1)] [] h17) else (rec 137 [.ref r0, .int x1, .int x2, .int x3, .int (x4 + 0), .int (x5 + 1)] [] h17))) else (bI (fX10_ahead (rH h r0 22) x1 (-(h.2 (rH h r0 22) (x3 + x5).toNatClampNeg)) h) fun z22 h21 => (rec 137 [.ref r0, .int x1, .int x2, .int x3, .int (x4 + z22), .int (x5 + 1)] [] h21))) else none) else none) else none))
theorem uX10_change_137 {G : GG} {d : Nat} (hd : 5 ≤ d) (rec : Nat → List Value → List Value → Hp → RS) (hrec : ∀ pc loc st h o h', rec pc loc st h = some (o, h') → V G mX10_change d pc loc st h o h')   {r0  x1  x2  x3  x4  x5 } {h : Hp} {o : OU} {h' : Hp} (e : kX10_change_137 rec  r0 x1 x2 x3 x4 x5 h = some (o, h')) : V G mX10_change d 137 [.ref r0, .int x1, .int x2, .int x3, .int x4, .int x5] [] h o h' := by
  unfold kX10_change_137 at e
  refine bX10_change_137 r0 x1 x2 x3 x4 x5 (by omega) ?_
  refine ⟨fun c1 => ?_, fun c1 => ?_⟩
  · have e := if_t e c1
    refine ⟨fun c2 => ?_, fun c2 => ?_⟩
    · have e := if_t e c2
      obtain ⟨q3, e⟩ := ob_e e
      refine ⟨q3, ?_⟩
      obtain ⟨q4, e⟩ := ob_e e
      refine ⟨q4, ?_⟩
      obtain ⟨q5, e⟩ := ob_in e
      refine ⟨q5, ?_⟩
      obtain ⟨z7, h6, e6, e⟩ := bI_e e
      refine ⟨z7, h6, (tX10_copiesBlock e6 (by omega)), ?_⟩
      obtain ⟨q7, e⟩ := ob_e e
      refine ⟨q7, ?_⟩
      obtain ⟨q8, e⟩ := ob_e e
      refine ⟨q8, ?_⟩
      obtain ⟨q9, e⟩ := ob_in e
      refine ⟨q9, ?_⟩
      refine ⟨fun c10 => ?_, fun c10 => ?_⟩
      · have e := if_t e c10
        cases e
        exact ⟨rfl, rfl⟩
      · have e := if_f e c10
        cases e
        exact ⟨rfl, rfl⟩
    · have e := if_n e c2
      cases e
      exact ⟨rfl, rfl⟩
  · have e := if_f e c1
    obtain ⟨q11, e⟩ := ob_e e
    refine ⟨q11, ?_⟩
    obtain ⟨q12, e⟩ := ob_e e
    refine ⟨q12, ?_⟩
    obtain ⟨q13, e⟩ := ob_in e
    refine ⟨q13, ?_⟩
    refine ⟨fun c14 => ?_, fun c14 => ?_⟩
    · have e := if_t e c14
      obtain ⟨z18, h17, e15, e⟩ := bI_e e
      refine ⟨z18, h17, (tX10_which e15 (by omega)), ?_⟩
      refine ⟨fun c16 => ?_, fun c16 => ?_⟩
      · have e := if_t e c16
        exact hrec _ _ _ _ _ _ e
      · have e := if_n e c16
        exact hrec _ _ _ _ _ _ e
    · have e := if_f e c14
      obtain ⟨z22, h21, e17, e⟩ := bI_e e
      refine ⟨z22, h21, (tX10_ahead e17 (by omega)), ?_⟩
      exact hrec _ _ _ _ _ _ e
def sX10_change  (rec : Nat → List Value → List Value → Hp → RS) (pc : Nat) (loc st : List Value) (h : Hp) : RS := match pc, loc, st with
  | 20, [.ref r0, .int x1, .int x2, _, _, _], [.int s0, .ref t1] => kX10_change_20 rec  r0 x1 x2 s0 t1 h
  | 45, [.ref r0, .int x1, .int x2, _, _, _], [.int s0, .ref t1] => kX10_change_45 rec  r0 x1 x2 s0 t1 h
  | 71, [.ref r0, .int x1, .int x2, _, _, _], [.int s0, .ref t1] => kX10_change_71 rec  r0 x1 x2 s0 t1 h
  | 137, [.ref r0, .int x1, .int x2, .int x3, .int x4, .int x5], [] => kX10_change_137 rec  r0 x1 x2 x3 x4 x5 h
  | _, _, _ => none
def gX10_change  : Nat → Nat → List Value → List Value → Hp → RS
  | 0 => fun _ _ _ _ => none
  | n + 1 => sX10_change  (gX10_change  n)
theorem wX10_change {G : GG} {d : Nat} (hd : 5 ≤ d)   : ∀ (n pc : Nat) (loc st : List Value) (h : Hp) (o : OU) (h' : Hp), gX10_change  n pc loc st h = some (o, h') → V G mX10_change d pc loc st h o h' := by
  intro n
  induction n with
  | zero => intro pc loc st h o h' e; cases e
  | succ n ih =>
    intro pc loc st h o h' e
    unfold gX10_change sX10_change at e
    split at e
    · exact V.drop (llp_r (llp_r (llp_r (llp_u (llp_u (llp_u llp_nil)))))) (uX10_change_20 hd _ ih   e)
    · exact V.drop (llp_r (llp_r (llp_r (llp_u (llp_u (llp_u llp_nil)))))) (uX10_change_45 hd _ ih   e)
    · exact V.drop (llp_r (llp_r (llp_r (llp_u (llp_u (llp_u llp_nil)))))) (uX10_change_71 hd _ ih   e)
    · exact uX10_change_137 hd _ ih   e
    · cases e
theorem zX10_change_20  (n : Nat) (r0 : Nat) (x1 : Int32) (x2 : Int32) (s0 : Int32) (t1 : Nat) (y3 : Value) (y4 : Value) (y5 : Value) (h : Hp) : gX10_change  (n + 1) 20 [.ref r0, .int x1, .int x2, y3, y4, y5] [.int s0, .ref t1] h = kX10_change_20 (gX10_change  n)  r0 x1 x2 s0 t1 h := rfl
theorem zX10_change_45  (n : Nat) (r0 : Nat) (x1 : Int32) (x2 : Int32) (s0 : Int32) (t1 : Nat) (y3 : Value) (y4 : Value) (y5 : Value) (h : Hp) : gX10_change  (n + 1) 45 [.ref r0, .int x1, .int x2, y3, y4, y5] [.int s0, .ref t1] h = kX10_change_45 (gX10_change  n)  r0 x1 x2 s0 t1 h := rfl
theorem zX10_change_71  (n : Nat) (r0 : Nat) (x1 : Int32) (x2 : Int32) (s0 : Int32) (t1 : Nat) (y3 : Value) (y4 : Value) (y5 : Value) (h : Hp) : gX10_change  (n + 1) 71 [.ref r0, .int x1, .int x2, y3, y4, y5] [.int s0, .ref t1] h = kX10_change_71 (gX10_change  n)  r0 x1 x2 s0 t1 h := rfl
theorem zX10_change_137  (n : Nat) (r0 : Nat) (x1 : Int32) (x2 : Int32) (x3 : Int32) (x4 : Int32) (x5 : Int32)  (h : Hp) : gX10_change  (n + 1) 137 [.ref r0, .int x1, .int x2, .int x3, .int x4, .int x5] [] h = kX10_change_137 (gX10_change  n)  r0 x1 x2 x3 x4 x5 h := rfl
def fX10_change (r0 : Nat) (x1 : Int32) (x2 : Int32) (h : Hp) : RS := kX10_change_0 (gX10_change FF) r0 x1 x2 h
theorem tX10_change {G : GG} {d : Nat} {r0 x1 x2} {h : Hp} {o : OU} {h' : Hp} (e : fX10_change r0 x1 x2 h = some (o, h')) (hd : 5 ≤ d) : VM G mX10_change d [.ref r0, .int x1, .int x2] h o h' := uX10_change_0 hd _ (wX10_change hd FF) e
def kX10_held_0  (r0 : Nat) (x1 : Int32) (h : Hp) : RS := (if kH h r0 = 18 then (bI (fX10_isBlock r0 x1 (h.1, (upI h.2 r0 0 0))) fun z3 h2 => (if ¬ z3 = 0 then (if kH h2 r0 = 18 then (bI (fX10_bad r0 0 1 3 h2) fun z7 h6 => (if z7 = 0 then (if kH h6 r0 = 18 then (bI (fX10_copiesBlock r0 (rH h6 r0 22) x1 h6) fun z13 h12 => (some (.inl (some (.int z13)), h12))) else none) else (some (.inl (some (.int 0)), h6)))) else none) else (if kH h2 r0 = 18 then (bI (fX10_bad r0 1 1 3 h2) fun z16 h15 => (if z16 = 0 then (if kH h15 r0 = 18 then (bI (fX10_copiesBlock r0 (rH h15 r0 22) x1 h15) fun z22 h21 => (some (.inl (some (.int z22)), h21))) else none) else (some (.inl (some (.int 0)), h15)))) else none))) else none)
theorem uX10_held_0 {G : GG} {d : Nat} (hd : 5 ≤ d)   {r0  x1 } {h : Hp} {o : OU} {h' : Hp} (e : kX10_held_0  r0 x1 h = some (o, h')) : VM G mX10_held d [.ref r0, .int x1] h o h' := by
  unfold kX10_held_0 at e
  refine eX10_held r0 x1 (by omega) ?_
  obtain ⟨q1, e⟩ := ob_e e
  refine ⟨q1, ?_⟩
  obtain ⟨z3, h2, e2, e⟩ := bI_e e
  refine ⟨z3, h2, (tX10_isBlock e2 (by omega)), ?_⟩
  refine ⟨fun c3 => ?_, fun c3 => ?_⟩
  · have e := if_t e c3
    obtain ⟨q4, e⟩ := ob_e e
    refine ⟨q4, ?_⟩
    obtain ⟨z7, h6, e5, e⟩ := bI_e e
    refine ⟨z7, h6, (tX10_bad e5 (by omega)), ?_⟩
    refine ⟨fun c6 => ?_, fun c6 => ?_⟩
    · have e := if_t e c6
      obtain ⟨q7, e⟩ := ob_e e
      refine ⟨q7, ?_⟩
      obtain ⟨z13, h12, e8, e⟩ := bI_e e
      refine ⟨z13, h12, (tX10_copiesBlock e8 (by omega)), ?_⟩
      cases e
      exact ⟨rfl, rfl⟩
    · have e := if_f e c6
      cases e
      exact ⟨rfl, rfl⟩
  · have e := if_n e c3
    obtain ⟨q9, e⟩ := ob_e e
    refine ⟨q9, ?_⟩
    obtain ⟨z16, h15, e10, e⟩ := bI_e e
    refine ⟨z16, h15, (tX10_bad e10 (by omega)), ?_⟩
    refine ⟨fun c11 => ?_, fun c11 => ?_⟩
    · have e := if_t e c11
      obtain ⟨q12, e⟩ := ob_e e
      refine ⟨q12, ?_⟩
      obtain ⟨z22, h21, e13, e⟩ := bI_e e
      refine ⟨z22, h21, (tX10_copiesBlock e13 (by omega)), ?_⟩
      cases e
      exact ⟨rfl, rfl⟩
    · have e := if_f e c11
      cases e
      exact ⟨rfl, rfl⟩
def fX10_held (r0 : Nat) (x1 : Int32) (h : Hp) : RS := kX10_held_0 r0 x1 h
theorem tX10_held {G : GG} {d : Nat} {r0 x1} {h : Hp} {o : OU} {h' : Hp} (e : fX10_held r0 x1 h = some (o, h')) (hd : 5 ≤ d) : VM G mX10_held d [.ref r0, .int x1] h o h' := uX10_held_0 hd e
def kX10_copy_0  (r0 : Nat) (x1 : Int32) (x2 : Int32) (h : Hp) : RS := (if kH h r0 = 18 then (bI (fX10_isBlock r0 x1 (h.1, (upI h.2 r0 0 0))) fun z3 h2 => (if z3 = 0 then (if kH h2 r0 = 18 then (bI (fX10_bad r0 1 1 3 h2) fun z7 h6 => (if z7 = 0 then (if kH h6 r0 = 18 then (bI (fX10_copiesBlock r0 (rH h6 r0 22) x1 h6) fun z13 h12 => (if kH h12 r0 = 18 then (if kH h12 (rH h12 r0 28) = 1 then (if inB x2 (lH h12 (rH h12 r0 28)) = true then (some (.inl (some (.int (h12.2 (rH h12 r0 28) x2.toNatClampNeg))), h12)) else none) else none) else none)) else none) else (some (.inl (some (.int 0)), h6)))) else none) else (bI (fX10_in x2 0 15 h2) fun z19 h18 => (if ¬ z19 = 0 then (if kH h18 r0 = 18 then (bI (fX10_bad r0 0 1 3 h18) fun z23 h22 => (if z23 = 0 then (if kH h22 r0 = 18 then (bI (fX10_copiesBlock r0 (rH h22 r0 22) x1 h22) fun z29 h28 => (if kH h28 r0 = 18 then (if kH h28 (rH h28 r0 28) = 1 then (if inB x2 (lH h28 (rH h28 r0 28)) = true then (some (.inl (some (.int (h28.2 (rH h28 r0 28) x2.toNatClampNeg))), h28)) else none) else none) else none)) else none) else (some (.inl (some (.int 0)), h22)))) else none) else (if kH h18 r0 = 18 then (bI (fX10_bad r0 1 1 3 h18) fun z35 h34 => (if z35 = 0 then (if kH h34 r0 = 18 then (bI (fX10_copiesBlock r0 (rH h34 r0 22) x1 h34) fun z41 h40 => (if kH h40 r0 = 18 then (if kH h40 (rH h40 r0 28) = 1 then (if inB x2 (lH h40 (rH h40 r0 28)) = true then (some (.inl (some (.int (h40.2 (rH h40 r0 28) x2.toNatClampNeg))), h40)) else none) else none) else none)) else none) else (some (.inl (some (.int 0)), h34)))) else none))))) else none)
theorem uX10_copy_0 {G : GG} {d : Nat} (hd : 5 ≤ d)   {r0  x1  x2 } {h : Hp} {o : OU} {h' : Hp} (e : kX10_copy_0  r0 x1 x2 h = some (o, h')) : VM G mX10_copy d [.ref r0, .int x1, .int x2] h o h' := by
  unfold kX10_copy_0 at e
  refine eX10_copy r0 x1 x2 (by omega) ?_
  obtain ⟨q1, e⟩ := ob_e e
  refine ⟨q1, ?_⟩
  obtain ⟨z3, h2, e2, e⟩ := bI_e e
  refine ⟨z3, h2, (tX10_isBlock e2 (by omega)), ?_⟩
  refine ⟨fun c3 => ?_, fun c3 => ?_⟩
  · have e := if_t e c3
    obtain ⟨q4, e⟩ := ob_e e
    refine ⟨q4, ?_⟩
    obtain ⟨z7, h6, e5, e⟩ := bI_e e
    refine ⟨z7, h6, (tX10_bad e5 (by omega)), ?_⟩
    refine ⟨fun c6 => ?_, fun c6 => ?_⟩
    · have e := if_t e c6
      obtain ⟨q7, e⟩ := ob_e e
      refine ⟨q7, ?_⟩
      obtain ⟨z13, h12, e8, e⟩ := bI_e e
      refine ⟨z13, h12, (tX10_copiesBlock e8 (by omega)), ?_⟩
      obtain ⟨q9, e⟩ := ob_e e
      refine ⟨q9, ?_⟩
      obtain ⟨q10, e⟩ := ob_e e
      refine ⟨q10, ?_⟩
      obtain ⟨q11, e⟩ := ob_in e
      refine ⟨q11, ?_⟩
      cases e
      exact ⟨rfl, rfl⟩
    · have e := if_f e c6
      cases e
      exact ⟨rfl, rfl⟩
  · have e := if_f e c3
    obtain ⟨z19, h18, e12, e⟩ := bI_e e
    refine ⟨z19, h18, (tX10_in e12 (by omega)), ?_⟩
    refine ⟨fun c13 => ?_, fun c13 => ?_⟩
    · have e := if_t e c13
      obtain ⟨q14, e⟩ := ob_e e
      refine ⟨q14, ?_⟩
      obtain ⟨z23, h22, e15, e⟩ := bI_e e
      refine ⟨z23, h22, (tX10_bad e15 (by omega)), ?_⟩
      refine ⟨fun c16 => ?_, fun c16 => ?_⟩
      · have e := if_t e c16
        obtain ⟨q17, e⟩ := ob_e e
        refine ⟨q17, ?_⟩
        obtain ⟨z29, h28, e18, e⟩ := bI_e e
        refine ⟨z29, h28, (tX10_copiesBlock e18 (by omega)), ?_⟩
        obtain ⟨q19, e⟩ := ob_e e
        refine ⟨q19, ?_⟩
        obtain ⟨q20, e⟩ := ob_e e
        refine ⟨q20, ?_⟩
        obtain ⟨q21, e⟩ := ob_in e
        refine ⟨q21, ?_⟩
        cases e
        exact ⟨rfl, rfl⟩
      · have e := if_f e c16
        cases e
        exact ⟨rfl, rfl⟩
    · have e := if_n e c13
      obtain ⟨q22, e⟩ := ob_e e
      refine ⟨q22, ?_⟩
      obtain ⟨z35, h34, e23, e⟩ := bI_e e
      refine ⟨z35, h34, (tX10_bad e23 (by omega)), ?_⟩
      refine ⟨fun c24 => ?_, fun c24 => ?_⟩
      · have e := if_t e c24
        obtain ⟨q25, e⟩ := ob_e e
        refine ⟨q25, ?_⟩
        obtain ⟨z41, h40, e26, e⟩ := bI_e e
        refine ⟨z41, h40, (tX10_copiesBlock e26 (by omega)), ?_⟩
        obtain ⟨q27, e⟩ := ob_e e
        refine ⟨q27, ?_⟩
        obtain ⟨q28, e⟩ := ob_e e
        refine ⟨q28, ?_⟩
        obtain ⟨q29, e⟩ := ob_in e
        refine ⟨q29, ?_⟩
        cases e
        exact ⟨rfl, rfl⟩
      · have e := if_f e c24
        cases e
        exact ⟨rfl, rfl⟩
def fX10_copy (r0 : Nat) (x1 : Int32) (x2 : Int32) (h : Hp) : RS := kX10_copy_0 r0 x1 x2 h
theorem tX10_copy {G : GG} {d : Nat} {r0 x1 x2} {h : Hp} {o : OU} {h' : Hp} (e : fX10_copy r0 x1 x2 h = some (o, h')) (hd : 5 ≤ d) : VM G mX10_copy d [.ref r0, .int x1, .int x2] h o h' := uX10_copy_0 hd e
def kX10_waitsFor_0 (rec : Nat → List Value → List Value → Hp → RS)  (r0 : Nat) (x1 : Int32) (h : Hp) : RS := (rec 4 [.ref r0, .int x1, .int 0, .int 0, uV, uV, uV] [] h)
theorem uX10_waitsFor_0 {G : GG} {d : Nat} (hd : 3 ≤ d) (rec : Nat → List Value → List Value → Hp → RS) (hrec : ∀ pc loc st h o h', rec pc loc st h = some (o, h') → V G mX10_waitsFor d pc loc st h o h')   {r0  x1 } {h : Hp} {o : OU} {h' : Hp} (e : kX10_waitsFor_0 rec  r0 x1 h = some (o, h')) : VM G mX10_waitsFor d [.ref r0, .int x1] h o h' := by
  unfold kX10_waitsFor_0 at e
  refine eX10_waitsFor r0 x1 ?_
  exact hrec _ _ _ _ _ _ e
def kX10_waitsFor_4 (rec : Nat → List Value → List Value → Hp → RS)  (r0 : Nat) (x1 : Int32) (x2 : Int32) (x3 : Int32) (h : Hp) : RS := (if kH h r0 = 18 then (if kH h (rH h r0 22) = 1 then (if inB 3392 (lH h (rH h r0 22)) = true then (if (h.2 (rH h r0 22) 3392) ≤ x3 then (some (.inl (some (.int (x2 &&& ((1 <<< (x1 &&& 31)) ^^^ (-1))))), h)) else (bI (fX10_cell x3 h) fun z6 h5 => (rec 25 [.ref r0, .int x1, .int x2, .int x3, .int z6, .int 4, uV] [] h5))) else none) else none) else none)
theorem uX10_waitsFor_4 {G : GG} {d : Nat} (hd : 3 ≤ d) (rec : Nat → List Value → List Value → Hp → RS) (hrec : ∀ pc loc st h o h', rec pc loc st h = some (o, h') → V G mX10_waitsFor d pc loc st h o h')   {r0  x1  x2  x3 } {h : Hp} {o : OU} {h' : Hp} (e : kX10_waitsFor_4 rec  r0 x1 x2 x3 h = some (o, h')) : V G mX10_waitsFor d 4 [.ref r0, .int x1, .int x2, .int x3, uV, uV, uV] [] h o h' := by
  unfold kX10_waitsFor_4 at e
  refine bX10_waitsFor_4 r0 x1 x2 x3 (by omega) ?_
  obtain ⟨q1, e⟩ := ob_e e
  refine ⟨q1, ?_⟩
  obtain ⟨q2, e⟩ := ob_e e
  refine ⟨q2, ?_⟩
  obtain ⟨q3, e⟩ := ob_in e
  refine ⟨q3, ?_⟩
  refine ⟨fun c4 => ?_, fun c4 => ?_⟩
  · have e := if_t e c4
    cases e
    exact ⟨rfl, rfl⟩
  · have e := if_f e c4
    obtain ⟨z6, h5, e5, e⟩ := bI_e e
    refine ⟨z6, h5, (tX10_cell e5 (by omega)), ?_⟩
    exact hrec _ _ _ _ _ _ e
def kX10_waitsFor_25 (rec : Nat → List Value → List Value → Hp → RS)  (r0 : Nat) (x1 : Int32) (x2 : Int32) (x3 : Int32) (x4 : Int32) (x5 : Int32) (h : Hp) : RS := (if 8 ≤ x5 then (rec 4 [.ref r0, .int x1, .int x2, .int (x3 + 1), uV, uV, uV] [] h) else (if kH h r0 = 18 then (if kH h (rH h r0 22) = 1 then (if inB (x4 + 1) (lH h (rH h r0 22)) = true then (if ¬ (h.2 (rH h r0 22) (x4 + 1).toNatClampNeg) = x1 then (rec 4 [.ref r0, .int x1, .int x2, .int (x3 + 1), uV, uV, uV] [] h) else (if inB (x4 + x5) (lH h (rH h r0 22)) = true then (bI (fX10_which (rH h r0 22) (h.2 (rH h r0 22) (x4 + x5).toNatClampNeg) h) fun z8 h7 => (if ¬ z8 = (-1) then (if kH h7 r0 = 18 then (bI (fX10_cell z8 h7) fun z13 h12 => (if kH h12 (rH h7 r0 22) = 1 then (if inB (z13 + 1) (lH h12 (rH h7 r0 22)) = true then (rec 89 [.ref r0, .int x1, uV, .int x3, .int x4, .int x5, uV] [.int (1 <<< ((h12.2 (rH h7 r0 22) (z13 + 1).toNatClampNeg) &&& 31)), .int x2] h12) else none) else none)) else none) else (rec 89 [.ref r0, .int x1, uV, .int x3, .int x4, .int x5, uV] [.int 0, .int x2] h7))) else none)) else none) else none) else none))
theorem uX10_waitsFor_25 {G : GG} {d : Nat} (hd : 3 ≤ d) (rec : Nat → List Value → List Value → Hp → RS) (hrec : ∀ pc loc st h o h', rec pc loc st h = some (o, h') → V G mX10_waitsFor d pc loc st h o h')   {r0  x1  x2  x3  x4  x5 } {h : Hp} {o : OU} {h' : Hp} (e : kX10_waitsFor_25 rec  r0 x1 x2 x3 x4 x5 h = some (o, h')) : V G mX10_waitsFor d 25 [.ref r0, .int x1, .int x2, .int x3, .int x4, .int x5, uV] [] h o h' := by
  unfold kX10_waitsFor_25 at e
  refine bX10_waitsFor_25 r0 x1 x2 x3 x4 x5 (by omega) ?_
  refine ⟨fun c1 => ?_, fun c1 => ?_⟩
  · have e := if_t e c1
    exact hrec _ _ _ _ _ _ e
  · have e := if_f e c1
    obtain ⟨q2, e⟩ := ob_e e
    refine ⟨q2, ?_⟩
    obtain ⟨q3, e⟩ := ob_e e
    refine ⟨q3, ?_⟩
    obtain ⟨q4, e⟩ := ob_in e
    refine ⟨q4, ?_⟩
    refine ⟨fun c5 => ?_, fun c5 => ?_⟩
    · have e := if_t e c5
      exact hrec _ _ _ _ _ _ e
    · have e := if_n e c5
      obtain ⟨q6, e⟩ := ob_in e
      refine ⟨q6, ?_⟩
      obtain ⟨z8, h7, e7, e⟩ := bI_e e
      refine ⟨z8, h7, (tX10_which e7 (by omega)), ?_⟩
      refine ⟨fun c8 => ?_, fun c8 => ?_⟩
      · have e := if_t e c8
        obtain ⟨q9, e⟩ := ob_e e
        refine ⟨q9, ?_⟩
        obtain ⟨z13, h12, e10, e⟩ := bI_e e
        refine ⟨z13, h12, (tX10_cell e10 (by omega)), ?_⟩
        obtain ⟨q11, e⟩ := ob_e e
        refine ⟨q11, ?_⟩
        obtain ⟨q12, e⟩ := ob_in e
        refine ⟨q12, ?_⟩
        exact hrec _ _ _ _ _ _ e
      · have e := if_n e c8
        exact hrec _ _ _ _ _ _ e
def kX10_waitsFor_89 (rec : Nat → List Value → List Value → Hp → RS)  (r0 : Nat) (x1 : Int32) (x3 : Int32) (x4 : Int32) (x5 : Int32) (s0 : Int32) (s1 : Int32) (h : Hp) : RS := (if kH h r0 = 18 then (if kH h (rH h r0 22) = 1 then (if inB (x4 + x5) (lH h (rH h r0 22)) = true then (if 0 ≤ (h.2 (rH h r0 22) (x4 + x5).toNatClampNeg) then (rec 25 [.ref r0, .int x1, .int ((s1 ||| s0) ||| 0), .int x3, .int x4, .int (x5 + 1), uV] [] h) else (bI (fX10_ahead (rH h r0 22) x3 (-(h.2 (rH h r0 22) (x4 + x5).toNatClampNeg)) h) fun z6 h5 => (if z6 ≤ 0 then (rec 25 [.ref r0, .int x1, .int ((s1 ||| s0) ||| 0), .int x3, .int x4, .int (x5 + 1), uV] [] h5) else (if kH h5 r0 = 18 then (if kH h5 (rH h5 r0 22) = 1 then (if inB (x4 + x5) (lH h5 (rH h5 r0 22)) = true then (rec 25 [.ref r0, .int x1, .int ((s1 ||| s0) ||| (1 <<< ((-(h5.2 (rH h5 r0 22) (x4 + x5).toNatClampNeg)) &&& 31))), .int x3, .int x4, .int (x5 + 1), uV] [] h5) else none) else none) else none)))) else none) else none) else none)
theorem uX10_waitsFor_89 {G : GG} {d : Nat} (hd : 3 ≤ d) (rec : Nat → List Value → List Value → Hp → RS) (hrec : ∀ pc loc st h o h', rec pc loc st h = some (o, h') → V G mX10_waitsFor d pc loc st h o h')   {r0  x1  x3  x4  x5  s0  s1 } {h : Hp} {o : OU} {h' : Hp} (e : kX10_waitsFor_89 rec  r0 x1 x3 x4 x5 s0 s1 h = some (o, h')) : V G mX10_waitsFor d 89 [.ref r0, .int x1, uV, .int x3, .int x4, .int x5, uV] [.int s0, .int s1] h o h' := by
  unfold kX10_waitsFor_89 at e
  refine bX10_waitsFor_89 r0 x1 x3 x4 x5 s0 s1 (by omega) ?_
  obtain ⟨q1, e⟩ := ob_e e
  refine ⟨q1, ?_⟩
  obtain ⟨q2, e⟩ := ob_e e
  refine ⟨q2, ?_⟩
  obtain ⟨q3, e⟩ := ob_in e
  refine ⟨q3, ?_⟩
  refine ⟨fun c4 => ?_, fun c4 => ?_⟩
  · have e := if_t e c4
    exact hrec _ _ _ _ _ _ e
  · have e := if_f e c4
    obtain ⟨z6, h5, e5, e⟩ := bI_e e
    refine ⟨z6, h5, (tX10_ahead e5 (by omega)), ?_⟩
    refine ⟨fun c6 => ?_, fun c6 => ?_⟩
    · have e := if_t e c6
      exact hrec _ _ _ _ _ _ e
    · have e := if_f e c6
      obtain ⟨q7, e⟩ := ob_e e
      refine ⟨q7, ?_⟩
      obtain ⟨q8, e⟩ := ob_e e
      refine ⟨q8, ?_⟩
      obtain ⟨q9, e⟩ := ob_in e
      refine ⟨q9, ?_⟩
      exact hrec _ _ _ _ _ _ e
def sX10_waitsFor  (rec : Nat → List Value → List Value → Hp → RS) (pc : Nat) (loc st : List Value) (h : Hp) : RS := match pc, loc, st with
  | 4, [.ref r0, .int x1, .int x2, .int x3, _, _, _], [] => kX10_waitsFor_4 rec  r0 x1 x2 x3 h
  | 25, [.ref r0, .int x1, .int x2, .int x3, .int x4, .int x5, _], [] => kX10_waitsFor_25 rec  r0 x1 x2 x3 x4 x5 h
  | 89, [.ref r0, .int x1, _, .int x3, .int x4, .int x5, _], [.int s0, .int s1] => kX10_waitsFor_89 rec  r0 x1 x3 x4 x5 s0 s1 h
  | _, _, _ => none
def gX10_waitsFor  : Nat → Nat → List Value → List Value → Hp → RS
  | 0 => fun _ _ _ _ => none
  | n + 1 => sX10_waitsFor  (gX10_waitsFor  n)
theorem wX10_waitsFor {G : GG} {d : Nat} (hd : 3 ≤ d)   : ∀ (n pc : Nat) (loc st : List Value) (h : Hp) (o : OU) (h' : Hp), gX10_waitsFor  n pc loc st h = some (o, h') → V G mX10_waitsFor d pc loc st h o h' := by
  intro n
  induction n with
  | zero => intro pc loc st h o h' e; cases e
  | succ n ih =>
    intro pc loc st h o h' e
    unfold gX10_waitsFor sX10_waitsFor at e
    split at e
    · exact V.drop (llp_r (llp_r (llp_r (llp_r (llp_u (llp_u (llp_u llp_nil))))))) (uX10_waitsFor_4 hd _ ih   e)
    · exact V.drop (llp_r (llp_r (llp_r (llp_r (llp_r (llp_r (llp_u llp_nil))))))) (uX10_waitsFor_25 hd _ ih   e)
    · exact V.drop (llp_r (llp_r (llp_u (llp_r (llp_r (llp_r (llp_u llp_nil))))))) (uX10_waitsFor_89 hd _ ih   e)
    · cases e
theorem zX10_waitsFor_4  (n : Nat) (r0 : Nat) (x1 : Int32) (x2 : Int32) (x3 : Int32) (y4 : Value) (y5 : Value) (y6 : Value) (h : Hp) : gX10_waitsFor  (n + 1) 4 [.ref r0, .int x1, .int x2, .int x3, y4, y5, y6] [] h = kX10_waitsFor_4 (gX10_waitsFor  n)  r0 x1 x2 x3 h := rfl
theorem zX10_waitsFor_25  (n : Nat) (r0 : Nat) (x1 : Int32) (x2 : Int32) (x3 : Int32) (x4 : Int32) (x5 : Int32) (y6 : Value) (h : Hp) : gX10_waitsFor  (n + 1) 25 [.ref r0, .int x1, .int x2, .int x3, .int x4, .int x5, y6] [] h = kX10_waitsFor_25 (gX10_waitsFor  n)  r0 x1 x2 x3 x4 x5 h := rfl
theorem zX10_waitsFor_89  (n : Nat) (r0 : Nat) (x1 : Int32) (x3 : Int32) (x4 : Int32) (x5 : Int32) (s0 : Int32) (s1 : Int32) (y2 : Value) (y6 : Value) (h : Hp) : gX10_waitsFor  (n + 1) 89 [.ref r0, .int x1, y2, .int x3, .int x4, .int x5, y6] [.int s0, .int s1] h = kX10_waitsFor_89 (gX10_waitsFor  n)  r0 x1 x3 x4 x5 s0 s1 h := rfl
def fX10_waitsFor (r0 : Nat) (x1 : Int32) (h : Hp) : RS := kX10_waitsFor_0 (gX10_waitsFor FF) r0 x1 h
theorem tX10_waitsFor {G : GG} {d : Nat} {r0 x1} {h : Hp} {o : OU} {h' : Hp} (e : fX10_waitsFor r0 x1 h = some (o, h')) (hd : 3 ≤ d) : VM G mX10_waitsFor d [.ref r0, .int x1] h o h' := uX10_waitsFor_0 hd _ (wX10_waitsFor hd FF) e
def kX10_waits_0  (r0 : Nat) (x1 : Int32) (h : Hp) : RS := (if kH h r0 = 18 then (bI (fX10_isBlock r0 x1 (h.1, (upI h.2 r0 0 0))) fun z3 h2 => (if ¬ z3 = 0 then (if kH h2 r0 = 18 then (bI (fX10_bad r0 0 1 3 h2) fun z7 h6 => (if z7 = 0 then (if kH h6 r0 = 18 then (bI (fX10_waitsFor r0 x1 h6) fun z12 h11 => (some (.inl (some (.int z12)), h11))) else none) else (some (.inl (some (.int 0)), h6)))) else none) else (if kH h2 r0 = 18 then (bI (fX10_bad r0 1 1 3 h2) fun z16 h15 => (if z16 = 0 then (if kH h15 r0 = 18 then (bI (fX10_waitsFor r0 x1 h15) fun z21 h20 => (some (.inl (some (.int z21)), h20))) else none) else (some (.inl (some (.int 0)), h15)))) else none))) else none)
theorem uX10_waits_0 {G : GG} {d : Nat} (hd : 4 ≤ d)   {r0  x1 } {h : Hp} {o : OU} {h' : Hp} (e : kX10_waits_0  r0 x1 h = some (o, h')) : VM G mX10_waits d [.ref r0, .int x1] h o h' := by
  unfold kX10_waits_0 at e
  refine eX10_waits r0 x1 (by omega) ?_
  obtain ⟨q1, e⟩ := ob_e e
  refine ⟨q1, ?_⟩
  obtain ⟨z3, h2, e2, e⟩ := bI_e e
  refine ⟨z3, h2, (tX10_isBlock e2 (by omega)), ?_⟩
  refine ⟨fun c3 => ?_, fun c3 => ?_⟩
  · have e := if_t e c3
    obtain ⟨q4, e⟩ := ob_e e
    refine ⟨q4, ?_⟩
    obtain ⟨z7, h6, e5, e⟩ := bI_e e
    refine ⟨z7, h6, (tX10_bad e5 (by omega)), ?_⟩
    refine ⟨fun c6 => ?_, fun c6 => ?_⟩
    · have e := if_t e c6
      obtain ⟨q7, e⟩ := ob_e e
      refine ⟨q7, ?_⟩
      obtain ⟨z12, h11, e8, e⟩ := bI_e e
      refine ⟨z12, h11, (tX10_waitsFor e8 (by omega)), ?_⟩
      cases e
      exact ⟨rfl, rfl⟩
    · have e := if_f e c6
      cases e
      exact ⟨rfl, rfl⟩
  · have e := if_n e c3
    obtain ⟨q9, e⟩ := ob_e e
    refine ⟨q9, ?_⟩
    obtain ⟨z16, h15, e10, e⟩ := bI_e e
    refine ⟨z16, h15, (tX10_bad e10 (by omega)), ?_⟩
    refine ⟨fun c11 => ?_, fun c11 => ?_⟩
    · have e := if_t e c11
      obtain ⟨q12, e⟩ := ob_e e
      refine ⟨q12, ?_⟩
      obtain ⟨z21, h20, e13, e⟩ := bI_e e
      refine ⟨z21, h20, (tX10_waitsFor e13 (by omega)), ?_⟩
      cases e
      exact ⟨rfl, rfl⟩
    · have e := if_f e c11
      cases e
      exact ⟨rfl, rfl⟩
def fX10_waits (r0 : Nat) (x1 : Int32) (h : Hp) : RS := kX10_waits_0 r0 x1 h
theorem tX10_waits {G : GG} {d : Nat} {r0 x1} {h : Hp} {o : OU} {h' : Hp} (e : fX10_waits r0 x1 h = some (o, h')) (hd : 4 ≤ d) : VM G mX10_waits d [.ref r0, .int x1] h o h' := uX10_waits_0 hd e
def kX10_rings_0 (rec : Nat → List Value → List Value → Hp → RS)  (r0 : Nat) (h : Hp) : RS := (if kH h r0 = 18 then (rec 9 [.ref r0, .int 0, .int 0, uV] [] (h.1, (upI h.2 r0 0 0))) else none)
theorem uX10_rings_0 {G : GG} {d : Nat} (hd : 4 ≤ d) (rec : Nat → List Value → List Value → Hp → RS) (hrec : ∀ pc loc st h o h', rec pc loc st h = some (o, h') → V G mX10_rings d pc loc st h o h')   {r0 } {h : Hp} {o : OU} {h' : Hp} (e : kX10_rings_0 rec  r0 h = some (o, h')) : VM G mX10_rings d [.ref r0] h o h' := by
  unfold kX10_rings_0 at e
  refine eX10_rings r0 ?_
  obtain ⟨q1, e⟩ := ob_e e
  refine ⟨q1, ?_⟩
  exact hrec _ _ _ _ _ _ e
def kX10_rings_9 (rec : Nat → List Value → List Value → Hp → RS)  (r0 : Nat) (x1 : Int32) (x2 : Int32) (h : Hp) : RS := (if kH h r0 = 18 then (if (h.2 r0 11) ≤ x2 then (some (.inl (some (.int x1)), h)) else (rec 19 [.ref r0, .int x1, .int x2, .int 0] [] h)) else none)
theorem uX10_rings_9 {G : GG} {d : Nat} (hd : 4 ≤ d) (rec : Nat → List Value → List Value → Hp → RS) (hrec : ∀ pc loc st h o h', rec pc loc st h = some (o, h') → V G mX10_rings d pc loc st h o h')   {r0  x1  x2 } {h : Hp} {o : OU} {h' : Hp} (e : kX10_rings_9 rec  r0 x1 x2 h = some (o, h')) : V G mX10_rings d 9 [.ref r0, .int x1, .int x2, uV] [] h o h' := by
  unfold kX10_rings_9 at e
  refine bX10_rings_9 r0 x1 x2 ?_
  obtain ⟨q1, e⟩ := ob_e e
  refine ⟨q1, ?_⟩
  refine ⟨fun c2 => ?_, fun c2 => ?_⟩
  · have e := if_t e c2
    cases e
    exact ⟨rfl, rfl⟩
  · have e := if_f e c2
    exact hrec _ _ _ _ _ _ e
def kX10_rings_19 (rec : Nat → List Value → List Value → Hp → RS)  (r0 : Nat) (x1 : Int32) (x2 : Int32) (x3 : Int32) (h : Hp) : RS := (if x2 ≤ x3 then (rec 9 [.ref r0, .int x1, .int (x2 + 1), uV] [] h) else (if kH h r0 = 18 then (bI (fX10_waitsFor r0 x2 h) fun z3 h2 => (bI (fX10_has z3 x3 h2) fun z7 h6 => (if z7 = 0 then (rec 19 [.ref r0, .int (x1 + 0), .int x2, .int (x3 + 1)] [] h6) else (if kH h6 r0 = 18 then (bI (fX10_waitsFor r0 x3 h6) fun z11 h10 => (bI (fX10_has z11 x2 h10) fun z15 h14 => (if z15 = 0 then (rec 19 [.ref r0, .int (x1 + 0), .int x2, .int (x3 + 1)] [] h14) else (rec 19 [.ref r0, .int (x1 + 1), .int x2, .int (x3 + 1)] [] h14)))) else none)))) else none))
theorem uX10_rings_19 {G : GG} {d : Nat} (hd : 4 ≤ d) (rec : Nat → List Value → List Value → Hp → RS) (hrec : ∀ pc loc st h o h', rec pc loc st h = some (o, h') → V G mX10_rings d pc loc st h o h')   {r0  x1  x2  x3 } {h : Hp} {o : OU} {h' : Hp} (e : kX10_rings_19 rec  r0 x1 x2 x3 h = some (o, h')) : V G mX10_rings d 19 [.ref r0, .int x1, .int x2, .int x3] [] h o h' := by
  unfold kX10_rings_19 at e
  refine bX10_rings_19 r0 x1 x2 x3 (by omega) ?_
  refine ⟨fun c1 => ?_, fun c1 => ?_⟩
  · have e := if_t e c1
    exact hrec _ _ _ _ _ _ e
  · have e := if_f e c1
    obtain ⟨q2, e⟩ := ob_e e
    refine ⟨q2, ?_⟩
    obtain ⟨z3, h2, e3, e⟩ := bI_e e
    refine ⟨z3, h2, (tX10_waitsFor e3 (by omega)), ?_⟩
    obtain ⟨z7, h6, e4, e⟩ := bI_e e
    refine ⟨z7, h6, (tX10_has e4 (by omega)), ?_⟩
    refine ⟨fun c5 => ?_, fun c5 => ?_⟩
    · have e := if_t e c5
      exact hrec _ _ _ _ _ _ e
    · have e := if_f e c5
      obtain ⟨q6, e⟩ := ob_e e
      refine ⟨q6, ?_⟩
      obtain ⟨z11, h10, e7, e⟩ := bI_e e
      refine ⟨z11, h10, (tX10_waitsFor e7 (by omega)), ?_⟩
      obtain ⟨z15, h14, e8, e⟩ := bI_e e
      refine ⟨z15, h14, (tX10_has e8 (by omega)), ?_⟩
      refine ⟨fun c9 => ?_, fun c9 => ?_⟩
      · have e := if_t e c9
        exact hrec _ _ _ _ _ _ e
      · have e := if_f e c9
        exact hrec _ _ _ _ _ _ e
def sX10_rings  (rec : Nat → List Value → List Value → Hp → RS) (pc : Nat) (loc st : List Value) (h : Hp) : RS := match pc, loc, st with
  | 9, [.ref r0, .int x1, .int x2, _], [] => kX10_rings_9 rec  r0 x1 x2 h
  | 19, [.ref r0, .int x1, .int x2, .int x3], [] => kX10_rings_19 rec  r0 x1 x2 x3 h
  | _, _, _ => none
def gX10_rings  : Nat → Nat → List Value → List Value → Hp → RS
  | 0 => fun _ _ _ _ => none
  | n + 1 => sX10_rings  (gX10_rings  n)
theorem wX10_rings {G : GG} {d : Nat} (hd : 4 ≤ d)   : ∀ (n pc : Nat) (loc st : List Value) (h : Hp) (o : OU) (h' : Hp), gX10_rings  n pc loc st h = some (o, h') → V G mX10_rings d pc loc st h o h' := by
  intro n
  induction n with
  | zero => intro pc loc st h o h' e; cases e
  | succ n ih =>
    intro pc loc st h o h' e
    unfold gX10_rings sX10_rings at e
    split at e
    · exact V.drop (llp_r (llp_r (llp_r (llp_u llp_nil)))) (uX10_rings_9 hd _ ih   e)
    · exact uX10_rings_19 hd _ ih   e
    · cases e
theorem zX10_rings_9  (n : Nat) (r0 : Nat) (x1 : Int32) (x2 : Int32) (y3 : Value) (h : Hp) : gX10_rings  (n + 1) 9 [.ref r0, .int x1, .int x2, y3] [] h = kX10_rings_9 (gX10_rings  n)  r0 x1 x2 h := rfl
theorem zX10_rings_19  (n : Nat) (r0 : Nat) (x1 : Int32) (x2 : Int32) (x3 : Int32)  (h : Hp) : gX10_rings  (n + 1) 19 [.ref r0, .int x1, .int x2, .int x3] [] h = kX10_rings_19 (gX10_rings  n)  r0 x1 x2 x3 h := rfl
def fX10_rings (r0 : Nat) (h : Hp) : RS := kX10_rings_0 (gX10_rings FF) r0 h
theorem tX10_rings {G : GG} {d : Nat} {r0} {h : Hp} {o : OU} {h' : Hp} (e : fX10_rings r0 h = some (o, h')) (hd : 4 ≤ d) : VM G mX10_rings d [.ref r0] h o h' := uX10_rings_0 hd _ (wX10_rings hd FF) e
def kX10_spills_0  (r0 : Nat) (r1 : Nat) (x2 : Int32) (h : Hp) : RS := (if kH h r0 = 18 then (bI (fX10_leaking r0 r1 256 h) fun z2 h1 => (bI (fX10_ones z2 h1) fun z6 h5 => (if kH h5 r0 = 18 then (if z6 ≤ (h5.2 r0 33) then (bI (fX10_more ((upI h5.2 r0 34 (h5.2 r0 34)) r0 33) z6 (h5.1, (upI h5.2 r0 34 (h5.2 r0 34)))) fun z11 h10 => (if kH h10 r0 = 18 then (some (.inl none, (h10.1, (upI h10.2 r0 33 z11)))) else none)) else (bI (fX10_more ((upI h5.2 r0 34 x2) r0 33) z6 (h5.1, (upI h5.2 r0 34 x2))) fun z15 h14 => (if kH h14 r0 = 18 then (some (.inl none, (h14.1, (upI h14.2 r0 33 z15)))) else none))) else none))) else none)
theorem uX10_spills_0 {G : GG} {d : Nat} (hd : 6 ≤ d)   {r0  r1  x2 } {h : Hp} {o : OU} {h' : Hp} (e : kX10_spills_0  r0 r1 x2 h = some (o, h')) : VM G mX10_spills d [.ref r0, .ref r1, .int x2] h o h' := by
  unfold kX10_spills_0 at e
  refine eX10_spills r0 r1 x2 (by omega) ?_
  obtain ⟨q1, e⟩ := ob_e e
  refine ⟨q1, ?_⟩
  obtain ⟨z2, h1, e2, e⟩ := bI_e e
  refine ⟨z2, h1, (tX10_leaking e2 (by omega)), ?_⟩
  obtain ⟨z6, h5, e3, e⟩ := bI_e e
  refine ⟨z6, h5, (tX10_ones e3 (by omega)), ?_⟩
  obtain ⟨q4, e⟩ := ob_e e
  refine ⟨q4, ?_⟩
  refine ⟨fun c5 => ?_, fun c5 => ?_⟩
  · have e := if_t e c5
    obtain ⟨z11, h10, e6, e⟩ := bI_e e
    refine ⟨z11, h10, (tX10_more e6 (by omega)), ?_⟩
    obtain ⟨q7, e⟩ := ob_e e
    refine ⟨q7, ?_⟩
    cases e
    exact ⟨rfl, rfl⟩
  · have e := if_f e c5
    obtain ⟨z15, h14, e8, e⟩ := bI_e e
    refine ⟨z15, h14, (tX10_more e8 (by omega)), ?_⟩
    obtain ⟨q9, e⟩ := ob_e e
    refine ⟨q9, ?_⟩
    cases e
    exact ⟨rfl, rfl⟩
def fX10_spills (r0 : Nat) (r1 : Nat) (x2 : Int32) (h : Hp) : RS := kX10_spills_0 r0 r1 x2 h
theorem tX10_spills {G : GG} {d : Nat} {r0 r1 x2} {h : Hp} {o : OU} {h' : Hp} (e : fX10_spills r0 r1 x2 h = some (o, h')) (hd : 6 ≤ d) : VM G mX10_spills d [.ref r0, .ref r1, .int x2] h o h' := uX10_spills_0 hd e
def kX10_settles_0 (rec : Nat → List Value → List Value → Hp → RS)  (r0 : Nat) (r1 : Nat) (h : Hp) : RS := (if kH h r0 = 18 then (bV (fX10_spills r0 r1 0 (h.1, (upI h.2 r0 33 (-1)))) fun h2 => (rec 13 [.ref r0, .ref r1, .int 0, uV] [] h2)) else none)
theorem uX10_settles_0 {G : GG} {d : Nat} (hd : 8 ≤ d) (rec : Nat → List Value → List Value → Hp → RS) (hrec : ∀ pc loc st h o h', rec pc loc st h = some (o, h') → V G mX10_settles d pc loc st h o h')   {r0  r1 } {h : Hp} {o : OU} {h' : Hp} (e : kX10_settles_0 rec  r0 r1 h = some (o, h')) : VM G mX10_settles d [.ref r0, .ref r1] h o h' := by
  unfold kX10_settles_0 at e
  refine eX10_settles r0 r1 (by omega) ?_
  obtain ⟨q1, e⟩ := ob_e e
  refine ⟨q1, ?_⟩
  obtain ⟨h2, e2, e⟩ := bV_e e
  refine ⟨h2, (tX10_spills e2 (by omega)), ?_⟩
  exact hrec _ _ _ _ _ _ e
def kX10_settles_13 (rec : Nat → List Value → List Value → Hp → RS)  (r0 : Nat) (r1 : Nat) (x2 : Int32) (h : Hp) : RS := (if kH h r0 = 18 then (bI (fX10_dirty r0 r1 h) fun z2 h1 => (if z2 = 0 then (some (.inl (some (.int x2)), h1)) else (rec 23 [.ref r0, .ref r1, .int x2, .int 0] [] h1))) else none)
theorem uX10_settles_13 {G : GG} {d : Nat} (hd : 8 ≤ d) (rec : Nat → List Value → List Value → Hp → RS) (hrec : ∀ pc loc st h o h', rec pc loc st h = some (o, h') → V G mX10_settles d pc loc st h o h')   {r0  r1  x2 } {h : Hp} {o : OU} {h' : Hp} (e : kX10_settles_13 rec  r0 r1 x2 h = some (o, h')) : V G mX10_settles d 13 [.ref r0, .ref r1, .int x2, uV] [] h o h' := by
  unfold kX10_settles_13 at e
  refine bX10_settles_13 r0 r1 x2 (by omega) ?_
  obtain ⟨q1, e⟩ := ob_e e
  refine ⟨q1, ?_⟩
  obtain ⟨z2, h1, e2, e⟩ := bI_e e
  refine ⟨z2, h1, (tX10_dirty e2 (by omega)), ?_⟩
  refine ⟨fun c3 => ?_, fun c3 => ?_⟩
  · have e := if_t e c3
    cases e
    exact ⟨rfl, rfl⟩
  · have e := if_f e c3
    exact hrec _ _ _ _ _ _ e
def kX10_settles_23 (rec : Nat → List Value → List Value → Hp → RS)  (r0 : Nat) (r1 : Nat) (x2 : Int32) (x3 : Int32) (h : Hp) : RS := (if kH h r0 = 18 then (if (h.2 r0 11) ≤ x3 then (rec 13 [.ref r0, .ref r1, .int x2, uV] [] h) else (bI (fX10_isDirty r1 x3 h) fun z4 h3 => (if ¬ z4 = 0 then (if ¬ x2 = 200 then (if kH h3 r0 = 18 then (bI (fX10_writes r0 r1 x3 h3) fun z9 h8 => (if kH h8 r0 = 18 then (bV (fX10_spills r0 r1 (x2 + 1) h8) fun h12 => (rec 23 [.ref r0, .ref r1, .int (x2 + 1), .int (x3 + 1)] [] h12)) else none)) else none) else (some (.inl (some (.int (-1))), h3))) else (rec 23 [.ref r0, .ref r1, .int x2, .int (x3 + 1)] [] h3)))) else none)
theorem uX10_settles_23 {G : GG} {d : Nat} (hd : 8 ≤ d) (rec : Nat → List Value → List Value → Hp → RS) (hrec : ∀ pc loc st h o h', rec pc loc st h = some (o, h') → V G mX10_settles d pc loc st h o h')   {r0  r1  x2  x3 } {h : Hp} {o : OU} {h' : Hp} (e : kX10_settles_23 rec  r0 r1 x2 x3 h = some (o, h')) : V G mX10_settles d 23 [.ref r0, .ref r1, .int x2, .int x3] [] h o h' := by
  unfold kX10_settles_23 at e
  refine bX10_settles_23 r0 r1 x2 x3 (by omega) ?_
  obtain ⟨q1, e⟩ := ob_e e
  refine ⟨q1, ?_⟩
  refine ⟨fun c2 => ?_, fun c2 => ?_⟩
  · have e := if_t e c2
    exact hrec _ _ _ _ _ _ e
  · have e := if_f e c2
    obtain ⟨z4, h3, e3, e⟩ := bI_e e
    refine ⟨z4, h3, (tX10_isDirty e3 (by omega)), ?_⟩
    refine ⟨fun c4 => ?_, fun c4 => ?_⟩
    · have e := if_t e c4
      refine ⟨fun c5 => ?_, fun c5 => ?_⟩
      · have e := if_t e c5
        obtain ⟨q6, e⟩ := ob_e e
        refine ⟨q6, ?_⟩
        obtain ⟨z9, h8, e7, e⟩ := bI_e e
        refine ⟨z9, h8, (tX10_writes e7 (by omega)), ?_⟩
        obtain ⟨q8, e⟩ := ob_e e
        refine ⟨q8, ?_⟩
        obtain ⟨h12, e9, e⟩ := bV_e e
        refine ⟨h12, (tX10_spills e9 (by omega)), ?_⟩
        exact hrec _ _ _ _ _ _ e
      · have e := if_n e c5
        cases e
        exact ⟨rfl, rfl⟩
    · have e := if_n e c4
      exact hrec _ _ _ _ _ _ e
def sX10_settles  (rec : Nat → List Value → List Value → Hp → RS) (pc : Nat) (loc st : List Value) (h : Hp) : RS := match pc, loc, st with
  | 13, [.ref r0, .ref r1, .int x2, _], [] => kX10_settles_13 rec  r0 r1 x2 h
  | 23, [.ref r0, .ref r1, .int x2, .int x3], [] => kX10_settles_23 rec  r0 r1 x2 x3 h
  | _, _, _ => none
def gX10_settles  : Nat → Nat → List Value → List Value → Hp → RS
  | 0 => fun _ _ _ _ => none
  | n + 1 => sX10_settles  (gX10_settles  n)
theorem wX10_settles {G : GG} {d : Nat} (hd : 8 ≤ d)   : ∀ (n pc : Nat) (loc st : List Value) (h : Hp) (o : OU) (h' : Hp), gX10_settles  n pc loc st h = some (o, h') → V G mX10_settles d pc loc st h o h' := by
  intro n
  induction n with
  | zero => intro pc loc st h o h' e; cases e
  | succ n ih =>
    intro pc loc st h o h' e
    unfold gX10_settles sX10_settles at e
    split at e
    · exact V.drop (llp_r (llp_r (llp_r (llp_u llp_nil)))) (uX10_settles_13 hd _ ih   e)
    · exact uX10_settles_23 hd _ ih   e
    · cases e
theorem zX10_settles_13  (n : Nat) (r0 : Nat) (r1 : Nat) (x2 : Int32) (y3 : Value) (h : Hp) : gX10_settles  (n + 1) 13 [.ref r0, .ref r1, .int x2, y3] [] h = kX10_settles_13 (gX10_settles  n)  r0 r1 x2 h := rfl
theorem zX10_settles_23  (n : Nat) (r0 : Nat) (r1 : Nat) (x2 : Int32) (x3 : Int32)  (h : Hp) : gX10_settles  (n + 1) 23 [.ref r0, .ref r1, .int x2, .int x3] [] h = kX10_settles_23 (gX10_settles  n)  r0 r1 x2 x3 h := rfl
def fX10_settles (r0 : Nat) (r1 : Nat) (h : Hp) : RS := kX10_settles_0 (gX10_settles FF) r0 r1 h
theorem tX10_settles {G : GG} {d : Nat} {r0 r1} {h : Hp} {o : OU} {h' : Hp} (e : fX10_settles r0 r1 h = some (o, h')) (hd : 8 ≤ d) : VM G mX10_settles d [.ref r0, .ref r1] h o h' := uX10_settles_0 hd _ (wX10_settles hd FF) e
def kX10_settle_0  (r0 : Nat) (h : Hp) : RS := (if kH h r0 = 18 then (bV (fX10_copies (rH h r0 22) (rH h r0 23) (h.1, (upI h.2 r0 0 0))) fun h2 => (if kH h2 r0 = 18 then (bI (fX10_settles r0 (rH h2 r0 23) h2) fun z6 h5 => (some (.inl (some (.int z6)), h5))) else none)) else none)
theorem uX10_settle_0 {G : GG} {d : Nat} (hd : 9 ≤ d)   {r0 } {h : Hp} {o : OU} {h' : Hp} (e : kX10_settle_0  r0 h = some (o, h')) : VM G mX10_settle d [.ref r0] h o h' := by
  unfold kX10_settle_0 at e
  refine eX10_settle r0 (by omega) ?_
  obtain ⟨q1, e⟩ := ob_e e
  refine ⟨q1, ?_⟩
  obtain ⟨h2, e2, e⟩ := bV_e e
  refine ⟨h2, (tX10_copies e2 (by omega)), ?_⟩
  obtain ⟨q3, e⟩ := ob_e e
  refine ⟨q3, ?_⟩
  obtain ⟨z6, h5, e4, e⟩ := bI_e e
  refine ⟨z6, h5, (tX10_settles e4 (by omega)), ?_⟩
  cases e
  exact ⟨rfl, rfl⟩
def fX10_settle (r0 : Nat) (h : Hp) : RS := kX10_settle_0 r0 h
theorem tX10_settle {G : GG} {d : Nat} {r0} {h : Hp} {o : OU} {h' : Hp} (e : fX10_settle r0 h = some (o, h')) (hd : 9 ≤ d) : VM G mX10_settle d [.ref r0] h o h' := uX10_settle_0 hd e
def kX10_spill_0  (r0 : Nat) (x1 : Int32) (h : Hp) : RS := (if kH h r0 = 18 then (bI (fX10_in x1 0 1 (h.1, (upI h.2 r0 0 0))) fun z3 h2 => (if ¬ z3 = 0 then (if kH h2 r0 = 18 then (bI (fX10_bad r0 0 1 1 h2) fun z7 h6 => (if z7 = 0 then (if kH h6 r0 = 18 then (bV (fX10_copies (rH h6 r0 22) (rH h6 r0 23) h6) fun h12 => (if kH h12 r0 = 18 then (bI (fX10_settles r0 (rH h12 r0 23) h12) fun z16 h15 => (if ¬ x1 = 0 then (if kH h15 r0 = 18 then (some (.inl (some (.int (h15.2 r0 34))), h15)) else none) else (if kH h15 r0 = 18 then (some (.inl (some (.int (h15.2 r0 33))), h15)) else none))) else none)) else none) else (some (.inl (some (.int 0)), h6)))) else none) else (if kH h2 r0 = 18 then (bI (fX10_bad r0 1 1 1 h2) fun z22 h21 => (if z22 = 0 then (if kH h21 r0 = 18 then (bV (fX10_copies (rH h21 r0 22) (rH h21 r0 23) h21) fun h27 => (if kH h27 r0 = 18 then (bI (fX10_settles r0 (rH h27 r0 23) h27) fun z31 h30 => (if ¬ x1 = 0 then (if kH h30 r0 = 18 then (some (.inl (some (.int (h30.2 r0 34))), h30)) else none) else (if kH h30 r0 = 18 then (some (.inl (some (.int (h30.2 r0 33))), h30)) else none))) else none)) else none) else (some (.inl (some (.int 0)), h21)))) else none))) else none)
theorem uX10_spill_0 {G : GG} {d : Nat} (hd : 9 ≤ d)   {r0  x1 } {h : Hp} {o : OU} {h' : Hp} (e : kX10_spill_0  r0 x1 h = some (o, h')) : VM G mX10_spill d [.ref r0, .int x1] h o h' := by
  unfold kX10_spill_0 at e
  refine eX10_spill r0 x1 (by omega) ?_
  obtain ⟨q1, e⟩ := ob_e e
  refine ⟨q1, ?_⟩
  obtain ⟨z3, h2, e2, e⟩ := bI_e e
  refine ⟨z3, h2, (tX10_in e2 (by omega)), ?_⟩
  refine ⟨fun c3 => ?_, fun c3 => ?_⟩
  · have e := if_t e c3
    obtain ⟨q4, e⟩ := ob_e e
    refine ⟨q4, ?_⟩
    obtain ⟨z7, h6, e5, e⟩ := bI_e e
    refine ⟨z7, h6, (tX10_bad e5 (by omega)), ?_⟩
    refine ⟨fun c6 => ?_, fun c6 => ?_⟩
    · have e := if_t e c6
      obtain ⟨q7, e⟩ := ob_e e
      refine ⟨q7, ?_⟩
      obtain ⟨h12, e8, e⟩ := bV_e e
      refine ⟨h12, (tX10_copies e8 (by omega)), ?_⟩
      obtain ⟨q9, e⟩ := ob_e e
      refine ⟨q9, ?_⟩
      obtain ⟨z16, h15, e10, e⟩ := bI_e e
      refine ⟨z16, h15, (tX10_settles e10 (by omega)), ?_⟩
      refine ⟨fun c11 => ?_, fun c11 => ?_⟩
      · have e := if_t e c11
        obtain ⟨q12, e⟩ := ob_e e
        refine ⟨q12, ?_⟩
        cases e
        exact ⟨rfl, rfl⟩
      · have e := if_n e c11
        obtain ⟨q13, e⟩ := ob_e e
        refine ⟨q13, ?_⟩
        cases e
        exact ⟨rfl, rfl⟩
    · have e := if_f e c6
      cases e
      exact ⟨rfl, rfl⟩
  · have e := if_n e c3
    obtain ⟨q14, e⟩ := ob_e e
    refine ⟨q14, ?_⟩
    obtain ⟨z22, h21, e15, e⟩ := bI_e e
    refine ⟨z22, h21, (tX10_bad e15 (by omega)), ?_⟩
    refine ⟨fun c16 => ?_, fun c16 => ?_⟩
    · have e := if_t e c16
      obtain ⟨q17, e⟩ := ob_e e
      refine ⟨q17, ?_⟩
      obtain ⟨h27, e18, e⟩ := bV_e e
      refine ⟨h27, (tX10_copies e18 (by omega)), ?_⟩
      obtain ⟨q19, e⟩ := ob_e e
      refine ⟨q19, ?_⟩
      obtain ⟨z31, h30, e20, e⟩ := bI_e e
      refine ⟨z31, h30, (tX10_settles e20 (by omega)), ?_⟩
      refine ⟨fun c21 => ?_, fun c21 => ?_⟩
      · have e := if_t e c21
        obtain ⟨q22, e⟩ := ob_e e
        refine ⟨q22, ?_⟩
        cases e
        exact ⟨rfl, rfl⟩
      · have e := if_n e c21
        obtain ⟨q23, e⟩ := ob_e e
        refine ⟨q23, ?_⟩
        cases e
        exact ⟨rfl, rfl⟩
    · have e := if_f e c16
      cases e
      exact ⟨rfl, rfl⟩
def fX10_spill (r0 : Nat) (x1 : Int32) (h : Hp) : RS := kX10_spill_0 r0 x1 h
theorem tX10_spill {G : GG} {d : Nat} {r0 x1} {h : Hp} {o : OU} {h' : Hp} (e : fX10_spill r0 x1 h = some (o, h')) (hd : 9 ≤ d) : VM G mX10_spill d [.ref r0, .int x1] h o h' := uX10_spill_0 hd e
def kX10_isSafeBy_0 (rec : Nat → List Value → List Value → Hp → RS) (FX10_isSafeBy : Nat → Int32 → Int32 → Hp → RS) (r0 : Nat) (x1 : Int32) (x2 : Int32) (h : Hp) : RS := (if kH h r0 = 18 then (if kH h (rH h r0 26) = 7 then (if inB x1 (lH h (rH h r0 26)) = true then (bI (fX10_dirty r0 (rH h (rH h r0 26) x1.toNatClampNeg) h) fun z5 h4 => (bI (fX10_ones z5 h4) fun z8 h7 => (if z8 ≤ x2 then (rec 24 [.ref r0, .int x1, .int x2, .int z5, .int 0] [] h7) else (some (.inl (some (.int 0)), h7))))) else none) else none) else none)
theorem uX10_isSafeBy_0 {G : GG} {d : Nat} (hd : 8 ≤ d) (rec : Nat → List Value → List Value → Hp → RS) (hrec : ∀ pc loc st h o h', rec pc loc st h = some (o, h') → V G mX10_isSafeBy d pc loc st h o h') (FX10_isSafeBy : Nat → Int32 → Int32 → Hp → RS) (TFX10_isSafeBy : ∀ {a0 a1 a2} {h : Hp} {o : OU} {h' : Hp}, FX10_isSafeBy a0 a1 a2 h = some (o, h') → VM G mX10_isSafeBy (d - 1) [.ref a0, .int a1, .int a2] h o h') {r0  x1  x2 } {h : Hp} {o : OU} {h' : Hp} (e : kX10_isSafeBy_0 rec FX10_isSafeBy r0 x1 x2 h = some (o, h')) : VM G mX10_isSafeBy d [.ref r0, .int x1, .int x2] h o h' := by
  unfold kX10_isSafeBy_0 at e
  refine eX10_isSafeBy r0 x1 x2 (by omega) ?_
  obtain ⟨q1, e⟩ := ob_e e
  refine ⟨q1, ?_⟩
  obtain ⟨q2, e⟩ := ob_e e
  refine ⟨q2, ?_⟩
  obtain ⟨q3, e⟩ := ob_in e
  refine ⟨q3, ?_⟩
  obtain ⟨z5, h4, e4, e⟩ := bI_e e
  refine ⟨z5, h4, (tX10_dirty e4 (by omega)), ?_⟩
  obtain ⟨z8, h7, e5, e⟩ := bI_e e
  refine ⟨z8, h7, (tX10_ones e5 (by omega)), ?_⟩
  refine ⟨fun c6 => ?_, fun c6 => ?_⟩
  · have e := if_t e c6
    exact hrec _ _ _ _ _ _ e
  · have e := if_f e c6
    cases e
    exact ⟨rfl, rfl⟩
def kX10_isSafeBy_24 (rec : Nat → List Value → List Value → Hp → RS) (FX10_isSafeBy : Nat → Int32 → Int32 → Hp → RS) (r0 : Nat) (x1 : Int32) (x2 : Int32) (x3 : Int32) (x4 : Int32) (h : Hp) : RS := (if kH h r0 = 18 then (if (h.2 r0 11) ≤ x4 then (if ¬ x3 = 0 then (some (.inl (some (.int 0)), h)) else (some (.inl (some (.int 1)), h))) else (bI (fX10_has x3 x4 h) fun z5 h4 => (if ¬ z5 = 0 then (if kH h4 r0 = 18 then (if kH h4 (rH h4 r0 26) = 7 then (if inB x1 (lH h4 (rH h4 r0 26)) = true then (if inB (x1 + 1) (lH h4 (rH h4 r0 26)) = true then (bV (fX10_copies (rH h4 (rH h4 r0 26) x1.toNatClampNeg) (rH h4 (rH h4 r0 26) (x1 + 1).toNatClampNeg) h4) fun h12 => (if kH h12 r0 = 18 then (if kH h12 (rH h12 r0 26) = 7 then (if inB (x1 + 1) (lH h12 (rH h12 r0 26)) = true then (bI (fX10_writes r0 (rH h12 (rH h12 r0 26) (x1 + 1).toNatClampNeg) x4 h12) fun z18 h17 => (if kH h17 r0 = 18 then (bI (FX10_isSafeBy r0 (x1 + 1) (x2 - 1) h17) fun z21 h20 => (if z21 = 0 then (rec 24 [.ref r0, .int x1, .int x2, .int x3, .int (x4 + 1)] [] h20) else (some (.inl (some (.int 1)), h20)))) else none)) else none) else none) else none)) else none) else none) else none) else none) else (rec 24 [.ref r0, .int x1, .int x2, .int x3, .int (x4 + 1)] [] h4)))) else none)
theorem uX10_isSafeBy_24 {G : GG} {d : Nat} (hd : 8 ≤ d) (rec : Nat → List Value → List Value → Hp → RS) (hrec : ∀ pc loc st h o h', rec pc loc st h = some (o, h') → V G mX10_isSafeBy d pc loc st h o h') (FX10_isSafeBy : Nat → Int32 → Int32 → Hp → RS) (TFX10_isSafeBy : ∀ {a0 a1 a2} {h : Hp} {o : OU} {h' : Hp}, FX10_isSafeBy a0 a1 a2 h = some (o, h') → VM G mX10_isSafeBy (d - 1) [.ref a0, .int a1, .int a2] h o h') {r0  x1  x2  x3  x4 } {h : Hp} {o : OU} {h' : Hp} (e : kX10_isSafeBy_24 rec FX10_isSafeBy r0 x1 x2 x3 x4 h = some (o, h')) : V G mX10_isSafeBy d 24 [.ref r0, .int x1, .int x2, .int x3, .int x4] [] h o h' := by
  unfold kX10_isSafeBy_24 at e
  refine bX10_isSafeBy_24 r0 x1 x2 x3 x4 (by omega) ?_
  obtain ⟨q1, e⟩ := ob_e e
  refine ⟨q1, ?_⟩
  refine ⟨fun c2 => ?_, fun c2 => ?_⟩
  · have e := if_t e c2
    refine ⟨fun c3 => ?_, fun c3 => ?_⟩
    · have e := if_t e c3
      cases e
      exact ⟨rfl, rfl⟩
    · have e := if_n e c3
      cases e
      exact ⟨rfl, rfl⟩
  · have e := if_f e c2
    obtain ⟨z5, h4, e4, e⟩ := bI_e e
    refine ⟨z5, h4, (tX10_has e4 (by omega)), ?_⟩
    refine ⟨fun c5 => ?_, fun c5 => ?_⟩
    · have e := if_t e c5
      obtain ⟨q6, e⟩ := ob_e e
      refine ⟨q6, ?_⟩
      obtain ⟨q7, e⟩ := ob_e e
      refine ⟨q7, ?_⟩
      obtain ⟨q8, e⟩ := ob_in e
      refine ⟨q8, ?_⟩
      obtain ⟨q9, e⟩ := ob_in e
      refine ⟨q9, ?_⟩
      obtain ⟨h12, e10, e⟩ := bV_e e
      refine ⟨h12, (tX10_copies e10 (by omega)), ?_⟩
      obtain ⟨q11, e⟩ := ob_e e
      refine ⟨q11, ?_⟩
      obtain ⟨q12, e⟩ := ob_e e
      refine ⟨q12, ?_⟩
      obtain ⟨q13, e⟩ := ob_in e
      refine ⟨q13, ?_⟩
      obtain ⟨z18, h17, e14, e⟩ := bI_e e
      refine ⟨z18, h17, (tX10_writes e14 (by omega)), ?_⟩
      obtain ⟨q15, e⟩ := ob_e e
      refine ⟨q15, ?_⟩
      obtain ⟨z21, h20, e16, e⟩ := bI_e e
      refine ⟨z21, h20, (TFX10_isSafeBy e16), ?_⟩
      refine ⟨fun c17 => ?_, fun c17 => ?_⟩
      · have e := if_t e c17
        exact hrec _ _ _ _ _ _ e
      · have e := if_f e c17
        cases e
        exact ⟨rfl, rfl⟩
    · have e := if_n e c5
      exact hrec _ _ _ _ _ _ e
def sX10_isSafeBy (FX10_isSafeBy : Nat → Int32 → Int32 → Hp → RS) (rec : Nat → List Value → List Value → Hp → RS) (pc : Nat) (loc st : List Value) (h : Hp) : RS := match pc, loc, st with
  | 24, [.ref r0, .int x1, .int x2, .int x3, .int x4], [] => kX10_isSafeBy_24 rec FX10_isSafeBy r0 x1 x2 x3 x4 h
  | _, _, _ => none
def gX10_isSafeBy (FX10_isSafeBy : Nat → Int32 → Int32 → Hp → RS) : Nat → Nat → List Value → List Value → Hp → RS
  | 0 => fun _ _ _ _ => none
  | n + 1 => sX10_isSafeBy FX10_isSafeBy (gX10_isSafeBy FX10_isSafeBy n)
theorem wX10_isSafeBy {G : GG} {d : Nat} (hd : 8 ≤ d) (FX10_isSafeBy : Nat → Int32 → Int32 → Hp → RS) (TFX10_isSafeBy : ∀ {a0 a1 a2} {h : Hp} {o : OU} {h' : Hp}, FX10_isSafeBy a0 a1 a2 h = some (o, h') → VM G mX10_isSafeBy (d - 1) [.ref a0, .int a1, .int a2] h o h') : ∀ (n pc : Nat) (loc st : List Value) (h : Hp) (o : OU) (h' : Hp), gX10_isSafeBy FX10_isSafeBy n pc loc st h = some (o, h') → V G mX10_isSafeBy d pc loc st h o h' := by
  intro n
  induction n with
  | zero => intro pc loc st h o h' e; cases e
  | succ n ih =>
    intro pc loc st h o h' e
    unfold gX10_isSafeBy sX10_isSafeBy at e
    split at e
    · exact uX10_isSafeBy_24 hd _ ih _ TFX10_isSafeBy e
    · cases e
theorem zX10_isSafeBy_24 (FX10_isSafeBy : Nat → Int32 → Int32 → Hp → RS) (n : Nat) (r0 : Nat) (x1 : Int32) (x2 : Int32) (x3 : Int32) (x4 : Int32)  (h : Hp) : gX10_isSafeBy FX10_isSafeBy (n + 1) 24 [.ref r0, .int x1, .int x2, .int x3, .int x4] [] h = kX10_isSafeBy_24 (gX10_isSafeBy FX10_isSafeBy n) FX10_isSafeBy r0 x1 x2 x3 x4 h := rfl
def rX10_isSafeBy : Nat → (Nat → Int32 → Int32 → Hp → RS)
  | 0 => fun _ _ _ _ => none
  | n + 1 => fun a0 a1 a2 h => kX10_isSafeBy_0 (gX10_isSafeBy ((rX10_isSafeBy n)) FF) ((rX10_isSafeBy n)) a0 a1 a2 h
theorem rtX10_isSafeBy {G : GG} : ∀ (n d : Nat), 8 + n ≤ d → (∀ (a0 : Nat) (a1 : Int32) (a2 : Int32) (h : Hp) (o : OU) (h' : Hp), (rX10_isSafeBy n) a0 a1 a2 h = some (o, h') → VM G mX10_isSafeBy d [.ref a0, .int a1, .int a2] h o h') := by
  intro n
  induction n with
  | zero => intro d hd; exact fun _ _ _ _ _ _ e => (by cases e)
  | succ n ih =>
    intro d hd
    have ih := ih (d - 1) (by omega)
    exact fun _ _ _ _ _ _ e => uX10_isSafeBy_0 (by omega) _ (wX10_isSafeBy (by omega) _ (@fun _ _ _ _ _ _ e => ih _ _ _ _ _ _ e) FF) _ (@fun _ _ _ _ _ _ e => ih _ _ _ _ _ _ e) e
def fX10_isSafeBy (a0 : Nat) (a1 : Int32) (a2 : Int32) (h : Hp) : RS := (rX10_isSafeBy 40) a0 a1 a2 h
theorem tX10_isSafeBy {G : GG} {d : Nat} {a0 a1 a2} {h : Hp} {o : OU} {h' : Hp} (e : fX10_isSafeBy a0 a1 a2 h = some (o, h')) (hd : 8 + 40 ≤ d) : VM G mX10_isSafeBy d [.ref a0, .int a1, .int a2] h o h' := (rtX10_isSafeBy 40 d hd) _ _ _ _ _ _ e
def kX10_fewest_0 (rec : Nat → List Value → List Value → Hp → RS)  (r0 : Nat) (h : Hp) : RS := (if kH h r0 = 18 then (if kH h (rH h r0 26) = 7 then (if inB 0 (lH h (rH h r0 26)) = true then (bV (fX10_copies (rH h r0 22) (rH h (rH h r0 26) 0) (h.1, (upI h.2 r0 0 0))) fun h4 => (rec 20 [.ref r0, .int 0] [] h4)) else none) else none) else none)
theorem uX10_fewest_0 {G : GG} {d : Nat} (hd : 49 ≤ d) (rec : Nat → List Value → List Value → Hp → RS) (hrec : ∀ pc loc st h o h', rec pc loc st h = some (o, h') → V G mX10_fewest d pc loc st h o h')   {r0 } {h : Hp} {o : OU} {h' : Hp} (e : kX10_fewest_0 rec  r0 h = some (o, h')) : VM G mX10_fewest d [.ref r0] h o h' := by
  unfold kX10_fewest_0 at e
  refine eX10_fewest r0 (by omega) ?_
  obtain ⟨q1, e⟩ := ob_e e
  refine ⟨q1, ?_⟩
  obtain ⟨q2, e⟩ := ob_e e
  refine ⟨q2, ?_⟩
  obtain ⟨q3, e⟩ := ob_in e
  refine ⟨q3, ?_⟩
  obtain ⟨h4, e4, e⟩ := bV_e e
  refine ⟨h4, (tX10_copies e4 (by omega)), ?_⟩
  exact hrec _ _ _ _ _ _ e
def kX10_fewest_20 (rec : Nat → List Value → List Value → Hp → RS)  (r0 : Nat) (x1 : Int32) (h : Hp) : RS := (if 4 < x1 then (some (.inl (some (.int (-1))), h)) else (if kH h r0 = 18 then (bI (fX10_isSafeBy r0 0 x1 h) fun z3 h2 => (if z3 = 0 then (rec 20 [.ref r0, .int (x1 + 1)] [] h2) else (some (.inl (some (.int x1)), h2)))) else none))
theorem uX10_fewest_20 {G : GG} {d : Nat} (hd : 49 ≤ d) (rec : Nat → List Value → List Value → Hp → RS) (hrec : ∀ pc loc st h o h', rec pc loc st h = some (o, h') → V G mX10_fewest d pc loc st h o h')   {r0  x1 } {h : Hp} {o : OU} {h' : Hp} (e : kX10_fewest_20 rec  r0 x1 h = some (o, h')) : V G mX10_fewest d 20 [.ref r0, .int x1] [] h o h' := by
  unfold kX10_fewest_20 at e
  refine bX10_fewest_20 r0 x1 (by omega) ?_
  refine ⟨fun c1 => ?_, fun c1 => ?_⟩
  · have e := if_t e c1
    cases e
    exact ⟨rfl, rfl⟩
  · have e := if_f e c1
    obtain ⟨q2, e⟩ := ob_e e
    refine ⟨q2, ?_⟩
    obtain ⟨z3, h2, e3, e⟩ := bI_e e
    refine ⟨z3, h2, (tX10_isSafeBy e3 (by omega)), ?_⟩
    refine ⟨fun c4 => ?_, fun c4 => ?_⟩
    · have e := if_t e c4
      exact hrec _ _ _ _ _ _ e
    · have e := if_f e c4
      cases e
      exact ⟨rfl, rfl⟩
def sX10_fewest  (rec : Nat → List Value → List Value → Hp → RS) (pc : Nat) (loc st : List Value) (h : Hp) : RS := match pc, loc, st with
  | 20, [.ref r0, .int x1], [] => kX10_fewest_20 rec  r0 x1 h
  | _, _, _ => none
def gX10_fewest  : Nat → Nat → List Value → List Value → Hp → RS
  | 0 => fun _ _ _ _ => none
  | n + 1 => sX10_fewest  (gX10_fewest  n)
theorem wX10_fewest {G : GG} {d : Nat} (hd : 49 ≤ d)   : ∀ (n pc : Nat) (loc st : List Value) (h : Hp) (o : OU) (h' : Hp), gX10_fewest  n pc loc st h = some (o, h') → V G mX10_fewest d pc loc st h o h' := by
  intro n
  induction n with
  | zero => intro pc loc st h o h' e; cases e
  | succ n ih =>
    intro pc loc st h o h' e
    unfold gX10_fewest sX10_fewest at e
    split at e
    · exact uX10_fewest_20 hd _ ih   e
    · cases e
theorem zX10_fewest_20  (n : Nat) (r0 : Nat) (x1 : Int32)  (h : Hp) : gX10_fewest  (n + 1) 20 [.ref r0, .int x1] [] h = kX10_fewest_20 (gX10_fewest  n)  r0 x1 h := rfl
def fX10_fewest (r0 : Nat) (h : Hp) : RS := kX10_fewest_0 (gX10_fewest FF) r0 h
theorem tX10_fewest {G : GG} {d : Nat} {r0} {h : Hp} {o : OU} {h' : Hp} (e : fX10_fewest r0 h = some (o, h')) (hd : 49 ≤ d) : VM G mX10_fewest d [.ref r0] h o h' := uX10_fewest_0 hd _ (wX10_fewest hd FF) e
def kX10_finds_0  (r0 : Nat) (h : Hp) : RS := (if kH h r0 = 18 then (bI (fX10_sweepAt r0 (rH h r0 22) (h.1, (upI h.2 r0 0 0))) fun z3 h2 => (some (.inl (some (.int z3)), h2))) else none)
theorem uX10_finds_0 {G : GG} {d : Nat} (hd : 7 ≤ d)   {r0 } {h : Hp} {o : OU} {h' : Hp} (e : kX10_finds_0  r0 h = some (o, h')) : VM G mX10_finds d [.ref r0] h o h' := by
  unfold kX10_finds_0 at e
  refine eX10_finds r0 (by omega) ?_
  obtain ⟨q1, e⟩ := ob_e e
  refine ⟨q1, ?_⟩
  obtain ⟨z3, h2, e2, e⟩ := bI_e e
  refine ⟨z3, h2, (tX10_sweepAt e2 (by omega)), ?_⟩
  cases e
  exact ⟨rfl, rfl⟩
def fX10_finds (r0 : Nat) (h : Hp) : RS := kX10_finds_0 r0 h
theorem tX10_finds {G : GG} {d : Nat} {r0} {h : Hp} {o : OU} {h' : Hp} (e : fX10_finds r0 h = some (o, h')) (hd : 7 ≤ d) : VM G mX10_finds d [.ref r0] h o h' := uX10_finds_0 hd e
def kX10_sweeps_0 (rec : Nat → List Value → List Value → Hp → RS)  (r0 : Nat) (h : Hp) : RS := (if kH h r0 = 18 then (bV (fX10_copies (rH h r0 22) (rH h r0 23) (h.1, (upI h.2 r0 0 0))) fun h2 => (if kH h2 r0 = 18 then (bI (fX10_crashes (rH h2 r0 23) h2) fun z6 h5 => (rec 26 [.ref r0, .int 0] [] h5)) else none)) else none)
theorem uX10_sweeps_0 {G : GG} {d : Nat} (hd : 9 ≤ d) (rec : Nat → List Value → List Value → Hp → RS) (hrec : ∀ pc loc st h o h', rec pc loc st h = some (o, h') → V G mX10_sweeps d pc loc st h o h')   {r0 } {h : Hp} {o : OU} {h' : Hp} (e : kX10_sweeps_0 rec  r0 h = some (o, h')) : VM G mX10_sweeps d [.ref r0] h o h' := by
  unfold kX10_sweeps_0 at e
  refine eX10_sweeps r0 (by omega) ?_
  obtain ⟨q1, e⟩ := ob_e e
  refine ⟨q1, ?_⟩
  obtain ⟨h2, e2, e⟩ := bV_e e
  refine ⟨h2, (tX10_copies e2 (by omega)), ?_⟩
  obtain ⟨q3, e⟩ := ob_e e
  refine ⟨q3, ?_⟩
  obtain ⟨z6, h5, e4, e⟩ := bI_e e
  refine ⟨z6, h5, (tX10_crashes e4 (by omega)), ?_⟩
  exact hrec _ _ _ _ _ _ e
def kX10_sweeps_26 (rec : Nat → List Value → List Value → Hp → RS)  (r0 : Nat) (x1 : Int32) (h : Hp) : RS := (if kH h r0 = 18 then (bI (fX10_sweepsOne r0 (rH h r0 23) h) fun z3 h2 => (if z3 = 0 then (some (.inl (some (.int x1)), h2)) else (if kH h2 r0 = 18 then (bI (fX10_settles r0 (rH h2 r0 23) h2) fun z8 h7 => (rec 26 [.ref r0, .int (x1 + 1)] [] h7)) else none))) else none)
theorem uX10_sweeps_26 {G : GG} {d : Nat} (hd : 9 ≤ d) (rec : Nat → List Value → List Value → Hp → RS) (hrec : ∀ pc loc st h o h', rec pc loc st h = some (o, h') → V G mX10_sweeps d pc loc st h o h')   {r0  x1 } {h : Hp} {o : OU} {h' : Hp} (e : kX10_sweeps_26 rec  r0 x1 h = some (o, h')) : V G mX10_sweeps d 26 [.ref r0, .int x1] [] h o h' := by
  unfold kX10_sweeps_26 at e
  refine bX10_sweeps_26 r0 x1 (by omega) ?_
  obtain ⟨q1, e⟩ := ob_e e
  refine ⟨q1, ?_⟩
  obtain ⟨z3, h2, e2, e⟩ := bI_e e
  refine ⟨z3, h2, (tX10_sweepsOne e2 (by omega)), ?_⟩
  refine ⟨fun c3 => ?_, fun c3 => ?_⟩
  · have e := if_t e c3
    cases e
    exact ⟨rfl, rfl⟩
  · have e := if_f e c3
    obtain ⟨q4, e⟩ := ob_e e
    refine ⟨q4, ?_⟩
    obtain ⟨z8, h7, e5, e⟩ := bI_e e
    refine ⟨z8, h7, (tX10_settles e5 (by omega)), ?_⟩
    exact hrec _ _ _ _ _ _ e
def sX10_sweeps  (rec : Nat → List Value → List Value → Hp → RS) (pc : Nat) (loc st : List Value) (h : Hp) : RS := match pc, loc, st with
  | 26, [.ref r0, .int x1], [] => kX10_sweeps_26 rec  r0 x1 h
  | _, _, _ => none
def gX10_sweeps  : Nat → Nat → List Value → List Value → Hp → RS
  | 0 => fun _ _ _ _ => none
  | n + 1 => sX10_sweeps  (gX10_sweeps  n)
theorem wX10_sweeps {G : GG} {d : Nat} (hd : 9 ≤ d)   : ∀ (n pc : Nat) (loc st : List Value) (h : Hp) (o : OU) (h' : Hp), gX10_sweeps  n pc loc st h = some (o, h') → V G mX10_sweeps d pc loc st h o h' := by
  intro n
  induction n with
  | zero => intro pc loc st h o h' e; cases e
  | succ n ih =>
    intro pc loc st h o h' e
    unfold gX10_sweeps sX10_sweeps at e
    split at e
    · exact uX10_sweeps_26 hd _ ih   e
    · cases e
theorem zX10_sweeps_26  (n : Nat) (r0 : Nat) (x1 : Int32)  (h : Hp) : gX10_sweeps  (n + 1) 26 [.ref r0, .int x1] [] h = kX10_sweeps_26 (gX10_sweeps  n)  r0 x1 h := rfl
def fX10_sweeps (r0 : Nat) (h : Hp) : RS := kX10_sweeps_0 (gX10_sweeps FF) r0 h
theorem tX10_sweeps {G : GG} {d : Nat} {r0} {h : Hp} {o : OU} {h' : Hp} (e : fX10_sweeps r0 h = some (o, h')) (hd : 9 ≤ d) : VM G mX10_sweeps d [.ref r0] h o h' := uX10_sweeps_0 hd _ (wX10_sweeps hd FF) e
def kX10_isSo_0 (rec : Nat → List Value → List Value → Hp → RS)  (r0 : Nat) (x1 : Int32) (h : Hp) : RS := (if kH h r0 = 18 then (bI (fX10_copiesBlock r0 (rH h r0 22) x1 h) fun z3 h2 => (rec 12 [.ref r0, uV, .int 0] [] h2)) else none)
theorem uX10_isSo_0 {G : GG} {d : Nat} (hd : 5 ≤ d) (rec : Nat → List Value → List Value → Hp → RS) (hrec : ∀ pc loc st h o h', rec pc loc st h = some (o, h') → V G mX10_isSo d pc loc st h o h')   {r0  x1 } {h : Hp} {o : OU} {h' : Hp} (e : kX10_isSo_0 rec  r0 x1 h = some (o, h')) : VM G mX10_isSo d [.ref r0, .int x1] h o h' := by
  unfold kX10_isSo_0 at e
  refine eX10_isSo r0 x1 (by omega) ?_
  obtain ⟨q1, e⟩ := ob_e e
  refine ⟨q1, ?_⟩
  obtain ⟨z3, h2, e2, e⟩ := bI_e e
  refine ⟨z3, h2, (tX10_copiesBlock e2 (by omega)), ?_⟩
  exact hrec _ _ _ _ _ _ e
def kX10_isSo_12 (rec : Nat → List Value → List Value → Hp → RS)  (r0 : Nat) (x2 : Int32) (h : Hp) : RS := (if kH h r0 = 18 then (if (h.2 r0 13) ≤ x2 then (some (.inl (some (.int 1)), h)) else (if kH h (rH h r0 19) = 7 then (if inB x2 (lH h (rH h r0 19)) = true then (if kH h (rH h (rH h r0 19) x2.toNatClampNeg) = 1 then (if inB 0 (lH h (rH h (rH h r0 19) x2.toNatClampNeg)) = true then (if kH h (rH h r0 28) = 1 then (if inB (h.2 (rH h (rH h r0 19) x2.toNatClampNeg) 0) (lH h (rH h r0 28)) = true then (if inB 1 (lH h (rH h (rH h r0 19) x2.toNatClampNeg)) = true then (if (h.2 (rH h r0 28) (h.2 (rH h (rH h r0 19) x2.toNatClampNeg) 0).toNatClampNeg) = (h.2 (rH h (rH h r0 19) x2.toNatClampNeg) 1) then (rec 12 [.ref r0, uV, .int (x2 + 1)] [] h) else (some (.inl (some (.int 0)), h))) else none) else none) else none) else none) else none) else none) else none)) else none)
theorem uX10_isSo_12 {G : GG} {d : Nat} (hd : 5 ≤ d) (rec : Nat → List Value → List Value → Hp → RS) (hrec : ∀ pc loc st h o h', rec pc loc st h = some (o, h') → V G mX10_isSo d pc loc st h o h')   {r0  x2 } {h : Hp} {o : OU} {h' : Hp} (e : kX10_isSo_12 rec  r0 x2 h = some (o, h')) : V G mX10_isSo d 12 [.ref r0, uV, .int x2] [] h o h' := by
  unfold kX10_isSo_12 at e
  refine bX10_isSo_12 r0 x2 ?_
  obtain ⟨q1, e⟩ := ob_e e
  refine ⟨q1, ?_⟩
  refine ⟨fun c2 => ?_, fun c2 => ?_⟩
  · have e := if_t e c2
    cases e
    exact ⟨rfl, rfl⟩
  · have e := if_f e c2
    obtain ⟨q3, e⟩ := ob_e e
    refine ⟨q3, ?_⟩
    obtain ⟨q4, e⟩ := ob_in e
    refine ⟨q4, ?_⟩
    obtain ⟨q5, e⟩ := ob_e e
    refine ⟨q5, ?_⟩
    obtain ⟨q6, e⟩ := ob_in e
    refine ⟨q6, ?_⟩
    obtain ⟨q7, e⟩ := ob_e e
    refine ⟨q7, ?_⟩
    obtain ⟨q8, e⟩ := ob_in e
    refine ⟨q8, ?_⟩
    obtain ⟨q9, e⟩ := ob_in e
    refine ⟨q9, ?_⟩
    refine ⟨fun c10 => ?_, fun c10 => ?_⟩
    · have e := if_t e c10
      exact hrec _ _ _ _ _ _ e
    · have e := if_f e c10
      cases e
      exact ⟨rfl, rfl⟩
def sX10_isSo  (rec : Nat → List Value → List Value → Hp → RS) (pc : Nat) (loc st : List Value) (h : Hp) : RS := match pc, loc, st with
  | 12, [.ref r0, _, .int x2], [] => kX10_isSo_12 rec  r0 x2 h
  | _, _, _ => none
def gX10_isSo  : Nat → Nat → List Value → List Value → Hp → RS
  | 0 => fun _ _ _ _ => none
  | n + 1 => sX10_isSo  (gX10_isSo  n)
theorem wX10_isSo {G : GG} {d : Nat} (hd : 5 ≤ d)   : ∀ (n pc : Nat) (loc st : List Value) (h : Hp) (o : OU) (h' : Hp), gX10_isSo  n pc loc st h = some (o, h') → V G mX10_isSo d pc loc st h o h' := by
  intro n
  induction n with
  | zero => intro pc loc st h o h' e; cases e
  | succ n ih =>
    intro pc loc st h o h' e
    unfold gX10_isSo sX10_isSo at e
    split at e
    · exact V.drop (llp_r (llp_u (llp_r llp_nil))) (uX10_isSo_12 hd _ ih   e)
    · cases e
theorem zX10_isSo_12  (n : Nat) (r0 : Nat) (x2 : Int32) (y1 : Value) (h : Hp) : gX10_isSo  (n + 1) 12 [.ref r0, y1, .int x2] [] h = kX10_isSo_12 (gX10_isSo  n)  r0 x2 h := rfl
def fX10_isSo (r0 : Nat) (x1 : Int32) (h : Hp) : RS := kX10_isSo_0 (gX10_isSo FF) r0 x1 h
theorem tX10_isSo {G : GG} {d : Nat} {r0 x1} {h : Hp} {o : OU} {h' : Hp} (e : fX10_isSo r0 x1 h = some (o, h')) (hd : 5 ≤ d) : VM G mX10_isSo d [.ref r0, .int x1] h o h' := uX10_isSo_0 hd _ (wX10_isSo hd FF) e
def kX10_fitsNow_0 (rec : Nat → List Value → List Value → Hp → RS)  (r0 : Nat) (h : Hp) : RS := (rec 4 [.ref r0, .int 0, .int 0] [] h)
theorem uX10_fitsNow_0 {G : GG} {d : Nat} (hd : 6 ≤ d) (rec : Nat → List Value → List Value → Hp → RS) (hrec : ∀ pc loc st h o h', rec pc loc st h = some (o, h') → V G mX10_fitsNow d pc loc st h o h')   {r0 } {h : Hp} {o : OU} {h' : Hp} (e : kX10_fitsNow_0 rec  r0 h = some (o, h')) : VM G mX10_fitsNow d [.ref r0] h o h' := by
  unfold kX10_fitsNow_0 at e
  refine eX10_fitsNow r0 ?_
  exact hrec _ _ _ _ _ _ e
def kX10_fitsNow_4 (rec : Nat → List Value → List Value → Hp → RS)  (r0 : Nat) (x1 : Int32) (x2 : Int32) (h : Hp) : RS := (if kH h r0 = 18 then (if (h.2 r0 11) ≤ x2 then (some (.inl (some (.int x1)), h)) else (bI (fX10_isDirty (rH h r0 22) x2 h) fun z4 h3 => (if z4 = 0 then (rec 4 [.ref r0, .int (x1 ||| 0), .int (x2 + 1)] [] h3) else (if kH h3 r0 = 18 then (bI (fX10_isSo r0 x2 h3) fun z8 h7 => (if z8 = 0 then (rec 4 [.ref r0, .int (x1 ||| 0), .int (x2 + 1)] [] h7) else (rec 4 [.ref r0, .int (x1 ||| (1 <<< (x2 &&& 31))), .int (x2 + 1)] [] h7))) else none)))) else none)
theorem uX10_fitsNow_4 {G : GG} {d : Nat} (hd : 6 ≤ d) (rec : Nat → List Value → List Value → Hp → RS) (hrec : ∀ pc loc st h o h', rec pc loc st h = some (o, h') → V G mX10_fitsNow d pc loc st h o h')   {r0  x1  x2 } {h : Hp} {o : OU} {h' : Hp} (e : kX10_fitsNow_4 rec  r0 x1 x2 h = some (o, h')) : V G mX10_fitsNow d 4 [.ref r0, .int x1, .int x2] [] h o h' := by
  unfold kX10_fitsNow_4 at e
  refine bX10_fitsNow_4 r0 x1 x2 (by omega) ?_
  obtain ⟨q1, e⟩ := ob_e e
  refine ⟨q1, ?_⟩
  refine ⟨fun c2 => ?_, fun c2 => ?_⟩
  · have e := if_t e c2
    cases e
    exact ⟨rfl, rfl⟩
  · have e := if_f e c2
    obtain ⟨z4, h3, e3, e⟩ := bI_e e
    refine ⟨z4, h3, (tX10_isDirty e3 (by omega)), ?_⟩
    refine ⟨fun c4 => ?_, fun c4 => ?_⟩
    · have e := if_t e c4
      exact hrec _ _ _ _ _ _ e
    · have e := if_f e c4
      obtain ⟨q5, e⟩ := ob_e e
      refine ⟨q5, ?_⟩
      obtain ⟨z8, h7, e6, e⟩ := bI_e e
      refine ⟨z8, h7, (tX10_isSo e6 (by omega)), ?_⟩
      refine ⟨fun c7 => ?_, fun c7 => ?_⟩
      · have e := if_t e c7
        exact hrec _ _ _ _ _ _ e
      · have e := if_f e c7
        exact hrec _ _ _ _ _ _ e
def sX10_fitsNow  (rec : Nat → List Value → List Value → Hp → RS) (pc : Nat) (loc st : List Value) (h : Hp) : RS := match pc, loc, st with
  | 4, [.ref r0, .int x1, .int x2], [] => kX10_fitsNow_4 rec  r0 x1 x2 h
  | _, _, _ => none
def gX10_fitsNow  : Nat → Nat → List Value → List Value → Hp → RS
  | 0 => fun _ _ _ _ => none
  | n + 1 => sX10_fitsNow  (gX10_fitsNow  n)
theorem wX10_fitsNow {G : GG} {d : Nat} (hd : 6 ≤ d)   : ∀ (n pc : Nat) (loc st : List Value) (h : Hp) (o : OU) (h' : Hp), gX10_fitsNow  n pc loc st h = some (o, h') → V G mX10_fitsNow d pc loc st h o h' := by
  intro n
  induction n with
  | zero => intro pc loc st h o h' e; cases e
  | succ n ih =>
    intro pc loc st h o h' e
    unfold gX10_fitsNow sX10_fitsNow at e
    split at e
    · exact uX10_fitsNow_4 hd _ ih   e
    · cases e
theorem zX10_fitsNow_4  (n : Nat) (r0 : Nat) (x1 : Int32) (x2 : Int32)  (h : Hp) : gX10_fitsNow  (n + 1) 4 [.ref r0, .int x1, .int x2] [] h = kX10_fitsNow_4 (gX10_fitsNow  n)  r0 x1 x2 h := rfl
def fX10_fitsNow (r0 : Nat) (h : Hp) : RS := kX10_fitsNow_0 (gX10_fitsNow FF) r0 h
theorem tX10_fitsNow {G : GG} {d : Nat} {r0} {h : Hp} {o : OU} {h' : Hp} (e : fX10_fitsNow r0 h = some (o, h')) (hd : 6 ≤ d) : VM G mX10_fitsNow d [.ref r0] h o h' := uX10_fitsNow_0 hd _ (wX10_fitsNow hd FF) e
def kX10_fits_0  (r0 : Nat) (h : Hp) : RS := (if kH h r0 = 18 then (bI (fX10_fitsNow r0 (h.1, (upI h.2 r0 0 0))) fun z3 h2 => (some (.inl (some (.int z3)), h2))) else none)
theorem uX10_fits_0 {G : GG} {d : Nat} (hd : 7 ≤ d)   {r0 } {h : Hp} {o : OU} {h' : Hp} (e : kX10_fits_0  r0 h = some (o, h')) : VM G mX10_fits d [.ref r0] h o h' := by
  unfold kX10_fits_0 at e
  refine eX10_fits r0 (by omega) ?_
  obtain ⟨q1, e⟩ := ob_e e
  refine ⟨q1, ?_⟩
  obtain ⟨z3, h2, e2, e⟩ := bI_e e
  refine ⟨z3, h2, (tX10_fitsNow e2 (by omega)), ?_⟩
  cases e
  exact ⟨rfl, rfl⟩
def fX10_fits (r0 : Nat) (h : Hp) : RS := kX10_fits_0 r0 h
theorem tX10_fits {G : GG} {d : Nat} {r0} {h : Hp} {o : OU} {h' : Hp} (e : fX10_fits r0 h = some (o, h')) (hd : 7 ≤ d) : VM G mX10_fits d [.ref r0] h o h' := uX10_fits_0 hd e
def kX10_isTold_0 (rec : Nat → List Value → List Value → Hp → RS)  (r0 : Nat) (x1 : Int32) (h : Hp) : RS := (rec 2 [.ref r0, .int x1, .int 0] [] h)
theorem uX10_isTold_0 {G : GG} {d : Nat} (hd : 1 ≤ d) (rec : Nat → List Value → List Value → Hp → RS) (hrec : ∀ pc loc st h o h', rec pc loc st h = some (o, h') → V G mX10_isTold d pc loc st h o h')   {r0  x1 } {h : Hp} {o : OU} {h' : Hp} (e : kX10_isTold_0 rec  r0 x1 h = some (o, h')) : VM G mX10_isTold d [.ref r0, .int x1] h o h' := by
  unfold kX10_isTold_0 at e
  refine eX10_isTold r0 x1 ?_
  exact hrec _ _ _ _ _ _ e
def kX10_isTold_2 (rec : Nat → List Value → List Value → Hp → RS)  (r0 : Nat) (x1 : Int32) (x2 : Int32) (h : Hp) : RS := (if kH h r0 = 18 then (if (h.2 r0 13) ≤ x2 then (some (.inl (some (.int 0)), h)) else (if kH h (rH h r0 19) = 7 then (if inB x2 (lH h (rH h r0 19)) = true then (if kH h (rH h (rH h r0 19) x2.toNatClampNeg) = 1 then (if inB 0 (lH h (rH h (rH h r0 19) x2.toNatClampNeg)) = true then (if ¬ (h.2 (rH h (rH h r0 19) x2.toNatClampNeg) 0) = x1 then (rec 2 [.ref r0, .int x1, .int (x2 + 1)] [] h) else (some (.inl (some (.int 1)), h))) else none) else none) else none) else none)) else none)
theorem uX10_isTold_2 {G : GG} {d : Nat} (hd : 1 ≤ d) (rec : Nat → List Value → List Value → Hp → RS) (hrec : ∀ pc loc st h o h', rec pc loc st h = some (o, h') → V G mX10_isTold d pc loc st h o h')   {r0  x1  x2 } {h : Hp} {o : OU} {h' : Hp} (e : kX10_isTold_2 rec  r0 x1 x2 h = some (o, h')) : V G mX10_isTold d 2 [.ref r0, .int x1, .int x2] [] h o h' := by
  unfold kX10_isTold_2 at e
  refine bX10_isTold_2 r0 x1 x2 ?_
  obtain ⟨q1, e⟩ := ob_e e
  refine ⟨q1, ?_⟩
  refine ⟨fun c2 => ?_, fun c2 => ?_⟩
  · have e := if_t e c2
    cases e
    exact ⟨rfl, rfl⟩
  · have e := if_f e c2
    obtain ⟨q3, e⟩ := ob_e e
    refine ⟨q3, ?_⟩
    obtain ⟨q4, e⟩ := ob_in e
    refine ⟨q4, ?_⟩
    obtain ⟨q5, e⟩ := ob_e e
    refine ⟨q5, ?_⟩
    obtain ⟨q6, e⟩ := ob_in e
    refine ⟨q6, ?_⟩
    refine ⟨fun c7 => ?_, fun c7 => ?_⟩
    · have e := if_t e c7
      exact hrec _ _ _ _ _ _ e
    · have e := if_n e c7
      cases e
      exact ⟨rfl, rfl⟩
def sX10_isTold  (rec : Nat → List Value → List Value → Hp → RS) (pc : Nat) (loc st : List Value) (h : Hp) : RS := match pc, loc, st with
  | 2, [.ref r0, .int x1, .int x2], [] => kX10_isTold_2 rec  r0 x1 x2 h
  | _, _, _ => none
def gX10_isTold  : Nat → Nat → List Value → List Value → Hp → RS
  | 0 => fun _ _ _ _ => none
  | n + 1 => sX10_isTold  (gX10_isTold  n)
theorem wX10_isTold {G : GG} {d : Nat} (hd : 1 ≤ d)   : ∀ (n pc : Nat) (loc st : List Value) (h : Hp) (o : OU) (h' : Hp), gX10_isTold  n pc loc st h = some (o, h') → V G mX10_isTold d pc loc st h o h' := by
  intro n
  induction n with
  | zero => intro pc loc st h o h' e; cases e
  | succ n ih =>
    intro pc loc st h o h' e
    unfold gX10_isTold sX10_isTold at e
    split at e
    · exact uX10_isTold_2 hd _ ih   e
    · cases e
theorem zX10_isTold_2  (n : Nat) (r0 : Nat) (x1 : Int32) (x2 : Int32)  (h : Hp) : gX10_isTold  (n + 1) 2 [.ref r0, .int x1, .int x2] [] h = kX10_isTold_2 (gX10_isTold  n)  r0 x1 x2 h := rfl
def fX10_isTold (r0 : Nat) (x1 : Int32) (h : Hp) : RS := kX10_isTold_0 (gX10_isTold FF) r0 x1 h
theorem tX10_isTold {G : GG} {d : Nat} {r0 x1} {h : Hp} {o : OU} {h' : Hp} (e : fX10_isTold r0 x1 h = some (o, h')) (hd : 1 ≤ d) : VM G mX10_isTold d [.ref r0, .int x1] h o h' := uX10_isTold_0 hd _ (wX10_isTold hd FF) e
def kX10_worstAt_0 (rec : Nat → List Value → List Value → Hp → RS)  (r0 : Nat) (x1 : Int32) (x2 : Int32) (h : Hp) : RS := (rec 5 [.ref r0, .int x1, .int x2, .int 0, .int 0] [] h)
theorem uX10_worstAt_0 {G : GG} {d : Nat} (hd : 5 ≤ d) (rec : Nat → List Value → List Value → Hp → RS) (hrec : ∀ pc loc st h o h', rec pc loc st h = some (o, h') → V G mX10_worstAt d pc loc st h o h')   {r0  x1  x2 } {h : Hp} {o : OU} {h' : Hp} (e : kX10_worstAt_0 rec  r0 x1 x2 h = some (o, h')) : VM G mX10_worstAt d [.ref r0, .int x1, .int x2] h o h' := by
  unfold kX10_worstAt_0 at e
  refine eX10_worstAt r0 x1 x2 ?_
  exact hrec _ _ _ _ _ _ e
def kX10_worstAt_5 (rec : Nat → List Value → List Value → Hp → RS)  (r0 : Nat) (x1 : Int32) (x2 : Int32) (x3 : Int32) (x4 : Int32) (h : Hp) : RS := (if 256 ≤ x4 then (rec 30 [.ref r0, .int x1, .int x2, .int x3, .int 0] [] h) else (if kH h r0 = 18 then (if kH h (rH h r0 35) = 1 then (if inB x4 (lH h (rH h r0 35)) = true then (rec 5 [.ref r0, .int x1, .int x2, .int x3, .int (x4 + 1)] [] (h.1, (upI h.2 (rH h r0 35) x4.toNatClampNeg 0))) else none) else none) else none))
theorem uX10_worstAt_5 {G : GG} {d : Nat} (hd : 5 ≤ d) (rec : Nat → List Value → List Value → Hp → RS) (hrec : ∀ pc loc st h o h', rec pc loc st h = some (o, h') → V G mX10_worstAt d pc loc st h o h')   {r0  x1  x2  x3  x4 } {h : Hp} {o : OU} {h' : Hp} (e : kX10_worstAt_5 rec  r0 x1 x2 x3 x4 h = some (o, h')) : V G mX10_worstAt d 5 [.ref r0, .int x1, .int x2, .int x3, .int x4] [] h o h' := by
  unfold kX10_worstAt_5 at e
  refine bX10_worstAt_5 r0 x1 x2 x3 x4 ?_
  refine ⟨fun c1 => ?_, fun c1 => ?_⟩
  · have e := if_t e c1
    exact hrec _ _ _ _ _ _ e
  · have e := if_f e c1
    obtain ⟨q2, e⟩ := ob_e e
    refine ⟨q2, ?_⟩
    obtain ⟨q3, e⟩ := ob_e e
    refine ⟨q3, ?_⟩
    obtain ⟨q4, e⟩ := ob_in e
    refine ⟨q4, ?_⟩
    exact hrec _ _ _ _ _ _ e
def kX10_worstAt_30 (rec : Nat → List Value → List Value → Hp → RS)  (r0 : Nat) (x1 : Int32) (x2 : Int32) (x3 : Int32) (x4 : Int32) (h : Hp) : RS := (if kH h r0 = 18 then (if (h.2 r0 11) ≤ x4 then (some (.inl (some (.int x3)), h)) else (bI (fX10_has x2 x4 h) fun z4 h3 => (if ¬ z4 = 0 then (if kH h3 r0 = 18 then (bI (fX10_copiesBlock r0 (rH h3 r0 22) x4 h3) fun z9 h8 => (if kH h8 r0 = 18 then (if kH h8 (rH h8 r0 28) = 1 then (if inB x1 (lH h8 (rH h8 r0 28)) = true then (if kH h8 (rH h8 r0 35) = 1 then (if inB (h8.2 (rH h8 r0 28) x1.toNatClampNeg) (lH h8 (rH h8 r0 35)) = true then (letH (upI h8.2 (rH h8 r0 35) (h8.2 (rH h8 r0 28) x1.toNatClampNeg).toNatClampNeg ((h8.2 (rH h8 r0 35) (h8.2 (rH h8 r0 28) x1.toNatClampNeg).toNatClampNeg) + 1)) fun (i16 : Nat → Nat → Int32) => (if inB (i16 (rH h8 r0 28) x1.toNatClampNeg) (lH h8 (rH h8 r0 35)) = true then (bI (fX10_more x3 (i16 (rH h8 r0 35) (i16 (rH h8 r0 28) x1.toNatClampNeg).toNatClampNeg) (h8.1, i16)) fun z20 h19 => (rec 30 [.ref r0, .int x1, .int x2, .int z20, .int (x4 + 1)] [] h19)) else none)) else none) else none) else none) else none) else none)) else none) else (rec 30 [.ref r0, .int x1, .int x2, .int x3, .int (x4 + 1)] [] h3)))) else none)
theorem uX10_worstAt_30 {G : GG} {d : Nat} (hd : 5 ≤ d) (rec : Nat → List Value → List Value → Hp → RS) (hrec : ∀ pc loc st h o h', rec pc loc st h = some (o, h') → V G mX10_worstAt d pc loc st h o h')   {r0  x1  x2  x3  x4 } {h : Hp} {o : OU} {h' : Hp} (e : kX10_worstAt_30 rec  r0 x1 x2 x3 x4 h = some (o, h')) : V G mX10_worstAt d 30 [.ref r0, .int x1, .int x2, .int x3, .int x4] [] h o h' := by
  unfold kX10_worstAt_30 at e
  refine bX10_worstAt_30 r0 x1 x2 x3 x4 (by omega) ?_
  obtain ⟨q1, e⟩ := ob_e e
  refine ⟨q1, ?_⟩
  refine ⟨fun c2 => ?_, fun c2 => ?_⟩
  · have e := if_t e c2
    cases e
    exact ⟨rfl, rfl⟩
  · have e := if_f e c2
    obtain ⟨z4, h3, e3, e⟩ := bI_e e
    refine ⟨z4, h3, (tX10_has e3 (by omega)), ?_⟩
    refine ⟨fun c4 => ?_, fun c4 => ?_⟩
    · have e := if_t e c4
      obtain ⟨q5, e⟩ := ob_e e
      refine ⟨q5, ?_⟩
      obtain ⟨z9, h8, e6, e⟩ := bI_e e
      refine ⟨z9, h8, (tX10_copiesBlock e6 (by omega)), ?_⟩
      obtain ⟨q7, e⟩ := ob_e e
      refine ⟨q7, ?_⟩
      obtain ⟨q8, e⟩ := ob_e e
      refine ⟨q8, ?_⟩
      obtain ⟨q9, e⟩ := ob_in e
      refine ⟨q9, ?_⟩
      obtain ⟨q10, e⟩ := ob_e e
      refine ⟨q10, ?_⟩
      obtain ⟨q11, e⟩ := ob_in e
      refine ⟨q11, ?_⟩
      intro i16 evi16
      have e := lt_e evi16 e
      obtain ⟨q12, e⟩ := ob_in e
      refine ⟨q12, ?_⟩
      obtain ⟨z20, h19, e13, e⟩ := bI_e e
      refine ⟨z20, h19, (tX10_more e13 (by omega)), ?_⟩
      exact hrec _ _ _ _ _ _ e
    · have e := if_n e c4
      exact hrec _ _ _ _ _ _ e
def sX10_worstAt  (rec : Nat → List Value → List Value → Hp → RS) (pc : Nat) (loc st : List Value) (h : Hp) : RS := match pc, loc, st with
  | 5, [.ref r0, .int x1, .int x2, .int x3, .int x4], [] => kX10_worstAt_5 rec  r0 x1 x2 x3 x4 h
  | 30, [.ref r0, .int x1, .int x2, .int x3, .int x4], [] => kX10_worstAt_30 rec  r0 x1 x2 x3 x4 h
  | _, _, _ => none
def gX10_worstAt  : Nat → Nat → List Value → List Value → Hp → RS
  | 0 => fun _ _ _ _ => none
  | n + 1 => sX10_worstAt  (gX10_worstAt  n)
theorem wX10_worstAt {G : GG} {d : Nat} (hd : 5 ≤ d)   : ∀ (n pc : Nat) (loc st : List Value) (h : Hp) (o : OU) (h' : Hp), gX10_worstAt  n pc loc st h = some (o, h') → V G mX10_worstAt d pc loc st h o h' := by
  intro n
  induction n with
  | zero => intro pc loc st h o h' e; cases e
  | succ n ih =>
    intro pc loc st h o h' e
    unfold gX10_worstAt sX10_worstAt at e
    split at e
    · exact uX10_worstAt_5 hd _ ih   e
    · exact uX10_worstAt_30 hd _ ih   e
    · cases e
theorem zX10_worstAt_5  (n : Nat) (r0 : Nat) (x1 : Int32) (x2 : Int32) (x3 : Int32) (x4 : Int32)  (h : Hp) : gX10_worstAt  (n + 1) 5 [.ref r0, .int x1, .int x2, .int x3, .int x4] [] h = kX10_worstAt_5 (gX10_worstAt  n)  r0 x1 x2 x3 x4 h := rfl
theorem zX10_worstAt_30  (n : Nat) (r0 : Nat) (x1 : Int32) (x2 : Int32) (x3 : Int32) (x4 : Int32)  (h : Hp) : gX10_worstAt  (n + 1) 30 [.ref r0, .int x1, .int x2, .int x3, .int x4] [] h = kX10_worstAt_30 (gX10_worstAt  n)  r0 x1 x2 x3 x4 h := rfl
def fX10_worstAt (r0 : Nat) (x1 : Int32) (x2 : Int32) (h : Hp) : RS := kX10_worstAt_0 (gX10_worstAt FF) r0 x1 x2 h
theorem tX10_worstAt {G : GG} {d : Nat} {r0 x1 x2} {h : Hp} {o : OU} {h' : Hp} (e : fX10_worstAt r0 x1 x2 h = some (o, h')) (hd : 5 ≤ d) : VM G mX10_worstAt d [.ref r0, .int x1, .int x2] h o h' := uX10_worstAt_0 hd _ (wX10_worstAt hd FF) e
def kX10_look_0 (rec : Nat → List Value → List Value → Hp → RS)  (r0 : Nat) (x1 : Int32) (h : Hp) : RS := (if kH h r0 = 18 then (bI (fX10_in x1 0 1 (h.1, (upI h.2 r0 0 0))) fun z3 h2 => (if ¬ z3 = 0 then (if kH h2 r0 = 18 then (bI (fX10_bad r0 0 1 1 h2) fun z7 h6 => (if z7 = 0 then (if kH h6 r0 = 18 then (bI (fX10_fitsNow r0 h6) fun z12 h11 => (rec 43 [.ref r0, .int x1, .int (-1), .int (-1), .int z12, .int 0, uV] [] h11)) else none) else (some (.inl (some (.int 0)), h6)))) else none) else (if kH h2 r0 = 18 then (bI (fX10_bad r0 1 1 1 h2) fun z16 h15 => (if z16 = 0 then (if kH h15 r0 = 18 then (bI (fX10_fitsNow r0 h15) fun z21 h20 => (rec 43 [.ref r0, .int x1, .int (-1), .int (-1), .int z21, .int 0, uV] [] h20)) else none) else (some (.inl (some (.int 0)), h15)))) else none))) else none)
theorem uX10_look_0 {G : GG} {d : Nat} (hd : 7 ≤ d) (rec : Nat → List Value → List Value → Hp → RS) (hrec : ∀ pc loc st h o h', rec pc loc st h = some (o, h') → V G mX10_look d pc loc st h o h')   {r0  x1 } {h : Hp} {o : OU} {h' : Hp} (e : kX10_look_0 rec  r0 x1 h = some (o, h')) : VM G mX10_look d [.ref r0, .int x1] h o h' := by
  unfold kX10_look_0 at e
  refine eX10_look r0 x1 (by omega) ?_
  obtain ⟨q1, e⟩ := ob_e e
  refine ⟨q1, ?_⟩
  obtain ⟨z3, h2, e2, e⟩ := bI_e e
  refine ⟨z3, h2, (tX10_in e2 (by omega)), ?_⟩
  refine ⟨fun c3 => ?_, fun c3 => ?_⟩
  · have e := if_t e c3
    obtain ⟨q4, e⟩ := ob_e e
    refine ⟨q4, ?_⟩
    obtain ⟨z7, h6, e5, e⟩ := bI_e e
    refine ⟨z7, h6, (tX10_bad e5 (by omega)), ?_⟩
    refine ⟨fun c6 => ?_, fun c6 => ?_⟩
    · have e := if_t e c6
      obtain ⟨q7, e⟩ := ob_e e
      refine ⟨q7, ?_⟩
      obtain ⟨z12, h11, e8, e⟩ := bI_e e
      refine ⟨z12, h11, (tX10_fitsNow e8 (by omega)), ?_⟩
      exact hrec _ _ _ _ _ _ e
    · have e := if_f e c6
      cases e
      exact ⟨rfl, rfl⟩
  · have e := if_n e c3
    obtain ⟨q9, e⟩ := ob_e e
    refine ⟨q9, ?_⟩
    obtain ⟨z16, h15, e10, e⟩ := bI_e e
    refine ⟨z16, h15, (tX10_bad e10 (by omega)), ?_⟩
    refine ⟨fun c11 => ?_, fun c11 => ?_⟩
    · have e := if_t e c11
      obtain ⟨q12, e⟩ := ob_e e
      refine ⟨q12, ?_⟩
      obtain ⟨z21, h20, e13, e⟩ := bI_e e
      refine ⟨z21, h20, (tX10_fitsNow e13 (by omega)), ?_⟩
      exact hrec _ _ _ _ _ _ e
    · have e := if_f e c11
      cases e
      exact ⟨rfl, rfl⟩
def kX10_look_43 (rec : Nat → List Value → List Value → Hp → RS)  (r0 : Nat) (x1 : Int32) (x2 : Int32) (x3 : Int32) (x4 : Int32) (x5 : Int32) (h : Hp) : RS := (if 16 ≤ x5 then (if ¬ x1 = 0 then (some (.inl (some (.int x3)), h)) else (some (.inl (some (.int x2)), h))) else (if kH h r0 = 18 then (bI (fX10_isTold r0 x5 h) fun z4 h3 => (if z4 = 0 then (if kH h3 r0 = 18 then (bI (fX10_worstAt r0 x5 x4 h3) fun z9 h8 => (if x2 = (-1) then (rec 43 [.ref r0, .int x1, .int x5, .int z9, .int x4, .int (x5 + 1), uV] [] h8) else (if z9 < x3 then (rec 43 [.ref r0, .int x1, .int x5, .int z9, .int x4, .int (x5 + 1), uV] [] h8) else (rec 43 [.ref r0, .int x1, .int x2, .int x3, .int x4, .int (x5 + 1), uV] [] h8)))) else none) else (rec 43 [.ref r0, .int x1, .int x2, .int x3, .int x4, .int (x5 + 1), uV] [] h3))) else none))
theorem uX10_look_43 {G : GG} {d : Nat} (hd : 7 ≤ d) (rec : Nat → List Value → List Value → Hp → RS) (hrec : ∀ pc loc st h o h', rec pc loc st h = some (o, h') → V G mX10_look d pc loc st h o h')   {r0  x1  x2  x3  x4  x5 } {h : Hp} {o : OU} {h' : Hp} (e : kX10_look_43 rec  r0 x1 x2 x3 x4 x5 h = some (o, h')) : V G mX10_look d 43 [.ref r0, .int x1, .int x2, .int x3, .int x4, .int x5, uV] [] h o h' := by
  unfold kX10_look_43 at e
  refine bX10_look_43 r0 x1 x2 x3 x4 x5 (by omega) ?_
  refine ⟨fun c1 => ?_, fun c1 => ?_⟩
  · have e := if_t e c1
    refine ⟨fun c2 => ?_, fun c2 => ?_⟩
    · have e := if_t e c2
      cases e
      exact ⟨rfl, rfl⟩
    · have e := if_n e c2
      cases e
      exact ⟨rfl, rfl⟩
  · have e := if_f e c1
    obtain ⟨q3, e⟩ := ob_e e
    refine ⟨q3, ?_⟩
    obtain ⟨z4, h3, e4, e⟩ := bI_e e
    refine ⟨z4, h3, (tX10_isTold e4 (by omega)), ?_⟩
    refine ⟨fun c5 => ?_, fun c5 => ?_⟩
    · have e := if_t e c5
      obtain ⟨q6, e⟩ := ob_e e
      refine ⟨q6, ?_⟩
      obtain ⟨z9, h8, e7, e⟩ := bI_e e
      refine ⟨z9, h8, (tX10_worstAt e7 (by omega)), ?_⟩
      refine ⟨fun c8 => ?_, fun c8 => ?_⟩
      · have e := if_t e c8
        exact hrec _ _ _ _ _ _ e
      · have e := if_f e c8
        refine ⟨fun c9 => ?_, fun c9 => ?_⟩
        · have e := if_t e c9
          exact hrec _ _ _ _ _ _ e
        · have e := if_f e c9
          exact hrec _ _ _ _ _ _ e
    · have e := if_f e c5
      exact hrec _ _ _ _ _ _ e
def sX10_look  (rec : Nat → List Value → List Value → Hp → RS) (pc : Nat) (loc st : List Value) (h : Hp) : RS := match pc, loc, st with
  | 43, [.ref r0, .int x1, .int x2, .int x3, .int x4, .int x5, _], [] => kX10_look_43 rec  r0 x1 x2 x3 x4 x5 h
  | _, _, _ => none
def gX10_look  : Nat → Nat → List Value → List Value → Hp → RS
  | 0 => fun _ _ _ _ => none
  | n + 1 => sX10_look  (gX10_look  n)
theorem wX10_look {G : GG} {d : Nat} (hd : 7 ≤ d)   : ∀ (n pc : Nat) (loc st : List Value) (h : Hp) (o : OU) (h' : Hp), gX10_look  n pc loc st h = some (o, h') → V G mX10_look d pc loc st h o h' := by
  intro n
  induction n with
  | zero => intro pc loc st h o h' e; cases e
  | succ n ih =>
    intro pc loc st h o h' e
    unfold gX10_look sX10_look at e
    split at e
    · exact V.drop (llp_r (llp_r (llp_r (llp_r (llp_r (llp_r (llp_u llp_nil))))))) (uX10_look_43 hd _ ih   e)
    · cases e
theorem zX10_look_43  (n : Nat) (r0 : Nat) (x1 : Int32) (x2 : Int32) (x3 : Int32) (x4 : Int32) (x5 : Int32) (y6 : Value) (h : Hp) : gX10_look  (n + 1) 43 [.ref r0, .int x1, .int x2, .int x3, .int x4, .int x5, y6] [] h = kX10_look_43 (gX10_look  n)  r0 x1 x2 x3 x4 x5 h := rfl
def fX10_look (r0 : Nat) (x1 : Int32) (h : Hp) : RS := kX10_look_0 (gX10_look FF) r0 x1 h
theorem tX10_look {G : GG} {d : Nat} {r0 x1} {h : Hp} {o : OU} {h' : Hp} (e : fX10_look r0 x1 h = some (o, h')) (hd : 7 ≤ d) : VM G mX10_look d [.ref r0, .int x1] h o h' := uX10_look_0 hd _ (wX10_look hd FF) e
def kX10_room_0 (rec : Nat → List Value → List Value → Hp → RS)  (r0 : Nat) (x1 : Int32) (h : Hp) : RS := (if kH h r0 = 18 then (bI (fX10_isNode x1 (h.1, (upI h.2 r0 0 0))) fun z3 h2 => (if ¬ z3 = 0 then (if kH h2 r0 = 18 then (bI (fX10_bad r0 0 1 0 h2) fun z7 h6 => (if z7 = 0 then (rec 32 [.ref r0, .int x1, .int 0, .int 0] [] h6) else (some (.inl (some (.int 0)), h6)))) else none) else (if kH h2 r0 = 18 then (bI (fX10_bad r0 1 1 0 h2) fun z12 h11 => (if z12 = 0 then (rec 32 [.ref r0, .int x1, .int 0, .int 0] [] h11) else (some (.inl (some (.int 0)), h11)))) else none))) else none)
theorem uX10_room_0 {G : GG} {d : Nat} (hd : 4 ≤ d) (rec : Nat → List Value → List Value → Hp → RS) (hrec : ∀ pc loc st h o h', rec pc loc st h = some (o, h') → V G mX10_room d pc loc st h o h')   {r0  x1 } {h : Hp} {o : OU} {h' : Hp} (e : kX10_room_0 rec  r0 x1 h = some (o, h')) : VM G mX10_room d [.ref r0, .int x1] h o h' := by
  unfold kX10_room_0 at e
  refine eX10_room r0 x1 (by omega) ?_
  obtain ⟨q1, e⟩ := ob_e e
  refine ⟨q1, ?_⟩
  obtain ⟨z3, h2, e2, e⟩ := bI_e e
  refine ⟨z3, h2, (tX10_isNode e2 (by omega)), ?_⟩
  refine ⟨fun c3 => ?_, fun c3 => ?_⟩
  · have e := if_t e c3
    obtain ⟨q4, e⟩ := ob_e e
    refine ⟨q4, ?_⟩
    obtain ⟨z7, h6, e5, e⟩ := bI_e e
    refine ⟨z7, h6, (tX10_bad e5 (by omega)), ?_⟩
    refine ⟨fun c6 => ?_, fun c6 => ?_⟩
    · have e := if_t e c6
      exact hrec _ _ _ _ _ _ e
    · have e := if_f e c6
      cases e
      exact ⟨rfl, rfl⟩
  · have e := if_n e c3
    obtain ⟨q7, e⟩ := ob_e e
    refine ⟨q7, ?_⟩
    obtain ⟨z12, h11, e8, e⟩ := bI_e e
    refine ⟨z12, h11, (tX10_bad e8 (by omega)), ?_⟩
    refine ⟨fun c9 => ?_, fun c9 => ?_⟩
    · have e := if_t e c9
      exact hrec _ _ _ _ _ _ e
    · have e := if_f e c9
      cases e
      exact ⟨rfl, rfl⟩
def kX10_room_32 (rec : Nat → List Value → List Value → Hp → RS)  (r0 : Nat) (x1 : Int32) (x2 : Int32) (x3 : Int32) (h : Hp) : RS := (if kH h r0 = 18 then (bI (fX10_isKind (rH h r0 22) 0 x1 2 h) fun z3 h2 => (if z3 = 0 then (some (.inl (some (.int x2)), h2)) else (if kH h2 r0 = 18 then (bI (fX10_entryOf (rH h2 r0 22) 0 x1 x3 h2) fun z8 h7 => (if z8 = (-1) then (some (.inl (some (.int x2)), h7)) else (if kH h7 r0 = 18 then (bI (fX10_entryOf (rH h7 r0 22) 0 x1 x3 h7) fun z13 h12 => (if kH h12 (rH h7 r0 22) = 1 then (if inB (0 + z13) (lH h12 (rH h7 r0 22)) = true then (if ¬ (h12.2 (rH h7 r0 22) (0 + z13).toNatClampNeg) = 0 then (rec 32 [.ref r0, .int x1, .int (x2 + 0), .int (x3 + 1)] [] h12) else (rec 32 [.ref r0, .int x1, .int (x2 + 1), .int (x3 + 1)] [] h12)) else none) else none)) else none))) else none))) else none)
theorem uX10_room_32 {G : GG} {d : Nat} (hd : 4 ≤ d) (rec : Nat → List Value → List Value → Hp → RS) (hrec : ∀ pc loc st h o h', rec pc loc st h = some (o, h') → V G mX10_room d pc loc st h o h')   {r0  x1  x2  x3 } {h : Hp} {o : OU} {h' : Hp} (e : kX10_room_32 rec  r0 x1 x2 x3 h = some (o, h')) : V G mX10_room d 32 [.ref r0, .int x1, .int x2, .int x3] [] h o h' := by
  unfold kX10_room_32 at e
  refine bX10_room_32 r0 x1 x2 x3 (by omega) ?_
  obtain ⟨q1, e⟩ := ob_e e
  refine ⟨q1, ?_⟩
  obtain ⟨z3, h2, e2, e⟩ := bI_e e
  refine ⟨z3, h2, (tX10_isKind e2 (by omega)), ?_⟩
  refine ⟨fun c3 => ?_, fun c3 => ?_⟩
  · have e := if_t e c3
    cases e
    exact ⟨rfl, rfl⟩
  · have e := if_f e c3
    obtain ⟨q4, e⟩ := ob_e e
    refine ⟨q4, ?_⟩
    obtain ⟨z8, h7, e5, e⟩ := bI_e e
    refine ⟨z8, h7, (tX10_entryOf e5 (by omega)), ?_⟩
    refine ⟨fun c6 => ?_, fun c6 => ?_⟩
    · have e := if_t e c6
      cases e
      exact ⟨rfl, rfl⟩
    · have e := if_f e c6
      obtain ⟨q7, e⟩ := ob_e e
      refine ⟨q7, ?_⟩
      obtain ⟨z13, h12, e8, e⟩ := bI_e e
      refine ⟨z13, h12, (tX10_entryOf e8 (by omega)), ?_⟩
      obtain ⟨q9, e⟩ := ob_e e
      refine ⟨q9, ?_⟩
      obtain ⟨q10, e⟩ := ob_in e
      refine ⟨q10, ?_⟩
      refine ⟨fun c11 => ?_, fun c11 => ?_⟩
      · have e := if_t e c11
        exact hrec _ _ _ _ _ _ e
      · have e := if_n e c11
        exact hrec _ _ _ _ _ _ e
def sX10_room  (rec : Nat → List Value → List Value → Hp → RS) (pc : Nat) (loc st : List Value) (h : Hp) : RS := match pc, loc, st with
  | 32, [.ref r0, .int x1, .int x2, .int x3], [] => kX10_room_32 rec  r0 x1 x2 x3 h
  | _, _, _ => none
def gX10_room  : Nat → Nat → List Value → List Value → Hp → RS
  | 0 => fun _ _ _ _ => none
  | n + 1 => sX10_room  (gX10_room  n)
theorem wX10_room {G : GG} {d : Nat} (hd : 4 ≤ d)   : ∀ (n pc : Nat) (loc st : List Value) (h : Hp) (o : OU) (h' : Hp), gX10_room  n pc loc st h = some (o, h') → V G mX10_room d pc loc st h o h' := by
  intro n
  induction n with
  | zero => intro pc loc st h o h' e; cases e
  | succ n ih =>
    intro pc loc st h o h' e
    unfold gX10_room sX10_room at e
    split at e
    · exact uX10_room_32 hd _ ih   e
    · cases e
theorem zX10_room_32  (n : Nat) (r0 : Nat) (x1 : Int32) (x2 : Int32) (x3 : Int32)  (h : Hp) : gX10_room  (n + 1) 32 [.ref r0, .int x1, .int x2, .int x3] [] h = kX10_room_32 (gX10_room  n)  r0 x1 x2 x3 h := rfl
def fX10_room (r0 : Nat) (x1 : Int32) (h : Hp) : RS := kX10_room_0 (gX10_room FF) r0 x1 h
theorem tX10_room {G : GG} {d : Nat} {r0 x1} {h : Hp} {o : OU} {h' : Hp} (e : fX10_room r0 x1 h = some (o, h')) (hd : 4 ≤ d) : VM G mX10_room d [.ref r0, .int x1] h o h' := uX10_room_0 hd _ (wX10_room hd FF) e
def kX10_owner_0 (rec : Nat → List Value → List Value → Hp → RS)  (r0 : Nat) (x1 : Int32) (x2 : Int32) (h : Hp) : RS := (if kH h r0 = 18 then (bI (fX10_isWhere x2 (h.1, (upI h.2 r0 0 0))) fun z3 h2 => (if ¬ z3 = 0 then (rec 18 [.ref r0, .int x1, .int x2] [.int 0, .ref r0] h2) else (rec 18 [.ref r0, .int x1, .int x2] [.int 1, .ref r0] h2))) else none)
theorem uX10_owner_0 {G : GG} {d : Nat} (hd : 4 ≤ d) (rec : Nat → List Value → List Value → Hp → RS) (hrec : ∀ pc loc st h o h', rec pc loc st h = some (o, h') → V G mX10_owner d pc loc st h o h')   {r0  x1  x2 } {h : Hp} {o : OU} {h' : Hp} (e : kX10_owner_0 rec  r0 x1 x2 h = some (o, h')) : VM G mX10_owner d [.ref r0, .int x1, .int x2] h o h' := by
  unfold kX10_owner_0 at e
  refine eX10_owner r0 x1 x2 (by omega) ?_
  obtain ⟨q1, e⟩ := ob_e e
  refine ⟨q1, ?_⟩
  obtain ⟨z3, h2, e2, e⟩ := bI_e e
  refine ⟨z3, h2, (tX10_isWhere e2 (by omega)), ?_⟩
  refine ⟨fun c3 => ?_, fun c3 => ?_⟩
  · have e := if_t e c3
    exact hrec _ _ _ _ _ _ e
  · have e := if_n e c3
    exact hrec _ _ _ _ _ _ e
def kX10_owner_18 (rec : Nat → List Value → List Value → Hp → RS)  (r0 : Nat) (x1 : Int32) (x2 : Int32) (s0 : Int32) (t1 : Nat) (h : Hp) : RS := (if kH h t1 = 18 then (bI (fX10_bad t1 s0 1 1 h) fun z2 h1 => (if ¬ z2 = 0 then (some (.inl (some (.int 0)), h1)) else (if kH h1 r0 = 18 then (bI (fX10_isBlock r0 x1 h1) fun z7 h6 => (if ¬ z7 = 0 then (if kH h6 r0 = 18 then (bI (fX10_bad r0 0 2 3 h6) fun z12 h11 => (if z12 = 0 then (if ¬ x1 = 0 then (if kH h11 r0 = 18 then (bI (fX10_whereOf x2 h11) fun z19 h18 => (if kH h18 r0 = 18 then (bI (fX10_whereOf x2 h18) fun z23 h22 => (bI (fX10_linked (rH h18 r0 22) z23 h22) fun z26 h25 => (bI (fX10_pointer (rH h11 r0 22) z19 z26 x1 h25) fun z29 h28 => (some (.inl (some (.int z29)), h28))))) else none)) else none) else (some (.inl (some (.int (-1))), h11))) else (some (.inl (some (.int 0)), h11)))) else none) else (if kH h6 r0 = 18 then (bI (fX10_bad r0 1 2 3 h6) fun z32 h31 => (if z32 = 0 then (if ¬ x1 = 0 then (if kH h31 r0 = 18 then (bI (fX10_whereOf x2 h31) fun z39 h38 => (if kH h38 r0 = 18 then (bI (fX10_whereOf x2 h38) fun z43 h42 => (bI (fX10_linked (rH h38 r0 22) z43 h42) fun z46 h45 => (bI (fX10_pointer (rH h31 r0 22) z39 z46 x1 h45) fun z49 h48 => (some (.inl (some (.int z49)), h48))))) else none)) else none) else (some (.inl (some (.int (-1))), h31))) else (some (.inl (some (.int 0)), h31)))) else none))) else none))) else none)
theorem uX10_owner_18 {G : GG} {d : Nat} (hd : 4 ≤ d) (rec : Nat → List Value → List Value → Hp → RS) (hrec : ∀ pc loc st h o h', rec pc loc st h = some (o, h') → V G mX10_owner d pc loc st h o h')   {r0  x1  x2  s0  t1 } {h : Hp} {o : OU} {h' : Hp} (e : kX10_owner_18 rec  r0 x1 x2 s0 t1 h = some (o, h')) : V G mX10_owner d 18 [.ref r0, .int x1, .int x2] [.int s0, .ref t1] h o h' := by
  unfold kX10_owner_18 at e
  refine bX10_owner_18 r0 x1 x2 s0 t1 (by omega) ?_
  obtain ⟨q1, e⟩ := ob_e e
  refine ⟨q1, ?_⟩
  obtain ⟨z2, h1, e2, e⟩ := bI_e e
  refine ⟨z2, h1, (tX10_bad e2 (by omega)), ?_⟩
  refine ⟨fun c3 => ?_, fun c3 => ?_⟩
  · have e := if_t e c3
    cases e
    exact ⟨rfl, rfl⟩
  · have e := if_n e c3
    obtain ⟨q4, e⟩ := ob_e e
    refine ⟨q4, ?_⟩
    obtain ⟨z7, h6, e5, e⟩ := bI_e e
    refine ⟨z7, h6, (tX10_isBlock e5 (by omega)), ?_⟩
    refine ⟨fun c6 => ?_, fun c6 => ?_⟩
    · have e := if_t e c6
      obtain ⟨q7, e⟩ := ob_e e
      refine ⟨q7, ?_⟩
      obtain ⟨z12, h11, e8, e⟩ := bI_e e
      refine ⟨z12, h11, (tX10_bad e8 (by omega)), ?_⟩
      refine ⟨fun c9 => ?_, fun c9 => ?_⟩
      · have e := if_t e c9
        refine ⟨fun c10 => ?_, fun c10 => ?_⟩
        · have e := if_t e c10
          obtain ⟨q11, e⟩ := ob_e e
          refine ⟨q11, ?_⟩
          obtain ⟨z19, h18, e12, e⟩ := bI_e e
          refine ⟨z19, h18, (tX10_whereOf e12 (by omega)), ?_⟩
          obtain ⟨q13, e⟩ := ob_e e
          refine ⟨q13, ?_⟩
          obtain ⟨z23, h22, e14, e⟩ := bI_e e
          refine ⟨z23, h22, (tX10_whereOf e14 (by omega)), ?_⟩
          obtain ⟨z26, h25, e15, e⟩ := bI_e e
          refine ⟨z26, h25, (tX10_linked e15 (by omega)), ?_⟩
          obtain ⟨z29, h28, e16, e⟩ := bI_e e
          refine ⟨z29, h28, (tX10_pointer e16 (by omega)), ?_⟩
          cases e
          exact ⟨rfl, rfl⟩
        · have e := if_n e c10
          cases e
          exact ⟨rfl, rfl⟩
      · have e := if_f e c9
        cases e
        exact ⟨rfl, rfl⟩
    · have e := if_n e c6
      obtain ⟨q17, e⟩ := ob_e e
      refine ⟨q17, ?_⟩
      obtain ⟨z32, h31, e18, e⟩ := bI_e e
      refine ⟨z32, h31, (tX10_bad e18 (by omega)), ?_⟩
      refine ⟨fun c19 => ?_, fun c19 => ?_⟩
      · have e := if_t e c19
        refine ⟨fun c20 => ?_, fun c20 => ?_⟩
        · have e := if_t e c20
          obtain ⟨q21, e⟩ := ob_e e
          refine ⟨q21, ?_⟩
          obtain ⟨z39, h38, e22, e⟩ := bI_e e
          refine ⟨z39, h38, (tX10_whereOf e22 (by omega)), ?_⟩
          obtain ⟨q23, e⟩ := ob_e e
          refine ⟨q23, ?_⟩
          obtain ⟨z43, h42, e24, e⟩ := bI_e e
          refine ⟨z43, h42, (tX10_whereOf e24 (by omega)), ?_⟩
          obtain ⟨z46, h45, e25, e⟩ := bI_e e
          refine ⟨z46, h45, (tX10_linked e25 (by omega)), ?_⟩
          obtain ⟨z49, h48, e26, e⟩ := bI_e e
          refine ⟨z49, h48, (tX10_pointer e26 (by omega)), ?_⟩
          cases e
          exact ⟨rfl, rfl⟩
        · have e := if_n e c20
          cases e
          exact ⟨rfl, rfl⟩
      · have e := if_f e c19
        cases e
        exact ⟨rfl, rfl⟩
def sX10_owner  (rec : Nat → List Value → List Value → Hp → RS) (pc : Nat) (loc st : List Value) (h : Hp) : RS := match pc, loc, st with
  | 18, [.ref r0, .int x1, .int x2], [.int s0, .ref t1] => kX10_owner_18 rec  r0 x1 x2 s0 t1 h
  | _, _, _ => none
def gX10_owner  : Nat → Nat → List Value → List Value → Hp → RS
  | 0 => fun _ _ _ _ => none
  | n + 1 => sX10_owner  (gX10_owner  n)
theorem wX10_owner {G : GG} {d : Nat} (hd : 4 ≤ d)   : ∀ (n pc : Nat) (loc st : List Value) (h : Hp) (o : OU) (h' : Hp), gX10_owner  n pc loc st h = some (o, h') → V G mX10_owner d pc loc st h o h' := by
  intro n
  induction n with
  | zero => intro pc loc st h o h' e; cases e
  | succ n ih =>
    intro pc loc st h o h' e
    unfold gX10_owner sX10_owner at e
    split at e
    · exact uX10_owner_18 hd _ ih   e
    · cases e
theorem zX10_owner_18  (n : Nat) (r0 : Nat) (x1 : Int32) (x2 : Int32) (s0 : Int32) (t1 : Nat)  (h : Hp) : gX10_owner  (n + 1) 18 [.ref r0, .int x1, .int x2] [.int s0, .ref t1] h = kX10_owner_18 (gX10_owner  n)  r0 x1 x2 s0 t1 h := rfl
def fX10_owner (r0 : Nat) (x1 : Int32) (x2 : Int32) (h : Hp) : RS := kX10_owner_0 (gX10_owner FF) r0 x1 x2 h
theorem tX10_owner {G : GG} {d : Nat} {r0 x1 x2} {h : Hp} {o : OU} {h' : Hp} (e : fX10_owner r0 x1 x2 h = some (o, h')) (hd : 4 ≤ d) : VM G mX10_owner d [.ref r0, .int x1, .int x2] h o h' := uX10_owner_0 hd _ (wX10_owner hd FF) e
def kX10_unlike_0 (rec : Nat → List Value → List Value → Hp → RS)  (r0 : Nat) (x1 : Int32) (h : Hp) : RS := (if kH h r0 = 18 then (bI (fX10_isBlock r0 x1 (h.1, (upI h.2 r0 0 0))) fun z3 h2 => (if ¬ z3 = 0 then (if kH h2 r0 = 18 then (bI (fX10_bad r0 0 1 3 h2) fun z7 h6 => (if z7 = 0 then (rec 33 [.ref r0, .int x1, .int 0, .int 0] [] h6) else (some (.inl (some (.int 0)), h6)))) else none) else (if kH h2 r0 = 18 then (bI (fX10_bad r0 1 1 3 h2) fun z12 h11 => (if z12 = 0 then (rec 33 [.ref r0, .int x1, .int 0, .int 0] [] h11) else (some (.inl (some (.int 0)), h11)))) else none))) else none)
theorem uX10_unlike_0 {G : GG} {d : Nat} (hd : 3 ≤ d) (rec : Nat → List Value → List Value → Hp → RS) (hrec : ∀ pc loc st h o h', rec pc loc st h = some (o, h') → V G mX10_unlike d pc loc st h o h')   {r0  x1 } {h : Hp} {o : OU} {h' : Hp} (e : kX10_unlike_0 rec  r0 x1 h = some (o, h')) : VM G mX10_unlike d [.ref r0, .int x1] h o h' := by
  unfold kX10_unlike_0 at e
  refine eX10_unlike r0 x1 (by omega) ?_
  obtain ⟨q1, e⟩ := ob_e e
  refine ⟨q1, ?_⟩
  obtain ⟨z3, h2, e2, e⟩ := bI_e e
  refine ⟨z3, h2, (tX10_isBlock e2 (by omega)), ?_⟩
  refine ⟨fun c3 => ?_, fun c3 => ?_⟩
  · have e := if_t e c3
    obtain ⟨q4, e⟩ := ob_e e
    refine ⟨q4, ?_⟩
    obtain ⟨z7, h6, e5, e⟩ := bI_e e
    refine ⟨z7, h6, (tX10_bad e5 (by omega)), ?_⟩
    refine ⟨fun c6 => ?_, fun c6 => ?_⟩
    · have e := if_t e c6
      exact hrec _ _ _ _ _ _ e
    · have e := if_f e c6
      cases e
      exact ⟨rfl, rfl⟩
  · have e := if_n e c3
    obtain ⟨q7, e⟩ := ob_e e
    refine ⟨q7, ?_⟩
    obtain ⟨z12, h11, e8, e⟩ := bI_e e
    refine ⟨z12, h11, (tX10_bad e8 (by omega)), ?_⟩
    refine ⟨fun c9 => ?_, fun c9 => ?_⟩
    · have e := if_t e c9
      exact hrec _ _ _ _ _ _ e
    · have e := if_f e c9
      cases e
      exact ⟨rfl, rfl⟩
def kX10_unlike_33 (rec : Nat → List Value → List Value → Hp → RS)  (r0 : Nat) (x1 : Int32) (x2 : Int32) (x3 : Int32) (h : Hp) : RS := (if 16 ≤ x3 then (some (.inl (some (.int x2)), h)) else (if kH h r0 = 18 then (if kH h (rH h r0 22) = 1 then (if inB ((0 + (16 * x1)) + x3) (lH h (rH h r0 22)) = true then (if inB ((256 + (16 * x1)) + x3) (lH h (rH h r0 22)) = true then (if ¬ (h.2 (rH h r0 22) ((0 + (16 * x1)) + x3).toNatClampNeg) = (h.2 (rH h r0 22) ((256 + (16 * x1)) + x3).toNatClampNeg) then (rec 33 [.ref r0, .int x1, .int (x2 + 1), .int (x3 + 1)] [] h) else (rec 33 [.ref r0, .int x1, .int (x2 + 0), .int (x3 + 1)] [] h)) else none) else none) else none) else none))
theorem uX10_unlike_33 {G : GG} {d : Nat} (hd : 3 ≤ d) (rec : Nat → List Value → List Value → Hp → RS) (hrec : ∀ pc loc st h o h', rec pc loc st h = some (o, h') → V G mX10_unlike d pc loc st h o h')   {r0  x1  x2  x3 } {h : Hp} {o : OU} {h' : Hp} (e : kX10_unlike_33 rec  r0 x1 x2 x3 h = some (o, h')) : V G mX10_unlike d 33 [.ref r0, .int x1, .int x2, .int x3] [] h o h' := by
  unfold kX10_unlike_33 at e
  refine bX10_unlike_33 r0 x1 x2 x3 ?_
  refine ⟨fun c1 => ?_, fun c1 => ?_⟩
  · have e := if_t e c1
    cases e
    exact ⟨rfl, rfl⟩
  · have e := if_f e c1
    obtain ⟨q2, e⟩ := ob_e e
    refine ⟨q2, ?_⟩
    obtain ⟨q3, e⟩ := ob_e e
    refine ⟨q3, ?_⟩
    obtain ⟨q4, e⟩ := ob_in e
    refine ⟨q4, ?_⟩
    obtain ⟨q5, e⟩ := ob_in e
    refine ⟨q5, ?_⟩
    refine ⟨fun c6 => ?_, fun c6 => ?_⟩
    · have e := if_t e c6
      exact hrec _ _ _ _ _ _ e
    · have e := if_n e c6
      exact hrec _ _ _ _ _ _ e
def sX10_unlike  (rec : Nat → List Value → List Value → Hp → RS) (pc : Nat) (loc st : List Value) (h : Hp) : RS := match pc, loc, st with
  | 33, [.ref r0, .int x1, .int x2, .int x3], [] => kX10_unlike_33 rec  r0 x1 x2 x3 h
  | _, _, _ => none
def gX10_unlike  : Nat → Nat → List Value → List Value → Hp → RS
  | 0 => fun _ _ _ _ => none
  | n + 1 => sX10_unlike  (gX10_unlike  n)
theorem wX10_unlike {G : GG} {d : Nat} (hd : 3 ≤ d)   : ∀ (n pc : Nat) (loc st : List Value) (h : Hp) (o : OU) (h' : Hp), gX10_unlike  n pc loc st h = some (o, h') → V G mX10_unlike d pc loc st h o h' := by
  intro n
  induction n with
  | zero => intro pc loc st h o h' e; cases e
  | succ n ih =>
    intro pc loc st h o h' e
    unfold gX10_unlike sX10_unlike at e
    split at e
    · exact uX10_unlike_33 hd _ ih   e
    · cases e
theorem zX10_unlike_33  (n : Nat) (r0 : Nat) (x1 : Int32) (x2 : Int32) (x3 : Int32)  (h : Hp) : gX10_unlike  (n + 1) 33 [.ref r0, .int x1, .int x2, .int x3] [] h = kX10_unlike_33 (gX10_unlike  n)  r0 x1 x2 x3 h := rfl
def fX10_unlike (r0 : Nat) (x1 : Int32) (h : Hp) : RS := kX10_unlike_0 (gX10_unlike FF) r0 x1 h
theorem tX10_unlike {G : GG} {d : Nat} {r0 x1} {h : Hp} {o : OU} {h' : Hp} (e : fX10_unlike r0 x1 h = some (o, h')) (hd : 3 ≤ d) : VM G mX10_unlike d [.ref r0, .int x1] h o h' := uX10_unlike_0 hd _ (wX10_unlike hd FF) e
def kX10_draw_0  (r0 : Nat) (x1 : Int32) (h : Hp) : RS := (if kH h r0 = 18 then (if ¬ x1 = 0 then (some (.inl (some (.int (((((upI h.2 r0 36 (((h.2 r0 36) * 1103515245) + 12345)) r0 36) >>> ((16 : Int32) &&& 31)) &&& 32767) - ((((upI h.2 r0 36 (((h.2 r0 36) * 1103515245) + 12345)) r0 36) >>> ((16 : Int32) &&& 31)) &&& 32767) / x1 * x1))), (h.1, (upI h.2 r0 36 (((h.2 r0 36) * 1103515245) + 12345))))) else none) else none)
theorem uX10_draw_0 {G : GG} {d : Nat} (hd : 1 ≤ d)   {r0  x1 } {h : Hp} {o : OU} {h' : Hp} (e : kX10_draw_0  r0 x1 h = some (o, h')) : VM G mX10_draw d [.ref r0, .int x1] h o h' := by
  unfold kX10_draw_0 at e
  refine eX10_draw r0 x1 ?_
  obtain ⟨q1, e⟩ := ob_e e
  refine ⟨q1, ?_⟩
  obtain ⟨q2, e⟩ := ob_e e
  refine ⟨q2, ?_⟩
  cases e
  exact ⟨rfl, rfl⟩
def fX10_draw (r0 : Nat) (x1 : Int32) (h : Hp) : RS := kX10_draw_0 r0 x1 h
theorem tX10_draw {G : GG} {d : Nat} {r0 x1} {h : Hp} {o : OU} {h' : Hp} (e : fX10_draw r0 x1 h = some (o, h')) (hd : 1 ≤ d) : VM G mX10_draw d [.ref r0, .int x1] h o h' := uX10_draw_0 hd e
def kX10_stormBy_0 (rec : Nat → List Value → List Value → Hp → RS)  (r0 : Nat) (x1 : Int32) (x2 : Int32) (x3 : Int32) (h : Hp) : RS := (if kH h r0 = 18 then (bV (fX10_copies (rH h r0 22) (rH h r0 23) h) fun h2 => (if kH h2 r0 = 18 then (rec 19 [.ref r0, uV, .int x2, .int x3, .int 0, uV] [] (h2.1, (upI h2.2 r0 36 x1))) else none)) else none)
theorem uX10_stormBy_0 {G : GG} {d : Nat} (hd : 10 ≤ d) (rec : Nat → List Value → List Value → Hp → RS) (hrec : ∀ pc loc st h o h', rec pc loc st h = some (o, h') → V G mX10_stormBy d pc loc st h o h')   {r0  x1  x2  x3 } {h : Hp} {o : OU} {h' : Hp} (e : kX10_stormBy_0 rec  r0 x1 x2 x3 h = some (o, h')) : VM G mX10_stormBy d [.ref r0, .int x1, .int x2, .int x3] h o h' := by
  unfold kX10_stormBy_0 at e
  refine eX10_stormBy r0 x1 x2 x3 (by omega) ?_
  obtain ⟨q1, e⟩ := ob_e e
  refine ⟨q1, ?_⟩
  obtain ⟨h2, e2, e⟩ := bV_e e
  refine ⟨h2, (tX10_copies e2 (by omega)), ?_⟩
  obtain ⟨q3, e⟩ := ob_e e
  refine ⟨q3, ?_⟩
  exact hrec _ _ _ _ _ _ e
def kX10_stormBy_19 (rec : Nat → List Value → List Value → Hp → RS)  (r0 : Nat) (x2 : Int32) (x3 : Int32) (x4 : Int32) (h : Hp) : RS := (if x2 ≤ x4 then (some (.inl none, h)) else (if kH h r0 = 18 then (bI (fX10_draw r0 8 h) fun z3 h2 => (if kH h2 r0 = 18 then (if 2 ≤ z3 then (if ¬ z3 = 2 then (if ¬ z3 = 3 then (if ¬ z3 = 4 then (rec 81 [.ref r0, uV, .int x2, .int x3, .int x4, .int z3] [.int 7, .int 0, .ref (rH h2 r0 37)] h2) else (rec 81 [.ref r0, uV, .int x2, .int x3, .int x4, .int z3] [.int 5, .int 0, .ref (rH h2 r0 37)] h2)) else (rec 81 [.ref r0, uV, .int x2, .int x3, .int x4, .int z3] [.int 3, .int 0, .ref (rH h2 r0 37)] h2)) else (rec 81 [.ref r0, uV, .int x2, .int x3, .int x4, .int z3] [.int 6, .int 0, .ref (rH h2 r0 37)] h2)) else (rec 81 [.ref r0, uV, .int x2, .int x3, .int x4, .int z3] [.int 0, .int 0, .ref (rH h2 r0 37)] h2)) else none)) else none))
theorem uX10_stormBy_19 {G : GG} {d : Nat} (hd : 10 ≤ d) (rec : Nat → List Value → List Value → Hp → RS) (hrec : ∀ pc loc st h o h', rec pc loc st h = some (o, h') → V G mX10_stormBy d pc loc st h o h')   {r0  x2  x3  x4 } {h : Hp} {o : OU} {h' : Hp} (e : kX10_stormBy_19 rec  r0 x2 x3 x4 h = some (o, h')) : V G mX10_stormBy d 19 [.ref r0, uV, .int x2, .int x3, .int x4, uV] [] h o h' := by
  unfold kX10_stormBy_19 at e
  refine bX10_stormBy_19 r0 x2 x3 x4 (by omega) ?_
  refine ⟨fun c1 => ?_, fun c1 => ?_⟩
  · have e := if_t e c1
    cases e
    exact ⟨rfl, rfl⟩
  · have e := if_f e c1
    obtain ⟨q2, e⟩ := ob_e e
    refine ⟨q2, ?_⟩
    obtain ⟨z3, h2, e3, e⟩ := bI_e e
    refine ⟨z3, h2, (tX10_draw e3 (by omega)), ?_⟩
    obtain ⟨q4, e⟩ := ob_e e
    refine ⟨q4, ?_⟩
    refine ⟨fun c5 => ?_, fun c5 => ?_⟩
    · have e := if_t e c5
      refine ⟨fun c6 => ?_, fun c6 => ?_⟩
      · have e := if_t e c6
        refine ⟨fun c7 => ?_, fun c7 => ?_⟩
        · have e := if_t e c7
          refine ⟨fun c8 => ?_, fun c8 => ?_⟩
          · have e := if_t e c8
            exact hrec _ _ _ _ _ _ e
          · have e := if_n e c8
            exact hrec _ _ _ _ _ _ e
        · have e := if_n e c7
          exact hrec _ _ _ _ _ _ e
      · have e := if_n e c6
        exact hrec _ _ _ _ _ _ e
    · have e := if_f e c5
      exact hrec _ _ _ _ _ _ e
def kX10_stormBy_81 (rec : Nat → List Value → List Value → Hp → RS)  (r0 : Nat) (x2 : Int32) (x3 : Int32) (x4 : Int32) (x5 : Int32) (s0 : Int32) (s1 : Int32) (t2 : Nat) (h : Hp) : RS := (if kH h t2 = 1 then (if inB s1 (lH h t2) = true then (if kH h r0 = 18 then (if 3 ≤ x5 then (if 5 ≤ x5 then (bI (fX10_draw r0 ((upI h.2 t2 s1.toNatClampNeg s0) r0 11) (h.1, (upI h.2 t2 s1.toNatClampNeg s0))) fun z7 h6 => (rec 116 [.ref r0, uV, .int x2, .int x3, .int x4, .int x5] [.int z7, .int 1, .ref (rH h r0 37)] h6)) else (bI (fX10_draw r0 12 (h.1, (upI h.2 t2 s1.toNatClampNeg s0))) fun z10 h9 => (rec 116 [.ref r0, uV, .int x2, .int x3, .int x4, .int x5] [.int z10, .int 1, .ref (rH h r0 37)] h9))) else (rec 116 [.ref r0, uV, .int x2, .int x3, .int x4, .int x5] [.int 0, .int 1, .ref (rH h r0 37)] (h.1, (upI h.2 t2 s1.toNatClampNeg s0)))) else none) else none) else none)
theorem uX10_stormBy_81 {G : GG} {d : Nat} (hd : 10 ≤ d) (rec : Nat → List Value → List Value → Hp → RS) (hrec : ∀ pc loc st h o h', rec pc loc st h = some (o, h') → V G mX10_stormBy d pc loc st h o h')   {r0  x2  x3  x4  x5  s0  s1  t2 } {h : Hp} {o : OU} {h' : Hp} (e : kX10_stormBy_81 rec  r0 x2 x3 x4 x5 s0 s1 t2 h = some (o, h')) : V G mX10_stormBy d 81 [.ref r0, uV, .int x2, .int x3, .int x4, .int x5] [.int s0, .int s1, .ref t2] h o h' := by
  unfold kX10_stormBy_81 at e
  refine bX10_stormBy_81 r0 x2 x3 x4 x5 s0 s1 t2 (by omega) ?_
  obtain ⟨q1, e⟩ := ob_e e
  refine ⟨q1, ?_⟩
  obtain ⟨q2, e⟩ := ob_in e
  refine ⟨q2, ?_⟩
  obtain ⟨q3, e⟩ := ob_e e
  refine ⟨q3, ?_⟩
  refine ⟨fun c4 => ?_, fun c4 => ?_⟩
  · have e := if_t e c4
    refine ⟨fun c5 => ?_, fun c5 => ?_⟩
    · have e := if_t e c5
      obtain ⟨z7, h6, e6, e⟩ := bI_e e
      refine ⟨z7, h6, (tX10_draw e6 (by omega)), ?_⟩
      exact hrec _ _ _ _ _ _ e
    · have e := if_f e c5
      obtain ⟨z10, h9, e7, e⟩ := bI_e e
      refine ⟨z10, h9, (tX10_draw e7 (by omega)), ?_⟩
      exact hrec _ _ _ _ _ _ e
  · have e := if_f e c4
    exact hrec _ _ _ _ _ _ e
def kX10_stormBy_116 (rec : Nat → List Value → List Value → Hp → RS)  (r0 : Nat) (x2 : Int32) (x3 : Int32) (x4 : Int32) (x5 : Int32) (s0 : Int32) (s1 : Int32) (t2 : Nat) (h : Hp) : RS := (if kH h t2 = 1 then (if inB s1 (lH h t2) = true then (if kH h r0 = 18 then (if 3 ≤ x5 then (if ¬ x5 = 3 then (if kH h (rH h r0 37) = 1 then (if inB 2 (lH h (rH h r0 37)) = true then (bI (fX10_does r0 (rH h r0 23) (rH h r0 37) (h.1, (upI (upI h.2 t2 s1.toNatClampNeg s0) (rH h r0 37) 2 0))) fun z9 h8 => (if kH h8 r0 = 18 then (bI (fX10_draw r0 16 h8) fun z12 h11 => (if x3 ≤ z12 then (rec 19 [.ref r0, uV, .int x2, .int x3, .int (x4 + 1), uV] [] h11) else (if kH h11 r0 = 18 then (bI (fX10_crashes (rH h11 r0 23) h11) fun z18 h17 => (rec 19 [.ref r0, uV, .int x2, .int x3, .int (x4 + 1), uV] [] h17)) else none))) else none)) else none) else none) else (bI (fX10_draw r0 100 (h.1, (upI h.2 t2 s1.toNatClampNeg s0))) fun z21 h20 => (if kH h20 (rH h r0 37) = 1 then (if inB 2 (lH h20 (rH h r0 37)) = true then (if kH h20 r0 = 18 then (bI (fX10_does r0 (rH h20 r0 23) (rH h20 r0 37) (h20.1, (upI h20.2 (rH h r0 37) 2 z21))) fun z27 h26 => (if kH h26 r0 = 18 then (bI (fX10_draw r0 16 h26) fun z30 h29 => (if x3 ≤ z30 then (rec 19 [.ref r0, uV, .int x2, .int x3, .int (x4 + 1), uV] [] h29) else (if kH h29 r0 = 18 then (bI (fX10_crashes (rH h29 r0 23) h29) fun z36 h35 => (rec 19 [.ref r0, uV, .int x2, .int x3, .int (x4 + 1), uV] [] h35)) else none))) else none)) else none) else none) else none))) else (bI (fX10_draw r0 9 (h.1, (upI h.2 t2 s1.toNatClampNeg s0))) fun z39 h38 => (if kH h38 (rH h r0 37) = 1 then (if inB 2 (lH h38 (rH h r0 37)) = true then (if kH h38 r0 = 18 then (bI (fX10_does r0 (rH h38 r0 23) (rH h38 r0 37) (h38.1, (upI h38.2 (rH h r0 37) 2 (1 + z39)))) fun z45 h44 => (if kH h44 r0 = 18 then (bI (fX10_draw r0 16 h44) fun z48 h47 => (if x3 ≤ z48 then (rec 19 [.ref r0, uV, .int x2, .int x3, .int (x4 + 1), uV] [] h47) else (if kH h47 r0 = 18 then (bI (fX10_crashes (rH h47 r0 23) h47) fun z54 h53 => (rec 19 [.ref r0, uV, .int x2, .int x3, .int (x4 + 1), uV] [] h53)) else none))) else none)) else none) else none) else none))) else none) else none) else none)
theorem uX10_stormBy_116 {G : GG} {d : Nat} (hd : 10 ≤ d) (rec : Nat → List Value → List Value → Hp → RS) (hrec : ∀ pc loc st h o h', rec pc loc st h = some (o, h') → V G mX10_stormBy d pc loc st h o h')   {r0  x2  x3  x4  x5  s0  s1  t2 } {h : Hp} {o : OU} {h' : Hp} (e : kX10_stormBy_116 rec  r0 x2 x3 x4 x5 s0 s1 t2 h = some (o, h')) : V G mX10_stormBy d 116 [.ref r0, uV, .int x2, .int x3, .int x4, .int x5] [.int s0, .int s1, .ref t2] h o h' := by
  unfold kX10_stormBy_116 at e
  refine bX10_stormBy_116 r0 x2 x3 x4 x5 s0 s1 t2 (by omega) ?_
  obtain ⟨q1, e⟩ := ob_e e
  refine ⟨q1, ?_⟩
  obtain ⟨q2, e⟩ := ob_in e
  refine ⟨q2, ?_⟩
  obtain ⟨q3, e⟩ := ob_e e
  refine ⟨q3, ?_⟩
  refine ⟨fun c4 => ?_, fun c4 => ?_⟩
  · have e := if_t e c4
    refine ⟨fun c5 => ?_, fun c5 => ?_⟩
    · have e := if_t e c5
      obtain ⟨q6, e⟩ := ob_e e
      refine ⟨q6, ?_⟩
      obtain ⟨q7, e⟩ := ob_in e
      refine ⟨q7, ?_⟩
      obtain ⟨z9, h8, e8, e⟩ := bI_e e
      refine ⟨z9, h8, (tX10_does e8 (by omega)), ?_⟩
      obtain ⟨q9, e⟩ := ob_e e
      refine ⟨q9, ?_⟩
      obtain ⟨z12, h11, e10, e⟩ := bI_e e
      refine ⟨z12, h11, (tX10_draw e10 (by omega)), ?_⟩
      refine ⟨fun c11 => ?_, fun c11 => ?_⟩
      · have e := if_t e c11
        exact hrec _ _ _ _ _ _ e
      · have e := if_f e c11
        obtain ⟨q12, e⟩ := ob_e e
        refine ⟨q12, ?_⟩
        obtain ⟨z18, h17, e13, e⟩ := bI_e e
        refine ⟨z18, h17, (tX10_crashes e13 (by omega)), ?_⟩
        exact hrec _ _ _ _ _ _ e
    · have e := if_n e c5
      obtain ⟨z21, h20, e14, e⟩ := bI_e e
      refine ⟨z21, h20, (tX10_draw e14 (by omega)), ?_⟩
      obtain ⟨q15, e⟩ := ob_e e
      refine ⟨q15, ?_⟩
      obtain ⟨q16, e⟩ := ob_in e
      refine ⟨q16, ?_⟩
      obtain ⟨q17, e⟩ := ob_e e
      refine ⟨q17, ?_⟩
      obtain ⟨z27, h26, e18, e⟩ := bI_e e
      refine ⟨z27, h26, (tX10_does e18 (by omega)), ?_⟩
      obtain ⟨q19, e⟩ := ob_e e
      refine ⟨q19, ?_⟩
      obtain ⟨z30, h29, e20, e⟩ := bI_e e
      refine ⟨z30, h29, (tX10_draw e20 (by omega)), ?_⟩
      refine ⟨fun c21 => ?_, fun c21 => ?_⟩
      · have e := if_t e c21
        exact hrec _ _ _ _ _ _ e
      · have e := if_f e c21
        obtain ⟨q22, e⟩ := ob_e e
        refine ⟨q22, ?_⟩
        obtain ⟨z36, h35, e23, e⟩ := bI_e e
        refine ⟨z36, h35, (tX10_crashes e23 (by omega)), ?_⟩
        exact hrec _ _ _ _ _ _ e
  · have e := if_f e c4
    obtain ⟨z39, h38, e24, e⟩ := bI_e e
    refine ⟨z39, h38, (tX10_draw e24 (by omega)), ?_⟩
    obtain ⟨q25, e⟩ := ob_e e
    refine ⟨q25, ?_⟩
    obtain ⟨q26, e⟩ := ob_in e
    refine ⟨q26, ?_⟩
    obtain ⟨q27, e⟩ := ob_e e
    refine ⟨q27, ?_⟩
    obtain ⟨z45, h44, e28, e⟩ := bI_e e
    refine ⟨z45, h44, (tX10_does e28 (by omega)), ?_⟩
    obtain ⟨q29, e⟩ := ob_e e
    refine ⟨q29, ?_⟩
    obtain ⟨z48, h47, e30, e⟩ := bI_e e
    refine ⟨z48, h47, (tX10_draw e30 (by omega)), ?_⟩
    refine ⟨fun c31 => ?_, fun c31 => ?_⟩
    · have e := if_t e c31
      exact hrec _ _ _ _ _ _ e
    · have e := if_f e c31
      obtain ⟨q32, e⟩ := ob_e e
      refine ⟨q32, ?_⟩
      obtain ⟨z54, h53, e33, e⟩ := bI_e e
      refine ⟨z54, h53, (tX10_crashes e33 (by omega)), ?_⟩
      exact hrec _ _ _ _ _ _ e
def sX10_stormBy  (rec : Nat → List Value → List Value → Hp → RS) (pc : Nat) (loc st : List Value) (h : Hp) : RS := match pc, loc, st with
  | 19, [.ref r0, _, .int x2, .int x3, .int x4, _], [] => kX10_stormBy_19 rec  r0 x2 x3 x4 h
  | 81, [.ref r0, _, .int x2, .int x3, .int x4, .int x5], [.int s0, .int s1, .ref t2] => kX10_stormBy_81 rec  r0 x2 x3 x4 x5 s0 s1 t2 h
  | 116, [.ref r0, _, .int x2, .int x3, .int x4, .int x5], [.int s0, .int s1, .ref t2] => kX10_stormBy_116 rec  r0 x2 x3 x4 x5 s0 s1 t2 h
  | _, _, _ => none
def gX10_stormBy  : Nat → Nat → List Value → List Value → Hp → RS
  | 0 => fun _ _ _ _ => none
  | n + 1 => sX10_stormBy  (gX10_stormBy  n)
theorem wX10_stormBy {G : GG} {d : Nat} (hd : 10 ≤ d)   : ∀ (n pc : Nat) (loc st : List Value) (h : Hp) (o : OU) (h' : Hp), gX10_stormBy  n pc loc st h = some (o, h') → V G mX10_stormBy d pc loc st h o h' := by
  intro n
  induction n with
  | zero => intro pc loc st h o h' e; cases e
  | succ n ih =>
    intro pc loc st h o h' e
    unfold gX10_stormBy sX10_stormBy at e
    split at e
    · exact V.drop (llp_r (llp_u (llp_r (llp_r (llp_r (llp_u llp_nil)))))) (uX10_stormBy_19 hd _ ih   e)
    · exact V.drop (llp_r (llp_u (llp_r (llp_r (llp_r (llp_r llp_nil)))))) (uX10_stormBy_81 hd _ ih   e)
    · exact V.drop (llp_r (llp_u (llp_r (llp_r (llp_r (llp_r llp_nil)))))) (uX10_stormBy_116 hd _ ih   e)
    · cases e
theorem zX10_stormBy_19  (n : Nat) (r0 : Nat) (x2 : Int32) (x3 : Int32) (x4 : Int32) (y1 : Value) (y5 : Value) (h : Hp) : gX10_stormBy  (n + 1) 19 [.ref r0, y1, .int x2, .int x3, .int x4, y5] [] h = kX10_stormBy_19 (gX10_stormBy  n)  r0 x2 x3 x4 h := rfl
theorem zX10_stormBy_81  (n : Nat) (r0 : Nat) (x2 : Int32) (x3 : Int32) (x4 : Int32) (x5 : Int32) (s0 : Int32) (s1 : Int32) (t2 : Nat) (y1 : Value) (h : Hp) : gX10_stormBy  (n + 1) 81 [.ref r0, y1, .int x2, .int x3, .int x4, .int x5] [.int s0, .int s1, .ref t2] h = kX10_stormBy_81 (gX10_stormBy  n)  r0 x2 x3 x4 x5 s0 s1 t2 h := rfl
theorem zX10_stormBy_116  (n : Nat) (r0 : Nat) (x2 : Int32) (x3 : Int32) (x4 : Int32) (x5 : Int32) (s0 : Int32) (s1 : Int32) (t2 : Nat) (y1 : Value) (h : Hp) : gX10_stormBy  (n + 1) 116 [.ref r0, y1, .int x2, .int x3, .int x4, .int x5] [.int s0, .int s1, .ref t2] h = kX10_stormBy_116 (gX10_stormBy  n)  r0 x2 x3 x4 x5 s0 s1 t2 h := rfl
def fX10_stormBy (r0 : Nat) (x1 : Int32) (x2 : Int32) (x3 : Int32) (h : Hp) : RS := kX10_stormBy_0 (gX10_stormBy FF) r0 x1 x2 x3 h
theorem tX10_stormBy {G : GG} {d : Nat} {r0 x1 x2 x3} {h : Hp} {o : OU} {h' : Hp} (e : fX10_stormBy r0 x1 x2 x3 h = some (o, h')) (hd : 10 ≤ d) : VM G mX10_stormBy d [.ref r0, .int x1, .int x2, .int x3] h o h' := uX10_stormBy_0 hd _ (wX10_stormBy hd FF) e
def kX10_isStorm_0  (x0 : Int32) (x1 : Int32) (h : Hp) : RS := (bI (fX10_in x0 1 96 h) fun z2 h1 => (if z2 = 0 then (some (.inl (some (.int 0)), h1)) else (bI (fX10_in x1 0 16 h1) fun z6 h5 => (if z6 = 0 then (some (.inl (some (.int 0)), h5)) else (some (.inl (some (.int 1)), h5))))))
theorem uX10_isStorm_0 {G : GG} {d : Nat} (hd : 2 ≤ d)   {x0  x1 } {h : Hp} {o : OU} {h' : Hp} (e : kX10_isStorm_0  x0 x1 h = some (o, h')) : VM G mX10_isStorm d [.int x0, .int x1] h o h' := by
  unfold kX10_isStorm_0 at e
  refine eX10_isStorm x0 x1 (by omega) ?_
  obtain ⟨z2, h1, e1, e⟩ := bI_e e
  refine ⟨z2, h1, (tX10_in e1 (by omega)), ?_⟩
  refine ⟨fun c2 => ?_, fun c2 => ?_⟩
  · have e := if_t e c2
    cases e
    exact ⟨rfl, rfl⟩
  · have e := if_f e c2
    obtain ⟨z6, h5, e3, e⟩ := bI_e e
    refine ⟨z6, h5, (tX10_in e3 (by omega)), ?_⟩
    refine ⟨fun c4 => ?_, fun c4 => ?_⟩
    · have e := if_t e c4
      cases e
      exact ⟨rfl, rfl⟩
    · have e := if_f e c4
      cases e
      exact ⟨rfl, rfl⟩
def fX10_isStorm (x0 : Int32) (x1 : Int32) (h : Hp) : RS := kX10_isStorm_0 x0 x1 h
theorem tX10_isStorm {G : GG} {d : Nat} {x0 x1} {h : Hp} {o : OU} {h' : Hp} (e : fX10_isStorm x0 x1 h = some (o, h')) (hd : 2 ≤ d) : VM G mX10_isStorm d [.int x0, .int x1] h o h' := uX10_isStorm_0 hd e
def kX10_storm_0 (rec : Nat → List Value → List Value → Hp → RS)  (r0 : Nat) (x1 : Int32) (x2 : Int32) (x3 : Int32) (x4 : Int32) (h : Hp) : RS := (if kH h r0 = 18 then (bI (fX10_isStorm x2 x3 (h.1, (upI h.2 r0 0 0))) fun z3 h2 => (if z3 = 0 then (rec 29 [.ref r0, .int x1, .int x2, .int x3, .int x4] [.int 1, .ref r0] h2) else (bI (fX10_in x4 0 3 h2) fun z7 h6 => (if ¬ z7 = 0 then (rec 29 [.ref r0, .int x1, .int x2, .int x3, .int x4] [.int 0, .ref r0] h6) else (rec 29 [.ref r0, .int x1, .int x2, .int x3, .int x4] [.int 1, .ref r0] h6))))) else none)
theorem uX10_storm_0 {G : GG} {d : Nat} (hd : 11 ≤ d) (rec : Nat → List Value → List Value → Hp → RS) (hrec : ∀ pc loc st h o h', rec pc loc st h = some (o, h') → V G mX10_storm d pc loc st h o h')   {r0  x1  x2  x3  x4 } {h : Hp} {o : OU} {h' : Hp} (e : kX10_storm_0 rec  r0 x1 x2 x3 x4 h = some (o, h')) : VM G mX10_storm d [.ref r0, .int x1, .int x2, .int x3, .int x4] h o h' := by
  unfold kX10_storm_0 at e
  refine eX10_storm r0 x1 x2 x3 x4 (by omega) ?_
  obtain ⟨q1, e⟩ := ob_e e
  refine ⟨q1, ?_⟩
  obtain ⟨z3, h2, e2, e⟩ := bI_e e
  refine ⟨z3, h2, (tX10_isStorm e2 (by omega)), ?_⟩
  refine ⟨fun c3 => ?_, fun c3 => ?_⟩
  · have e := if_t e c3
    exact hrec _ _ _ _ _ _ e
  · have e := if_f e c3
    obtain ⟨z7, h6, e4, e⟩ := bI_e e
    refine ⟨z7, h6, (tX10_in e4 (by omega)), ?_⟩
    refine ⟨fun c5 => ?_, fun c5 => ?_⟩
    · have e := if_t e c5
      exact hrec _ _ _ _ _ _ e
    · have e := if_n e c5
      exact hrec _ _ _ _ _ _ e
def kX10_storm_29 (rec : Nat → List Value → List Value → Hp → RS)  (r0 : Nat) (x1 : Int32) (x2 : Int32) (x3 : Int32) (x4 : Int32) (s0 : Int32) (t1 : Nat) (h : Hp) : RS := (if kH h t1 = 18 then (bI (fX10_bad t1 s0 1 1 h) fun z2 h1 => (if z2 = 0 then (if kH h1 r0 = 18 then (bV (fX10_stormBy r0 x1 x2 x3 h1) fun h6 => (if ¬ x4 = 0 then (if ¬ x4 = 1 then (if ¬ x4 = 2 then (if kH h6 r0 = 18 then (bI (fX10_brokenOf r0 (rH h6 r0 23) 256 h6) fun z14 h13 => (some (.inl (some (.int z14)), h13))) else none) else (if kH h6 r0 = 18 then (if kH h6 (rH h6 r0 23) = 1 then (if inB 3395 (lH h6 (rH h6 r0 23)) = true then (if kH h6 (rH h6 r0 22) = 1 then (if inB 3395 (lH h6 (rH h6 r0 22)) = true then (some (.inl (some (.int ((h6.2 (rH h6 r0 23) 3395) - (h6.2 (rH h6 r0 22) 3395)))), h6)) else none) else none) else none) else none) else none)) else (if kH h6 r0 = 18 then (bI (fX10_linked (rH h6 r0 23) 256 h6) fun z23 h22 => (some (.inl (some (.int z23)), h22))) else none)) else (if kH h6 r0 = 18 then (bI (fX10_leaking r0 (rH h6 r0 23) 256 h6) fun z27 h26 => (bI (fX10_ones z27 h26) fun z30 h29 => (some (.inl (some (.int z30)), h29)))) else none))) else none) else (some (.inl (some (.int 0)), h1)))) else none)
theorem uX10_storm_29 {G : GG} {d : Nat} (hd : 11 ≤ d) (rec : Nat → List Value → List Value → Hp → RS) (hrec : ∀ pc loc st h o h', rec pc loc st h = some (o, h') → V G mX10_storm d pc loc st h o h')   {r0  x1  x2  x3  x4  s0  t1 } {h : Hp} {o : OU} {h' : Hp} (e : kX10_storm_29 rec  r0 x1 x2 x3 x4 s0 t1 h = some (o, h')) : V G mX10_storm d 29 [.ref r0, .int x1, .int x2, .int x3, .int x4] [.int s0, .ref t1] h o h' := by
  unfold kX10_storm_29 at e
  refine bX10_storm_29 r0 x1 x2 x3 x4 s0 t1 (by omega) ?_
  obtain ⟨q1, e⟩ := ob_e e
  refine ⟨q1, ?_⟩
  obtain ⟨z2, h1, e2, e⟩ := bI_e e
  refine ⟨z2, h1, (tX10_bad e2 (by omega)), ?_⟩
  refine ⟨fun c3 => ?_, fun c3 => ?_⟩
  · have e := if_t e c3
    obtain ⟨q4, e⟩ := ob_e e
    refine ⟨q4, ?_⟩
    obtain ⟨h6, e5, e⟩ := bV_e e
    refine ⟨h6, (tX10_stormBy e5 (by omega)), ?_⟩
    refine ⟨fun c6 => ?_, fun c6 => ?_⟩
    · have e := if_t e c6
      refine ⟨fun c7 => ?_, fun c7 => ?_⟩
      · have e := if_t e c7
        refine ⟨fun c8 => ?_, fun c8 => ?_⟩
        · have e := if_t e c8
          obtain ⟨q9, e⟩ := ob_e e
          refine ⟨q9, ?_⟩
          obtain ⟨z14, h13, e10, e⟩ := bI_e e
          refine ⟨z14, h13, (tX10_brokenOf e10 (by omega)), ?_⟩
          cases e
          exact ⟨rfl, rfl⟩
        · have e := if_n e c8
          obtain ⟨q11, e⟩ := ob_e e
          refine ⟨q11, ?_⟩
          obtain ⟨q12, e⟩ := ob_e e
          refine ⟨q12, ?_⟩
          obtain ⟨q13, e⟩ := ob_in e
          refine ⟨q13, ?_⟩
          obtain ⟨q14, e⟩ := ob_e e
          refine ⟨q14, ?_⟩
          obtain ⟨q15, e⟩ := ob_in e
          refine ⟨q15, ?_⟩
          cases e
          exact ⟨rfl, rfl⟩
      · have e := if_n e c7
        obtain ⟨q16, e⟩ := ob_e e
        refine ⟨q16, ?_⟩
        obtain ⟨z23, h22, e17, e⟩ := bI_e e
        refine ⟨z23, h22, (tX10_linked e17 (by omega)), ?_⟩
        cases e
        exact ⟨rfl, rfl⟩
    · have e := if_n e c6
      obtain ⟨q18, e⟩ := ob_e e
      refine ⟨q18, ?_⟩
      obtain ⟨z27, h26, e19, e⟩ := bI_e e
      refine ⟨z27, h26, (tX10_leaking e19 (by omega)), ?_⟩
      obtain ⟨z30, h29, e20, e⟩ := bI_e e
      refine ⟨z30, h29, (tX10_ones e20 (by omega)), ?_⟩
      cases e
      exact ⟨rfl, rfl⟩
  · have e := if_f e c3
    cases e
    exact ⟨rfl, rfl⟩
def sX10_storm  (rec : Nat → List Value → List Value → Hp → RS) (pc : Nat) (loc st : List Value) (h : Hp) : RS := match pc, loc, st with
  | 29, [.ref r0, .int x1, .int x2, .int x3, .int x4], [.int s0, .ref t1] => kX10_storm_29 rec  r0 x1 x2 x3 x4 s0 t1 h
  | _, _, _ => none
def gX10_storm  : Nat → Nat → List Value → List Value → Hp → RS
  | 0 => fun _ _ _ _ => none
  | n + 1 => sX10_storm  (gX10_storm  n)
theorem wX10_storm {G : GG} {d : Nat} (hd : 11 ≤ d)   : ∀ (n pc : Nat) (loc st : List Value) (h : Hp) (o : OU) (h' : Hp), gX10_storm  n pc loc st h = some (o, h') → V G mX10_storm d pc loc st h o h' := by
  intro n
  induction n with
  | zero => intro pc loc st h o h' e; cases e
  | succ n ih =>
    intro pc loc st h o h' e
    unfold gX10_storm sX10_storm at e
    split at e
    · exact uX10_storm_29 hd _ ih   e
    · cases e
theorem zX10_storm_29  (n : Nat) (r0 : Nat) (x1 : Int32) (x2 : Int32) (x3 : Int32) (x4 : Int32) (s0 : Int32) (t1 : Nat)  (h : Hp) : gX10_storm  (n + 1) 29 [.ref r0, .int x1, .int x2, .int x3, .int x4] [.int s0, .ref t1] h = kX10_storm_29 (gX10_storm  n)  r0 x1 x2 x3 x4 s0 t1 h := rfl
def fX10_storm (r0 : Nat) (x1 : Int32) (x2 : Int32) (x3 : Int32) (x4 : Int32) (h : Hp) : RS := kX10_storm_0 (gX10_storm FF) r0 x1 x2 x3 x4 h
theorem tX10_storm {G : GG} {d : Nat} {r0 x1 x2 x3 x4} {h : Hp} {o : OU} {h' : Hp} (e : fX10_storm r0 x1 x2 x3 x4 h = some (o, h')) (hd : 11 ≤ d) : VM G mX10_storm d [.ref r0, .int x1, .int x2, .int x3, .int x4] h o h' := uX10_storm_0 hd _ (wX10_storm hd FF) e
def kX10_span_0 (rec : Nat → List Value → List Value → Hp → RS)  (r0 : Nat) (x1 : Int32) (x2 : Int32) (x3 : Int32) (x4 : Int32) (x5 : Int32) (x6 : Int32) (h : Hp) : RS := (if kH h r0 = 18 then (bI (fX10_isNode x6 (h.1, (upI h.2 r0 0 0))) fun z3 h2 => (if ¬ z3 = 0 then (rec 19 [.ref r0, .int x1, .int x2, .int x3, .int x4, .int x5, .int x6, uV, uV, uV, uV, uV] [.int 0, .ref r0] h2) else (rec 19 [.ref r0, .int x1, .int x2, .int x3, .int x4, .int x5, .int x6, uV, uV, uV, uV, uV] [.int 1, .ref r0] h2))) else none)
theorem uX10_span_0 {G : GG} {d : Nat} (hd : 11 ≤ d) (rec : Nat → List Value → List Value → Hp → RS) (hrec : ∀ pc loc st h o h', rec pc loc st h = some (o, h') → V G mX10_span d pc loc st h o h')   {r0  x1  x2  x3  x4  x5  x6 } {h : Hp} {o : OU} {h' : Hp} (e : kX10_span_0 rec  r0 x1 x2 x3 x4 x5 x6 h = some (o, h')) : VM G mX10_span d [.ref r0, .int x1, .int x2, .int x3, .int x4, .int x5, .int x6] h o h' := by
  unfold kX10_span_0 at e
  refine eX10_span r0 x1 x2 x3 x4 x5 x6 (by omega) ?_
  obtain ⟨q1, e⟩ := ob_e e
  refine ⟨q1, ?_⟩
  obtain ⟨z3, h2, e2, e⟩ := bI_e e
  refine ⟨z3, h2, (tX10_isNode e2 (by omega)), ?_⟩
  refine ⟨fun c3 => ?_, fun c3 => ?_⟩
  · have e := if_t e c3
    exact hrec _ _ _ _ _ _ e
  · have e := if_n e c3
    exact hrec _ _ _ _ _ _ e
def kX10_span_19 (rec : Nat → List Value → List Value → Hp → RS)  (r0 : Nat) (x1 : Int32) (x2 : Int32) (x3 : Int32) (x4 : Int32) (x5 : Int32) (x6 : Int32) (s0 : Int32) (t1 : Nat) (h : Hp) : RS := (if kH h t1 = 18 then (bI (fX10_bad t1 s0 1 0 h) fun z2 h1 => (if ¬ z2 = 0 then (some (.inl (some (.int 0)), h1)) else (bI (fX10_in x2 1 5 h1) fun z7 h6 => (if z7 = 0 then (if kH h6 r0 = 18 then (bI (fX10_bad r0 1 2 1 h6) fun z11 h10 => (if z11 = 0 then (rec 83 [.ref r0, .int x1, .int x2, .int x3, .int x4, .int x5, .int x6, .int (-1), .int 0, .int 0, .int 0, uV] [] h10) else (some (.inl (some (.int 0)), h10)))) else none) else (bI (fX10_isStorm x3 x4 h6) fun z16 h15 => (if z16 = 0 then (if kH h15 r0 = 18 then (bI (fX10_bad r0 1 2 1 h15) fun z20 h19 => (if z20 = 0 then (rec 83 [.ref r0, .int x1, .int x2, .int x3, .int x4, .int x5, .int x6, .int (-1), .int 0, .int 0, .int 0, uV] [] h19) else (some (.inl (some (.int 0)), h19)))) else none) else (bI (fX10_in x5 0 2 h15) fun z25 h24 => (if ¬ z25 = 0 then (if kH h24 r0 = 18 then (bI (fX10_bad r0 0 2 1 h24) fun z29 h28 => (if z29 = 0 then (rec 83 [.ref r0, .int x1, .int x2, .int x3, .int x4, .int x5, .int x6, .int (-1), .int 0, .int 0, .int 0, uV] [] h28) else (some (.inl (some (.int 0)), h28)))) else none) else (if kH h24 r0 = 18 then (bI (fX10_bad r0 1 2 1 h24) fun z34 h33 => (if z34 = 0 then (rec 83 [.ref r0, .int x1, .int x2, .int x3, .int x4, .int x5, .int x6, .int (-1), .int 0, .int 0, .int 0, uV] [] h33) else (some (.inl (some (.int 0)), h33)))) else none))))))))) else none)
theorem uX10_span_19 {G : GG} {d : Nat} (hd : 11 ≤ d) (rec : Nat → List Value → List Value → Hp → RS) (hrec : ∀ pc loc st h o h', rec pc loc st h = some (o, h') → V G mX10_span d pc loc st h o h')   {r0  x1  x2  x3  x4  x5  x6  s0  t1 } {h : Hp} {o : OU} {h' : Hp} (e : kX10_span_19 rec  r0 x1 x2 x3 x4 x5 x6 s0 t1 h = some (o, h')) : V G mX10_span d 19 [.ref r0, .int x1, .int x2, .int x3, .int x4, .int x5, .int x6, uV, uV, uV, uV, uV] [.int s0, .ref t1] h o h' := by
  unfold kX10_span_19 at e
  refine bX10_span_19 r0 x1 x2 x3 x4 x5 x6 s0 t1 (by omega) ?_
  obtain ⟨q1, e⟩ := ob_e e
  refine ⟨q1, ?_⟩
  obtain ⟨z2, h1, e2, e⟩ := bI_e e
  refine ⟨z2, h1, (tX10_bad e2 (by omega)), ?_⟩
  refine ⟨fun c3 => ?_, fun c3 => ?_⟩
  · have e := if_t e c3
    cases e
    exact ⟨rfl, rfl⟩
  · have e := if_n e c3
    obtain ⟨z7, h6, e4, e⟩ := bI_e e
    refine ⟨z7, h6, (tX10_in e4 (by omega)), ?_⟩
    refine ⟨fun c5 => ?_, fun c5 => ?_⟩
    · have e := if_t e c5
      obtain ⟨q6, e⟩ := ob_e e
      refine ⟨q6, ?_⟩
      obtain ⟨z11, h10, e7, e⟩ := bI_e e
      refine ⟨z11, h10, (tX10_bad e7 (by omega)), ?_⟩
      refine ⟨fun c8 => ?_, fun c8 => ?_⟩
      · have e := if_t e c8
        exact hrec _ _ _ _ _ _ e
      · have e := if_f e c8
        cases e
        exact ⟨rfl, rfl⟩
    · have e := if_f e c5
      obtain ⟨z16, h15, e9, e⟩ := bI_e e
      refine ⟨z16, h15, (tX10_isStorm e9 (by omega)), ?_⟩
      refine ⟨fun c10 => ?_, fun c10 => ?_⟩
      · have e := if_t e c10
        obtain ⟨q11, e⟩ := ob_e e
        refine ⟨q11, ?_⟩
        obtain ⟨z20, h19, e12, e⟩ := bI_e e
        refine ⟨z20, h19, (tX10_bad e12 (by omega)), ?_⟩
        refine ⟨fun c13 => ?_, fun c13 => ?_⟩
        · have e := if_t e c13
          exact hrec _ _ _ _ _ _ e
        · have e := if_f e c13
          cases e
          exact ⟨rfl, rfl⟩
      · have e := if_f e c10
        obtain ⟨z25, h24, e14, e⟩ := bI_e e
        refine ⟨z25, h24, (tX10_in e14 (by omega)), ?_⟩
        refine ⟨fun c15 => ?_, fun c15 => ?_⟩
        · have e := if_t e c15
          obtain ⟨q16, e⟩ := ob_e e
          refine ⟨q16, ?_⟩
          obtain ⟨z29, h28, e17, e⟩ := bI_e e
          refine ⟨z29, h28, (tX10_bad e17 (by omega)), ?_⟩
          refine ⟨fun c18 => ?_, fun c18 => ?_⟩
          · have e := if_t e c18
            exact hrec _ _ _ _ _ _ e
          · have e := if_f e c18
            cases e
            exact ⟨rfl, rfl⟩
        · have e := if_n e c15
          obtain ⟨q19, e⟩ := ob_e e
          refine ⟨q19, ?_⟩
          obtain ⟨z34, h33, e20, e⟩ := bI_e e
          refine ⟨z34, h33, (tX10_bad e20 (by omega)), ?_⟩
          refine ⟨fun c21 => ?_, fun c21 => ?_⟩
          · have e := if_t e c21
            exact hrec _ _ _ _ _ _ e
          · have e := if_f e c21
            cases e
            exact ⟨rfl, rfl⟩
def kX10_span_83 (rec : Nat → List Value → List Value → Hp → RS)  (r0 : Nat) (x1 : Int32) (x2 : Int32) (x3 : Int32) (x4 : Int32) (x5 : Int32) (x6 : Int32) (x7 : Int32) (x8 : Int32) (x9 : Int32) (x10 : Int32) (h : Hp) : RS := (if x2 ≤ x10 then (if ¬ x5 = 0 then (if ¬ x5 = 1 then (some (.inl (some (.int x9)), h)) else (some (.inl (some (.int x8)), h))) else (some (.inl (some (.int x7)), h))) else (if kH h r0 = 18 then (bV (fX10_stormBy r0 (x1 + x10) x3 x4 h) fun h4 => (if kH h4 r0 = 18 then (bI (fX10_leaking r0 (rH h4 r0 23) 256 h4) fun z9 h8 => (bI (fX10_ones z9 h8) fun z12 h11 => (if ¬ x7 = (-1) then (bI (fX10_less x7 z12 h11) fun z16 h15 => (bI (fX10_more x8 z12 h15) fun z19 h18 => (if kH h18 r0 = 18 then (bI (fX10_fieldOf (rH h18 r0 23) 256 x6 0 h18) fun z23 h22 => (if z23 ≤ 0 then (rec 83 [.ref r0, .int x1, .int x2, .int x3, .int x4, .int x5, .int x6, .int z16, .int z19, .int (x9 + 0), .int (x10 + 1), uV] [] h22) else (rec 83 [.ref r0, .int x1, .int x2, .int x3, .int x4, .int x5, .int x6, .int z16, .int z19, .int (x9 + 1), .int (x10 + 1), uV] [] h22))) else none))) else (bI (fX10_more x8 z12 h11) fun z27 h26 => (if kH h26 r0 = 18 then (bI (fX10_fieldOf (rH h26 r0 23) 256 x6 0 h26) fun z31 h30 => (if z31 ≤ 0 then (rec 83 [.ref r0, .int x1, .int x2, .int x3, .int x4, .int x5, .int x6, .int z12, .int z27, .int (x9 + 0), .int (x10 + 1), uV] [] h30) else (rec 83 [.ref r0, .int x1, .int x2, .int x3, .int x4, .int x5, .int x6, .int z12, .int z27, .int (x9 + 1), .int (x10 + 1), uV] [] h30))) else none))))) else none)) else none))
theorem uX10_span_83 {G : GG} {d : Nat} (hd : 11 ≤ d) (rec : Nat → List Value → List Value → Hp → RS) (hrec : ∀ pc loc st h o h', rec pc loc st h = some (o, h') → V G mX10_span d pc loc st h o h')   {r0  x1  x2  x3  x4  x5  x6  x7  x8  x9  x10 } {h : Hp} {o : OU} {h' : Hp} (e : kX10_span_83 rec  r0 x1 x2 x3 x4 x5 x6 x7 x8 x9 x10 h = some (o, h')) : V G mX10_span d 83 [.ref r0, .int x1, .int x2, .int x3, .int x4, .int x5, .int x6, .int x7, .int x8, .int x9, .int x10, uV] [] h o h' := by
  unfold kX10_span_83 at e
  refine bX10_span_83 r0 x1 x2 x3 x4 x5 x6 x7 x8 x9 x10 (by omega) ?_
  refine ⟨fun c1 => ?_, fun c1 => ?_⟩
  · have e := if_t e c1
    refine ⟨fun c2 => ?_, fun c2 => ?_⟩
    · have e := if_t e c2
      refine ⟨fun c3 => ?_, fun c3 => ?_⟩
      · have e := if_t e c3
        cases e
        exact ⟨rfl, rfl⟩
      · have e := if_n e c3
        cases e
        exact ⟨rfl, rfl⟩
    · have e := if_n e c2
      cases e
      exact ⟨rfl, rfl⟩
  · have e := if_f e c1
    obtain ⟨q4, e⟩ := ob_e e
    refine ⟨q4, ?_⟩
    obtain ⟨h4, e5, e⟩ := bV_e e
    refine ⟨h4, (tX10_stormBy e5 (by omega)), ?_⟩
    obtain ⟨q6, e⟩ := ob_e e
    refine ⟨q6, ?_⟩
    obtain ⟨z9, h8, e7, e⟩ := bI_e e
    refine ⟨z9, h8, (tX10_leaking e7 (by omega)), ?_⟩
    obtain ⟨z12, h11, e8, e⟩ := bI_e e
    refine ⟨z12, h11, (tX10_ones e8 (by omega)), ?_⟩
    refine ⟨fun c9 => ?_, fun c9 => ?_⟩
    · have e := if_t e c9
      obtain ⟨z16, h15, e10, e⟩ := bI_e e
      refine ⟨z16, h15, (tX10_less e10 (by omega)), ?_⟩
      obtain ⟨z19, h18, e11, e⟩ := bI_e e
      refine ⟨z19, h18, (tX10_more e11 (by omega)), ?_⟩
      obtain ⟨q12, e⟩ := ob_e e
      refine ⟨q12, ?_⟩
      obtain ⟨z23, h22, e13, e⟩ := bI_e e
      refine ⟨z23, h22, (tX10_fieldOf e13 (by omega)), ?_⟩
      refine ⟨fun c14 => ?_, fun c14 => ?_⟩
      · have e := if_t e c14
        exact hrec _ _ _ _ _ _ e
      · have e := if_f e c14
        exact hrec _ _ _ _ _ _ e
    · have e := if_n e c9
      obtain ⟨z27, h26, e15, e⟩ := bI_e e
      refine ⟨z27, h26, (tX10_more e15 (by omega)), ?_⟩
      obtain ⟨q16, e⟩ := ob_e e
      refine ⟨q16, ?_⟩
      obtain ⟨z31, h30, e17, e⟩ := bI_e e
      refine ⟨z31, h30, (tX10_fieldOf e17 (by omega)), ?_⟩
      refine ⟨fun c18 => ?_, fun c18 => ?_⟩
      · have e := if_t e c18
        exact hrec _ _ _ _ _ _ e
      · have e := if_f e c18
        exact hrec _ _ _ _ _ _ e
def sX10_span  (rec : Nat → List Value → List Value → Hp → RS) (pc : Nat) (loc st : List Value) (h : Hp) : RS := match pc, loc, st with
  | 19, [.ref r0, .int x1, .int x2, .int x3, .int x4, .int x5, .int x6, _, _, _, _, _], [.int s0, .ref t1] => kX10_span_19 rec  r0 x1 x2 x3 x4 x5 x6 s0 t1 h
  | 83, [.ref r0, .int x1, .int x2, .int x3, .int x4, .int x5, .int x6, .int x7, .int x8, .int x9, .int x10, _], [] => kX10_span_83 rec  r0 x1 x2 x3 x4 x5 x6 x7 x8 x9 x10 h
  | _, _, _ => none
def gX10_span  : Nat → Nat → List Value → List Value → Hp → RS
  | 0 => fun _ _ _ _ => none
  | n + 1 => sX10_span  (gX10_span  n)
theorem wX10_span {G : GG} {d : Nat} (hd : 11 ≤ d)   : ∀ (n pc : Nat) (loc st : List Value) (h : Hp) (o : OU) (h' : Hp), gX10_span  n pc loc st h = some (o, h') → V G mX10_span d pc loc st h o h' := by
  intro n
  induction n with
  | zero => intro pc loc st h o h' e; cases e
  | succ n ih =>
    intro pc loc st h o h' e
    unfold gX10_span sX10_span at e
    split at e
    · exact V.drop (llp_r (llp_r (llp_r (llp_r (llp_r (llp_r (llp_r (llp_u (llp_u (llp_u (llp_u (llp_u llp_nil)))))))))))) (uX10_span_19 hd _ ih   e)
    · exact V.drop (llp_r (llp_r (llp_r (llp_r (llp_r (llp_r (llp_r (llp_r (llp_r (llp_r (llp_r (llp_u llp_nil)))))))))))) (uX10_span_83 hd _ ih   e)
    · cases e
theorem zX10_span_19  (n : Nat) (r0 : Nat) (x1 : Int32) (x2 : Int32) (x3 : Int32) (x4 : Int32) (x5 : Int32) (x6 : Int32) (s0 : Int32) (t1 : Nat) (y7 : Value) (y8 : Value) (y9 : Value) (y10 : Value) (y11 : Value) (h : Hp) : gX10_span  (n + 1) 19 [.ref r0, .int x1, .int x2, .int x3, .int x4, .int x5, .int x6, y7, y8, y9, y10, y11] [.int s0, .ref t1] h = kX10_span_19 (gX10_span  n)  r0 x1 x2 x3 x4 x5 x6 s0 t1 h := rfl
theorem zX10_span_83  (n : Nat) (r0 : Nat) (x1 : Int32) (x2 : Int32) (x3 : Int32) (x4 : Int32) (x5 : Int32) (x6 : Int32) (x7 : Int32) (x8 : Int32) (x9 : Int32) (x10 : Int32) (y11 : Value) (h : Hp) : gX10_span  (n + 1) 83 [.ref r0, .int x1, .int x2, .int x3, .int x4, .int x5, .int x6, .int x7, .int x8, .int x9, .int x10, y11] [] h = kX10_span_83 (gX10_span  n)  r0 x1 x2 x3 x4 x5 x6 x7 x8 x9 x10 h := rfl
def fX10_span (r0 : Nat) (x1 : Int32) (x2 : Int32) (x3 : Int32) (x4 : Int32) (x5 : Int32) (x6 : Int32) (h : Hp) : RS := kX10_span_0 (gX10_span FF) r0 x1 x2 x3 x4 x5 x6 h
theorem tX10_span {G : GG} {d : Nat} {r0 x1 x2 x3 x4 x5 x6} {h : Hp} {o : OU} {h' : Hp} (e : fX10_span r0 x1 x2 x3 x4 x5 x6 h = some (o, h')) (hd : 11 ≤ d) : VM G mX10_span d [.ref r0, .int x1, .int x2, .int x3, .int x4, .int x5, .int x6] h o h' := uX10_span_0 hd _ (wX10_span hd FF) e
def kX10_lays_0  (r0 : Nat) (r1 : Nat) (x2 : Int32) (x3 : Int32) (h : Hp) : RS := (if ¬ x3 = 0 then (if kH h r0 = 18 then (if kH h r1 = 1 then (if inB (((upI h.2 r0 17 ((h.2 r0 17) + 1)) r0 17) - 1) (lH h r1) = true then (some (.inl (some (.int ((upI h.2 r0 17 ((h.2 r0 17) + 1)) r1 (((upI h.2 r0 17 ((h.2 r0 17) + 1)) r0 17) - 1).toNatClampNeg))), (h.1, (upI h.2 r0 17 ((h.2 r0 17) + 1))))) else none) else none) else none) else (if kH h r0 = 18 then (if kH h r1 = 1 then (if inB (h.2 r0 17) (lH h r1) = true then (if inB (((upI (upI h.2 r1 (h.2 r0 17).toNatClampNeg x2) r0 17 (((upI h.2 r1 (h.2 r0 17).toNatClampNeg x2) r0 17) + 1)) r0 17) - 1) (lH h r1) = true then (some (.inl (some (.int ((upI (upI h.2 r1 (h.2 r0 17).toNatClampNeg x2) r0 17 (((upI h.2 r1 (h.2 r0 17).toNatClampNeg x2) r0 17) + 1)) r1 (((upI (upI h.2 r1 (h.2 r0 17).toNatClampNeg x2) r0 17 (((upI h.2 r1 (h.2 r0 17).toNatClampNeg x2) r0 17) + 1)) r0 17) - 1).toNatClampNeg))), (h.1, (upI (upI h.2 r1 (h.2 r0 17).toNatClampNeg x2) r0 17 (((upI h.2 r1 (h.2 r0 17).toNatClampNeg x2) r0 17) + 1))))) else none) else none) else none) else none))
theorem uX10_lays_0 {G : GG} {d : Nat} (hd : 1 ≤ d)   {r0  r1  x2  x3 } {h : Hp} {o : OU} {h' : Hp} (e : kX10_lays_0  r0 r1 x2 x3 h = some (o, h')) : VM G mX10_lays d [.ref r0, .ref r1, .int x2, .int x3] h o h' := by
  unfold kX10_lays_0 at e
  refine eX10_lays r0 r1 x2 x3 ?_
  refine ⟨fun c1 => ?_, fun c1 => ?_⟩
  · have e := if_t e c1
    obtain ⟨q2, e⟩ := ob_e e
    refine ⟨q2, ?_⟩
    obtain ⟨q3, e⟩ := ob_e e
    refine ⟨q3, ?_⟩
    obtain ⟨q4, e⟩ := ob_in e
    refine ⟨q4, ?_⟩
    cases e
    exact ⟨rfl, rfl⟩
  · have e := if_n e c1
    obtain ⟨q5, e⟩ := ob_e e
    refine ⟨q5, ?_⟩
    obtain ⟨q6, e⟩ := ob_e e
    refine ⟨q6, ?_⟩
    obtain ⟨q7, e⟩ := ob_in e
    refine ⟨q7, ?_⟩
    obtain ⟨q8, e⟩ := ob_in e
    refine ⟨q8, ?_⟩
    cases e
    exact ⟨rfl, rfl⟩
def fX10_lays (r0 : Nat) (r1 : Nat) (x2 : Int32) (x3 : Int32) (h : Hp) : RS := kX10_lays_0 r0 r1 x2 x3 h
theorem tX10_lays {G : GG} {d : Nat} {r0 r1 x2 x3} {h : Hp} {o : OU} {h' : Hp} (e : fX10_lays r0 r1 x2 x3 h = some (o, h')) (hd : 1 ≤ d) : VM G mX10_lays d [.ref r0, .ref r1, .int x2, .int x3] h o h' := uX10_lays_0 hd e
def kX10_putsAll_0 (rec : Nat → List Value → List Value → Hp → RS)  (r0 : Nat) (r1 : Nat) (x2 : Int32) (h : Hp) : RS := (if kH h r0 = 18 then (bI (fX10_lays r0 r1 ((upI h.2 r0 17 0) r0 14) x2 (h.1, (upI h.2 r0 17 0))) fun z3 h2 => (if kH h2 r0 = 18 then (rec 21 [.ref r0, .ref r1, .int x2, .int 0, uV] [] (h2.1, (upI h2.2 r0 14 z3))) else none)) else none)
theorem uX10_putsAll_0 {G : GG} {d : Nat} (hd : 2 ≤ d) (rec : Nat → List Value → List Value → Hp → RS) (hrec : ∀ pc loc st h o h', rec pc loc st h = some (o, h') → V G mX10_putsAll d pc loc st h o h')   {r0  r1  x2 } {h : Hp} {o : OU} {h' : Hp} (e : kX10_putsAll_0 rec  r0 r1 x2 h = some (o, h')) : VM G mX10_putsAll d [.ref r0, .ref r1, .int x2] h o h' := by
  unfold kX10_putsAll_0 at e
  refine eX10_putsAll r0 r1 x2 (by omega) ?_
  obtain ⟨q1, e⟩ := ob_e e
  refine ⟨q1, ?_⟩
  obtain ⟨z3, h2, e2, e⟩ := bI_e e
  refine ⟨z3, h2, (tX10_lays e2 (by omega)), ?_⟩
  obtain ⟨q3, e⟩ := ob_e e
  refine ⟨q3, ?_⟩
  exact hrec _ _ _ _ _ _ e
def kX10_putsAll_21 (rec : Nat → List Value → List Value → Hp → RS)  (r0 : Nat) (r1 : Nat) (x2 : Int32) (x3 : Int32) (h : Hp) : RS := (if 3398 ≤ x3 then (rec 54 [.ref r0, .ref r1, .int x2, .int 0, uV] [] h) else (if kH h r0 = 18 then (if kH h (rH h r0 22) = 1 then (if inB x3 (lH h (rH h r0 22)) = true then (bI (fX10_lays r0 r1 (h.2 (rH h r0 22) x3.toNatClampNeg) x2 h) fun z6 h5 => (if kH h5 (rH h r0 22) = 1 then (if inB x3 (lH h5 (rH h r0 22)) = true then (rec 21 [.ref r0, .ref r1, .int x2, .int (x3 + 1), uV] [] (h5.1, (upI h5.2 (rH h r0 22) x3.toNatClampNeg z6))) else none) else none)) else none) else none) else none))
theorem uX10_putsAll_21 {G : GG} {d : Nat} (hd : 2 ≤ d) (rec : Nat → List Value → List Value → Hp → RS) (hrec : ∀ pc loc st h o h', rec pc loc st h = some (o, h') → V G mX10_putsAll d pc loc st h o h')   {r0  r1  x2  x3 } {h : Hp} {o : OU} {h' : Hp} (e : kX10_putsAll_21 rec  r0 r1 x2 x3 h = some (o, h')) : V G mX10_putsAll d 21 [.ref r0, .ref r1, .int x2, .int x3, uV] [] h o h' := by
  unfold kX10_putsAll_21 at e
  refine bX10_putsAll_21 r0 r1 x2 x3 (by omega) ?_
  refine ⟨fun c1 => ?_, fun c1 => ?_⟩
  · have e := if_t e c1
    exact hrec _ _ _ _ _ _ e
  · have e := if_f e c1
    obtain ⟨q2, e⟩ := ob_e e
    refine ⟨q2, ?_⟩
    obtain ⟨q3, e⟩ := ob_e e
    refine ⟨q3, ?_⟩
    obtain ⟨q4, e⟩ := ob_in e
    refine ⟨q4, ?_⟩
    obtain ⟨z6, h5, e5, e⟩ := bI_e e
    refine ⟨z6, h5, (tX10_lays e5 (by omega)), ?_⟩
    obtain ⟨q6, e⟩ := ob_e e
    refine ⟨q6, ?_⟩
    obtain ⟨q7, e⟩ := ob_in e
    refine ⟨q7, ?_⟩
    exact hrec _ _ _ _ _ _ e
def kX10_putsAll_54 (rec : Nat → List Value → List Value → Hp → RS)  (r0 : Nat) (r1 : Nat) (x2 : Int32) (x3 : Int32) (h : Hp) : RS := (if 16 ≤ x3 then (some (.inl none, h)) else (rec 63 [.ref r0, .ref r1, .int x2, .int x3, .int 0] [] h))
theorem uX10_putsAll_54 {G : GG} {d : Nat} (hd : 2 ≤ d) (rec : Nat → List Value → List Value → Hp → RS) (hrec : ∀ pc loc st h o h', rec pc loc st h = some (o, h') → V G mX10_putsAll d pc loc st h o h')   {r0  r1  x2  x3 } {h : Hp} {o : OU} {h' : Hp} (e : kX10_putsAll_54 rec  r0 r1 x2 x3 h = some (o, h')) : V G mX10_putsAll d 54 [.ref r0, .ref r1, .int x2, .int x3, uV] [] h o h' := by
  unfold kX10_putsAll_54 at e
  refine bX10_putsAll_54 r0 r1 x2 x3 ?_
  refine ⟨fun c1 => ?_, fun c1 => ?_⟩
  · have e := if_t e c1
    cases e
    exact ⟨rfl, rfl⟩
  · have e := if_f e c1
    exact hrec _ _ _ _ _ _ e
def kX10_putsAll_63 (rec : Nat → List Value → List Value → Hp → RS)  (r0 : Nat) (r1 : Nat) (x2 : Int32) (x3 : Int32) (x4 : Int32) (h : Hp) : RS := (if 3398 ≤ x4 then (rec 54 [.ref r0, .ref r1, .int x2, .int (x3 + 1), uV] [] h) else (if kH h r0 = 18 then (if kH h (rH h r0 24) = 7 then (if inB x3 (lH h (rH h r0 24)) = true then (if kH h (rH h (rH h r0 24) x3.toNatClampNeg) = 1 then (if inB x4 (lH h (rH h (rH h r0 24) x3.toNatClampNeg)) = true then (bI (fX10_lays r0 r1 (h.2 (rH h (rH h r0 24) x3.toNatClampNeg) x4.toNatClampNeg) x2 h) fun z8 h7 => (if kH h7 (rH h (rH h r0 24) x3.toNatClampNeg) = 1 then (if inB x4 (lH h7 (rH h (rH h r0 24) x3.toNatClampNeg)) = true then (rec 63 [.ref r0, .ref r1, .int x2, .int x3, .int (x4 + 1)] [] (h7.1, (upI h7.2 (rH h (rH h r0 24) x3.toNatClampNeg) x4.toNatClampNeg z8))) else none) else none)) else none) else none) else none) else none) else none))
theorem uX10_putsAll_63 {G : GG} {d : Nat} (hd : 2 ≤ d) (rec : Nat → List Value → List Value → Hp → RS) (hrec : ∀ pc loc st h o h', rec pc loc st h = some (o, h') → V G mX10_putsAll d pc loc st h o h')   {r0  r1  x2  x3  x4 } {h : Hp} {o : OU} {h' : Hp} (e : kX10_putsAll_63 rec  r0 r1 x2 x3 x4 h = some (o, h')) : V G mX10_putsAll d 63 [.ref r0, .ref r1, .int x2, .int x3, .int x4] [] h o h' := by
  unfold kX10_putsAll_63 at e
  refine bX10_putsAll_63 r0 r1 x2 x3 x4 (by omega) ?_
  refine ⟨fun c1 => ?_, fun c1 => ?_⟩
  · have e := if_t e c1
    exact hrec _ _ _ _ _ _ e
  · have e := if_f e c1
    obtain ⟨q2, e⟩ := ob_e e
    refine ⟨q2, ?_⟩
    obtain ⟨q3, e⟩ := ob_e e
    refine ⟨q3, ?_⟩
    obtain ⟨q4, e⟩ := ob_in e
    refine ⟨q4, ?_⟩
    obtain ⟨q5, e⟩ := ob_e e
    refine ⟨q5, ?_⟩
    obtain ⟨q6, e⟩ := ob_in e
    refine ⟨q6, ?_⟩
    obtain ⟨z8, h7, e7, e⟩ := bI_e e
    refine ⟨z8, h7, (tX10_lays e7 (by omega)), ?_⟩
    obtain ⟨q8, e⟩ := ob_e e
    refine ⟨q8, ?_⟩
    obtain ⟨q9, e⟩ := ob_in e
    refine ⟨q9, ?_⟩
    exact hrec _ _ _ _ _ _ e
def sX10_putsAll  (rec : Nat → List Value → List Value → Hp → RS) (pc : Nat) (loc st : List Value) (h : Hp) : RS := match pc, loc, st with
  | 21, [.ref r0, .ref r1, .int x2, .int x3, _], [] => kX10_putsAll_21 rec  r0 r1 x2 x3 h
  | 54, [.ref r0, .ref r1, .int x2, .int x3, _], [] => kX10_putsAll_54 rec  r0 r1 x2 x3 h
  | 63, [.ref r0, .ref r1, .int x2, .int x3, .int x4], [] => kX10_putsAll_63 rec  r0 r1 x2 x3 x4 h
  | _, _, _ => none
def gX10_putsAll  : Nat → Nat → List Value → List Value → Hp → RS
  | 0 => fun _ _ _ _ => none
  | n + 1 => sX10_putsAll  (gX10_putsAll  n)
theorem wX10_putsAll {G : GG} {d : Nat} (hd : 2 ≤ d)   : ∀ (n pc : Nat) (loc st : List Value) (h : Hp) (o : OU) (h' : Hp), gX10_putsAll  n pc loc st h = some (o, h') → V G mX10_putsAll d pc loc st h o h' := by
  intro n
  induction n with
  | zero => intro pc loc st h o h' e; cases e
  | succ n ih =>
    intro pc loc st h o h' e
    unfold gX10_putsAll sX10_putsAll at e
    split at e
    · exact V.drop (llp_r (llp_r (llp_r (llp_r (llp_u llp_nil))))) (uX10_putsAll_21 hd _ ih   e)
    · exact V.drop (llp_r (llp_r (llp_r (llp_r (llp_u llp_nil))))) (uX10_putsAll_54 hd _ ih   e)
    · exact uX10_putsAll_63 hd _ ih   e
    · cases e
theorem zX10_putsAll_21  (n : Nat) (r0 : Nat) (r1 : Nat) (x2 : Int32) (x3 : Int32) (y4 : Value) (h : Hp) : gX10_putsAll  (n + 1) 21 [.ref r0, .ref r1, .int x2, .int x3, y4] [] h = kX10_putsAll_21 (gX10_putsAll  n)  r0 r1 x2 x3 h := rfl
theorem zX10_putsAll_54  (n : Nat) (r0 : Nat) (r1 : Nat) (x2 : Int32) (x3 : Int32) (y4 : Value) (h : Hp) : gX10_putsAll  (n + 1) 54 [.ref r0, .ref r1, .int x2, .int x3, y4] [] h = kX10_putsAll_54 (gX10_putsAll  n)  r0 r1 x2 x3 h := rfl
theorem zX10_putsAll_63  (n : Nat) (r0 : Nat) (r1 : Nat) (x2 : Int32) (x3 : Int32) (x4 : Int32)  (h : Hp) : gX10_putsAll  (n + 1) 63 [.ref r0, .ref r1, .int x2, .int x3, .int x4] [] h = kX10_putsAll_63 (gX10_putsAll  n)  r0 r1 x2 x3 x4 h := rfl
def fX10_putsAll (r0 : Nat) (r1 : Nat) (x2 : Int32) (h : Hp) : RS := kX10_putsAll_0 (gX10_putsAll FF) r0 r1 x2 h
theorem tX10_putsAll {G : GG} {d : Nat} {r0 r1 x2} {h : Hp} {o : OU} {h' : Hp} (e : fX10_putsAll r0 r1 x2 h = some (o, h')) (hd : 2 ≤ d) : VM G mX10_putsAll d [.ref r0, .ref r1, .int x2] h o h' := uX10_putsAll_0 hd _ (wX10_putsAll hd FF) e
def kX10_image_0  (r0 : Nat) (h : Hp) : RS := (if kH h r0 = 18 then (if ¬ ((upI h.2 r0 0 0) r0 16) = 3 then (if kH h (rH h r0 25) = 7 then (if inB ((upI h.2 r0 0 0) r0 16) (lH h (rH h r0 25)) = true then (bV (fX10_putsAll r0 (rH h (rH h r0 25) ((upI h.2 r0 0 0) r0 16).toNatClampNeg) 0 (h.1, (upI h.2 r0 0 0))) fun h5 => (if kH h5 r0 = 18 then (some (.inl (some (.int ((upI h5.2 r0 16 ((h5.2 r0 16) + 1)) r0 16))), (h5.1, (upI h5.2 r0 16 ((h5.2 r0 16) + 1))))) else none)) else none) else none) else (some (.inl (some (.int (-1))), (h.1, (upI h.2 r0 0 0))))) else none)
theorem uX10_image_0 {G : GG} {d : Nat} (hd : 3 ≤ d)   {r0 } {h : Hp} {o : OU} {h' : Hp} (e : kX10_image_0  r0 h = some (o, h')) : VM G mX10_image d [.ref r0] h o h' := by
  unfold kX10_image_0 at e
  refine eX10_image r0 (by omega) ?_
  obtain ⟨q1, e⟩ := ob_e e
  refine ⟨q1, ?_⟩
  refine ⟨fun c2 => ?_, fun c2 => ?_⟩
  · have e := if_t e c2
    obtain ⟨q3, e⟩ := ob_e e
    refine ⟨q3, ?_⟩
    obtain ⟨q4, e⟩ := ob_in e
    refine ⟨q4, ?_⟩
    obtain ⟨h5, e5, e⟩ := bV_e e
    refine ⟨h5, (tX10_putsAll e5 (by omega)), ?_⟩
    obtain ⟨q6, e⟩ := ob_e e
    refine ⟨q6, ?_⟩
    cases e
    exact ⟨rfl, rfl⟩
  · have e := if_n e c2
    cases e
    exact ⟨rfl, rfl⟩
def fX10_image (r0 : Nat) (h : Hp) : RS := kX10_image_0 r0 h
theorem tX10_image {G : GG} {d : Nat} {r0} {h : Hp} {o : OU} {h' : Hp} (e : fX10_image r0 h = some (o, h')) (hd : 3 ≤ d) : VM G mX10_image d [.ref r0] h o h' := uX10_image_0 hd e
def kX10_restore_0  (r0 : Nat) (h : Hp) : RS := (if kH h r0 = 18 then (if ¬ ((upI h.2 r0 0 0) r0 16) = 0 then (if kH h (rH h r0 25) = 7 then (if inB ((upI (upI h.2 r0 0 0) r0 16 (((upI h.2 r0 0 0) r0 16) - 1)) r0 16) (lH h (rH h r0 25)) = true then (bV (fX10_putsAll r0 (rH h (rH h r0 25) ((upI (upI h.2 r0 0 0) r0 16 (((upI h.2 r0 0 0) r0 16) - 1)) r0 16).toNatClampNeg) 1 (h.1, (upI (upI h.2 r0 0 0) r0 16 (((upI h.2 r0 0 0) r0 16) - 1)))) fun h5 => (if kH h5 r0 = 18 then (some (.inl (some (.int ((upI h5.2 r0 15 0) r0 16))), (h5.1, (upI h5.2 r0 15 0)))) else none)) else none) else none) else (some (.inl (some (.int (-1))), (h.1, (upI h.2 r0 0 0))))) else none)
theorem uX10_restore_0 {G : GG} {d : Nat} (hd : 3 ≤ d)   {r0 } {h : Hp} {o : OU} {h' : Hp} (e : kX10_restore_0  r0 h = some (o, h')) : VM G mX10_restore d [.ref r0] h o h' := by
  unfold kX10_restore_0 at e
  refine eX10_restore r0 (by omega) ?_
  obtain ⟨q1, e⟩ := ob_e e
  refine ⟨q1, ?_⟩
  refine ⟨fun c2 => ?_, fun c2 => ?_⟩
  · have e := if_t e c2
    obtain ⟨q3, e⟩ := ob_e e
    refine ⟨q3, ?_⟩
    obtain ⟨q4, e⟩ := ob_in e
    refine ⟨q4, ?_⟩
    obtain ⟨h5, e5, e⟩ := bV_e e
    refine ⟨h5, (tX10_putsAll e5 (by omega)), ?_⟩
    obtain ⟨q6, e⟩ := ob_e e
    refine ⟨q6, ?_⟩
    cases e
    exact ⟨rfl, rfl⟩
  · have e := if_n e c2
    cases e
    exact ⟨rfl, rfl⟩
def fX10_restore (r0 : Nat) (h : Hp) : RS := kX10_restore_0 r0 h
theorem tX10_restore {G : GG} {d : Nat} {r0} {h : Hp} {o : OU} {h' : Hp} (e : fX10_restore r0 h = some (o, h')) (hd : 3 ≤ d) : VM G mX10_restore d [.ref r0] h o h' := uX10_restore_0 hd e
def kX10_status_0  (r0 : Nat) (x1 : Int32) (h : Hp) : RS := (if kH h r0 = 18 then (bI (fX10_in x1 0 3 (h.1, (upI h.2 r0 0 0))) fun z3 h2 => (if z3 = 0 then (some (.inl (some (.int (-1))), h2)) else (if kH h2 r0 = 18 then (if kH h2 (rH h2 r0 10) = 1 then (if inB x1 (lH h2 (rH h2 r0 10)) = true then (some (.inl (some (.int (h2.2 (rH h2 r0 10) x1.toNatClampNeg))), h2)) else none) else none) else none))) else none)
theorem uX10_status_0 {G : GG} {d : Nat} (hd : 2 ≤ d)   {r0  x1 } {h : Hp} {o : OU} {h' : Hp} (e : kX10_status_0  r0 x1 h = some (o, h')) : VM G mX10_status d [.ref r0, .int x1] h o h' := by
  unfold kX10_status_0 at e
  refine eX10_status r0 x1 (by omega) ?_
  obtain ⟨q1, e⟩ := ob_e e
  refine ⟨q1, ?_⟩
  obtain ⟨z3, h2, e2, e⟩ := bI_e e
  refine ⟨z3, h2, (tX10_in e2 (by omega)), ?_⟩
  refine ⟨fun c3 => ?_, fun c3 => ?_⟩
  · have e := if_t e c3
    cases e
    exact ⟨rfl, rfl⟩
  · have e := if_f e c3
    obtain ⟨q4, e⟩ := ob_e e
    refine ⟨q4, ?_⟩
    obtain ⟨q5, e⟩ := ob_e e
    refine ⟨q5, ?_⟩
    obtain ⟨q6, e⟩ := ob_in e
    refine ⟨q6, ?_⟩
    cases e
    exact ⟨rfl, rfl⟩
def fX10_status (r0 : Nat) (x1 : Int32) (h : Hp) : RS := kX10_status_0 r0 x1 h
theorem tX10_status {G : GG} {d : Nat} {r0 x1} {h : Hp} {o : OU} {h' : Hp} (e : fX10_status r0 x1 h = some (o, h')) (hd : 2 ≤ d) : VM G mX10_status d [.ref r0, .int x1] h o h' := uX10_status_0 hd e
def kX10_count_0  (r0 : Nat) (x1 : Int32) (h : Hp) : RS := (if kH h r0 = 18 then (if ¬ x1 = 0 then (if ¬ x1 = 1 then (if ¬ x1 = 2 then (some (.inl (some (.int (-1))), (h.1, (upI h.2 r0 0 0)))) else (some (.inl (some (.int ((upI h.2 r0 0 0) r0 14))), (h.1, (upI h.2 r0 0 0))))) else (some (.inl (some (.int ((upI h.2 r0 0 0) r0 1))), (h.1, (upI h.2 r0 0 0))))) else (some (.inl (some (.int ((upI h.2 r0 0 0) r0 16))), (h.1, (upI h.2 r0 0 0))))) else none)
theorem uX10_count_0 {G : GG} {d : Nat} (hd : 1 ≤ d)   {r0  x1 } {h : Hp} {o : OU} {h' : Hp} (e : kX10_count_0  r0 x1 h = some (o, h')) : VM G mX10_count d [.ref r0, .int x1] h o h' := by
  unfold kX10_count_0 at e
  refine eX10_count r0 x1 ?_
  obtain ⟨q1, e⟩ := ob_e e
  refine ⟨q1, ?_⟩
  refine ⟨fun c2 => ?_, fun c2 => ?_⟩
  · have e := if_t e c2
    refine ⟨fun c3 => ?_, fun c3 => ?_⟩
    · have e := if_t e c3
      refine ⟨fun c4 => ?_, fun c4 => ?_⟩
      · have e := if_t e c4
        cases e
        exact ⟨rfl, rfl⟩
      · have e := if_n e c4
        cases e
        exact ⟨rfl, rfl⟩
    · have e := if_n e c3
      cases e
      exact ⟨rfl, rfl⟩
  · have e := if_n e c2
    cases e
    exact ⟨rfl, rfl⟩
def fX10_count (r0 : Nat) (x1 : Int32) (h : Hp) : RS := kX10_count_0 r0 x1 h
theorem tX10_count {G : GG} {d : Nat} {r0 x1} {h : Hp} {o : OU} {h' : Hp} (e : fX10_count r0 x1 h = some (o, h')) (hd : 1 ≤ d) : VM G mX10_count d [.ref r0, .int x1] h o h' := uX10_count_0 hd e
