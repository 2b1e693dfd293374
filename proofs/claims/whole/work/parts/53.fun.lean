def kX10_clause_0 (rec : Nat → List Value → List Value → Hp → RS)  (r0 : Nat) (h : Hp) : RS := (if kH h r0 = 18 then (bI (fX10_isWord r0 19 9 26 5 0 0 h) fun z2 h1 => (if kH h1 r0 = 18 then (bI (fX10_stepHere r0 h1) fun z6 h5 => (if ¬ z2 = 0 then (if kH h5 r0 = 18 then (if ¬ (h5.2 r0 7) = 60 then (rec 62 [.ref r0, .int z2, uV] [] h5) else (bV (fX10_wrong r0 3 (h5.2 r0 4) h5) fun h12 => (rec 62 [.ref r0, .int z2, uV] [] h12))) else none) else (bI (fX10_in z6 0 4 h5) fun z15 h14 => (if ¬ z15 = 0 then (if kH h14 r0 = 18 then (if ¬ (h14.2 r0 7) = 60 then (rec 62 [.ref r0, .int z2, uV] [] h14) else (bV (fX10_wrong r0 3 (h14.2 r0 4) h14) fun h20 => (rec 62 [.ref r0, .int z2, uV] [] h20))) else none) else (if kH h14 r0 = 18 then (bV (fX10_wrong r0 1 (h14.2 r0 4) h14) fun h23 => (rec 62 [.ref r0, .int z2, uV] [] h23)) else none))))) else none)) else none)
theorem uX10_clause_0 {G : GG} {d : Nat} (hd : 47 ≤ d) (rec : Nat → List Value → List Value → Hp → RS) (hrec : ∀ pc loc st h o h', rec pc loc st h = some (o, h') → V G mX10_clause d pc loc st h o h')   {r0 } {h : Hp} {o : OU} {h' : Hp} (e : kX10_clause_0 rec  r0 h = some (o, h')) : VM G mX10_clause d [.ref r0] h o h' := by
  unfold kX10_clause_0 at e
  refine eX10_clause r0 (by omega) ?_
  obtain ⟨q1, e⟩ := ob_e e
  refine ⟨q1, ?_⟩
  obtain ⟨z2, h1, e2, e⟩ := bI_e e
  refine ⟨z2, h1, (tX10_isWord e2 (by omega)), ?_⟩
  obtain ⟨q3, e⟩ := ob_e e
  refine ⟨q3, ?_⟩
  obtain ⟨z6, h5, e4, e⟩ := bI_e e
  refine ⟨z6, h5, (tX10_stepHere e4 (by omega)), ?_⟩
  refine ⟨fun c5 => ?_, fun c5 => ?_⟩
  · have e := if_t e c5
    obtain ⟨q6, e⟩ := ob_e e
    refine ⟨q6, ?_⟩
    refine ⟨fun c7 => ?_, fun c7 => ?_⟩
    · have e := if_t e c7
      exact hrec _ _ _ _ _ _ e
    · have e := if_n e c7
      obtain ⟨h12, e8, e⟩ := bV_e e
      refine ⟨h12, (tX10_wrong e8 (by omega)), ?_⟩
      exact hrec _ _ _ _ _ _ e
  · have e := if_n e c5
    obtain ⟨z15, h14, e9, e⟩ := bI_e e
    refine ⟨z15, h14, (tX10_in e9 (by omega)), ?_⟩
    refine ⟨fun c10 => ?_, fun c10 => ?_⟩
    · have e := if_t e c10
      obtain ⟨q11, e⟩ := ob_e e
      refine ⟨q11, ?_⟩
      refine ⟨fun c12 => ?_, fun c12 => ?_⟩
      · have e := if_t e c12
        exact hrec _ _ _ _ _ _ e
      · have e := if_n e c12
        obtain ⟨h20, e13, e⟩ := bV_e e
        refine ⟨h20, (tX10_wrong e13 (by omega)), ?_⟩
        exact hrec _ _ _ _ _ _ e
    · have e := if_n e c10
      obtain ⟨q14, e⟩ := ob_e e
      refine ⟨q14, ?_⟩
      obtain ⟨h23, e15, e⟩ := bV_e e
      refine ⟨h23, (tX10_wrong e15 (by omega)), ?_⟩
      exact hrec _ _ _ _ _ _ e
def kX10_clause_62 (rec : Nat → List Value → List Value → Hp → RS)  (r0 : Nat) (x1 : Int32) (h : Hp) : RS := (if kH h r0 = 18 then (if (h.2 r0 5) = 0 then (if ¬ x1 = 0 then (bV (fX10_skipWord r0 (h.1, (upI h.2 r0 7 ((h.2 r0 7) + 1)))) fun h4 => (if kH h4 r0 = 18 then (bI (fX10_number r0 6 16 h4) fun z7 h6 => (if kH h6 r0 = 18 then (bV (fX10_sign r0 59 (h6.1, (upI h6.2 r0 12 z7))) fun h11 => (some (.inl none, h11))) else none)) else none)) else (bV (fX10_readsStep r0 (h.1, (upI h.2 r0 7 ((h.2 r0 7) + 1)))) fun h13 => (some (.inl none, h13)))) else (some (.inl none, h))) else none)
theorem uX10_clause_62 {G : GG} {d : Nat} (hd : 47 ≤ d) (rec : Nat → List Value → List Value → Hp → RS) (hrec : ∀ pc loc st h o h', rec pc loc st h = some (o, h') → V G mX10_clause d pc loc st h o h')   {r0  x1 } {h : Hp} {o : OU} {h' : Hp} (e : kX10_clause_62 rec  r0 x1 h = some (o, h')) : V G mX10_clause d 62 [.ref r0, .int x1, uV] [] h o h' := by
  unfold kX10_clause_62 at e
  refine bX10_clause_62 r0 x1 (by omega) ?_
  obtain ⟨q1, e⟩ := ob_e e
  refine ⟨q1, ?_⟩
  refine ⟨fun c2 => ?_, fun c2 => ?_⟩
  · have e := if_t e c2
    refine ⟨fun c3 => ?_, fun c3 => ?_⟩
    · have e := if_t e c3
      obtain ⟨h4, e4, e⟩ := bV_e e
      refine ⟨h4, (tX10_skipWord e4 (by omega)), ?_⟩
      obtain ⟨q5, e⟩ := ob_e e
      refine ⟨q5, ?_⟩
      obtain ⟨z7, h6, e6, e⟩ := bI_e e
      refine ⟨z7, h6, (tX10_number e6 (by omega)), ?_⟩
      obtain ⟨q7, e⟩ := ob_e e
      refine ⟨q7, ?_⟩
      obtain ⟨h11, e8, e⟩ := bV_e e
      refine ⟨h11, (tX10_sign e8 (by omega)), ?_⟩
      cases e
      exact ⟨rfl, rfl⟩
    · have e := if_n e c3
      obtain ⟨h13, e9, e⟩ := bV_e e
      refine ⟨h13, (tX10_readsStep e9 (by omega)), ?_⟩
      cases e
      exact ⟨rfl, rfl⟩
  · have e := if_f e c2
    cases e
    exact ⟨rfl, rfl⟩
def sX10_clause  (rec : Nat → List Value → List Value → Hp → RS) (pc : Nat) (loc st : List Value) (h : Hp) : RS := match pc, loc, st with
  | 62, [.ref r0, .int x1, _], [] => kX10_clause_62 rec  r0 x1 h
  | _, _, _ => none
def gX10_clause  : Nat → Nat → List Value → List Value → Hp → RS
  | 0 => fun _ _ _ _ => none
  | n + 1 => sX10_clause  (gX10_clause  n)
theorem wX10_clause {G : GG} {d : Nat} (hd : 47 ≤ d)   : ∀ (n pc : Nat) (loc st : List Value) (h : Hp) (o : OU) (h' : Hp), gX10_clause  n pc loc st h = some (o, h') → V G mX10_clause d pc loc st h o h' := by
  intro n
  induction n with
  | zero => intro pc loc st h o h' e; cases e
  | succ n ih =>
    intro pc loc st h o h' e
    unfold gX10_clause sX10_clause at e
    split at e
    · exact V.drop (llp_r (llp_r (llp_u llp_nil))) (uX10_clause_62 hd _ ih   e)
    · cases e
theorem zX10_clause_62  (n : Nat) (r0 : Nat) (x1 : Int32) (y2 : Value) (h : Hp) : gX10_clause  (n + 1) 62 [.ref r0, .int x1, y2] [] h = kX10_clause_62 (gX10_clause  n)  r0 x1 h := rfl
def fX10_clause (r0 : Nat) (h : Hp) : RS := kX10_clause_0 (gX10_clause FF) r0 h
theorem tX10_clause {G : GG} {d : Nat} {r0} {h : Hp} {o : OU} {h' : Hp} (e : fX10_clause r0 h = some (o, h')) (hd : 47 ≤ d) : VM G mX10_clause d [.ref r0] h o h' := uX10_clause_0 hd _ (wX10_clause hd FF) e
def kX10_byteOf_0  (x0 : Int32) (x1 : Int32) (h : Hp) : RS := (some (.inl (some (.int (((16 * (1 + (x0 / 4))) + (4 * (x0 - x0 / 4 * 4))) + x1))), h))
theorem uX10_byteOf_0 {G : GG} {d : Nat} (hd : 1 ≤ d)   {x0  x1 } {h : Hp} {o : OU} {h' : Hp} (e : kX10_byteOf_0  x0 x1 h = some (o, h')) : VM G mX10_byteOf d [.int x0, .int x1] h o h' := by
  unfold kX10_byteOf_0 at e
  refine eX10_byteOf x0 x1 ?_
  cases e
  exact ⟨rfl, rfl⟩
def fX10_byteOf (x0 : Int32) (x1 : Int32) (h : Hp) : RS := kX10_byteOf_0 x0 x1 h
theorem tX10_byteOf {G : GG} {d : Nat} {x0 x1} {h : Hp} {o : OU} {h' : Hp} (e : fX10_byteOf x0 x1 h = some (o, h')) (hd : 1 ≤ d) : VM G mX10_byteOf d [.int x0, .int x1] h o h' := uX10_byteOf_0 hd e
def kX10_safe_0 (rec : Nat → List Value → List Value → Hp → RS)  (r0 : Nat) (h : Hp) : RS := (rec 2 [.ref r0, .int 0] [] h)
theorem uX10_safe_0 {G : GG} {d : Nat} (hd : 1 ≤ d) (rec : Nat → List Value → List Value → Hp → RS) (hrec : ∀ pc loc st h o h', rec pc loc st h = some (o, h') → V G mX10_safe d pc loc st h o h')   {r0 } {h : Hp} {o : OU} {h' : Hp} (e : kX10_safe_0 rec  r0 h = some (o, h')) : VM G mX10_safe d [.ref r0] h o h' := by
  unfold kX10_safe_0 at e
  refine eX10_safe r0 ?_
  exact hrec _ _ _ _ _ _ e
def kX10_safe_2 (rec : Nat → List Value → List Value → Hp → RS)  (r0 : Nat) (x1 : Int32) (h : Hp) : RS := (if 256 ≤ x1 then (if kH h r0 = 1 then (if inB 3392 (lH h r0) = true then (if inB 3393 (lH h r0) = true then (some (.inl none, (h.1, (upI (upI h.2 r0 3392 0) r0 3393 0)))) else none) else none) else none) else (if kH h r0 = 1 then (if inB (0 + x1) (lH h r0) = true then (if inB (256 + x1) (lH h r0) = true then (rec 2 [.ref r0, .int (x1 + 1)] [] (h.1, (upI h.2 r0 (256 + x1).toNatClampNeg (h.2 r0 (0 + x1).toNatClampNeg)))) else none) else none) else none))
theorem uX10_safe_2 {G : GG} {d : Nat} (hd : 1 ≤ d) (rec : Nat → List Value → List Value → Hp → RS) (hrec : ∀ pc loc st h o h', rec pc loc st h = some (o, h') → V G mX10_safe d pc loc st h o h')   {r0  x1 } {h : Hp} {o : OU} {h' : Hp} (e : kX10_safe_2 rec  r0 x1 h = some (o, h')) : V G mX10_safe d 2 [.ref r0, .int x1] [] h o h' := by
  unfold kX10_safe_2 at e
  refine bX10_safe_2 r0 x1 ?_
  refine ⟨fun c1 => ?_, fun c1 => ?_⟩
  · have e := if_t e c1
    obtain ⟨q2, e⟩ := ob_e e
    refine ⟨q2, ?_⟩
    obtain ⟨q3, e⟩ := ob_in e
    refine ⟨q3, ?_⟩
    obtain ⟨q4, e⟩ := ob_in e
    refine ⟨q4, ?_⟩
    cases e
    exact ⟨rfl, rfl⟩
  · have e := if_f e c1
    obtain ⟨q5, e⟩ := ob_e e
    refine ⟨q5, ?_⟩
    obtain ⟨q6, e⟩ := ob_in e
    refine ⟨q6, ?_⟩
    obtain ⟨q7, e⟩ := ob_in e
    refine ⟨q7, ?_⟩
    exact hrec _ _ _ _ _ _ e
def sX10_safe  (rec : Nat → List Value → List Value → Hp → RS) (pc : Nat) (loc st : List Value) (h : Hp) : RS := match pc, loc, st with
  | 2, [.ref r0, .int x1], [] => kX10_safe_2 rec  r0 x1 h
  | _, _, _ => none
def gX10_safe  : Nat → Nat → List Value → List Value → Hp → RS
  | 0 => fun _ _ _ _ => none
  | n + 1 => sX10_safe  (gX10_safe  n)
theorem wX10_safe {G : GG} {d : Nat} (hd : 1 ≤ d)   : ∀ (n pc : Nat) (loc st : List Value) (h : Hp) (o : OU) (h' : Hp), gX10_safe  n pc loc st h = some (o, h') → V G mX10_safe d pc loc st h o h' := by
  intro n
  induction n with
  | zero => intro pc loc st h o h' e; cases e
  | succ n ih =>
    intro pc loc st h o h' e
    unfold gX10_safe sX10_safe at e
    split at e
    · exact uX10_safe_2 hd _ ih   e
    · cases e
theorem zX10_safe_2  (n : Nat) (r0 : Nat) (x1 : Int32)  (h : Hp) : gX10_safe  (n + 1) 2 [.ref r0, .int x1] [] h = kX10_safe_2 (gX10_safe  n)  r0 x1 h := rfl
def fX10_safe (r0 : Nat) (h : Hp) : RS := kX10_safe_0 (gX10_safe FF) r0 h
theorem tX10_safe {G : GG} {d : Nat} {r0} {h : Hp} {o : OU} {h' : Hp} (e : fX10_safe r0 h = some (o, h')) (hd : 1 ≤ d) : VM G mX10_safe d [.ref r0] h o h' := uX10_safe_0 hd _ (wX10_safe hd FF) e
def kX10_isFull_0  (r0 : Nat) (h : Hp) : RS := (if kH h r0 = 1 then (if inB 3392 (lH h r0) = true then (if 60 ≤ (h.2 r0 3392) then (some (.inl (some (.int 1)), h)) else (if inB 3393 (lH h r0) = true then (if (h.2 r0 3393) < 30 then (some (.inl (some (.int 0)), h)) else (some (.inl (some (.int 1)), h))) else none)) else none) else none)
theorem uX10_isFull_0 {G : GG} {d : Nat} (hd : 1 ≤ d)   {r0 } {h : Hp} {o : OU} {h' : Hp} (e : kX10_isFull_0  r0 h = some (o, h')) : VM G mX10_isFull d [.ref r0] h o h' := by
  unfold kX10_isFull_0 at e
  refine eX10_isFull r0 ?_
  obtain ⟨q1, e⟩ := ob_e e
  refine ⟨q1, ?_⟩
  obtain ⟨q2, e⟩ := ob_in e
  refine ⟨q2, ?_⟩
  refine ⟨fun c3 => ?_, fun c3 => ?_⟩
  · have e := if_t e c3
    cases e
    exact ⟨rfl, rfl⟩
  · have e := if_f e c3
    obtain ⟨q4, e⟩ := ob_in e
    refine ⟨q4, ?_⟩
    refine ⟨fun c5 => ?_, fun c5 => ?_⟩
    · have e := if_t e c5
      cases e
      exact ⟨rfl, rfl⟩
    · have e := if_f e c5
      cases e
      exact ⟨rfl, rfl⟩
def fX10_isFull (r0 : Nat) (h : Hp) : RS := kX10_isFull_0 r0 h
theorem tX10_isFull {G : GG} {d : Nat} {r0} {h : Hp} {o : OU} {h' : Hp} (e : fX10_isFull r0 h = some (o, h')) (hd : 1 ≤ d) : VM G mX10_isFull d [.ref r0] h o h' := uX10_isFull_0 hd e
def kX10_fieldOf_0  (r0 : Nat) (x1 : Int32) (x2 : Int32) (x3 : Int32) (h : Hp) : RS := (bI (fX10_byteOf x2 x3 h) fun z2 h1 => (if kH h1 r0 = 1 then (if inB (x1 + z2) (lH h1 r0) = true then (some (.inl (some (.int (h1.2 r0 (x1 + z2).toNatClampNeg))), h1)) else none) else none))
theorem uX10_fieldOf_0 {G : GG} {d : Nat} (hd : 2 ≤ d)   {r0  x1  x2  x3 } {h : Hp} {o : OU} {h' : Hp} (e : kX10_fieldOf_0  r0 x1 x2 x3 h = some (o, h')) : VM G mX10_fieldOf d [.ref r0, .int x1, .int x2, .int x3] h o h' := by
  unfold kX10_fieldOf_0 at e
  refine eX10_fieldOf r0 x1 x2 x3 (by omega) ?_
  obtain ⟨z2, h1, e1, e⟩ := bI_e e
  refine ⟨z2, h1, (tX10_byteOf e1 (by omega)), ?_⟩
  obtain ⟨q2, e⟩ := ob_e e
  refine ⟨q2, ?_⟩
  obtain ⟨q3, e⟩ := ob_in e
  refine ⟨q3, ?_⟩
  cases e
  exact ⟨rfl, rfl⟩
def fX10_fieldOf (r0 : Nat) (x1 : Int32) (x2 : Int32) (x3 : Int32) (h : Hp) : RS := kX10_fieldOf_0 r0 x1 x2 x3 h
theorem tX10_fieldOf {G : GG} {d : Nat} {r0 x1 x2 x3} {h : Hp} {o : OU} {h' : Hp} (e : fX10_fieldOf r0 x1 x2 x3 h = some (o, h')) (hd : 2 ≤ d) : VM G mX10_fieldOf d [.ref r0, .int x1, .int x2, .int x3] h o h' := uX10_fieldOf_0 hd e
def kX10_freeNode_0 (rec : Nat → List Value → List Value → Hp → RS)  (r0 : Nat) (h : Hp) : RS := (rec 2 [.ref r0, .int 0] [] h)
theorem uX10_freeNode_0 {G : GG} {d : Nat} (hd : 3 ≤ d) (rec : Nat → List Value → List Value → Hp → RS) (hrec : ∀ pc loc st h o h', rec pc loc st h = some (o, h') → V G mX10_freeNode d pc loc st h o h')   {r0 } {h : Hp} {o : OU} {h' : Hp} (e : kX10_freeNode_0 rec  r0 h = some (o, h')) : VM G mX10_freeNode d [.ref r0] h o h' := by
  unfold kX10_freeNode_0 at e
  refine eX10_freeNode r0 ?_
  exact hrec _ _ _ _ _ _ e
def kX10_freeNode_2 (rec : Nat → List Value → List Value → Hp → RS)  (r0 : Nat) (x1 : Int32) (h : Hp) : RS := (if 12 ≤ x1 then (some (.inl (some (.int (-1))), h)) else (bI (fX10_fieldOf r0 0 x1 0 h) fun z3 h2 => (if ¬ z3 = 0 then (rec 2 [.ref r0, .int (x1 + 1)] [] h2) else (bI (fX10_fieldOf r0 0 x1 1 h2) fun z7 h6 => (if ¬ z7 = 0 then (rec 2 [.ref r0, .int (x1 + 1)] [] h6) else (some (.inl (some (.int x1)), h6)))))))
theorem uX10_freeNode_2 {G : GG} {d : Nat} (hd : 3 ≤ d) (rec : Nat → List Value → List Value → Hp → RS) (hrec : ∀ pc loc st h o h', rec pc loc st h = some (o, h') → V G mX10_freeNode d pc loc st h o h')   {r0  x1 } {h : Hp} {o : OU} {h' : Hp} (e : kX10_freeNode_2 rec  r0 x1 h = some (o, h')) : V G mX10_freeNode d 2 [.ref r0, .int x1] [] h o h' := by
  unfold kX10_freeNode_2 at e
  refine bX10_freeNode_2 r0 x1 (by omega) ?_
  refine ⟨fun c1 => ?_, fun c1 => ?_⟩
  · have e := if_t e c1
    cases e
    exact ⟨rfl, rfl⟩
  · have e := if_f e c1
    obtain ⟨z3, h2, e2, e⟩ := bI_e e
    refine ⟨z3, h2, (tX10_fieldOf e2 (by omega)), ?_⟩
    refine ⟨fun c3 => ?_, fun c3 => ?_⟩
    · have e := if_t e c3
      exact hrec _ _ _ _ _ _ e
    · have e := if_n e c3
      obtain ⟨z7, h6, e4, e⟩ := bI_e e
      refine ⟨z7, h6, (tX10_fieldOf e4 (by omega)), ?_⟩
      refine ⟨fun c5 => ?_, fun c5 => ?_⟩
      · have e := if_t e c5
        exact hrec _ _ _ _ _ _ e
      · have e := if_n e c5
        cases e
        exact ⟨rfl, rfl⟩
def sX10_freeNode  (rec : Nat → List Value → List Value → Hp → RS) (pc : Nat) (loc st : List Value) (h : Hp) : RS := match pc, loc, st with
  | 2, [.ref r0, .int x1], [] => kX10_freeNode_2 rec  r0 x1 h
  | _, _, _ => none
def gX10_freeNode  : Nat → Nat → List Value → List Value → Hp → RS
  | 0 => fun _ _ _ _ => none
  | n + 1 => sX10_freeNode  (gX10_freeNode  n)
theorem wX10_freeNode {G : GG} {d : Nat} (hd : 3 ≤ d)   : ∀ (n pc : Nat) (loc st : List Value) (h : Hp) (o : OU) (h' : Hp), gX10_freeNode  n pc loc st h = some (o, h') → V G mX10_freeNode d pc loc st h o h' := by
  intro n
  induction n with
  | zero => intro pc loc st h o h' e; cases e
  | succ n ih =>
    intro pc loc st h o h' e
    unfold gX10_freeNode sX10_freeNode at e
    split at e
    · exact uX10_freeNode_2 hd _ ih   e
    · cases e
theorem zX10_freeNode_2  (n : Nat) (r0 : Nat) (x1 : Int32)  (h : Hp) : gX10_freeNode  (n + 1) 2 [.ref r0, .int x1] [] h = kX10_freeNode_2 (gX10_freeNode  n)  r0 x1 h := rfl
def fX10_freeNode (r0 : Nat) (h : Hp) : RS := kX10_freeNode_0 (gX10_freeNode FF) r0 h
theorem tX10_freeNode {G : GG} {d : Nat} {r0} {h : Hp} {o : OU} {h' : Hp} (e : fX10_freeNode r0 h = some (o, h')) (hd : 3 ≤ d) : VM G mX10_freeNode d [.ref r0] h o h' := uX10_freeNode_0 hd _ (wX10_freeNode hd FF) e
def kX10_freeBlock_0 (rec : Nat → List Value → List Value → Hp → RS)  (r0 : Nat) (r1 : Nat) (h : Hp) : RS := (rec 2 [.ref r0, .ref r1, .int 4] [] h)
theorem uX10_freeBlock_0 {G : GG} {d : Nat} (hd : 1 ≤ d) (rec : Nat → List Value → List Value → Hp → RS) (hrec : ∀ pc loc st h o h', rec pc loc st h = some (o, h') → V G mX10_freeBlock d pc loc st h o h')   {r0  r1 } {h : Hp} {o : OU} {h' : Hp} (e : kX10_freeBlock_0 rec  r0 r1 h = some (o, h')) : VM G mX10_freeBlock d [.ref r0, .ref r1] h o h' := by
  unfold kX10_freeBlock_0 at e
  refine eX10_freeBlock r0 r1 ?_
  exact hrec _ _ _ _ _ _ e
def kX10_freeBlock_2 (rec : Nat → List Value → List Value → Hp → RS)  (r0 : Nat) (r1 : Nat) (x2 : Int32) (h : Hp) : RS := (if kH h r0 = 18 then (if (h.2 r0 11) ≤ x2 then (some (.inl (some (.int (-1))), h)) else (if kH h r1 = 1 then (if inB (0 + x2) (lH h r1) = true then (if ¬ (h.2 r1 (0 + x2).toNatClampNeg) = 0 then (rec 2 [.ref r0, .ref r1, .int (x2 + 1)] [] h) else (some (.inl (some (.int x2)), h))) else none) else none)) else none)
theorem uX10_freeBlock_2 {G : GG} {d : Nat} (hd : 1 ≤ d) (rec : Nat → List Value → List Value → Hp → RS) (hrec : ∀ pc loc st h o h', rec pc loc st h = some (o, h') → V G mX10_freeBlock d pc loc st h o h')   {r0  r1  x2 } {h : Hp} {o : OU} {h' : Hp} (e : kX10_freeBlock_2 rec  r0 r1 x2 h = some (o, h')) : V G mX10_freeBlock d 2 [.ref r0, .ref r1, .int x2] [] h o h' := by
  unfold kX10_freeBlock_2 at e
  refine bX10_freeBlock_2 r0 r1 x2 ?_
  obtain ⟨q1, e⟩ := ob_e e
  refine ⟨q1, ?_⟩
  refine ⟨fun c2 => ?_, fun c2 => ?_⟩
  · have e := if_t e c2
    cases e
    exact ⟨rfl, rfl⟩
  · have e := if_f e c2
    obtain ⟨q3, e⟩ := ob_e e
    refine ⟨q3, ?_⟩
    obtain ⟨q4, e⟩ := ob_in e
    refine ⟨q4, ?_⟩
    refine ⟨fun c5 => ?_, fun c5 => ?_⟩
    · have e := if_t e c5
      exact hrec _ _ _ _ _ _ e
    · have e := if_n e c5
      cases e
      exact ⟨rfl, rfl⟩
def sX10_freeBlock  (rec : Nat → List Value → List Value → Hp → RS) (pc : Nat) (loc st : List Value) (h : Hp) : RS := match pc, loc, st with
  | 2, [.ref r0, .ref r1, .int x2], [] => kX10_freeBlock_2 rec  r0 r1 x2 h
  | _, _, _ => none
def gX10_freeBlock  : Nat → Nat → List Value → List Value → Hp → RS
  | 0 => fun _ _ _ _ => none
  | n + 1 => sX10_freeBlock  (gX10_freeBlock  n)
theorem wX10_freeBlock {G : GG} {d : Nat} (hd : 1 ≤ d)   : ∀ (n pc : Nat) (loc st : List Value) (h : Hp) (o : OU) (h' : Hp), gX10_freeBlock  n pc loc st h = some (o, h') → V G mX10_freeBlock d pc loc st h o h' := by
  intro n
  induction n with
  | zero => intro pc loc st h o h' e; cases e
  | succ n ih =>
    intro pc loc st h o h' e
    unfold gX10_freeBlock sX10_freeBlock at e
    split at e
    · exact uX10_freeBlock_2 hd _ ih   e
    · cases e
theorem zX10_freeBlock_2  (n : Nat) (r0 : Nat) (r1 : Nat) (x2 : Int32)  (h : Hp) : gX10_freeBlock  (n + 1) 2 [.ref r0, .ref r1, .int x2] [] h = kX10_freeBlock_2 (gX10_freeBlock  n)  r0 r1 x2 h := rfl
def fX10_freeBlock (r0 : Nat) (r1 : Nat) (h : Hp) : RS := kX10_freeBlock_0 (gX10_freeBlock FF) r0 r1 h
theorem tX10_freeBlock {G : GG} {d : Nat} {r0 r1} {h : Hp} {o : OU} {h' : Hp} (e : fX10_freeBlock r0 r1 h = some (o, h')) (hd : 1 ≤ d) : VM G mX10_freeBlock d [.ref r0, .ref r1] h o h' := uX10_freeBlock_0 hd _ (wX10_freeBlock hd FF) e
def kX10_isKind_0  (r0 : Nat) (x1 : Int32) (x2 : Int32) (x3 : Int32) (h : Hp) : RS := (bI (fX10_fieldOf r0 x1 x2 0 h) fun z2 h1 => (if z2 ≤ 0 then (some (.inl (some (.int 0)), h1)) else (bI (fX10_fieldOf r0 x1 x2 1 h1) fun z6 h5 => (if ¬ z6 = x3 then (some (.inl (some (.int 0)), h5)) else (some (.inl (some (.int 1)), h5))))))
theorem uX10_isKind_0 {G : GG} {d : Nat} (hd : 3 ≤ d)   {r0  x1  x2  x3 } {h : Hp} {o : OU} {h' : Hp} (e : kX10_isKind_0  r0 x1 x2 x3 h = some (o, h')) : VM G mX10_isKind d [.ref r0, .int x1, .int x2, .int x3] h o h' := by
  unfold kX10_isKind_0 at e
  refine eX10_isKind r0 x1 x2 x3 (by omega) ?_
  obtain ⟨z2, h1, e1, e⟩ := bI_e e
  refine ⟨z2, h1, (tX10_fieldOf e1 (by omega)), ?_⟩
  refine ⟨fun c2 => ?_, fun c2 => ?_⟩
  · have e := if_t e c2
    cases e
    exact ⟨rfl, rfl⟩
  · have e := if_f e c2
    obtain ⟨z6, h5, e3, e⟩ := bI_e e
    refine ⟨z6, h5, (tX10_fieldOf e3 (by omega)), ?_⟩
    refine ⟨fun c4 => ?_, fun c4 => ?_⟩
    · have e := if_t e c4
      cases e
      exact ⟨rfl, rfl⟩
    · have e := if_n e c4
      cases e
      exact ⟨rfl, rfl⟩
def fX10_isKind (r0 : Nat) (x1 : Int32) (x2 : Int32) (x3 : Int32) (h : Hp) : RS := kX10_isKind_0 r0 x1 x2 x3 h
theorem tX10_isKind {G : GG} {d : Nat} {r0 x1 x2 x3} {h : Hp} {o : OU} {h' : Hp} (e : fX10_isKind r0 x1 x2 x3 h = some (o, h')) (hd : 3 ≤ d) : VM G mX10_isKind d [.ref r0, .int x1, .int x2, .int x3] h o h' := uX10_isKind_0 hd e
def kX10_entryOf_0 (rec : Nat → List Value → List Value → Hp → RS)  (r0 : Nat) (x1 : Int32) (x2 : Int32) (x3 : Int32) (h : Hp) : RS := (bI (fX10_fieldOf r0 x1 x2 2 h) fun z2 h1 => (bI (fX10_fieldOf r0 x1 x2 3 h1) fun z5 h4 => (if ¬ z2 = 0 then (rec 29 [uV, uV, uV, .int x3, .int z2, .int z5, uV, uV] [.int 8] h4) else (rec 29 [uV, uV, uV, .int x3, .int z2, .int z5, uV, uV] [.int 0] h4))))
theorem uX10_entryOf_0 {G : GG} {d : Nat} (hd : 3 ≤ d) (rec : Nat → List Value → List Value → Hp → RS) (hrec : ∀ pc loc st h o h', rec pc loc st h = some (o, h') → V G mX10_entryOf d pc loc st h o h')   {r0  x1  x2  x3 } {h : Hp} {o : OU} {h' : Hp} (e : kX10_entryOf_0 rec  r0 x1 x2 x3 h = some (o, h')) : VM G mX10_entryOf d [.ref r0, .int x1, .int x2, .int x3] h o h' := by
  unfold kX10_entryOf_0 at e
  refine eX10_entryOf r0 x1 x2 x3 (by omega) ?_
  obtain ⟨z2, h1, e1, e⟩ := bI_e e
  refine ⟨z2, h1, (tX10_fieldOf e1 (by omega)), ?_⟩
  obtain ⟨z5, h4, e2, e⟩ := bI_e e
  refine ⟨z5, h4, (tX10_fieldOf e2 (by omega)), ?_⟩
  refine ⟨fun c3 => ?_, fun c3 => ?_⟩
  · have e := if_t e c3
    exact hrec _ _ _ _ _ _ e
  · have e := if_n e c3
    exact hrec _ _ _ _ _ _ e
def kX10_entryOf_29 (rec : Nat → List Value → List Value → Hp → RS)  (x3 : Int32) (x4 : Int32) (x5 : Int32) (s0 : Int32) (h : Hp) : RS := (if ¬ x5 = 0 then (rec 40 [uV, uV, uV, .int x3, .int x4, .int x5, uV, uV] [.int 8, .int s0] h) else (rec 40 [uV, uV, uV, .int x3, .int x4, .int x5, uV, uV] [.int 0, .int s0] h))
theorem uX10_entryOf_29 {G : GG} {d : Nat} (hd : 3 ≤ d) (rec : Nat → List Value → List Value → Hp → RS) (hrec : ∀ pc loc st h o h', rec pc loc st h = some (o, h') → V G mX10_entryOf d pc loc st h o h')   {x3  x4  x5  s0 } {h : Hp} {o : OU} {h' : Hp} (e : kX10_entryOf_29 rec  x3 x4 x5 s0 h = some (o, h')) : V G mX10_entryOf d 29 [uV, uV, uV, .int x3, .int x4, .int x5, uV, uV] [.int s0] h o h' := by
  unfold kX10_entryOf_29 at e
  refine bX10_entryOf_29 x3 x4 x5 s0 ?_
  refine ⟨fun c1 => ?_, fun c1 => ?_⟩
  · have e := if_t e c1
    exact hrec _ _ _ _ _ _ e
  · have e := if_n e c1
    exact hrec _ _ _ _ _ _ e
def kX10_entryOf_40 (rec : Nat → List Value → List Value → Hp → RS)  (x3 : Int32) (x4 : Int32) (x5 : Int32) (s0 : Int32) (s1 : Int32) (h : Hp) : RS := (if x3 < (s1 + s0) then (if 8 ≤ x3 then (some (.inl (some (.int ((16 * x5) + (2 * (x3 - x3 / 8 * 8))))), h)) else (if x4 = 0 then (some (.inl (some (.int ((16 * x5) + (2 * (x3 - x3 / 8 * 8))))), h)) else (some (.inl (some (.int ((16 * x4) + (2 * (x3 - x3 / 8 * 8))))), h)))) else (some (.inl (some (.int (-1))), h)))
theorem uX10_entryOf_40 {G : GG} {d : Nat} (hd : 3 ≤ d) (rec : Nat → List Value → List Value → Hp → RS) (hrec : ∀ pc loc st h o h', rec pc loc st h = some (o, h') → V G mX10_entryOf d pc loc st h o h')   {x3  x4  x5  s0  s1 } {h : Hp} {o : OU} {h' : Hp} (e : kX10_entryOf_40 rec  x3 x4 x5 s0 s1 h = some (o, h')) : V G mX10_entryOf d 40 [uV, uV, uV, .int x3, .int x4, .int x5, uV, uV] [.int s0, .int s1] h o h' := by
  unfold kX10_entryOf_40 at e
  refine bX10_entryOf_40 x3 x4 x5 s0 s1 ?_
  refine ⟨fun c1 => ?_, fun c1 => ?_⟩
  · have e := if_t e c1
    refine ⟨fun c2 => ?_, fun c2 => ?_⟩
    · have e := if_t e c2
      cases e
      exact ⟨rfl, rfl⟩
    · have e := if_f e c2
      refine ⟨fun c3 => ?_, fun c3 => ?_⟩
      · have e := if_t e c3
        cases e
        exact ⟨rfl, rfl⟩
      · have e := if_f e c3
        cases e
        exact ⟨rfl, rfl⟩
  · have e := if_f e c1
    cases e
    exact ⟨rfl, rfl⟩
def sX10_entryOf  (rec : Nat → List Value → List Value → Hp → RS) (pc : Nat) (loc st : List Value) (h : Hp) : RS := match pc, loc, st with
  | 29, [_, _, _, .int x3, .int x4, .int x5, _, _], [.int s0] => kX10_entryOf_29 rec  x3 x4 x5 s0 h
  | 40, [_, _, _, .int x3, .int x4, .int x5, _, _], [.int s0, .int s1] => kX10_entryOf_40 rec  x3 x4 x5 s0 s1 h
  | _, _, _ => none
def gX10_entryOf  : Nat → Nat → List Value → List Value → Hp → RS
  | 0 => fun _ _ _ _ => none
  | n + 1 => sX10_entryOf  (gX10_entryOf  n)
theorem wX10_entryOf {G : GG} {d : Nat} (hd : 3 ≤ d)   : ∀ (n pc : Nat) (loc st : List Value) (h : Hp) (o : OU) (h' : Hp), gX10_entryOf  n pc loc st h = some (o, h') → V G mX10_entryOf d pc loc st h o h' := by
  intro n
  induction n with
  | zero => intro pc loc st h o h' e; cases e
  | succ n ih =>
    intro pc loc st h o h' e
    unfold gX10_entryOf sX10_entryOf at e
    split at e
    · exact V.drop (llp_u (llp_u (llp_u (llp_r (llp_r (llp_r (llp_u (llp_u llp_nil)))))))) (uX10_entryOf_29 hd _ ih   e)
    · exact V.drop (llp_u (llp_u (llp_u (llp_r (llp_r (llp_r (llp_u (llp_u llp_nil)))))))) (uX10_entryOf_40 hd _ ih   e)
    · cases e
theorem zX10_entryOf_29  (n : Nat) (x3 : Int32) (x4 : Int32) (x5 : Int32) (s0 : Int32) (y0 : Value) (y1 : Value) (y2 : Value) (y6 : Value) (y7 : Value) (h : Hp) : gX10_entryOf  (n + 1) 29 [y0, y1, y2, .int x3, .int x4, .int x5, y6, y7] [.int s0] h = kX10_entryOf_29 (gX10_entryOf  n)  x3 x4 x5 s0 h := rfl
theorem zX10_entryOf_40  (n : Nat) (x3 : Int32) (x4 : Int32) (x5 : Int32) (s0 : Int32) (s1 : Int32) (y0 : Value) (y1 : Value) (y2 : Value) (y6 : Value) (y7 : Value) (h : Hp) : gX10_entryOf  (n + 1) 40 [y0, y1, y2, .int x3, .int x4, .int x5, y6, y7] [.int s0, .int s1] h = kX10_entryOf_40 (gX10_entryOf  n)  x3 x4 x5 s0 s1 h := rfl
def fX10_entryOf (r0 : Nat) (x1 : Int32) (x2 : Int32) (x3 : Int32) (h : Hp) : RS := kX10_entryOf_0 (gX10_entryOf FF) r0 x1 x2 x3 h
theorem tX10_entryOf {G : GG} {d : Nat} {r0 x1 x2 x3} {h : Hp} {o : OU} {h' : Hp} (e : fX10_entryOf r0 x1 x2 x3 h = some (o, h')) (hd : 3 ≤ d) : VM G mX10_entryOf d [.ref r0, .int x1, .int x2, .int x3] h o h' := uX10_entryOf_0 hd _ (wX10_entryOf hd FF) e
def kX10_reached_0 (rec : Nat → List Value → List Value → Hp → RS)  (r0 : Nat) (x1 : Int32) (h : Hp) : RS := (rec 4 [.ref r0, .int x1, .int 1, .int 0, uV, uV, uV] [] h)
theorem uX10_reached_0 {G : GG} {d : Nat} (hd : 4 ≤ d) (rec : Nat → List Value → List Value → Hp → RS) (hrec : ∀ pc loc st h o h', rec pc loc st h = some (o, h') → V G mX10_reached d pc loc st h o h')   {r0  x1 } {h : Hp} {o : OU} {h' : Hp} (e : kX10_reached_0 rec  r0 x1 h = some (o, h')) : VM G mX10_reached d [.ref r0, .int x1] h o h' := by
  unfold kX10_reached_0 at e
  refine eX10_reached r0 x1 ?_
  exact hrec _ _ _ _ _ _ e
def kX10_reached_4 (rec : Nat → List Value → List Value → Hp → RS)  (r0 : Nat) (x1 : Int32) (x2 : Int32) (x3 : Int32) (h : Hp) : RS := (if x2 = x3 then (some (.inl (some (.int x2)), h)) else (rec 14 [.ref r0, .int x1, .int x2, .int x2, .int 0, uV, uV] [] h))
theorem uX10_reached_4 {G : GG} {d : Nat} (hd : 4 ≤ d) (rec : Nat → List Value → List Value → Hp → RS) (hrec : ∀ pc loc st h o h', rec pc loc st h = some (o, h') → V G mX10_reached d pc loc st h o h')   {r0  x1  x2  x3 } {h : Hp} {o : OU} {h' : Hp} (e : kX10_reached_4 rec  r0 x1 x2 x3 h = some (o, h')) : V G mX10_reached d 4 [.ref r0, .int x1, .int x2, .int x3, uV, uV, uV] [] h o h' := by
  unfold kX10_reached_4 at e
  refine bX10_reached_4 r0 x1 x2 x3 ?_
  refine ⟨fun c1 => ?_, fun c1 => ?_⟩
  · have e := if_t e c1
    cases e
    exact ⟨rfl, rfl⟩
  · have e := if_f e c1
    exact hrec _ _ _ _ _ _ e
def kX10_reached_14 (rec : Nat → List Value → List Value → Hp → RS)  (r0 : Nat) (x1 : Int32) (x2 : Int32) (x3 : Int32) (x4 : Int32) (h : Hp) : RS := (if 12 ≤ x4 then (rec 4 [.ref r0, .int x1, .int x2, .int x3, uV, uV, uV] [] h) else (bI (fX10_has x3 x4 h) fun z3 h2 => (if z3 = 0 then (rec 14 [.ref r0, .int x1, .int x2, .int x3, .int (x4 + 1), uV, uV] [] h2) else (bI (fX10_fieldOf r0 x1 x4 1 h2) fun z7 h6 => (if z7 = 2 then (rec 48 [.ref r0, .int x1, .int x2, .int x3, .int x4, .int 0, uV] [] h6) else (rec 14 [.ref r0, .int x1, .int x2, .int x3, .int (x4 + 1), uV, uV] [] h6))))))
theorem uX10_reached_14 {G : GG} {d : Nat} (hd : 4 ≤ d) (rec : Nat → List Value → List Value → Hp → RS) (hrec : ∀ pc loc st h o h', rec pc loc st h = some (o, h') → V G mX10_reached d pc loc st h o h')   {r0  x1  x2  x3  x4 } {h : Hp} {o : OU} {h' : Hp} (e : kX10_reached_14 rec  r0 x1 x2 x3 x4 h = some (o, h')) : V G mX10_reached d 14 [.ref r0, .int x1, .int x2, .int x3, .int x4, uV, uV] [] h o h' := by
  unfold kX10_reached_14 at e
  refine bX10_reached_14 r0 x1 x2 x3 x4 (by omega) ?_
  refine ⟨fun c1 => ?_, fun c1 => ?_⟩
  · have e := if_t e c1
    exact hrec _ _ _ _ _ _ e
  · have e := if_f e c1
    obtain ⟨z3, h2, e2, e⟩ := bI_e e
    refine ⟨z3, h2, (tX10_has e2 (by omega)), ?_⟩
    refine ⟨fun c3 => ?_, fun c3 => ?_⟩
    · have e := if_t e c3
      exact hrec _ _ _ _ _ _ e
    · have e := if_f e c3
      obtain ⟨z7, h6, e4, e⟩ := bI_e e
      refine ⟨z7, h6, (tX10_fieldOf e4 (by omega)), ?_⟩
      refine ⟨fun c5 => ?_, fun c5 => ?_⟩
      · have e := if_t e c5
        exact hrec _ _ _ _ _ _ e
      · have e := if_f e c5
        exact hrec _ _ _ _ _ _ e
def kX10_reached_48 (rec : Nat → List Value → List Value → Hp → RS)  (r0 : Nat) (x1 : Int32) (x2 : Int32) (x3 : Int32) (x4 : Int32) (x5 : Int32) (h : Hp) : RS := (bI (fX10_entryOf r0 x1 x4 x5 h) fun z2 h1 => (if z2 = (-1) then (rec 14 [.ref r0, .int x1, .int x2, .int x3, .int (x4 + 1), uV, uV] [] h1) else (bI (fX10_entryOf r0 x1 x4 x5 h1) fun z6 h5 => (if kH h5 r0 = 1 then (if inB (x1 + z6) (lH h5 r0) = true then (if ¬ (h5.2 r0 (x1 + z6).toNatClampNeg) = 0 then (if inB ((x1 + z6) + 1) (lH h5 r0) = true then (rec 48 [.ref r0, .int x1, .int (x2 ||| (1 <<< ((h5.2 r0 ((x1 + z6) + 1).toNatClampNeg) &&& 31))), .int x3, .int x4, .int (x5 + 1), uV] [] h5) else none) else (rec 48 [.ref r0, .int x1, .int (x2 ||| 0), .int x3, .int x4, .int (x5 + 1), uV] [] h5)) else none) else none))))
theorem uX10_reached_48 {G : GG} {d : Nat} (hd : 4 ≤ d) (rec : Nat → List Value → List Value → Hp → RS) (hrec : ∀ pc loc st h o h', rec pc loc st h = some (o, h') → V G mX10_reached d pc loc st h o h')   {r0  x1  x2  x3  x4  x5 } {h : Hp} {o : OU} {h' : Hp} (e : kX10_reached_48 rec  r0 x1 x2 x3 x4 x5 h = some (o, h')) : V G mX10_reached d 48 [.ref r0, .int x1, .int x2, .int x3, .int x4, .int x5, uV] [] h o h' := by
  unfold kX10_reached_48 at e
  refine bX10_reached_48 r0 x1 x2 x3 x4 x5 (by omega) ?_
  obtain ⟨z2, h1, e1, e⟩ := bI_e e
  refine ⟨z2, h1, (tX10_entryOf e1 (by omega)), ?_⟩
  refine ⟨fun c2 => ?_, fun c2 => ?_⟩
  · have e := if_t e c2
    exact hrec _ _ _ _ _ _ e
  · have e := if_f e c2
    obtain ⟨z6, h5, e3, e⟩ := bI_e e
    refine ⟨z6, h5, (tX10_entryOf e3 (by omega)), ?_⟩
    obtain ⟨q4, e⟩ := ob_e e
    refine ⟨q4, ?_⟩
    obtain ⟨q5, e⟩ := ob_in e
    refine ⟨q5, ?_⟩
    refine ⟨fun c6 => ?_, fun c6 => ?_⟩
    · have e := if_t e c6
      obtain ⟨q7, e⟩ := ob_in e
      refine ⟨q7, ?_⟩
      exact hrec _ _ _ _ _ _ e
    · have e := if_n e c6
      exact hrec _ _ _ _ _ _ e
def sX10_reached  (rec : Nat → List Value → List Value → Hp → RS) (pc : Nat) (loc st : List Value) (h : Hp) : RS := match pc, loc, st with
  | 4, [.ref r0, .int x1, .int x2, .int x3, _, _, _], [] => kX10_reached_4 rec  r0 x1 x2 x3 h
  | 14, [.ref r0, .int x1, .int x2, .int x3, .int x4, _, _], [] => kX10_reached_14 rec  r0 x1 x2 x3 x4 h
  | 48, [.ref r0, .int x1, .int x2, .int x3, .int x4, .int x5, _], [] => kX10_reached_48 rec  r0 x1 x2 x3 x4 x5 h
  | _, _, _ => none
def gX10_reached  : Nat → Nat → List Value → List Value → Hp → RS
  | 0 => fun _ _ _ _ => none
  | n + 1 => sX10_reached  (gX10_reached  n)
theorem wX10_reached {G : GG} {d : Nat} (hd : 4 ≤ d)   : ∀ (n pc : Nat) (loc st : List Value) (h : Hp) (o : OU) (h' : Hp), gX10_reached  n pc loc st h = some (o, h') → V G mX10_reached d pc loc st h o h' := by
  intro n
  induction n with
  | zero => intro pc loc st h o h' e; cases e
  | succ n ih =>
    intro pc loc st h o h' e
    unfold gX10_reached sX10_reached at e
    split at e
    · exact V.drop (llp_r (llp_r (llp_r (llp_r (llp_u (llp_u (llp_u llp_nil))))))) (uX10_reached_4 hd _ ih   e)
    · exact V.drop (llp_r (llp_r (llp_r (llp_r (llp_r (llp_u (llp_u llp_nil))))))) (uX10_reached_14 hd _ ih   e)
    · exact V.drop (llp_r (llp_r (llp_r (llp_r (llp_r (llp_r (llp_u llp_nil))))))) (uX10_reached_48 hd _ ih   e)
    · cases e
theorem zX10_reached_4  (n : Nat) (r0 : Nat) (x1 : Int32) (x2 : Int32) (x3 : Int32) (y4 : Value) (y5 : Value) (y6 : Value) (h : Hp) : gX10_reached  (n + 1) 4 [.ref r0, .int x1, .int x2, .int x3, y4, y5, y6] [] h = kX10_reached_4 (gX10_reached  n)  r0 x1 x2 x3 h := rfl
theorem zX10_reached_14  (n : Nat) (r0 : Nat) (x1 : Int32) (x2 : Int32) (x3 : Int32) (x4 : Int32) (y5 : Value) (y6 : Value) (h : Hp) : gX10_reached  (n + 1) 14 [.ref r0, .int x1, .int x2, .int x3, .int x4, y5, y6] [] h = kX10_reached_14 (gX10_reached  n)  r0 x1 x2 x3 x4 h := rfl
theorem zX10_reached_48  (n : Nat) (r0 : Nat) (x1 : Int32) (x2 : Int32) (x3 : Int32) (x4 : Int32) (x5 : Int32) (y6 : Value) (h : Hp) : gX10_reached  (n + 1) 48 [.ref r0, .int x1, .int x2, .int x3, .int x4, .int x5, y6] [] h = kX10_reached_48 (gX10_reached  n)  r0 x1 x2 x3 x4 x5 h := rfl
def fX10_reached (r0 : Nat) (x1 : Int32) (h : Hp) : RS := kX10_reached_0 (gX10_reached FF) r0 x1 h
theorem tX10_reached {G : GG} {d : Nat} {r0 x1} {h : Hp} {o : OU} {h' : Hp} (e : fX10_reached r0 x1 h = some (o, h')) (hd : 4 ≤ d) : VM G mX10_reached d [.ref r0, .int x1] h o h' := uX10_reached_0 hd _ (wX10_reached hd FF) e
def kX10_entry_0 (rec : Nat → List Value → List Value → Hp → RS)  (r0 : Nat) (x1 : Int32) (x2 : Int32) (x3 : Int32) (h : Hp) : RS := (rec 3 [.ref r0, .int x1, .int x2, .int x3, .int 0] [] h)
theorem uX10_entry_0 {G : GG} {d : Nat} (hd : 4 ≤ d) (rec : Nat → List Value → List Value → Hp → RS) (hrec : ∀ pc loc st h o h', rec pc loc st h = some (o, h') → V G mX10_entry d pc loc st h o h')   {r0  x1  x2  x3 } {h : Hp} {o : OU} {h' : Hp} (e : kX10_entry_0 rec  r0 x1 x2 x3 h = some (o, h')) : VM G mX10_entry d [.ref r0, .int x1, .int x2, .int x3] h o h' := by
  unfold kX10_entry_0 at e
  refine eX10_entry r0 x1 x2 x3 ?_
  exact hrec _ _ _ _ _ _ e
def kX10_entry_3 (rec : Nat → List Value → List Value → Hp → RS)  (r0 : Nat) (x1 : Int32) (x2 : Int32) (x3 : Int32) (x4 : Int32) (h : Hp) : RS := (bI (fX10_entryOf r0 x1 x2 x4 h) fun z2 h1 => (if z2 = (-1) then (some (.inl (some (.int (-1))), h1)) else (bI (fX10_entryOf r0 x1 x2 x4 h1) fun z6 h5 => (if kH h5 r0 = 1 then (if inB (x1 + z6) (lH h5 r0) = true then (if ¬ (h5.2 r0 (x1 + z6).toNatClampNeg) = x3 then (rec 3 [.ref r0, .int x1, .int x2, .int x3, .int (x4 + 1)] [] h5) else (bI (fX10_entryOf r0 x1 x2 x4 h5) fun z12 h11 => (some (.inl (some (.int z12)), h11)))) else none) else none))))
theorem uX10_entry_3 {G : GG} {d : Nat} (hd : 4 ≤ d) (rec : Nat → List Value → List Value → Hp → RS) (hrec : ∀ pc loc st h o h', rec pc loc st h = some (o, h') → V G mX10_entry d pc loc st h o h')   {r0  x1  x2  x3  x4 } {h : Hp} {o : OU} {h' : Hp} (e : kX10_entry_3 rec  r0 x1 x2 x3 x4 h = some (o, h')) : V G mX10_entry d 3 [.ref r0, .int x1, .int x2, .int x3, .int x4] [] h o h' := by
  unfold kX10_entry_3 at e
  refine bX10_entry_3 r0 x1 x2 x3 x4 (by omega) ?_
  obtain ⟨z2, h1, e1, e⟩ := bI_e e
  refine ⟨z2, h1, (tX10_entryOf e1 (by omega)), ?_⟩
  refine ⟨fun c2 => ?_, fun c2 => ?_⟩
  · have e := if_t e c2
    cases e
    exact ⟨rfl, rfl⟩
  · have e := if_f e c2
    obtain ⟨z6, h5, e3, e⟩ := bI_e e
    refine ⟨z6, h5, (tX10_entryOf e3 (by omega)), ?_⟩
    obtain ⟨q4, e⟩ := ob_e e
    refine ⟨q4, ?_⟩
    obtain ⟨q5, e⟩ := ob_in e
    refine ⟨q5, ?_⟩
    refine ⟨fun c6 => ?_, fun c6 => ?_⟩
    · have e := if_t e c6
      exact hrec _ _ _ _ _ _ e
    · have e := if_n e c6
      obtain ⟨z12, h11, e7, e⟩ := bI_e e
      refine ⟨z12, h11, (tX10_entryOf e7 (by omega)), ?_⟩
      cases e
      exact ⟨rfl, rfl⟩
def sX10_entry  (rec : Nat → List Value → List Value → Hp → RS) (pc : Nat) (loc st : List Value) (h : Hp) : RS := match pc, loc, st with
  | 3, [.ref r0, .int x1, .int x2, .int x3, .int x4], [] => kX10_entry_3 rec  r0 x1 x2 x3 x4 h
  | _, _, _ => none
def gX10_entry  : Nat → Nat → List Value → List Value → Hp → RS
  | 0 => fun _ _ _ _ => none
  | n + 1 => sX10_entry  (gX10_entry  n)
theorem wX10_entry {G : GG} {d : Nat} (hd : 4 ≤ d)   : ∀ (n pc : Nat) (loc st : List Value) (h : Hp) (o : OU) (h' : Hp), gX10_entry  n pc loc st h = some (o, h') → V G mX10_entry d pc loc st h o h' := by
  intro n
  induction n with
  | zero => intro pc loc st h o h' e; cases e
  | succ n ih =>
    intro pc loc st h o h' e
    unfold gX10_entry sX10_entry at e
    split at e
    · exact uX10_entry_3 hd _ ih   e
    · cases e
theorem zX10_entry_3  (n : Nat) (r0 : Nat) (x1 : Int32) (x2 : Int32) (x3 : Int32) (x4 : Int32)  (h : Hp) : gX10_entry  (n + 1) 3 [.ref r0, .int x1, .int x2, .int x3, .int x4] [] h = kX10_entry_3 (gX10_entry  n)  r0 x1 x2 x3 x4 h := rfl
def fX10_entry (r0 : Nat) (x1 : Int32) (x2 : Int32) (x3 : Int32) (h : Hp) : RS := kX10_entry_0 (gX10_entry FF) r0 x1 x2 x3 h
theorem tX10_entry {G : GG} {d : Nat} {r0 x1 x2 x3} {h : Hp} {o : OU} {h' : Hp} (e : fX10_entry r0 x1 x2 x3 h = some (o, h')) (hd : 4 ≤ d) : VM G mX10_entry d [.ref r0, .int x1, .int x2, .int x3] h o h' := uX10_entry_0 hd _ (wX10_entry hd FF) e
def kX10_isNewName_0  (r0 : Nat) (r1 : Nat) (x2 : Int32) (x3 : Int32) (h : Hp) : RS := (bI (fX10_isKind r1 0 x2 2 h) fun z2 h1 => (if z2 = 0 then (some (.inl (some (.int 0)), h1)) else (bI (fX10_reached r1 0 h1) fun z6 h5 => (bI (fX10_has z6 x2 h5) fun z9 h8 => (if z9 = 0 then (some (.inl (some (.int 0)), h8)) else (bI (fX10_entry r1 0 x2 x3 h8) fun z13 h12 => (if ¬ z13 = (-1) then (some (.inl (some (.int 0)), h12)) else (bI (fX10_entry r1 0 x2 0 h12) fun z17 h16 => (if z17 = (-1) then (some (.inl (some (.int 0)), h16)) else (some (.inl (some (.int 1)), h16)))))))))))
theorem uX10_isNewName_0 {G : GG} {d : Nat} (hd : 5 ≤ d)   {r0  r1  x2  x3 } {h : Hp} {o : OU} {h' : Hp} (e : kX10_isNewName_0  r0 r1 x2 x3 h = some (o, h')) : VM G mX10_isNewName d [.ref r0, .ref r1, .int x2, .int x3] h o h' := by
  unfold kX10_isNewName_0 at e
  refine eX10_isNewName r0 r1 x2 x3 (by omega) ?_
  obtain ⟨z2, h1, e1, e⟩ := bI_e e
  refine ⟨z2, h1, (tX10_isKind e1 (by omega)), ?_⟩
  refine ⟨fun c2 => ?_, fun c2 => ?_⟩
  · have e := if_t e c2
    cases e
    exact ⟨rfl, rfl⟩
  · have e := if_f e c2
    obtain ⟨z6, h5, e3, e⟩ := bI_e e
    refine ⟨z6, h5, (tX10_reached e3 (by omega)), ?_⟩
    obtain ⟨z9, h8, e4, e⟩ := bI_e e
    refine ⟨z9, h8, (tX10_has e4 (by omega)), ?_⟩
    refine ⟨fun c5 => ?_, fun c5 => ?_⟩
    · have e := if_t e c5
      cases e
      exact ⟨rfl, rfl⟩
    · have e := if_f e c5
      obtain ⟨z13, h12, e6, e⟩ := bI_e e
      refine ⟨z13, h12, (tX10_entry e6 (by omega)), ?_⟩
      refine ⟨fun c7 => ?_, fun c7 => ?_⟩
      · have e := if_t e c7
        cases e
        exact ⟨rfl, rfl⟩
      · have e := if_n e c7
        obtain ⟨z17, h16, e8, e⟩ := bI_e e
        refine ⟨z17, h16, (tX10_entry e8 (by omega)), ?_⟩
        refine ⟨fun c9 => ?_, fun c9 => ?_⟩
        · have e := if_t e c9
          cases e
          exact ⟨rfl, rfl⟩
        · have e := if_f e c9
          cases e
          exact ⟨rfl, rfl⟩
def fX10_isNewName (r0 : Nat) (r1 : Nat) (x2 : Int32) (x3 : Int32) (h : Hp) : RS := kX10_isNewName_0 r0 r1 x2 x3 h
theorem tX10_isNewName {G : GG} {d : Nat} {r0 r1 x2 x3} {h : Hp} {o : OU} {h' : Hp} (e : fX10_isNewName r0 r1 x2 x3 h = some (o, h')) (hd : 5 ≤ d) : VM G mX10_isNewName d [.ref r0, .ref r1, .int x2, .int x3] h o h' := uX10_isNewName_0 hd e
def kX10_isThere_0 (rec : Nat → List Value → List Value → Hp → RS)  (r0 : Nat) (x1 : Int32) (x2 : Int32) (x3 : Int32) (h : Hp) : RS := (rec 6 [.ref r0, .int x1, .int x2, .int x3, .int 1, .int 0] [] h)
theorem uX10_isThere_0 {G : GG} {d : Nat} (hd : 1 ≤ d) (rec : Nat → List Value → List Value → Hp → RS) (hrec : ∀ pc loc st h o h', rec pc loc st h = some (o, h') → V G mX10_isThere d pc loc st h o h')   {r0  x1  x2  x3 } {h : Hp} {o : OU} {h' : Hp} (e : kX10_isThere_0 rec  r0 x1 x2 x3 h = some (o, h')) : VM G mX10_isThere d [.ref r0, .int x1, .int x2, .int x3] h o h' := by
  unfold kX10_isThere_0 at e
  refine eX10_isThere r0 x1 x2 x3 ?_
  exact hrec _ _ _ _ _ _ e
def kX10_isThere_6 (rec : Nat → List Value → List Value → Hp → RS)  (r0 : Nat) (x1 : Int32) (x2 : Int32) (x3 : Int32) (x4 : Int32) (x5 : Int32) (h : Hp) : RS := (if 16 ≤ x5 then (if (x4 = 0 ∨ x4 = 1) then (some (.inl (some (.int x4)), h)) else none) else (if 16 ≤ x2 then (if kH h r0 = 1 then (if inB ((0 + (16 * x1)) + x5) (lH h r0) = true then (if ¬ (h.2 r0 ((0 + (16 * x1)) + x5).toNatClampNeg) = x3 then (rec 6 [.ref r0, .int x1, .int x2, .int x3, .int (x4 &&& 0), .int (x5 + 1)] [] h) else (rec 6 [.ref r0, .int x1, .int x2, .int x3, .int (x4 &&& 1), .int (x5 + 1)] [] h)) else none) else none) else (if ¬ x5 = x2 then (rec 6 [.ref r0, .int x1, .int x2, .int x3, .int (x4 &&& 1), .int (x5 + 1)] [] h) else (if kH h r0 = 1 then (if inB ((0 + (16 * x1)) + x5) (lH h r0) = true then (if ¬ (h.2 r0 ((0 + (16 * x1)) + x5).toNatClampNeg) = x3 then (rec 6 [.ref r0, .int x1, .int x2, .int x3, .int (x4 &&& 0), .int (x5 + 1)] [] h) else (rec 6 [.ref r0, .int x1, .int x2, .int x3, .int (x4 &&& 1), .int (x5 + 1)] [] h)) else none) else none))))
theorem uX10_isThere_6 {G : GG} {d : Nat} (hd : 1 ≤ d) (rec : Nat → List Value → List Value → Hp → RS) (hrec : ∀ pc loc st h o h', rec pc loc st h = some (o, h') → V G mX10_isThere d pc loc st h o h')   {r0  x1  x2  x3  x4  x5 } {h : Hp} {o : OU} {h' : Hp} (e : kX10_isThere_6 rec  r0 x1 x2 x3 x4 x5 h = some (o, h')) : V G mX10_isThere d 6 [.ref r0, .int x1, .int x2, .int x3, .int x4, .int x5] [] h o h' := by
  unfold kX10_isThere_6 at e
  refine bX10_isThere_6 r0 x1 x2 x3 x4 x5 ?_
  refine ⟨fun c1 => ?_, fun c1 => ?_⟩
  · have e := if_t e c1
    obtain ⟨q2, e⟩ := ob_e e
    refine ⟨q2, ?_⟩
    cases e
    exact ⟨rfl, rfl⟩
  · have e := if_f e c1
    refine ⟨fun c3 => ?_, fun c3 => ?_⟩
    · have e := if_t e c3
      obtain ⟨q4, e⟩ := ob_e e
      refine ⟨q4, ?_⟩
      obtain ⟨q5, e⟩ := ob_in e
      refine ⟨q5, ?_⟩
      refine ⟨fun c6 => ?_, fun c6 => ?_⟩
      · have e := if_t e c6
        exact hrec _ _ _ _ _ _ e
      · have e := if_n e c6
        exact hrec _ _ _ _ _ _ e
    · have e := if_f e c3
      refine ⟨fun c7 => ?_, fun c7 => ?_⟩
      · have e := if_t e c7
        exact hrec _ _ _ _ _ _ e
      · have e := if_n e c7
        obtain ⟨q8, e⟩ := ob_e e
        refine ⟨q8, ?_⟩
        obtain ⟨q9, e⟩ := ob_in e
        refine ⟨q9, ?_⟩
        refine ⟨fun c10 => ?_, fun c10 => ?_⟩
        · have e := if_t e c10
          exact hrec _ _ _ _ _ _ e
        · have e := if_n e c10
          exact hrec _ _ _ _ _ _ e
def sX10_isThere  (rec : Nat → List Value → List Value → Hp → RS) (pc : Nat) (loc st : List Value) (h : Hp) : RS := match pc, loc, st with
  | 6, [.ref r0, .int x1, .int x2, .int x3, .int x4, .int x5], [] => kX10_isThere_6 rec  r0 x1 x2 x3 x4 x5 h
  | _, _, _ => none
def gX10_isThere  : Nat → Nat → List Value → List Value → Hp → RS
  | 0 => fun _ _ _ _ => none
  | n + 1 => sX10_isThere  (gX10_isThere  n)
theorem wX10_isThere {G : GG} {d : Nat} (hd : 1 ≤ d)   : ∀ (n pc : Nat) (loc st : List Value) (h : Hp) (o : OU) (h' : Hp), gX10_isThere  n pc loc st h = some (o, h') → V G mX10_isThere d pc loc st h o h' := by
  intro n
  induction n with
  | zero => intro pc loc st h o h' e; cases e
  | succ n ih =>
    intro pc loc st h o h' e
    unfold gX10_isThere sX10_isThere at e
    split at e
    · exact uX10_isThere_6 hd _ ih   e
    · cases e
theorem zX10_isThere_6  (n : Nat) (r0 : Nat) (x1 : Int32) (x2 : Int32) (x3 : Int32) (x4 : Int32) (x5 : Int32)  (h : Hp) : gX10_isThere  (n + 1) 6 [.ref r0, .int x1, .int x2, .int x3, .int x4, .int x5] [] h = kX10_isThere_6 (gX10_isThere  n)  r0 x1 x2 x3 x4 x5 h := rfl
def fX10_isThere (r0 : Nat) (x1 : Int32) (x2 : Int32) (x3 : Int32) (h : Hp) : RS := kX10_isThere_0 (gX10_isThere FF) r0 x1 x2 x3 h
theorem tX10_isThere {G : GG} {d : Nat} {r0 x1 x2 x3} {h : Hp} {o : OU} {h' : Hp} (e : fX10_isThere r0 x1 x2 x3 h = some (o, h')) (hd : 1 ≤ d) : VM G mX10_isThere d [.ref r0, .int x1, .int x2, .int x3] h o h' := uX10_isThere_0 hd _ (wX10_isThere hd FF) e
def kX10_cell_0  (x0 : Int32) (h : Hp) : RS := (some (.inl (some (.int (512 + (12 * x0)))), h))
theorem uX10_cell_0 {G : GG} {d : Nat} (hd : 1 ≤ d)   {x0 } {h : Hp} {o : OU} {h' : Hp} (e : kX10_cell_0  x0 h = some (o, h')) : VM G mX10_cell d [.int x0] h o h' := by
  unfold kX10_cell_0 at e
  refine eX10_cell x0 ?_
  cases e
  exact ⟨rfl, rfl⟩
def fX10_cell (x0 : Int32) (h : Hp) : RS := kX10_cell_0 x0 h
theorem tX10_cell {G : GG} {d : Nat} {x0} {h : Hp} {o : OU} {h' : Hp} (e : fX10_cell x0 h = some (o, h')) (hd : 1 ≤ d) : VM G mX10_cell d [.int x0] h o h' := uX10_cell_0 hd e
def kX10_makes_0 (rec : Nat → List Value → List Value → Hp → RS)  (r0 : Nat) (x1 : Int32) (x2 : Int32) (x3 : Int32) (x4 : Int32) (x5 : Int32) (x6 : Int32) (x7 : Int32) (h : Hp) : RS := (bI (fX10_isThere r0 x1 x2 x3 h) fun z2 h1 => (if z2 = 0 then (if kH h1 r0 = 1 then (if inB 3392 (lH h1 r0) = true then (bI (fX10_cell (h1.2 r0 3392) h1) fun z8 h7 => (if kH h7 r0 = 1 then (if inB 3392 (lH h7 r0) = true then (if inB 3394 (lH h7 r0) = true then (if inB z8 (lH h7 r0) = true then (letH (upI (upI (upI h7.2 r0 3392 ((h7.2 r0 3392) + 1)) r0 3394 (((upI h7.2 r0 3392 ((h7.2 r0 3392) + 1)) r0 3394) + 1)) r0 z8.toNatClampNeg ((upI (upI h7.2 r0 3392 ((h7.2 r0 3392) + 1)) r0 3394 (((upI h7.2 r0 3392 ((h7.2 r0 3392) + 1)) r0 3394) + 1)) r0 3394)) fun (i14 : Nat → Nat → Int32) => (if inB (z8 + 1) (lH h7 r0) = true then (if inB (z8 + 2) (lH h7 r0) = true then (if inB (z8 + 3) (lH h7 r0) = true then (if inB (z8 + 4) (lH h7 r0) = true then (letH (upI (upI (upI (upI i14 r0 (z8 + 1).toNatClampNeg x1) r0 (z8 + 2).toNatClampNeg x2) r0 (z8 + 3).toNatClampNeg x3) r0 (z8 + 4).toNatClampNeg x4) fun (i20 : Nat → Nat → Int32) => (if inB (z8 + 5) (lH h7 r0) = true then (if inB (z8 + 6) (lH h7 r0) = true then (if inB (z8 + 7) (lH h7 r0) = true then (rec 116 [.ref r0, uV, .int x2, .int x3, uV, uV, uV, uV, .int z8, .int (0 + (16 * x1)), .int 8] [] (h7.1, (upI (upI (upI i20 r0 (z8 + 5).toNatClampNeg x5) r0 (z8 + 6).toNatClampNeg x6) r0 (z8 + 7).toNatClampNeg x7))) else none) else none) else none)) else none) else none) else none) else none)) else none) else none) else none) else none)) else none) else none) else (some (.inl (some (.int 0)), h1))))
theorem uX10_makes_0 {G : GG} {d : Nat} (hd : 2 ≤ d) (rec : Nat → List Value → List Value → Hp → RS) (hrec : ∀ pc loc st h o h', rec pc loc st h = some (o, h') → V G mX10_makes d pc loc st h o h')   {r0  x1  x2  x3  x4  x5  x6  x7 } {h : Hp} {o : OU} {h' : Hp} (e : kX10_makes_0 rec  r0 x1 x2 x3 x4 x5 x6 x7 h = some (o, h')) : VM G mX10_makes d [.ref r0, .int x1, .int x2, .int x3, .int x4, .int x5, .int x6, .int x7] h o h' := by
  unfold kX10_makes_0 at e
  refine eX10_makes r0 x1 x2 x3 x4 x5 x6 x7 (by omega) ?_
  obtain ⟨z2, h1, e1, e⟩ := bI_e e
  refine ⟨z2, h1, (tX10_isThere e1 (by omega)), ?_⟩
  refine ⟨fun c2 => ?_, fun c2 => ?_⟩
  · have e := if_t e c2
    obtain ⟨q3, e⟩ := ob_e e
    refine ⟨q3, ?_⟩
    obtain ⟨q4, e⟩ := ob_in e
    refine ⟨q4, ?_⟩
    obtain ⟨z8, h7, e5, e⟩ := bI_e e
    refine ⟨z8, h7, (tX10_cell e5 (by omega)), ?_⟩
    obtain ⟨q6, e⟩ := ob_e e
    refine ⟨q6, ?_⟩
    obtain ⟨q7, e⟩ := ob_in e
    refine ⟨q7, ?_⟩
    obtain ⟨q8, e⟩ := ob_in e
    refine ⟨q8, ?_⟩
    obtain ⟨q9, e⟩ := ob_in e
    refine ⟨q9, ?_⟩
    intro i14 evi14
    have e := lt_e evi14 e
    obtain ⟨q10, e⟩ := ob_in e
    refine ⟨q10, ?_⟩
    obtain ⟨q11, e⟩ := ob_in e
    refine ⟨q11, ?_⟩
    obtain ⟨q12, e⟩ := ob_in e
    refine ⟨q12, ?_⟩
    obtain ⟨q13, e⟩ := ob_in e
    refine ⟨q13, ?_⟩
    intro i20 evi20
    have e := lt_e evi20 e
    obtain ⟨q14, e⟩ := ob_in e
    refine ⟨q14, ?_⟩
    obtain ⟨q15, e⟩ := ob_in e
    refine ⟨q15, ?_⟩
    obtain ⟨q16, e⟩ := ob_in e
    refine ⟨q16, ?_⟩
    exact hrec _ _ _ _ _ _ e
  · have e := if_f e c2
    cases e
    exact ⟨rfl, rfl⟩
def kX10_makes_116 (rec : Nat → List Value → List Value → Hp → RS)  (r0 : Nat) (x2 : Int32) (x3 : Int32) (x8 : Int32) (x9 : Int32) (x10 : Int32) (h : Hp) : RS := (if 12 ≤ x10 then (if 16 ≤ x2 then (rec 171 [.ref r0, uV, uV, .int x3, uV, uV, uV, uV, .int x8, .int x9, .int 0] [] h) else (if kH h r0 = 1 then (if inB (x9 + x2) (lH h r0) = true then (if inB (x8 + 8) (lH h r0) = true then (if inB x8 (lH h r0) = true then (some (.inl (some (.int ((upI (upI h.2 r0 (x8 + 8).toNatClampNeg (h.2 r0 (x9 + x2).toNatClampNeg)) r0 (x9 + x2).toNatClampNeg x3) r0 x8.toNatClampNeg))), (h.1, (upI (upI h.2 r0 (x8 + 8).toNatClampNeg (h.2 r0 (x9 + x2).toNatClampNeg)) r0 (x9 + x2).toNatClampNeg x3)))) else none) else none) else none) else none)) else (if kH h r0 = 1 then (if inB (x8 + x10) (lH h r0) = true then (rec 116 [.ref r0, uV, .int x2, .int x3, uV, uV, uV, uV, .int x8, .int x9, .int (x10 + 1)] [] (h.1, (upI h.2 r0 (x8 + x10).toNatClampNeg 0))) else none) else none))
theorem uX10_makes_116 {G : GG} {d : Nat} (hd : 2 ≤ d) (rec : Nat → List Value → List Value → Hp → RS) (hrec : ∀ pc loc st h o h', rec pc loc st h = some (o, h') → V G mX10_makes d pc loc st h o h')   {r0  x2  x3  x8  x9  x10 } {h : Hp} {o : OU} {h' : Hp} (e : kX10_makes_116 rec  r0 x2 x3 x8 x9 x10 h = some (o, h')) : V G mX10_makes d 116 [.ref r0, uV, .int x2, .int x3, uV, uV, uV, uV, .int x8, .int x9, .int x10] [] h o h' := by
  unfold kX10_makes_116 at e
  refine bX10_makes_116 r0 x2 x3 x8 x9 x10 ?_
  refine ⟨fun c1 => ?_, fun c1 => ?_⟩
  · have e := if_t e c1
    refine ⟨fun c2 => ?_, fun c2 => ?_⟩
    · have e := if_t e c2
      exact hrec _ _ _ _ _ _ e
    · have e := if_f e c2
      obtain ⟨q3, e⟩ := ob_e e
      refine ⟨q3, ?_⟩
      obtain ⟨q4, e⟩ := ob_in e
      refine ⟨q4, ?_⟩
      obtain ⟨q5, e⟩ := ob_in e
      refine ⟨q5, ?_⟩
      obtain ⟨q6, e⟩ := ob_in e
      refine ⟨q6, ?_⟩
      cases e
      exact ⟨rfl, rfl⟩
  · have e := if_f e c1
    obtain ⟨q7, e⟩ := ob_e e
    refine ⟨q7, ?_⟩
    obtain ⟨q8, e⟩ := ob_in e
    refine ⟨q8, ?_⟩
    exact hrec _ _ _ _ _ _ e
def kX10_makes_171 (rec : Nat → List Value → List Value → Hp → RS)  (r0 : Nat) (x3 : Int32) (x8 : Int32) (x9 : Int32) (x10 : Int32) (h : Hp) : RS := (if 16 ≤ x10 then (if kH h r0 = 1 then (if inB x8 (lH h r0) = true then (some (.inl (some (.int (h.2 r0 x8.toNatClampNeg))), h)) else none) else none) else (if kH h r0 = 1 then (if inB ((x8 + 8) + (x10 / 4)) (lH h r0) = true then (if inB (x9 + x10) (lH h r0) = true then (letH (upI h.2 r0 ((x8 + 8) + (x10 / 4)).toNatClampNeg ((h.2 r0 ((x8 + 8) + (x10 / 4)).toNatClampNeg) ||| ((h.2 r0 (x9 + x10).toNatClampNeg) <<< ((8 * (x10 - x10 / 4 * 4)) &&& 31)))) fun (i7 : Nat → Nat → Int32) => (rec 171 [.ref r0, uV, uV, .int x3, uV, uV, uV, uV, .int x8, .int x9, .int (x10 + 1)] [] (h.1, (upI i7 r0 (x9 + x10).toNatClampNeg x3)))) else none) else none) else none))
theorem uX10_makes_171 {G : GG} {d : Nat} (hd : 2 ≤ d) (rec : Nat → List Value → List Value → Hp → RS) (hrec : ∀ pc loc st h o h', rec pc loc st h = some (o, h') → V G mX10_makes d pc loc st h o h')   {r0  x3  x8  x9  x10 } {h : Hp} {o : OU} {h' : Hp} (e : kX10_makes_171 rec  r0 x3 x8 x9 x10 h = some (o, h')) : V G mX10_makes d 171 [.ref r0, uV, uV, .int x3, uV, uV, uV, uV, .int x8, .int x9, .int x10] [] h o h' := by
  unfold kX10_makes_171 at e
  refine bX10_makes_171 r0 x3 x8 x9 x10 ?_
  refine ⟨fun c1 => ?_, fun c1 => ?_⟩
  · have e := if_t e c1
    obtain ⟨q2, e⟩ := ob_e e
    refine ⟨q2, ?_⟩
    obtain ⟨q3, e⟩ := ob_in e
    refine ⟨q3, ?_⟩
    cases e
    exact ⟨rfl, rfl⟩
  · have e := if_f e c1
    obtain ⟨q4, e⟩ := ob_e e
    refine ⟨q4, ?_⟩
    obtain ⟨q5, e⟩ := ob_in e
    refine ⟨q5, ?_⟩
    obtain ⟨q6, e⟩ := ob_in e
    refine ⟨q6, ?_⟩
    intro i7 evi7
    have e := lt_e evi7 e
    exact hrec _ _ _ _ _ _ e
def sX10_makes  (rec : Nat → List Value → List Value → Hp → RS) (pc : Nat) (loc st : List Value) (h : Hp) : RS := match pc, loc, st with
  | 116, [.ref r0, _, .int x2, .int x3, _, _, _, _, .int x8, .int x9, .int x10], [] => kX10_makes_116 rec  r0 x2 x3 x8 x9 x10 h
  | 171, [.ref r0, _, _, .int x3, _, _, _, _, .int x8, .int x9, .int x10], [] => kX10_makes_171 rec  r0 x3 x8 x9 x10 h
  | _, _, _ => none
def gX10_makes  : Nat → Nat → List Value → List Value → Hp → RS
  | 0 => fun _ _ _ _ => none
  | n + 1 => sX10_makes  (gX10_makes  n)
theorem wX10_makes {G : GG} {d : Nat} (hd : 2 ≤ d)   : ∀ (n pc : Nat) (loc st : List Value) (h : Hp) (o : OU) (h' : Hp), gX10_makes  n pc loc st h = some (o, h') → V G mX10_makes d pc loc st h o h' := by
  intro n
  induction n with
  | zero => intro pc loc st h o h' e; cases e
  | succ n ih =>
    intro pc loc st h o h' e
    unfold gX10_makes sX10_makes at e
    split at e
    · exact V.drop (llp_r (llp_u (llp_r (llp_r (llp_u (llp_u (llp_u (llp_u (llp_r (llp_r (llp_r llp_nil))))))))))) (uX10_makes_116 hd _ ih   e)
    · exact V.drop (llp_r (llp_u (llp_u (llp_r (llp_u (llp_u (llp_u (llp_u (llp_r (llp_r (llp_r llp_nil))))))))))) (uX10_makes_171 hd _ ih   e)
    · cases e
theorem zX10_makes_116  (n : Nat) (r0 : Nat) (x2 : Int32) (x3 : Int32) (x8 : Int32) (x9 : Int32) (x10 : Int32) (y1 : Value) (y4 : Value) (y5 : Value) (y6 : Value) (y7 : Value) (h : Hp) : gX10_makes  (n + 1) 116 [.ref r0, y1, .int x2, .int x3, y4, y5, y6, y7, .int x8, .int x9, .int x10] [] h = kX10_makes_116 (gX10_makes  n)  r0 x2 x3 x8 x9 x10 h := rfl
theorem zX10_makes_171  (n : Nat) (r0 : Nat) (x3 : Int32) (x8 : Int32) (x9 : Int32) (x10 : Int32) (y1 : Value) (y2 : Value) (y4 : Value) (y5 : Value) (y6 : Value) (y7 : Value) (h : Hp) : gX10_makes  (n + 1) 171 [.ref r0, y1, y2, .int x3, y4, y5, y6, y7, .int x8, .int x9, .int x10] [] h = kX10_makes_171 (gX10_makes  n)  r0 x3 x8 x9 x10 h := rfl
def fX10_makes (r0 : Nat) (x1 : Int32) (x2 : Int32) (x3 : Int32) (x4 : Int32) (x5 : Int32) (x6 : Int32) (x7 : Int32) (h : Hp) : RS := kX10_makes_0 (gX10_makes FF) r0 x1 x2 x3 x4 x5 x6 x7 h
theorem tX10_makes {G : GG} {d : Nat} {r0 x1 x2 x3 x4 x5 x6 x7} {h : Hp} {o : OU} {h' : Hp} (e : fX10_makes r0 x1 x2 x3 x4 x5 x6 x7 h = some (o, h')) (hd : 2 ≤ d) : VM G mX10_makes d [.ref r0, .int x1, .int x2, .int x3, .int x4, .int x5, .int x6, .int x7] h o h' := uX10_makes_0 hd _ (wX10_makes hd FF) e
def kX10_field_0  (r0 : Nat) (x1 : Int32) (x2 : Int32) (x3 : Int32) (x4 : Int32) (x5 : Int32) (h : Hp) : RS := (bI (fX10_byteOf x1 x2 h) fun z2 h1 => (bI (fX10_byteOf x1 x2 h1) fun z5 h4 => (bI (fX10_makes r0 (z2 / 16) (z5 - z5 / 16 * 16) x3 x4 x5 0 0 h4) fun z8 h7 => (some (.inl (some (.int z8)), h7)))))
theorem uX10_field_0 {G : GG} {d : Nat} (hd : 3 ≤ d)   {r0  x1  x2  x3  x4  x5 } {h : Hp} {o : OU} {h' : Hp} (e : kX10_field_0  r0 x1 x2 x3 x4 x5 h = some (o, h')) : VM G mX10_field d [.ref r0, .int x1, .int x2, .int x3, .int x4, .int x5] h o h' := by
  unfold kX10_field_0 at e
  refine eX10_field r0 x1 x2 x3 x4 x5 (by omega) ?_
  obtain ⟨z2, h1, e1, e⟩ := bI_e e
  refine ⟨z2, h1, (tX10_byteOf e1 (by omega)), ?_⟩
  obtain ⟨z5, h4, e2, e⟩ := bI_e e
  refine ⟨z5, h4, (tX10_byteOf e2 (by omega)), ?_⟩
  obtain ⟨z8, h7, e3, e⟩ := bI_e e
  refine ⟨z8, h7, (tX10_makes e3 (by omega)), ?_⟩
  cases e
  exact ⟨rfl, rfl⟩
def fX10_field (r0 : Nat) (x1 : Int32) (x2 : Int32) (x3 : Int32) (x4 : Int32) (x5 : Int32) (h : Hp) : RS := kX10_field_0 r0 x1 x2 x3 x4 x5 h
theorem tX10_field {G : GG} {d : Nat} {r0 x1 x2 x3 x4 x5} {h : Hp} {o : OU} {h' : Hp} (e : fX10_field r0 x1 x2 x3 x4 x5 h = some (o, h')) (hd : 3 ≤ d) : VM G mX10_field d [.ref r0, .int x1, .int x2, .int x3, .int x4, .int x5] h o h' := uX10_field_0 hd e
def kX10_latest_0 (rec : Nat → List Value → List Value → Hp → RS)  (r0 : Nat) (x1 : Int32) (x2 : Int32) (h : Hp) : RS := (rec 5 [.ref r0, .int x1, .int x2, .int 0, .int 0] [] h)
theorem uX10_latest_0 {G : GG} {d : Nat} (hd : 2 ≤ d) (rec : Nat → List Value → List Value → Hp → RS) (hrec : ∀ pc loc st h o h', rec pc loc st h = some (o, h') → V G mX10_latest d pc loc st h o h')   {r0  x1  x2 } {h : Hp} {o : OU} {h' : Hp} (e : kX10_latest_0 rec  r0 x1 x2 h = some (o, h')) : VM G mX10_latest d [.ref r0, .int x1, .int x2] h o h' := by
  unfold kX10_latest_0 at e
  refine eX10_latest r0 x1 x2 ?_
  exact hrec _ _ _ _ _ _ e
def kX10_latest_5 (rec : Nat → List Value → List Value → Hp → RS)  (r0 : Nat) (x1 : Int32) (x2 : Int32) (x3 : Int32) (x4 : Int32) (h : Hp) : RS := (if kH h r0 = 1 then (if inB 3392 (lH h r0) = true then (if (h.2 r0 3392) ≤ x4 then (some (.inl (some (.int x3)), h)) else (bI (fX10_cell x4 h) fun z5 h4 => (if kH h4 r0 = 1 then (if inB (z5 + 1) (lH h4 r0) = true then (if ¬ (h4.2 r0 (z5 + 1).toNatClampNeg) = x1 then (rec 5 [.ref r0, .int x1, .int x2, .int x3, .int (x4 + 1)] [] h4) else (bI (fX10_cell x4 h4) fun z11 h10 => (if kH h10 r0 = 1 then (if inB (z11 + 2) (lH h10 r0) = true then (if ¬ (h10.2 r0 (z11 + 2).toNatClampNeg) = x2 then (rec 5 [.ref r0, .int x1, .int x2, .int x3, .int (x4 + 1)] [] h10) else (bI (fX10_cell x4 h10) fun z17 h16 => (if kH h16 r0 = 1 then (if inB z17 (lH h16 r0) = true then (rec 5 [.ref r0, .int x1, .int x2, .int (h16.2 r0 z17.toNatClampNeg), .int (x4 + 1)] [] h16) else none) else none))) else none) else none))) else none) else none))) else none) else none)
theorem uX10_latest_5 {G : GG} {d : Nat} (hd : 2 ≤ d) (rec : Nat → List Value → List Value → Hp → RS) (hrec : ∀ pc loc st h o h', rec pc loc st h = some (o, h') → V G mX10_latest d pc loc st h o h')   {r0  x1  x2  x3  x4 } {h : Hp} {o : OU} {h' : Hp} (e : kX10_latest_5 rec  r0 x1 x2 x3 x4 h = some (o, h')) : V G mX10_latest d 5 [.ref r0, .int x1, .int x2, .int x3, .int x4] [] h o h' := by
  unfold kX10_latest_5 at e
  refine bX10_latest_5 r0 x1 x2 x3 x4 (by omega) ?_
  obtain ⟨q1, e⟩ := ob_e e
  refine ⟨q1, ?_⟩
  obtain ⟨q2, e⟩ := ob_in e
  refine ⟨q2, ?_⟩
  refine ⟨fun c3 => ?_, fun c3 => ?_⟩
  · have e := if_t e c3
    cases e
    exact ⟨rfl, rfl⟩
  · have e := if_f e c3
    obtain ⟨z5, h4, e4, e⟩ := bI_e e
    refine ⟨z5, h4, (tX10_cell e4 (by omega)), ?_⟩
    obtain ⟨q5, e⟩ := ob_e e
    refine ⟨q5, ?_⟩
    obtain ⟨q6, e⟩ := ob_in e
    refine ⟨q6, ?_⟩
    refine ⟨fun c7 => ?_, fun c7 => ?_⟩
    · have e := if_t e c7
      exact hrec _ _ _ _ _ _ e
    · have e := if_n e c7
      obtain ⟨z11, h10, e8, e⟩ := bI_e e
      refine ⟨z11, h10, (tX10_cell e8 (by omega)), ?_⟩
      obtain ⟨q9, e⟩ := ob_e e
      refine ⟨q9, ?_⟩
      obtain ⟨q10, e⟩ := ob_in e
      refine ⟨q10, ?_⟩
      refine ⟨fun c11 => ?_, fun c11 => ?_⟩
      · have e := if_t e c11
        exact hrec _ _ _ _ _ _ e
      · have e := if_n e c11
        obtain ⟨z17, h16, e12, e⟩ := bI_e e
        refine ⟨z17, h16, (tX10_cell e12 (by omega)), ?_⟩
        obtain ⟨q13, e⟩ := ob_e e
        refine ⟨q13, ?_⟩
        obtain ⟨q14, e⟩ := ob_in e
        refine ⟨q14, ?_⟩
        exact hrec _ _ _ _ _ _ e
def sX10_latest  (rec : Nat → List Value → List Value → Hp → RS) (pc : Nat) (loc st : List Value) (h : Hp) : RS := match pc, loc, st with
  | 5, [.ref r0, .int x1, .int x2, .int x3, .int x4], [] => kX10_latest_5 rec  r0 x1 x2 x3 x4 h
  | _, _, _ => none
def gX10_latest  : Nat → Nat → List Value → List Value → Hp → RS
  | 0 => fun _ _ _ _ => none
  | n + 1 => sX10_latest  (gX10_latest  n)
theorem wX10_latest {G : GG} {d : Nat} (hd : 2 ≤ d)   : ∀ (n pc : Nat) (loc st : List Value) (h : Hp) (o : OU) (h' : Hp), gX10_latest  n pc loc st h = some (o, h') → V G mX10_latest d pc loc st h o h' := by
  intro n
  induction n with
  | zero => intro pc loc st h o h' e; cases e
  | succ n ih =>
    intro pc loc st h o h' e
    unfold gX10_latest sX10_latest at e
    split at e
    · exact uX10_latest_5 hd _ ih   e
    · cases e
theorem zX10_latest_5  (n : Nat) (r0 : Nat) (x1 : Int32) (x2 : Int32) (x3 : Int32) (x4 : Int32)  (h : Hp) : gX10_latest  (n + 1) 5 [.ref r0, .int x1, .int x2, .int x3, .int x4] [] h = kX10_latest_5 (gX10_latest  n)  r0 x1 x2 x3 x4 h := rfl
def fX10_latest (r0 : Nat) (x1 : Int32) (x2 : Int32) (h : Hp) : RS := kX10_latest_0 (gX10_latest FF) r0 x1 x2 h
theorem tX10_latest {G : GG} {d : Nat} {r0 x1 x2} {h : Hp} {o : OU} {h' : Hp} (e : fX10_latest r0 x1 x2 h = some (o, h')) (hd : 2 ≤ d) : VM G mX10_latest d [.ref r0, .int x1, .int x2] h o h' := uX10_latest_0 hd _ (wX10_latest hd FF) e
def kX10_names_0  (r0 : Nat) (x1 : Int32) (x2 : Int32) (x3 : Int32) (x4 : Int32) (x5 : Int32) (x6 : Int32) (h : Hp) : RS := (bI (fX10_latest r0 (x1 / 16) (x1 - x1 / 16 * 16) h) fun z2 h1 => (bI (fX10_makes r0 (x1 / 16) ((x1 - x1 / 16 * 16) + 1) x3 z2 0 0 0 h1) fun z5 h4 => (bI (fX10_makes r0 (x1 / 16) (x1 - x1 / 16 * 16) x2 x4 x5 x6 z5 h4) fun z8 h7 => (some (.inl none, h7)))))
theorem uX10_names_0 {G : GG} {d : Nat} (hd : 3 ≤ d)   {r0  x1  x2  x3  x4  x5  x6 } {h : Hp} {o : OU} {h' : Hp} (e : kX10_names_0  r0 x1 x2 x3 x4 x5 x6 h = some (o, h')) : VM G mX10_names d [.ref r0, .int x1, .int x2, .int x3, .int x4, .int x5, .int x6] h o h' := by
  unfold kX10_names_0 at e
  refine eX10_names r0 x1 x2 x3 x4 x5 x6 (by omega) ?_
  obtain ⟨z2, h1, e1, e⟩ := bI_e e
  refine ⟨z2, h1, (tX10_latest e1 (by omega)), ?_⟩
  obtain ⟨z5, h4, e2, e⟩ := bI_e e
  refine ⟨z5, h4, (tX10_makes e2 (by omega)), ?_⟩
  obtain ⟨z8, h7, e3, e⟩ := bI_e e
  refine ⟨z8, h7, (tX10_makes e3 (by omega)), ?_⟩
  cases e
  exact ⟨rfl, rfl⟩
def fX10_names (r0 : Nat) (x1 : Int32) (x2 : Int32) (x3 : Int32) (x4 : Int32) (x5 : Int32) (x6 : Int32) (h : Hp) : RS := kX10_names_0 r0 x1 x2 x3 x4 x5 x6 h
theorem tX10_names {G : GG} {d : Nat} {r0 x1 x2 x3 x4 x5 x6} {h : Hp} {o : OU} {h' : Hp} (e : fX10_names r0 x1 x2 x3 x4 x5 x6 h = some (o, h')) (hd : 3 ≤ d) : VM G mX10_names d [.ref r0, .int x1, .int x2, .int x3, .int x4, .int x5, .int x6] h o h' := uX10_names_0 hd e
def kX10_bare_0  (r0 : Nat) (x1 : Int32) (x2 : Int32) (x3 : Int32) (h : Hp) : RS := (bI (fX10_makes r0 x1 x2 x3 0 0 0 0 h) fun z2 h1 => (some (.inl (some (.int z2)), h1)))
theorem uX10_bare_0 {G : GG} {d : Nat} (hd : 3 ≤ d)   {r0  x1  x2  x3 } {h : Hp} {o : OU} {h' : Hp} (e : kX10_bare_0  r0 x1 x2 x3 h = some (o, h')) : VM G mX10_bare d [.ref r0, .int x1, .int x2, .int x3] h o h' := by
  unfold kX10_bare_0 at e
  refine eX10_bare r0 x1 x2 x3 (by omega) ?_
  obtain ⟨z2, h1, e1, e⟩ := bI_e e
  refine ⟨z2, h1, (tX10_makes e1 (by omega)), ?_⟩
  cases e
  exact ⟨rfl, rfl⟩
def fX10_bare (r0 : Nat) (x1 : Int32) (x2 : Int32) (x3 : Int32) (h : Hp) : RS := kX10_bare_0 r0 x1 x2 x3 h
theorem tX10_bare {G : GG} {d : Nat} {r0 x1 x2 x3} {h : Hp} {o : OU} {h' : Hp} (e : fX10_bare r0 x1 x2 x3 h = some (o, h')) (hd : 3 ≤ d) : VM G mX10_bare d [.ref r0, .int x1, .int x2, .int x3] h o h' := uX10_bare_0 hd e
def kX10_gets_0  (r0 : Nat) (x1 : Int32) (x2 : Int32) (x3 : Int32) (x4 : Int32) (h : Hp) : RS := (bI (fX10_bare r0 0 x2 1 h) fun z2 h1 => (bI (fX10_bare r0 x2 16 x4 h1) fun z5 h4 => (if ¬ z5 = 0 then (bI (fX10_field r0 x1 x3 x2 z2 z5 h4) fun z9 h8 => (some (.inl (some (.int z9)), h8))) else (bI (fX10_field r0 x1 x3 x2 z2 (-x2) h4) fun z12 h11 => (some (.inl (some (.int z12)), h11))))))
theorem uX10_gets_0 {G : GG} {d : Nat} (hd : 4 ≤ d)   {r0  x1  x2  x3  x4 } {h : Hp} {o : OU} {h' : Hp} (e : kX10_gets_0  r0 x1 x2 x3 x4 h = some (o, h')) : VM G mX10_gets d [.ref r0, .int x1, .int x2, .int x3, .int x4] h o h' := by
  unfold kX10_gets_0 at e
  refine eX10_gets r0 x1 x2 x3 x4 (by omega) ?_
  obtain ⟨z2, h1, e1, e⟩ := bI_e e
  refine ⟨z2, h1, (tX10_bare e1 (by omega)), ?_⟩
  obtain ⟨z5, h4, e2, e⟩ := bI_e e
  refine ⟨z5, h4, (tX10_bare e2 (by omega)), ?_⟩
  refine ⟨fun c3 => ?_, fun c3 => ?_⟩
  · have e := if_t e c3
    obtain ⟨z9, h8, e4, e⟩ := bI_e e
    refine ⟨z9, h8, (tX10_field e4 (by omega)), ?_⟩
    cases e
    exact ⟨rfl, rfl⟩
  · have e := if_n e c3
    obtain ⟨z12, h11, e5, e⟩ := bI_e e
    refine ⟨z12, h11, (tX10_field e5 (by omega)), ?_⟩
    cases e
    exact ⟨rfl, rfl⟩
def fX10_gets (r0 : Nat) (x1 : Int32) (x2 : Int32) (x3 : Int32) (x4 : Int32) (h : Hp) : RS := kX10_gets_0 r0 x1 x2 x3 x4 h
theorem tX10_gets {G : GG} {d : Nat} {r0 x1 x2 x3 x4} {h : Hp} {o : OU} {h' : Hp} (e : fX10_gets r0 x1 x2 x3 x4 h = some (o, h')) (hd : 4 ≤ d) : VM G mX10_gets d [.ref r0, .int x1, .int x2, .int x3, .int x4] h o h' := uX10_gets_0 hd e
def kX10_begins_0 (rec : Nat → List Value → List Value → Hp → RS)  (r0 : Nat) (r1 : Nat) (x2 : Int32) (x3 : Int32) (x4 : Int32) (h : Hp) : RS := (bI (fX10_freeNode r1 h) fun z2 h1 => (if kH h1 r0 = 18 then (bI (fX10_freeBlock r0 r1 h1) fun z5 h4 => (if kH h4 r0 = 18 then (bI (fX10_isNewName r0 r1 x2 x3 h4) fun z9 h8 => (if z9 = 0 then (some (.inl (some (.int 0)), h8)) else (if z2 = (-1) then (some (.inl (some (.int 0)), h8)) else (if ¬ x4 = 2 then (rec 43 [uV, .ref r1, .int x2, .int x3, .int x4, .int z2, .int z5, uV, uV, uV, uV] [] h8) else (if ¬ z5 = (-1) then (rec 43 [uV, .ref r1, .int x2, .int x3, .int x4, .int z2, .int z5, uV, uV, uV, uV] [] h8) else (some (.inl (some (.int 0)), h8))))))) else none)) else none))
theorem uX10_begins_0 {G : GG} {d : Nat} (hd : 6 ≤ d) (rec : Nat → List Value → List Value → Hp → RS) (hrec : ∀ pc loc st h o h', rec pc loc st h = some (o, h') → V G mX10_begins d pc loc st h o h')   {r0  r1  x2  x3  x4 } {h : Hp} {o : OU} {h' : Hp} (e : kX10_begins_0 rec  r0 r1 x2 x3 x4 h = some (o, h')) : VM G mX10_begins d [.ref r0, .ref r1, .int x2, .int x3, .int x4] h o h' := by
  unfold kX10_begins_0 at e
  refine eX10_begins r0 r1 x2 x3 x4 (by omega) ?_
  obtain ⟨z2, h1, e1, e⟩ := bI_e e
  refine ⟨z2, h1, (tX10_freeNode e1 (by omega)), ?_⟩
  obtain ⟨q2, e⟩ := ob_e e
  refine ⟨q2, ?_⟩
  obtain ⟨z5, h4, e3, e⟩ := bI_e e
  refine ⟨z5, h4, (tX10_freeBlock e3 (by omega)), ?_⟩
  obtain ⟨q4, e⟩ := ob_e e
  refine ⟨q4, ?_⟩
  obtain ⟨z9, h8, e5, e⟩ := bI_e e
  refine ⟨z9, h8, (tX10_isNewName e5 (by omega)), ?_⟩
  refine ⟨fun c6 => ?_, fun c6 => ?_⟩
  · have e := if_t e c6
    cases e
    exact ⟨rfl, rfl⟩
  · have e := if_f e c6
    refine ⟨fun c7 => ?_, fun c7 => ?_⟩
    · have e := if_t e c7
      cases e
      exact ⟨rfl, rfl⟩
    · have e := if_f e c7
      refine ⟨fun c8 => ?_, fun c8 => ?_⟩
      · have e := if_t e c8
        exact hrec _ _ _ _ _ _ e
      · have e := if_n e c8
        refine ⟨fun c9 => ?_, fun c9 => ?_⟩
        · have e := if_t e c9
          exact hrec _ _ _ _ _ _ e
        · have e := if_n e c9
          cases e
          exact ⟨rfl, rfl⟩
def kX10_begins_43 (rec : Nat → List Value → List Value → Hp → RS)  (r1 : Nat) (x2 : Int32) (x3 : Int32) (x4 : Int32) (x5 : Int32) (x6 : Int32) (h : Hp) : RS := (bI (fX10_entry r1 0 x2 0 h) fun z2 h1 => (bI (fX10_field r1 x5 0 1 0 0 h1) fun z5 h4 => (bI (fX10_field r1 x5 1 x4 0 0 h4) fun z8 h7 => (if ¬ x4 = 2 then (bV (fX10_names r1 z2 x3 x5 z5 z8 0 h7) fun h11 => (some (.inl (some (.int 1)), h11))) else (bI (fX10_gets r1 x5 x6 2 0 h7) fun z14 h13 => (bV (fX10_names r1 z2 x3 x5 z5 z8 z14 h13) fun h16 => (some (.inl (some (.int 1)), h16))))))))
theorem uX10_begins_43 {G : GG} {d : Nat} (hd : 6 ≤ d) (rec : Nat → List Value → List Value → Hp → RS) (hrec : ∀ pc loc st h o h', rec pc loc st h = some (o, h') → V G mX10_begins d pc loc st h o h')   {r1  x2  x3  x4  x5  x6 } {h : Hp} {o : OU} {h' : Hp} (e : kX10_begins_43 rec  r1 x2 x3 x4 x5 x6 h = some (o, h')) : V G mX10_begins d 43 [uV, .ref r1, .int x2, .int x3, .int x4, .int x5, .int x6, uV, uV, uV, uV] [] h o h' := by
  unfold kX10_begins_43 at e
  refine bX10_begins_43 r1 x2 x3 x4 x5 x6 (by omega) ?_
  obtain ⟨z2, h1, e1, e⟩ := bI_e e
  refine ⟨z2, h1, (tX10_entry e1 (by omega)), ?_⟩
  obtain ⟨z5, h4, e2, e⟩ := bI_e e
  refine ⟨z5, h4, (tX10_field e2 (by omega)), ?_⟩
  obtain ⟨z8, h7, e3, e⟩ := bI_e e
  refine ⟨z8, h7, (tX10_field e3 (by omega)), ?_⟩
  refine ⟨fun c4 => ?_, fun c4 => ?_⟩
  · have e := if_t e c4
    obtain ⟨h11, e5, e⟩ := bV_e e
    refine ⟨h11, (tX10_names e5 (by omega)), ?_⟩
    cases e
    exact ⟨rfl, rfl⟩
  · have e := if_n e c4
    obtain ⟨z14, h13, e6, e⟩ := bI_e e
    refine ⟨z14, h13, (tX10_gets e6 (by omega)), ?_⟩
    obtain ⟨h16, e7, e⟩ := bV_e e
    refine ⟨h16, (tX10_names e7 (by omega)), ?_⟩
    cases e
    exact ⟨rfl, rfl⟩
def sX10_begins  (rec : Nat → List Value → List Value → Hp → RS) (pc : Nat) (loc st : List Value) (h : Hp) : RS := match pc, loc, st with
  | 43, [_, .ref r1, .int x2, .int x3, .int x4, .int x5, .int x6, _, _, _, _], [] => kX10_begins_43 rec  r1 x2 x3 x4 x5 x6 h
  | _, _, _ => none
def gX10_begins  : Nat → Nat → List Value → List Value → Hp → RS
  | 0 => fun _ _ _ _ => none
  | n + 1 => sX10_begins  (gX10_begins  n)
theorem wX10_begins {G : GG} {d : Nat} (hd : 6 ≤ d)   : ∀ (n pc : Nat) (loc st : List Value) (h : Hp) (o : OU) (h' : Hp), gX10_begins  n pc loc st h = some (o, h') → V G mX10_begins d pc loc st h o h' := by
  intro n
  induction n with
  | zero => intro pc loc st h o h' e; cases e
  | succ n ih =>
    intro pc loc st h o h' e
    unfold gX10_begins sX10_begins at e
    split at e
    · exact V.drop (llp_u (llp_r (llp_r (llp_r (llp_r (llp_r (llp_r (llp_u (llp_u (llp_u (llp_u llp_nil))))))))))) (uX10_begins_43 hd _ ih   e)
    · cases e
theorem zX10_begins_43  (n : Nat) (r1 : Nat) (x2 : Int32) (x3 : Int32) (x4 : Int32) (x5 : Int32) (x6 : Int32) (y0 : Value) (y7 : Value) (y8 : Value) (y9 : Value) (y10 : Value) (h : Hp) : gX10_begins  (n + 1) 43 [y0, .ref r1, .int x2, .int x3, .int x4, .int x5, .int x6, y7, y8, y9, y10] [] h = kX10_begins_43 (gX10_begins  n)  r1 x2 x3 x4 x5 x6 h := rfl
def fX10_begins (r0 : Nat) (r1 : Nat) (x2 : Int32) (x3 : Int32) (x4 : Int32) (h : Hp) : RS := kX10_begins_0 (gX10_begins FF) r0 r1 x2 x3 x4 h
theorem tX10_begins {G : GG} {d : Nat} {r0 r1 x2 x3 x4} {h : Hp} {o : OU} {h' : Hp} (e : fX10_begins r0 r1 x2 x3 x4 h = some (o, h')) (hd : 6 ≤ d) : VM G mX10_begins d [.ref r0, .ref r1, .int x2, .int x3, .int x4] h o h' := uX10_begins_0 hd _ (wX10_begins hd FF) e
def kX10_links_0  (r0 : Nat) (r1 : Nat) (x2 : Int32) (x3 : Int32) (x4 : Int32) (h : Hp) : RS := (bI (fX10_fieldOf r1 0 x4 0 h) fun z2 h1 => (bI (fX10_isKind r1 0 x4 1 h1) fun z5 h4 => (if z5 = 0 then (some (.inl (some (.int 0)), h4)) else (if 8 < z2 then (some (.inl (some (.int 0)), h4)) else (if kH h4 r0 = 18 then (bI (fX10_isNewName r0 r1 x2 x3 h4) fun z10 h9 => (if ¬ z10 = 0 then (bI (fX10_entry r1 0 x2 0 h9) fun z15 h14 => (bI (fX10_field r1 x4 0 (z2 + 1) 0 0 h14) fun z18 h17 => (bV (fX10_names r1 z15 x3 x4 z18 0 0 h17) fun h20 => (some (.inl (some (.int 1)), h20))))) else (some (.inl (some (.int 0)), h9)))) else none)))))
theorem uX10_links_0 {G : GG} {d : Nat} (hd : 6 ≤ d)   {r0  r1  x2  x3  x4 } {h : Hp} {o : OU} {h' : Hp} (e : kX10_links_0  r0 r1 x2 x3 x4 h = some (o, h')) : VM G mX10_links d [.ref r0, .ref r1, .int x2, .int x3, .int x4] h o h' := by
  unfold kX10_links_0 at e
  refine eX10_links r0 r1 x2 x3 x4 (by omega) ?_
  obtain ⟨z2, h1, e1, e⟩ := bI_e e
  refine ⟨z2, h1, (tX10_fieldOf e1 (by omega)), ?_⟩
  obtain ⟨z5, h4, e2, e⟩ := bI_e e
  refine ⟨z5, h4, (tX10_isKind e2 (by omega)), ?_⟩
  refine ⟨fun c3 => ?_, fun c3 => ?_⟩
  · have e := if_t e c3
    cases e
    exact ⟨rfl, rfl⟩
  · have e := if_f e c3
    refine ⟨fun c4 => ?_, fun c4 => ?_⟩
    · have e := if_t e c4
      cases e
      exact ⟨rfl, rfl⟩
    · have e := if_f e c4
      obtain ⟨q5, e⟩ := ob_e e
      refine ⟨q5, ?_⟩
      obtain ⟨z10, h9, e6, e⟩ := bI_e e
      refine ⟨z10, h9, (tX10_isNewName e6 (by omega)), ?_⟩
      refine ⟨fun c7 => ?_, fun c7 => ?_⟩
      · have e := if_t e c7
        obtain ⟨z15, h14, e8, e⟩ := bI_e e
        refine ⟨z15, h14, (tX10_entry e8 (by omega)), ?_⟩
        obtain ⟨z18, h17, e9, e⟩ := bI_e e
        refine ⟨z18, h17, (tX10_field e9 (by omega)), ?_⟩
        obtain ⟨h20, e10, e⟩ := bV_e e
        refine ⟨h20, (tX10_names e10 (by omega)), ?_⟩
        cases e
        exact ⟨rfl, rfl⟩
      · have e := if_n e c7
        cases e
        exact ⟨rfl, rfl⟩
def fX10_links (r0 : Nat) (r1 : Nat) (x2 : Int32) (x3 : Int32) (x4 : Int32) (h : Hp) : RS := kX10_links_0 r0 r1 x2 x3 x4 h
theorem tX10_links {G : GG} {d : Nat} {r0 r1 x2 x3 x4} {h : Hp} {o : OU} {h' : Hp} (e : fX10_links r0 r1 x2 x3 x4 h = some (o, h')) (hd : 6 ≤ d) : VM G mX10_links d [.ref r0, .ref r1, .int x2, .int x3, .int x4] h o h' := uX10_links_0 hd e
def kX10_grows_0 (rec : Nat → List Value → List Value → Hp → RS)  (r0 : Nat) (r1 : Nat) (x2 : Int32) (x3 : Int32) (h : Hp) : RS := (if kH h r0 = 18 then (bI (fX10_freeBlock r0 r1 h) fun z2 h1 => (bI (fX10_fieldOf r1 0 x2 2 h1) fun z6 h5 => (bI (fX10_fieldOf r1 0 x2 0 h5) fun z9 h8 => (if z9 = 0 then (some (.inl (some (.int 0)), h8)) else (if z2 = (-1) then (some (.inl (some (.int 0)), h8)) else (if z6 = 0 then (rec 49 [uV, .ref r1, .int x2, .int x3, .int z2, .int z6] [] h8) else (bI (fX10_fieldOf r1 0 x2 3 h8) fun z15 h14 => (if z15 = 0 then (rec 49 [uV, .ref r1, .int x2, .int x3, .int z2, .int z6] [] h14) else (some (.inl (some (.int 0)), h14)))))))))) else none)
theorem uX10_grows_0 {G : GG} {d : Nat} (hd : 5 ≤ d) (rec : Nat → List Value → List Value → Hp → RS) (hrec : ∀ pc loc st h o h', rec pc loc st h = some (o, h') → V G mX10_grows d pc loc st h o h')   {r0  r1  x2  x3 } {h : Hp} {o : OU} {h' : Hp} (e : kX10_grows_0 rec  r0 r1 x2 x3 h = some (o, h')) : VM G mX10_grows d [.ref r0, .ref r1, .int x2, .int x3] h o h' := by
  unfold kX10_grows_0 at e
  refine eX10_grows r0 r1 x2 x3 (by omega) ?_
  obtain ⟨q1, e⟩ := ob_e e
  refine ⟨q1, ?_⟩
  obtain ⟨z2, h1, e2, e⟩ := bI_e e
  refine ⟨z2, h1, (tX10_freeBlock e2 (by omega)), ?_⟩
  obtain ⟨z6, h5, e3, e⟩ := bI_e e
  refine ⟨z6, h5, (tX10_fieldOf e3 (by omega)), ?_⟩
  obtain ⟨z9, h8, e4, e⟩ := bI_e e
  refine ⟨z9, h8, (tX10_fieldOf e4 (by omega)), ?_⟩
  refine ⟨fun c5 => ?_, fun c5 => ?_⟩
  · have e := if_t e c5
    cases e
    exact ⟨rfl, rfl⟩
  · have e := if_f e c5
    refine ⟨fun c6 => ?_, fun c6 => ?_⟩
    · have e := if_t e c6
      cases e
      exact ⟨rfl, rfl⟩
    · have e := if_f e c6
      refine ⟨fun c7 => ?_, fun c7 => ?_⟩
      · have e := if_t e c7
        exact hrec _ _ _ _ _ _ e
      · have e := if_f e c7
        obtain ⟨z15, h14, e8, e⟩ := bI_e e
        refine ⟨z15, h14, (tX10_fieldOf e8 (by omega)), ?_⟩
        refine ⟨fun c9 => ?_, fun c9 => ?_⟩
        · have e := if_t e c9
          exact hrec _ _ _ _ _ _ e
        · have e := if_f e c9
          cases e
          exact ⟨rfl, rfl⟩
def kX10_grows_49 (rec : Nat → List Value → List Value → Hp → RS)  (r1 : Nat) (x2 : Int32) (x3 : Int32) (x4 : Int32) (x5 : Int32) (h : Hp) : RS := (if ¬ x5 = 0 then (bI (fX10_fieldOf r1 0 x2 1 h) fun z3 h2 => (if ¬ z3 = 2 then (bI (fX10_gets r1 x2 x4 3 x3 h2) fun z7 h6 => (some (.inl (some (.int 1)), h6))) else (bI (fX10_gets r1 x2 x4 3 0 h2) fun z10 h9 => (some (.inl (some (.int 1)), h9))))) else (bI (fX10_fieldOf r1 0 x2 1 h) fun z13 h12 => (if ¬ z13 = 2 then (bI (fX10_gets r1 x2 x4 2 x3 h12) fun z17 h16 => (some (.inl (some (.int 1)), h16))) else (bI (fX10_gets r1 x2 x4 2 0 h12) fun z20 h19 => (some (.inl (some (.int 1)), h19))))))
theorem uX10_grows_49 {G : GG} {d : Nat} (hd : 5 ≤ d) (rec : Nat → List Value → List Value → Hp → RS) (hrec : ∀ pc loc st h o h', rec pc loc st h = some (o, h') → V G mX10_grows d pc loc st h o h')   {r1  x2  x3  x4  x5 } {h : Hp} {o : OU} {h' : Hp} (e : kX10_grows_49 rec  r1 x2 x3 x4 x5 h = some (o, h')) : V G mX10_grows d 49 [uV, .ref r1, .int x2, .int x3, .int x4, .int x5] [] h o h' := by
  unfold kX10_grows_49 at e
  refine bX10_grows_49 r1 x2 x3 x4 x5 (by omega) ?_
  refine ⟨fun c1 => ?_, fun c1 => ?_⟩
  · have e := if_t e c1
    obtain ⟨z3, h2, e2, e⟩ := bI_e e
    refine ⟨z3, h2, (tX10_fieldOf e2 (by omega)), ?_⟩
    refine ⟨fun c3 => ?_, fun c3 => ?_⟩
    · have e := if_t e c3
      obtain ⟨z7, h6, e4, e⟩ := bI_e e
      refine ⟨z7, h6, (tX10_gets e4 (by omega)), ?_⟩
      cases e
      exact ⟨rfl, rfl⟩
    · have e := if_n e c3
      obtain ⟨z10, h9, e5, e⟩ := bI_e e
      refine ⟨z10, h9, (tX10_gets e5 (by omega)), ?_⟩
      cases e
      exact ⟨rfl, rfl⟩
  · have e := if_n e c1
    obtain ⟨z13, h12, e6, e⟩ := bI_e e
    refine ⟨z13, h12, (tX10_fieldOf e6 (by omega)), ?_⟩
    refine ⟨fun c7 => ?_, fun c7 => ?_⟩
    · have e := if_t e c7
      obtain ⟨z17, h16, e8, e⟩ := bI_e e
      refine ⟨z17, h16, (tX10_gets e8 (by omega)), ?_⟩
      cases e
      exact ⟨rfl, rfl⟩
    · have e := if_n e c7
      obtain ⟨z20, h19, e9, e⟩ := bI_e e
      refine ⟨z20, h19, (tX10_gets e9 (by omega)), ?_⟩
      cases e
      exact ⟨rfl, rfl⟩
def sX10_grows  (rec : Nat → List Value → List Value → Hp → RS) (pc : Nat) (loc st : List Value) (h : Hp) : RS := match pc, loc, st with
  | 49, [_, .ref r1, .int x2, .int x3, .int x4, .int x5], [] => kX10_grows_49 rec  r1 x2 x3 x4 x5 h
  | _, _, _ => none
def gX10_grows  : Nat → Nat → List Value → List Value → Hp → RS
  | 0 => fun _ _ _ _ => none
  | n + 1 => sX10_grows  (gX10_grows  n)
theorem wX10_grows {G : GG} {d : Nat} (hd : 5 ≤ d)   : ∀ (n pc : Nat) (loc st : List Value) (h : Hp) (o : OU) (h' : Hp), gX10_grows  n pc loc st h = some (o, h') → V G mX10_grows d pc loc st h o h' := by
  intro n
  induction n with
  | zero => intro pc loc st h o h' e; cases e
  | succ n ih =>
    intro pc loc st h o h' e
    unfold gX10_grows sX10_grows at e
    split at e
    · exact V.drop (llp_u (llp_r (llp_r (llp_r (llp_r (llp_r llp_nil)))))) (uX10_grows_49 hd _ ih   e)
    · cases e
theorem zX10_grows_49  (n : Nat) (r1 : Nat) (x2 : Int32) (x3 : Int32) (x4 : Int32) (x5 : Int32) (y0 : Value) (h : Hp) : gX10_grows  (n + 1) 49 [y0, .ref r1, .int x2, .int x3, .int x4, .int x5] [] h = kX10_grows_49 (gX10_grows  n)  r1 x2 x3 x4 x5 h := rfl
def fX10_grows (r0 : Nat) (r1 : Nat) (x2 : Int32) (x3 : Int32) (h : Hp) : RS := kX10_grows_0 (gX10_grows FF) r0 r1 x2 x3 h
theorem tX10_grows {G : GG} {d : Nat} {r0 r1 x2 x3} {h : Hp} {o : OU} {h' : Hp} (e : fX10_grows r0 r1 x2 x3 h = some (o, h')) (hd : 5 ≤ d) : VM G mX10_grows d [.ref r0, .ref r1, .int x2, .int x3] h o h' := uX10_grows_0 hd _ (wX10_grows hd FF) e
def kX10_setsByte_0  (r0 : Nat) (x1 : Int32) (x2 : Int32) (x3 : Int32) (h : Hp) : RS := (if 16 ≤ x2 then (bI (fX10_fieldOf r0 0 x1 3 h) fun z3 h2 => (bI (fX10_isKind r0 0 x1 1 h2) fun z6 h5 => (if z6 = 0 then (some (.inl (some (.int 0)), h5)) else (if z3 = 0 then (some (.inl (some (.int 0)), h5)) else (bI (fX10_bare r0 z3 (x2 - x2 / 16 * 16) x3 h5) fun z11 h10 => (if z11 = 0 then (some (.inl (some (.int 0)), h10)) else (some (.inl (some (.int 1)), h10)))))))) else (bI (fX10_fieldOf r0 0 x1 2 h) fun z15 h14 => (bI (fX10_isKind r0 0 x1 1 h14) fun z18 h17 => (if z18 = 0 then (some (.inl (some (.int 0)), h17)) else (if z15 = 0 then (some (.inl (some (.int 0)), h17)) else (bI (fX10_bare r0 z15 (x2 - x2 / 16 * 16) x3 h17) fun z23 h22 => (if z23 = 0 then (some (.inl (some (.int 0)), h22)) else (some (.inl (some (.int 1)), h22)))))))))
theorem uX10_setsByte_0 {G : GG} {d : Nat} (hd : 4 ≤ d)   {r0  x1  x2  x3 } {h : Hp} {o : OU} {h' : Hp} (e : kX10_setsByte_0  r0 x1 x2 x3 h = some (o, h')) : VM G mX10_setsByte d [.ref r0, .int x1, .int x2, .int x3] h o h' := by
  unfold kX10_setsByte_0 at e
  refine eX10_setsByte r0 x1 x2 x3 (by omega) ?_
  refine ⟨fun c1 => ?_, fun c1 => ?_⟩
  · have e := if_t e c1
    obtain ⟨z3, h2, e2, e⟩ := bI_e e
    refine ⟨z3, h2, (tX10_fieldOf e2 (by omega)), ?_⟩
    obtain ⟨z6, h5, e3, e⟩ := bI_e e
    refine ⟨z6, h5, (tX10_isKind e3 (by omega)), ?_⟩
    refine ⟨fun c4 => ?_, fun c4 => ?_⟩
    · have e := if_t e c4
      cases e
      exact ⟨rfl, rfl⟩
    · have e := if_f e c4
      refine ⟨fun c5 => ?_, fun c5 => ?_⟩
      · have e := if_t e c5
        cases e
        exact ⟨rfl, rfl⟩
      · have e := if_f e c5
        obtain ⟨z11, h10, e6, e⟩ := bI_e e
        refine ⟨z11, h10, (tX10_bare e6 (by omega)), ?_⟩
        refine ⟨fun c7 => ?_, fun c7 => ?_⟩
        · have e := if_t e c7
          cases e
          exact ⟨rfl, rfl⟩
        · have e := if_f e c7
          cases e
          exact ⟨rfl, rfl⟩
  · have e := if_f e c1
    obtain ⟨z15, h14, e8, e⟩ := bI_e e
    refine ⟨z15, h14, (tX10_fieldOf e8 (by omega)), ?_⟩
    obtain ⟨z18, h17, e9, e⟩ := bI_e e
    refine ⟨z18, h17, (tX10_isKind e9 (by omega)), ?_⟩
    refine ⟨fun c10 => ?_, fun c10 => ?_⟩
    · have e := if_t e c10
      cases e
      exact ⟨rfl, rfl⟩
    · have e := if_f e c10
      refine ⟨fun c11 => ?_, fun c11 => ?_⟩
      · have e := if_t e c11
        cases e
        exact ⟨rfl, rfl⟩
      · have e := if_f e c11
        obtain ⟨z23, h22, e12, e⟩ := bI_e e
        refine ⟨z23, h22, (tX10_bare e12 (by omega)), ?_⟩
        refine ⟨fun c13 => ?_, fun c13 => ?_⟩
        · have e := if_t e c13
          cases e
          exact ⟨rfl, rfl⟩
        · have e := if_f e c13
          cases e
          exact ⟨rfl, rfl⟩
def fX10_setsByte (r0 : Nat) (x1 : Int32) (x2 : Int32) (x3 : Int32) (h : Hp) : RS := kX10_setsByte_0 r0 x1 x2 x3 h
theorem tX10_setsByte {G : GG} {d : Nat} {r0 x1 x2 x3} {h : Hp} {o : OU} {h' : Hp} (e : fX10_setsByte r0 x1 x2 x3 h = some (o, h')) (hd : 4 ≤ d) : VM G mX10_setsByte d [.ref r0, .int x1, .int x2, .int x3] h o h' := uX10_setsByte_0 hd e
def kX10_putsOff_0  (r0 : Nat) (x1 : Int32) (x2 : Int32) (x3 : Int32) (h : Hp) : RS := (if kH h r0 = 1 then (if inB 3393 (lH h r0) = true then (if inB (2912 + (3 * (h.2 r0 3393))) (lH h r0) = true then (if inB ((2912 + (3 * (h.2 r0 3393))) + 1) (lH h r0) = true then (if inB ((2912 + (3 * (h.2 r0 3393))) + 2) (lH h r0) = true then (letH (upI (upI (upI h.2 r0 (2912 + (3 * (h.2 r0 3393))).toNatClampNeg x1) r0 ((2912 + (3 * (h.2 r0 3393))) + 1).toNatClampNeg x2) r0 ((2912 + (3 * (h.2 r0 3393))) + 2).toNatClampNeg x3) fun (i6 : Nat → Nat → Int32) => (some (.inl none, (h.1, (upI i6 r0 3393 ((i6 r0 3393) + 1)))))) else none) else none) else none) else none) else none)
theorem uX10_putsOff_0 {G : GG} {d : Nat} (hd : 1 ≤ d)   {r0  x1  x2  x3 } {h : Hp} {o : OU} {h' : Hp} (e : kX10_putsOff_0  r0 x1 x2 x3 h = some (o, h')) : VM G mX10_putsOff d [.ref r0, .int x1, .int x2, .int x3] h o h' := by
  unfold kX10_putsOff_0 at e
  refine eX10_putsOff r0 x1 x2 x3 ?_
  obtain ⟨q1, e⟩ := ob_e e
  refine ⟨q1, ?_⟩
  obtain ⟨q2, e⟩ := ob_in e
  refine ⟨q2, ?_⟩
  obtain ⟨q3, e⟩ := ob_in e
  refine ⟨q3, ?_⟩
  obtain ⟨q4, e⟩ := ob_in e
  refine ⟨q4, ?_⟩
  obtain ⟨q5, e⟩ := ob_in e
  refine ⟨q5, ?_⟩
  intro i6 evi6
  have e := lt_e evi6 e
  cases e
  exact ⟨rfl, rfl⟩
def fX10_putsOff (r0 : Nat) (x1 : Int32) (x2 : Int32) (x3 : Int32) (h : Hp) : RS := kX10_putsOff_0 r0 x1 x2 x3 h
theorem tX10_putsOff {G : GG} {d : Nat} {r0 x1 x2 x3} {h : Hp} {o : OU} {h' : Hp} (e : fX10_putsOff r0 x1 x2 x3 h = some (o, h')) (hd : 1 ≤ d) : VM G mX10_putsOff d [.ref r0, .int x1, .int x2, .int x3] h o h' := uX10_putsOff_0 hd e
def kX10_cuts_0  (r0 : Nat) (x1 : Int32) (h : Hp) : RS := (bI (fX10_fieldOf r0 0 x1 3 h) fun z2 h1 => (if z2 = 0 then (bI (fX10_fieldOf r0 0 x1 2 h1) fun z6 h5 => (bI (fX10_isKind r0 0 x1 1 h5) fun z9 h8 => (if z9 = 0 then (some (.inl (some (.int 0)), h8)) else (if ¬ z6 = 0 then (bI (fX10_field r0 x1 2 0 0 0 h8) fun z14 h13 => (bV (fX10_putsOff r0 0 z6 z14 h13) fun h16 => (some (.inl (some (.int 1)), h16)))) else (some (.inl (some (.int 0)), h8)))))) else (bI (fX10_fieldOf r0 0 x1 3 h1) fun z19 h18 => (bI (fX10_isKind r0 0 x1 1 h18) fun z22 h21 => (if z22 = 0 then (some (.inl (some (.int 0)), h21)) else (if ¬ z19 = 0 then (bI (fX10_field r0 x1 3 0 0 0 h21) fun z27 h26 => (bV (fX10_putsOff r0 0 z19 z27 h26) fun h29 => (some (.inl (some (.int 1)), h29)))) else (some (.inl (some (.int 0)), h21))))))))
theorem uX10_cuts_0 {G : GG} {d : Nat} (hd : 4 ≤ d)   {r0  x1 } {h : Hp} {o : OU} {h' : Hp} (e : kX10_cuts_0  r0 x1 h = some (o, h')) : VM G mX10_cuts d [.ref r0, .int x1] h o h' := by
  unfold kX10_cuts_0 at e
  refine eX10_cuts r0 x1 (by omega) ?_
  obtain ⟨z2, h1, e1, e⟩ := bI_e e
  refine ⟨z2, h1, (tX10_fieldOf e1 (by omega)), ?_⟩
  refine ⟨fun c2 => ?_, fun c2 => ?_⟩
  · have e := if_t e c2
    obtain ⟨z6, h5, e3, e⟩ := bI_e e
    refine ⟨z6, h5, (tX10_fieldOf e3 (by omega)), ?_⟩
    obtain ⟨z9, h8, e4, e⟩ := bI_e e
    refine ⟨z9, h8, (tX10_isKind e4 (by omega)), ?_⟩
    refine ⟨fun c5 => ?_, fun c5 => ?_⟩
    · have e := if_t e c5
      cases e
      exact ⟨rfl, rfl⟩
    · have e := if_f e c5
      refine ⟨fun c6 => ?_, fun c6 => ?_⟩
      · have e := if_t e c6
        obtain ⟨z14, h13, e7, e⟩ := bI_e e
        refine ⟨z14, h13, (tX10_field e7 (by omega)), ?_⟩
        obtain ⟨h16, e8, e⟩ := bV_e e
        refine ⟨h16, (tX10_putsOff e8 (by omega)), ?_⟩
        cases e
        exact ⟨rfl, rfl⟩
      · have e := if_n e c6
        cases e
        exact ⟨rfl, rfl⟩
  · have e := if_f e c2
    obtain ⟨z19, h18, e9, e⟩ := bI_e e
    refine ⟨z19, h18, (tX10_fieldOf e9 (by omega)), ?_⟩
    obtain ⟨z22, h21, e10, e⟩ := bI_e e
    refine ⟨z22, h21, (tX10_isKind e10 (by omega)), ?_⟩
    refine ⟨fun c11 => ?_, fun c11 => ?_⟩
    · have e := if_t e c11
      cases e
      exact ⟨rfl, rfl⟩
    · have e := if_f e c11
      refine ⟨fun c12 => ?_, fun c12 => ?_⟩
      · have e := if_t e c12
        obtain ⟨z27, h26, e13, e⟩ := bI_e e
        refine ⟨z27, h26, (tX10_field e13 (by omega)), ?_⟩
        obtain ⟨h29, e14, e⟩ := bV_e e
        refine ⟨h29, (tX10_putsOff e14 (by omega)), ?_⟩
        cases e
        exact ⟨rfl, rfl⟩
      · have e := if_n e c12
        cases e
        exact ⟨rfl, rfl⟩
def fX10_cuts (r0 : Nat) (x1 : Int32) (h : Hp) : RS := kX10_cuts_0 r0 x1 h
theorem tX10_cuts {G : GG} {d : Nat} {r0 x1} {h : Hp} {o : OU} {h' : Hp} (e : fX10_cuts r0 x1 h = some (o, h')) (hd : 4 ≤ d) : VM G mX10_cuts d [.ref r0, .int x1] h o h' := uX10_cuts_0 hd e
def kX10_hasNames_0 (rec : Nat → List Value → List Value → Hp → RS)  (r0 : Nat) (x1 : Int32) (x2 : Int32) (h : Hp) : RS := (rec 2 [.ref r0, .int x1, .int x2, .int 0] [] h)
theorem uX10_hasNames_0 {G : GG} {d : Nat} (hd : 4 ≤ d) (rec : Nat → List Value → List Value → Hp → RS) (hrec : ∀ pc loc st h o h', rec pc loc st h = some (o, h') → V G mX10_hasNames d pc loc st h o h')   {r0  x1  x2 } {h : Hp} {o : OU} {h' : Hp} (e : kX10_hasNames_0 rec  r0 x1 x2 h = some (o, h')) : VM G mX10_hasNames d [.ref r0, .int x1, .int x2] h o h' := by
  unfold kX10_hasNames_0 at e
  refine eX10_hasNames r0 x1 x2 ?_
  exact hrec _ _ _ _ _ _ e
def kX10_hasNames_2 (rec : Nat → List Value → List Value → Hp → RS)  (r0 : Nat) (x1 : Int32) (x2 : Int32) (x3 : Int32) (h : Hp) : RS := (bI (fX10_entryOf r0 x1 x2 x3 h) fun z2 h1 => (if z2 = (-1) then (some (.inl (some (.int 0)), h1)) else (bI (fX10_entryOf r0 x1 x2 x3 h1) fun z6 h5 => (if kH h5 r0 = 1 then (if inB (x1 + z6) (lH h5 r0) = true then (if (h5.2 r0 (x1 + z6).toNatClampNeg) = 0 then (rec 2 [.ref r0, .int x1, .int x2, .int (x3 + 1)] [] h5) else (some (.inl (some (.int 1)), h5))) else none) else none))))
theorem uX10_hasNames_2 {G : GG} {d : Nat} (hd : 4 ≤ d) (rec : Nat → List Value → List Value → Hp → RS) (hrec : ∀ pc loc st h o h', rec pc loc st h = some (o, h') → V G mX10_hasNames d pc loc st h o h')   {r0  x1  x2  x3 } {h : Hp} {o : OU} {h' : Hp} (e : kX10_hasNames_2 rec  r0 x1 x2 x3 h = some (o, h')) : V G mX10_hasNames d 2 [.ref r0, .int x1, .int x2, .int x3] [] h o h' := by
  unfold kX10_hasNames_2 at e
  refine bX10_hasNames_2 r0 x1 x2 x3 (by omega) ?_
  obtain ⟨z2, h1, e1, e⟩ := bI_e e
  refine ⟨z2, h1, (tX10_entryOf e1 (by omega)), ?_⟩
  refine ⟨fun c2 => ?_, fun c2 => ?_⟩
  · have e := if_t e c2
    cases e
    exact ⟨rfl, rfl⟩
  · have e := if_f e c2
    obtain ⟨z6, h5, e3, e⟩ := bI_e e
    refine ⟨z6, h5, (tX10_entryOf e3 (by omega)), ?_⟩
    obtain ⟨q4, e⟩ := ob_e e
    refine ⟨q4, ?_⟩
    obtain ⟨q5, e⟩ := ob_in e
    refine ⟨q5, ?_⟩
    refine ⟨fun c6 => ?_, fun c6 => ?_⟩
    · have e := if_t e c6
      exact hrec _ _ _ _ _ _ e
    · have e := if_f e c6
      cases e
      exact ⟨rfl, rfl⟩
def sX10_hasNames  (rec : Nat → List Value → List Value → Hp → RS) (pc : Nat) (loc st : List Value) (h : Hp) : RS := match pc, loc, st with
  | 2, [.ref r0, .int x1, .int x2, .int x3], [] => kX10_hasNames_2 rec  r0 x1 x2 x3 h
  | _, _, _ => none
def gX10_hasNames  : Nat → Nat → List Value → List Value → Hp → RS
  | 0 => fun _ _ _ _ => none
  | n + 1 => sX10_hasNames  (gX10_hasNames  n)
theorem wX10_hasNames {G : GG} {d : Nat} (hd : 4 ≤ d)   : ∀ (n pc : Nat) (loc st : List Value) (h : Hp) (o : OU) (h' : Hp), gX10_hasNames  n pc loc st h = some (o, h') → V G mX10_hasNames d pc loc st h o h' := by
  intro n
  induction n with
  | zero => intro pc loc st h o h' e; cases e
  | succ n ih =>
    intro pc loc st h o h' e
    unfold gX10_hasNames sX10_hasNames at e
    split at e
    · exact uX10_hasNames_2 hd _ ih   e
    · cases e
theorem zX10_hasNames_2  (n : Nat) (r0 : Nat) (x1 : Int32) (x2 : Int32) (x3 : Int32)  (h : Hp) : gX10_hasNames  (n + 1) 2 [.ref r0, .int x1, .int x2, .int x3] [] h = kX10_hasNames_2 (gX10_hasNames  n)  r0 x1 x2 x3 h := rfl
def fX10_hasNames (r0 : Nat) (x1 : Int32) (x2 : Int32) (h : Hp) : RS := kX10_hasNames_0 (gX10_hasNames FF) r0 x1 x2 h
theorem tX10_hasNames {G : GG} {d : Nat} {r0 x1 x2} {h : Hp} {o : OU} {h' : Hp} (e : fX10_hasNames r0 x1 x2 h = some (o, h')) (hd : 4 ≤ d) : VM G mX10_hasNames d [.ref r0, .int x1, .int x2] h o h' := uX10_hasNames_0 hd _ (wX10_hasNames hd FF) e
def kX10_drops_0  (r0 : Nat) (x1 : Int32) (x2 : Int32) (h : Hp) : RS := (bI (fX10_isKind r0 0 x1 2 h) fun z2 h1 => (if z2 = 0 then (some (.inl (some (.int 0)), h1)) else (bI (fX10_reached r0 0 h1) fun z6 h5 => (bI (fX10_has z6 x1 h5) fun z9 h8 => (if z9 = 0 then (some (.inl (some (.int 0)), h8)) else (bI (fX10_entry r0 0 x1 x2 h8) fun z13 h12 => (if ¬ z13 = (-1) then (bI (fX10_entry r0 0 x1 x2 h12) fun z17 h16 => (if kH h16 r0 = 1 then (if inB ((0 + z17) + 1) (lH h16 r0) = true then (bI (fX10_fieldOf r0 0 (h16.2 r0 ((0 + z17) + 1).toNatClampNeg) 1 h16) fun z22 h21 => (if ¬ z22 = 2 then (bI (fX10_bare r0 (z17 / 16) (z17 - z17 / 16 * 16) 0 h21) fun z26 h25 => (bV (fX10_putsOff r0 1 (h16.2 r0 ((0 + z17) + 1).toNatClampNeg) z26 h25) fun h28 => (some (.inl (some (.int 1)), h28)))) else (bI (fX10_hasNames r0 0 (h16.2 r0 ((0 + z17) + 1).toNatClampNeg) h21) fun z31 h30 => (if z31 = 0 then (bI (fX10_bare r0 (z17 / 16) (z17 - z17 / 16 * 16) 0 h30) fun z35 h34 => (bV (fX10_putsOff r0 1 (h16.2 r0 ((0 + z17) + 1).toNatClampNeg) z35 h34) fun h37 => (some (.inl (some (.int 1)), h37)))) else (some (.inl (some (.int 0)), h30)))))) else none) else none)) else (some (.inl (some (.int 0)), h12)))))))))
theorem uX10_drops_0 {G : GG} {d : Nat} (hd : 5 ≤ d)   {r0  x1  x2 } {h : Hp} {o : OU} {h' : Hp} (e : kX10_drops_0  r0 x1 x2 h = some (o, h')) : VM G mX10_drops d [.ref r0, .int x1, .int x2] h o h' := by
  unfold kX10_drops_0 at e
  refine eX10_drops r0 x1 x2 (by omega) ?_
  obtain ⟨z2, h1, e1, e⟩ := bI_e e
  refine ⟨z2, h1, (tX10_isKind e1 (by omega)), ?_⟩
  refine ⟨fun c2 => ?_, fun c2 => ?_⟩
  · have e := if_t e c2
    cases e
    exact ⟨rfl, rfl⟩
  · have e := if_f e c2
    obtain ⟨z6, h5, e3, e⟩ := bI_e e
    refine ⟨z6, h5, (tX10_reached e3 (by omega)), ?_⟩
    obtain ⟨z9, h8, e4, e⟩ := bI_e e
    refine ⟨z9, h8, (tX10_has e4 (by omega)), ?_⟩
    refine ⟨fun c5 => ?_, fun c5 => ?_⟩
    · have e := if_t e c5
      cases e
      exact ⟨rfl, rfl⟩
    · have e := if_f e c5
      obtain ⟨z13, h12, e6, e⟩ := bI_e e
      refine ⟨z13, h12, (tX10_entry e6 (by omega)), ?_⟩
      refine ⟨fun c7 => ?_, fun c7 => ?_⟩
      · have e := if_t e c7
        obtain ⟨z17, h16, e8, e⟩ := bI_e e
        refine ⟨z17, h16, (tX10_entry e8 (by omega)), ?_⟩
        obtain ⟨q9, e⟩ := ob_e e
        refine ⟨q9, ?_⟩
        obtain ⟨q10, e⟩ := ob_in e
        refine ⟨q10, ?_⟩
        obtain ⟨z22, h21, e11, e⟩ := bI_e e
        refine ⟨z22, h21, (tX10_fieldOf e11 (by omega)), ?_⟩
        refine ⟨fun c12 => ?_, fun c12 => ?_⟩
        · have e := if_t e c12
          obtain ⟨z26, h25, e13, e⟩ := bI_e e
          refine ⟨z26, h25, (tX10_bare e13 (by omega)), ?_⟩
          obtain ⟨h28, e14, e⟩ := bV_e e
          refine ⟨h28, (tX10_putsOff e14 (by omega)), ?_⟩
          cases e
          exact ⟨rfl, rfl⟩
        · have e := if_n e c12
          obtain ⟨z31, h30, e15, e⟩ := bI_e e
          refine ⟨z31, h30, (tX10_hasNames e15 (by omega)), ?_⟩
          refine ⟨fun c16 => ?_, fun c16 => ?_⟩
          · have e := if_t e c16
            obtain ⟨z35, h34, e17, e⟩ := bI_e e
            refine ⟨z35, h34, (tX10_bare e17 (by omega)), ?_⟩
            obtain ⟨h37, e18, e⟩ := bV_e e
            refine ⟨h37, (tX10_putsOff e18 (by omega)), ?_⟩
            cases e
            exact ⟨rfl, rfl⟩
          · have e := if_f e c16
            cases e
            exact ⟨rfl, rfl⟩
      · have e := if_n e c7
        cases e
        exact ⟨rfl, rfl⟩
def fX10_drops (r0 : Nat) (x1 : Int32) (x2 : Int32) (h : Hp) : RS := kX10_drops_0 r0 x1 x2 h
theorem tX10_drops {G : GG} {d : Nat} {r0 x1 x2} {h : Hp} {o : OU} {h' : Hp} (e : fX10_drops r0 x1 x2 h = some (o, h')) (hd : 5 ≤ d) : VM G mX10_drops d [.ref r0, .int x1, .int x2] h o h' := uX10_drops_0 hd e
def kX10_isDirty_0 (rec : Nat → List Value → List Value → Hp → RS)  (r0 : Nat) (x1 : Int32) (h : Hp) : RS := (rec 2 [.ref r0, .int x1, .int 0] [] h)
theorem uX10_isDirty_0 {G : GG} {d : Nat} (hd : 2 ≤ d) (rec : Nat → List Value → List Value → Hp → RS) (hrec : ∀ pc loc st h o h', rec pc loc st h = some (o, h') → V G mX10_isDirty d pc loc st h o h')   {r0  x1 } {h : Hp} {o : OU} {h' : Hp} (e : kX10_isDirty_0 rec  r0 x1 h = some (o, h')) : VM G mX10_isDirty d [.ref r0, .int x1] h o h' := by
  unfold kX10_isDirty_0 at e
  refine eX10_isDirty r0 x1 ?_
  exact hrec _ _ _ _ _ _ e
def kX10_isDirty_2 (rec : Nat → List Value → List Value → Hp → RS)  (r0 : Nat) (x1 : Int32) (x2 : Int32) (h : Hp) : RS := (if kH h r0 = 1 then (if inB 3392 (lH h r0) = true then (if (h.2 r0 3392) ≤ x2 then (some (.inl (some (.int 0)), h)) else (bI (fX10_cell x2 h) fun z5 h4 => (if kH h4 r0 = 1 then (if inB (z5 + 1) (lH h4 r0) = true then (if ¬ (h4.2 r0 (z5 + 1).toNatClampNeg) = x1 then (rec 2 [.ref r0, .int x1, .int (x2 + 1)] [] h4) else (some (.inl (some (.int 1)), h4))) else none) else none))) else none) else none)
theorem uX10_isDirty_2 {G : GG} {d : Nat} (hd : 2 ≤ d) (rec : Nat → List Value → List Value → Hp → RS) (hrec : ∀ pc loc st h o h', rec pc loc st h = some (o, h') → V G mX10_isDirty d pc loc st h o h')   {r0  x1  x2 } {h : Hp} {o : OU} {h' : Hp} (e : kX10_isDirty_2 rec  r0 x1 x2 h = some (o, h')) : V G mX10_isDirty d 2 [.ref r0, .int x1, .int x2] [] h o h' := by
  unfold kX10_isDirty_2 at e
  refine bX10_isDirty_2 r0 x1 x2 (by omega) ?_
  obtain ⟨q1, e⟩ := ob_e e
  refine ⟨q1, ?_⟩
  obtain ⟨q2, e⟩ := ob_in e
  refine ⟨q2, ?_⟩
  refine ⟨fun c3 => ?_, fun c3 => ?_⟩
  · have e := if_t e c3
    cases e
    exact ⟨rfl, rfl⟩
  · have e := if_f e c3
    obtain ⟨z5, h4, e4, e⟩ := bI_e e
    refine ⟨z5, h4, (tX10_cell e4 (by omega)), ?_⟩
    obtain ⟨q5, e⟩ := ob_e e
    refine ⟨q5, ?_⟩
    obtain ⟨q6, e⟩ := ob_in e
    refine ⟨q6, ?_⟩
    refine ⟨fun c7 => ?_, fun c7 => ?_⟩
    · have e := if_t e c7
      exact hrec _ _ _ _ _ _ e
    · have e := if_n e c7
      cases e
      exact ⟨rfl, rfl⟩
def sX10_isDirty  (rec : Nat → List Value → List Value → Hp → RS) (pc : Nat) (loc st : List Value) (h : Hp) : RS := match pc, loc, st with
  | 2, [.ref r0, .int x1, .int x2], [] => kX10_isDirty_2 rec  r0 x1 x2 h
  | _, _, _ => none
def gX10_isDirty  : Nat → Nat → List Value → List Value → Hp → RS
  | 0 => fun _ _ _ _ => none
  | n + 1 => sX10_isDirty  (gX10_isDirty  n)
theorem wX10_isDirty {G : GG} {d : Nat} (hd : 2 ≤ d)   : ∀ (n pc : Nat) (loc st : List Value) (h : Hp) (o : OU) (h' : Hp), gX10_isDirty  n pc loc st h = some (o, h') → V G mX10_isDirty d pc loc st h o h' := by
  intro n
  induction n with
  | zero => intro pc loc st h o h' e; cases e
  | succ n ih =>
    intro pc loc st h o h' e
    unfold gX10_isDirty sX10_isDirty at e
    split at e
    · exact uX10_isDirty_2 hd _ ih   e
    · cases e
theorem zX10_isDirty_2  (n : Nat) (r0 : Nat) (x1 : Int32) (x2 : Int32)  (h : Hp) : gX10_isDirty  (n + 1) 2 [.ref r0, .int x1, .int x2] [] h = kX10_isDirty_2 (gX10_isDirty  n)  r0 x1 x2 h := rfl
def fX10_isDirty (r0 : Nat) (x1 : Int32) (h : Hp) : RS := kX10_isDirty_0 (gX10_isDirty FF) r0 x1 h
theorem tX10_isDirty {G : GG} {d : Nat} {r0 x1} {h : Hp} {o : OU} {h' : Hp} (e : fX10_isDirty r0 x1 h = some (o, h')) (hd : 2 ≤ d) : VM G mX10_isDirty d [.ref r0, .int x1] h o h' := uX10_isDirty_0 hd _ (wX10_isDirty hd FF) e
def kX10_ahead_0 (rec : Nat → List Value → List Value → Hp → RS)  (r0 : Nat) (x1 : Int32) (x2 : Int32) (h : Hp) : RS := (rec 5 [.ref r0, .int x1, .int x2, .int 0, .int 0] [] h)
theorem uX10_ahead_0 {G : GG} {d : Nat} (hd : 2 ≤ d) (rec : Nat → List Value → List Value → Hp → RS) (hrec : ∀ pc loc st h o h', rec pc loc st h = some (o, h') → V G mX10_ahead d pc loc st h o h')   {r0  x1  x2 } {h : Hp} {o : OU} {h' : Hp} (e : kX10_ahead_0 rec  r0 x1 x2 h = some (o, h')) : VM G mX10_ahead d [.ref r0, .int x1, .int x2] h o h' := by
  unfold kX10_ahead_0 at e
  refine eX10_ahead r0 x1 x2 ?_
  exact hrec _ _ _ _ _ _ e
def kX10_ahead_5 (rec : Nat → List Value → List Value → Hp → RS)  (r0 : Nat) (x1 : Int32) (x2 : Int32) (x3 : Int32) (x4 : Int32) (h : Hp) : RS := (if x1 ≤ x4 then (some (.inl (some (.int x3)), h)) else (bI (fX10_cell x4 h) fun z3 h2 => (if kH h2 r0 = 1 then (if inB (z3 + 1) (lH h2 r0) = true then (if ¬ (h2.2 r0 (z3 + 1).toNatClampNeg) = x2 then (rec 5 [.ref r0, .int x1, .int x2, .int (x3 + 0), .int (x4 + 1)] [] h2) else (rec 5 [.ref r0, .int x1, .int x2, .int (x3 + 1), .int (x4 + 1)] [] h2)) else none) else none)))
theorem uX10_ahead_5 {G : GG} {d : Nat} (hd : 2 ≤ d) (rec : Nat → List Value → List Value → Hp → RS) (hrec : ∀ pc loc st h o h', rec pc loc st h = some (o, h') → V G mX10_ahead d pc loc st h o h')   {r0  x1  x2  x3  x4 } {h : Hp} {o : OU} {h' : Hp} (e : kX10_ahead_5 rec  r0 x1 x2 x3 x4 h = some (o, h')) : V G mX10_ahead d 5 [.ref r0, .int x1, .int x2, .int x3, .int x4] [] h o h' := by
  unfold kX10_ahead_5 at e
  refine bX10_ahead_5 r0 x1 x2 x3 x4 (by omega) ?_
  refine ⟨fun c1 => ?_, fun c1 => ?_⟩
  · have e := if_t e c1
    cases e
    exact ⟨rfl, rfl⟩
  · have e := if_f e c1
    obtain ⟨z3, h2, e2, e⟩ := bI_e e
    refine ⟨z3, h2, (tX10_cell e2 (by omega)), ?_⟩
    obtain ⟨q3, e⟩ := ob_e e
    refine ⟨q3, ?_⟩
    obtain ⟨q4, e⟩ := ob_in e
    refine ⟨q4, ?_⟩
    refine ⟨fun c5 => ?_, fun c5 => ?_⟩
    · have e := if_t e c5
      exact hrec _ _ _ _ _ _ e
    · have e := if_n e c5
      exact hrec _ _ _ _ _ _ e
def sX10_ahead  (rec : Nat → List Value → List Value → Hp → RS) (pc : Nat) (loc st : List Value) (h : Hp) : RS := match pc, loc, st with
  | 5, [.ref r0, .int x1, .int x2, .int x3, .int x4], [] => kX10_ahead_5 rec  r0 x1 x2 x3 x4 h
  | _, _, _ => none
def gX10_ahead  : Nat → Nat → List Value → List Value → Hp → RS
  | 0 => fun _ _ _ _ => none
  | n + 1 => sX10_ahead  (gX10_ahead  n)
theorem wX10_ahead {G : GG} {d : Nat} (hd : 2 ≤ d)   : ∀ (n pc : Nat) (loc st : List Value) (h : Hp) (o : OU) (h' : Hp), gX10_ahead  n pc loc st h = some (o, h') → V G mX10_ahead d pc loc st h o h' := by
  intro n
  induction n with
  | zero => intro pc loc st h o h' e; cases e
  | succ n ih =>
    intro pc loc st h o h' e
    unfold gX10_ahead sX10_ahead at e
    split at e
    · exact uX10_ahead_5 hd _ ih   e
    · cases e
theorem zX10_ahead_5  (n : Nat) (r0 : Nat) (x1 : Int32) (x2 : Int32) (x3 : Int32) (x4 : Int32)  (h : Hp) : gX10_ahead  (n + 1) 5 [.ref r0, .int x1, .int x2, .int x3, .int x4] [] h = kX10_ahead_5 (gX10_ahead  n)  r0 x1 x2 x3 x4 h := rfl
def fX10_ahead (r0 : Nat) (x1 : Int32) (x2 : Int32) (h : Hp) : RS := kX10_ahead_0 (gX10_ahead FF) r0 x1 x2 h
theorem tX10_ahead {G : GG} {d : Nat} {r0 x1 x2} {h : Hp} {o : OU} {h' : Hp} (e : fX10_ahead r0 x1 x2 h = some (o, h')) (hd : 2 ≤ d) : VM G mX10_ahead d [.ref r0, .int x1, .int x2] h o h' := uX10_ahead_0 hd _ (wX10_ahead hd FF) e
def kX10_which_0 (rec : Nat → List Value → List Value → Hp → RS)  (r0 : Nat) (x1 : Int32) (h : Hp) : RS := (rec 2 [.ref r0, .int x1, .int 0] [] h)
theorem uX10_which_0 {G : GG} {d : Nat} (hd : 2 ≤ d) (rec : Nat → List Value → List Value → Hp → RS) (hrec : ∀ pc loc st h o h', rec pc loc st h = some (o, h') → V G mX10_which d pc loc st h o h')   {r0  x1 } {h : Hp} {o : OU} {h' : Hp} (e : kX10_which_0 rec  r0 x1 h = some (o, h')) : VM G mX10_which d [.ref r0, .int x1] h o h' := by
  unfold kX10_which_0 at e
  refine eX10_which r0 x1 ?_
  exact hrec _ _ _ _ _ _ e
def kX10_which_2 (rec : Nat → List Value → List Value → Hp → RS)  (r0 : Nat) (x1 : Int32) (x2 : Int32) (h : Hp) : RS := (if kH h r0 = 1 then (if inB 3392 (lH h r0) = true then (if (h.2 r0 3392) ≤ x2 then (some (.inl (some (.int (-1))), h)) else (if x1 ≤ 0 then (some (.inl (some (.int (-1))), h)) else (bI (fX10_cell x2 h) fun z6 h5 => (if kH h5 r0 = 1 then (if inB z6 (lH h5 r0) = true then (if ¬ (h5.2 r0 z6.toNatClampNeg) = x1 then (rec 2 [.ref r0, .int x1, .int (x2 + 1)] [] h5) else (some (.inl (some (.int x2)), h5))) else none) else none)))) else none) else none)
theorem uX10_which_2 {G : GG} {d : Nat} (hd : 2 ≤ d) (rec : Nat → List Value → List Value → Hp → RS) (hrec : ∀ pc loc st h o h', rec pc loc st h = some (o, h') → V G mX10_which d pc loc st h o h')   {r0  x1  x2 } {h : Hp} {o : OU} {h' : Hp} (e : kX10_which_2 rec  r0 x1 x2 h = some (o, h')) : V G mX10_which d 2 [.ref r0, .int x1, .int x2] [] h o h' := by
  unfold kX10_which_2 at e
  refine bX10_which_2 r0 x1 x2 (by omega) ?_
  obtain ⟨q1, e⟩ := ob_e e
  refine ⟨q1, ?_⟩
  obtain ⟨q2, e⟩ := ob_in e
  refine ⟨q2, ?_⟩
  refine ⟨fun c3 => ?_, fun c3 => ?_⟩
  · have e := if_t e c3
    cases e
    exact ⟨rfl, rfl⟩
  · have e := if_f e c3
    refine ⟨fun c4 => ?_, fun c4 => ?_⟩
    · have e := if_t e c4
      cases e
      exact ⟨rfl, rfl⟩
    · have e := if_f e c4
      obtain ⟨z6, h5, e5, e⟩ := bI_e e
      refine ⟨z6, h5, (tX10_cell e5 (by omega)), ?_⟩
      obtain ⟨q6, e⟩ := ob_e e
      refine ⟨q6, ?_⟩
      obtain ⟨q7, e⟩ := ob_in e
      refine ⟨q7, ?_⟩
      refine ⟨fun c8 => ?_, fun c8 => ?_⟩
      · have e := if_t e c8
        exact hrec _ _ _ _ _ _ e
      · have e := if_n e c8
        cases e
        exact ⟨rfl, rfl⟩
def sX10_which  (rec : Nat → List Value → List Value → Hp → RS) (pc : Nat) (loc st : List Value) (h : Hp) : RS := match pc, loc, st with
  | 2, [.ref r0, .int x1, .int x2], [] => kX10_which_2 rec  r0 x1 x2 h
  | _, _, _ => none
def gX10_which  : Nat → Nat → List Value → List Value → Hp → RS
  | 0 => fun _ _ _ _ => none
  | n + 1 => sX10_which  (gX10_which  n)
theorem wX10_which {G : GG} {d : Nat} (hd : 2 ≤ d)   : ∀ (n pc : Nat) (loc st : List Value) (h : Hp) (o : OU) (h' : Hp), gX10_which  n pc loc st h = some (o, h') → V G mX10_which d pc loc st h o h' := by
  intro n
  induction n with
  | zero => intro pc loc st h o h' e; cases e
  | succ n ih =>
    intro pc loc st h o h' e
    unfold gX10_which sX10_which at e
    split at e
    · exact uX10_which_2 hd _ ih   e
    · cases e
theorem zX10_which_2  (n : Nat) (r0 : Nat) (x1 : Int32) (x2 : Int32)  (h : Hp) : gX10_which  (n + 1) 2 [.ref r0, .int x1, .int x2] [] h = kX10_which_2 (gX10_which  n)  r0 x1 x2 h := rfl
def fX10_which (r0 : Nat) (x1 : Int32) (h : Hp) : RS := kX10_which_0 (gX10_which FF) r0 x1 h
theorem tX10_which {G : GG} {d : Nat} {r0 x1} {h : Hp} {o : OU} {h' : Hp} (e : fX10_which r0 x1 h = some (o, h')) (hd : 2 ≤ d) : VM G mX10_which d [.ref r0, .int x1] h o h' := uX10_which_0 hd _ (wX10_which hd FF) e
def kX10_puts_0  (r0 : Nat) (x1 : Int32) (x2 : Int32) (h : Hp) : RS := (if kH h r0 = 1 then (if inB (x1 + 2) (lH h r0) = true then (if (h.2 r0 (x1 + 2).toNatClampNeg) = 16 then (some (.inl (some (.int 1)), h)) else (if ¬ (h.2 r0 (x1 + 2).toNatClampNeg) = x2 then (some (.inl (some (.int 0)), h)) else (some (.inl (some (.int 1)), h)))) else none) else none)
theorem uX10_puts_0 {G : GG} {d : Nat} (hd : 1 ≤ d)   {r0  x1  x2 } {h : Hp} {o : OU} {h' : Hp} (e : kX10_puts_0  r0 x1 x2 h = some (o, h')) : VM G mX10_puts d [.ref r0, .int x1, .int x2] h o h' := by
  unfold kX10_puts_0 at e
  refine eX10_puts r0 x1 x2 ?_
  obtain ⟨q1, e⟩ := ob_e e
  refine ⟨q1, ?_⟩
  obtain ⟨q2, e⟩ := ob_in e
  refine ⟨q2, ?_⟩
  refine ⟨fun c3 => ?_, fun c3 => ?_⟩
  · have e := if_t e c3
    cases e
    exact ⟨rfl, rfl⟩
  · have e := if_f e c3
    refine ⟨fun c4 => ?_, fun c4 => ?_⟩
    · have e := if_t e c4
      cases e
      exact ⟨rfl, rfl⟩
    · have e := if_n e c4
      cases e
      exact ⟨rfl, rfl⟩
def fX10_puts (r0 : Nat) (x1 : Int32) (x2 : Int32) (h : Hp) : RS := kX10_puts_0 r0 x1 x2 h
theorem tX10_puts {G : GG} {d : Nat} {r0 x1 x2} {h : Hp} {o : OU} {h' : Hp} (e : fX10_puts r0 x1 x2 h = some (o, h')) (hd : 1 ≤ d) : VM G mX10_puts d [.ref r0, .int x1, .int x2] h o h' := uX10_puts_0 hd e
def kX10_mayGo_0 (rec : Nat → List Value → List Value → Hp → RS)  (r0 : Nat) (r1 : Nat) (x2 : Int32) (h : Hp) : RS := (bI (fX10_cell x2 h) fun z2 h1 => (rec 8 [.ref r0, .ref r1, .int x2, .int z2, .int 4, uV] [] h1))
theorem uX10_mayGo_0 {G : GG} {d : Nat} (hd : 3 ≤ d) (rec : Nat → List Value → List Value → Hp → RS) (hrec : ∀ pc loc st h o h', rec pc loc st h = some (o, h') → V G mX10_mayGo d pc loc st h o h')   {r0  r1  x2 } {h : Hp} {o : OU} {h' : Hp} (e : kX10_mayGo_0 rec  r0 r1 x2 h = some (o, h')) : VM G mX10_mayGo d [.ref r0, .ref r1, .int x2] h o h' := by
  unfold kX10_mayGo_0 at e
  refine eX10_mayGo r0 r1 x2 (by omega) ?_
  obtain ⟨z2, h1, e1, e⟩ := bI_e e
  refine ⟨z2, h1, (tX10_cell e1 (by omega)), ?_⟩
  exact hrec _ _ _ _ _ _ e
def kX10_mayGo_8 (rec : Nat → List Value → List Value → Hp → RS)  (r0 : Nat) (r1 : Nat) (x2 : Int32) (x3 : Int32) (x4 : Int32) (h : Hp) : RS := (if 8 ≤ x4 then (rec 97 [.ref r0, .ref r1, .int x2, .int x3, .int 0, uV] [] h) else (if kH h r1 = 1 then (if inB (x3 + x4) (lH h r1) = true then (if 0 ≤ (h.2 r1 (x3 + x4).toNatClampNeg) then (rec 41 [.ref r0, .ref r1, .int x2, .int x3, .int x4, uV] [] h) else (bI (fX10_ahead r1 x2 (-(h.2 r1 (x3 + x4).toNatClampNeg)) h) fun z6 h5 => (if z6 ≤ 0 then (rec 41 [.ref r0, .ref r1, .int x2, .int x3, .int x4, uV] [] h5) else (some (.inl (some (.int 0)), h5))))) else none) else none))
theorem uX10_mayGo_8 {G : GG} {d : Nat} (hd : 3 ≤ d) (rec : Nat → List Value → List Value → Hp → RS) (hrec : ∀ pc loc st h o h', rec pc loc st h = some (o, h') → V G mX10_mayGo d pc loc st h o h')   {r0  r1  x2  x3  x4 } {h : Hp} {o : OU} {h' : Hp} (e : kX10_mayGo_8 rec  r0 r1 x2 x3 x4 h = some (o, h')) : V G mX10_mayGo d 8 [.ref r0, .ref r1, .int x2, .int x3, .int x4, uV] [] h o h' := by
  unfold kX10_mayGo_8 at e
  refine bX10_mayGo_8 r0 r1 x2 x3 x4 (by omega) ?_
  refine ⟨fun c1 => ?_, fun c1 => ?_⟩
  · have e := if_t e c1
    exact hrec _ _ _ _ _ _ e
  · have e := if_f e c1
    obtain ⟨q2, e⟩ := ob_e e
    refine ⟨q2, ?_⟩
    obtain ⟨q3, e⟩ := ob_in e
    refine ⟨q3, ?_⟩
    refine ⟨fun c4 => ?_, fun c4 => ?_⟩
    · have e := if_t e c4
      exact hrec _ _ _ _ _ _ e
    · have e := if_f e c4
      obtain ⟨z6, h5, e5, e⟩ := bI_e e
      refine ⟨z6, h5, (tX10_ahead e5 (by omega)), ?_⟩
      refine ⟨fun c6 => ?_, fun c6 => ?_⟩
      · have e := if_t e c6
        exact hrec _ _ _ _ _ _ e
      · have e := if_f e c6
        cases e
        exact ⟨rfl, rfl⟩
def kX10_mayGo_41 (rec : Nat → List Value → List Value → Hp → RS)  (r0 : Nat) (r1 : Nat) (x2 : Int32) (x3 : Int32) (x4 : Int32) (h : Hp) : RS := (if kH h r1 = 1 then (if inB (x3 + x4) (lH h r1) = true then (bI (fX10_which r1 (h.2 r1 (x3 + x4).toNatClampNeg) h) fun z4 h3 => (if z4 = (-1) then (rec 8 [.ref r0, .ref r1, .int x2, .int x3, .int (x4 + 1), uV] [] h3) else (bI (fX10_cell z4 h3) fun z8 h7 => (if kH h7 r1 = 1 then (if inB (z8 + 1) (lH h7 r1) = true then (if inB (x3 + 1) (lH h7 r1) = true then (if ¬ (h7.2 r1 (z8 + 1).toNatClampNeg) = (h7.2 r1 (x3 + 1).toNatClampNeg) then (some (.inl (some (.int 0)), h7)) else (if kH h7 r0 = 18 then (if kH h7 (rH h7 r0 27) = 3 then (if inB z4 (lH h7 (rH h7 r0 27)) = true then (if ¬ (h7.2 (rH h7 r0 27) z4.toNatClampNeg) = 0 then (rec 8 [.ref r0, .ref r1, .int x2, .int x3, .int (x4 + 1), uV] [] h7) else (some (.inl (some (.int 0)), h7))) else none) else none) else none)) else none) else none) else none)))) else none) else none)
theorem uX10_mayGo_41 {G : GG} {d : Nat} (hd : 3 ≤ d) (rec : Nat → List Value → List Value → Hp → RS) (hrec : ∀ pc loc st h o h', rec pc loc st h = some (o, h') → V G mX10_mayGo d pc loc st h o h')   {r0  r1  x2  x3  x4 } {h : Hp} {o : OU} {h' : Hp} (e : kX10_mayGo_41 rec  r0 r1 x2 x3 x4 h = some (o, h')) : V G mX10_mayGo d 41 [.ref r0, .ref r1, .int x2, .int x3, .int x4, uV] [] h o h' := by
  unfold kX10_mayGo_41 at e
  refine bX10_mayGo_41 r0 r1 x2 x3 x4 (by omega) ?_
  obtain ⟨q1, e⟩ := ob_e e
  refine ⟨q1, ?_⟩
  obtain ⟨q2, e⟩ := ob_in e
  refine ⟨q2, ?_⟩
  obtain ⟨z4, h3, e3, e⟩ := bI_e e
  refine ⟨z4, h3, (tX10_which e3 (by omega)), ?_⟩
  refine ⟨fun c4 => ?_, fun c4 => ?_⟩
  · have e := if_t e c4
    exact hrec _ _ _ _ _ _ e
  · have e := if_f e c4
    obtain ⟨z8, h7, e5, e⟩ := bI_e e
    refine ⟨z8, h7, (tX10_cell e5 (by omega)), ?_⟩
    obtain ⟨q6, e⟩ := ob_e e
    refine ⟨q6, ?_⟩
    obtain ⟨q7, e⟩ := ob_in e
    refine ⟨q7, ?_⟩
    obtain ⟨q8, e⟩ := ob_in e
    refine ⟨q8, ?_⟩
    refine ⟨fun c9 => ?_, fun c9 => ?_⟩
    · have e := if_t e c9
      cases e
      exact ⟨rfl, rfl⟩
    · have e := if_n e c9
      obtain ⟨q10, e⟩ := ob_e e
      refine ⟨q10, ?_⟩
      obtain ⟨q11, e⟩ := ob_e e
      refine ⟨q11, ?_⟩
      obtain ⟨q12, e⟩ := ob_in e
      refine ⟨q12, ?_⟩
      refine ⟨fun c13 => ?_, fun c13 => ?_⟩
      · have e := if_t e c13
        exact hrec _ _ _ _ _ _ e
      · have e := if_n e c13
        cases e
        exact ⟨rfl, rfl⟩
def kX10_mayGo_97 (rec : Nat → List Value → List Value → Hp → RS)  (r0 : Nat) (r1 : Nat) (x2 : Int32) (x3 : Int32) (x4 : Int32) (h : Hp) : RS := (if x2 ≤ x4 then (some (.inl (some (.int 1)), h)) else (bI (fX10_cell x4 h) fun z3 h2 => (if kH h2 r1 = 1 then (if inB (z3 + 1) (lH h2 r1) = true then (if inB (x3 + 1) (lH h2 r1) = true then (if ¬ (h2.2 r1 (z3 + 1).toNatClampNeg) = (h2.2 r1 (x3 + 1).toNatClampNeg) then (rec 97 [.ref r0, .ref r1, .int x2, .int x3, .int (x4 + 1), uV] [] h2) else (if kH h2 r0 = 18 then (if kH h2 (rH h2 r0 27) = 3 then (if inB x4 (lH h2 (rH h2 r0 27)) = true then (if (h2.2 (rH h2 r0 27) x4.toNatClampNeg) = 0 then (if inB (z3 + 2) (lH h2 r1) = true then (if (h2.2 r1 (z3 + 2).toNatClampNeg) = 16 then (some (.inl (some (.int 0)), h2)) else (bI (fX10_puts r1 x3 (h2.2 r1 (z3 + 2).toNatClampNeg) h2) fun z16 h15 => (if z16 = 0 then (rec 97 [.ref r0, .ref r1, .int x2, .int x3, .int (x4 + 1), uV] [] h15) else (some (.inl (some (.int 0)), h15))))) else none) else (rec 97 [.ref r0, .ref r1, .int x2, .int x3, .int (x4 + 1), uV] [] h2)) else none) else none) else none)) else none) else none) else none)))
theorem uX10_mayGo_97 {G : GG} {d : Nat} (hd : 3 ≤ d) (rec : Nat → List Value → List Value → Hp → RS) (hrec : ∀ pc loc st h o h', rec pc loc st h = some (o, h') → V G mX10_mayGo d pc loc st h o h')   {r0  r1  x2  x3  x4 } {h : Hp} {o : OU} {h' : Hp} (e : kX10_mayGo_97 rec  r0 r1 x2 x3 x4 h = some (o, h')) : V G mX10_mayGo d 97 [.ref r0, .ref r1, .int x2, .int x3, .int x4, uV] [] h o h' := by
  unfold kX10_mayGo_97 at e
  refine bX10_mayGo_97 r0 r1 x2 x3 x4 (by omega) ?_
  refine ⟨fun c1 => ?_, fun c1 => ?_⟩
  · have e := if_t e c1
    cases e
    exact ⟨rfl, rfl⟩
  · have e := if_f e c1
    obtain ⟨z3, h2, e2, e⟩ := bI_e e
    refine ⟨z3, h2, (tX10_cell e2 (by omega)), ?_⟩
    obtain ⟨q3, e⟩ := ob_e e
    refine ⟨q3, ?_⟩
    obtain ⟨q4, e⟩ := ob_in e
    refine ⟨q4, ?_⟩
    obtain ⟨q5, e⟩ := ob_in e
    refine ⟨q5, ?_⟩
    refine ⟨fun c6 => ?_, fun c6 => ?_⟩
    · have e := if_t e c6
      exact hrec _ _ _ _ _ _ e
    · have e := if_n e c6
      obtain ⟨q7, e⟩ := ob_e e
      refine ⟨q7, ?_⟩
      obtain ⟨q8, e⟩ := ob_e e
      refine ⟨q8, ?_⟩
      obtain ⟨q9, e⟩ := ob_in e
      refine ⟨q9, ?_⟩
      refine ⟨fun c10 => ?_, fun c10 => ?_⟩
      · have e := if_t e c10
        obtain ⟨q11, e⟩ := ob_in e
        refine ⟨q11, ?_⟩
        refine ⟨fun c12 => ?_, fun c12 => ?_⟩
        · have e := if_t e c12
          cases e
          exact ⟨rfl, rfl⟩
        · have e := if_f e c12
          obtain ⟨z16, h15, e13, e⟩ := bI_e e
          refine ⟨z16, h15, (tX10_puts e13 (by omega)), ?_⟩
          refine ⟨fun c14 => ?_, fun c14 => ?_⟩
          · have e := if_t e c14
            exact hrec _ _ _ _ _ _ e
          · have e := if_f e c14
            cases e
            exact ⟨rfl, rfl⟩
      · have e := if_f e c10
        exact hrec _ _ _ _ _ _ e
def sX10_mayGo  (rec : Nat → List Value → List Value → Hp → RS) (pc : Nat) (loc st : List Value) (h : Hp) : RS := match pc, loc, st with
  | 8, [.ref r0, .ref r1, .int x2, .int x3, .int x4, _], [] => kX10_mayGo_8 rec  r0 r1 x2 x3 x4 h
  | 41, [.ref r0, .ref r1, .int x2, .int x3, .int x4, _], [] => kX10_mayGo_41 rec  r0 r1 x2 x3 x4 h
  | 97, [.ref r0, .ref r1, .int x2, .int x3, .int x4, _], [] => kX10_mayGo_97 rec  r0 r1 x2 x3 x4 h
  | _, _, _ => none
def gX10_mayGo  : Nat → Nat → List Value → List Value → Hp → RS
  | 0 => fun _ _ _ _ => none
  | n + 1 => sX10_mayGo  (gX10_mayGo  n)
theorem wX10_mayGo {G : GG} {d : Nat} (hd : 3 ≤ d)   : ∀ (n pc : Nat) (loc st : List Value) (h : Hp) (o : OU) (h' : Hp), gX10_mayGo  n pc loc st h = some (o, h') → V G mX10_mayGo d pc loc st h o h' := by
  intro n
  induction n with
  | zero => intro pc loc st h o h' e; cases e
  | succ n ih =>
    intro pc loc st h o h' e
    unfold gX10_mayGo sX10_mayGo at e
    split at e
    · exact V.drop (llp_r (llp_r (llp_r (llp_r (llp_r (llp_u llp_nil)))))) (uX10_mayGo_8 hd _ ih   e)
    · exact V.drop (llp_r (llp_r (llp_r (llp_r (llp_r (llp_u llp_nil)))))) (uX10_mayGo_41 hd _ ih   e)
    · exact V.drop (llp_r (llp_r (llp_r (llp_r (llp_r (llp_u llp_nil)))))) (uX10_mayGo_97 hd _ ih   e)
    · cases e
theorem zX10_mayGo_8  (n : Nat) (r0 : Nat) (r1 : Nat) (x2 : Int32) (x3 : Int32) (x4 : Int32) (y5 : Value) (h : Hp) : gX10_mayGo  (n + 1) 8 [.ref r0, .ref r1, .int x2, .int x3, .int x4, y5] [] h = kX10_mayGo_8 (gX10_mayGo  n)  r0 r1 x2 x3 x4 h := rfl
theorem zX10_mayGo_41  (n : Nat) (r0 : Nat) (r1 : Nat) (x2 : Int32) (x3 : Int32) (x4 : Int32) (y5 : Value) (h : Hp) : gX10_mayGo  (n + 1) 41 [.ref r0, .ref r1, .int x2, .int x3, .int x4, y5] [] h = kX10_mayGo_41 (gX10_mayGo  n)  r0 r1 x2 x3 x4 h := rfl
theorem zX10_mayGo_97  (n : Nat) (r0 : Nat) (r1 : Nat) (x2 : Int32) (x3 : Int32) (x4 : Int32) (y5 : Value) (h : Hp) : gX10_mayGo  (n + 1) 97 [.ref r0, .ref r1, .int x2, .int x3, .int x4, y5] [] h = kX10_mayGo_97 (gX10_mayGo  n)  r0 r1 x2 x3 x4 h := rfl
def fX10_mayGo (r0 : Nat) (r1 : Nat) (x2 : Int32) (h : Hp) : RS := kX10_mayGo_0 (gX10_mayGo FF) r0 r1 x2 h
theorem tX10_mayGo {G : GG} {d : Nat} {r0 r1 x2} {h : Hp} {o : OU} {h' : Hp} (e : fX10_mayGo r0 r1 x2 h = some (o, h')) (hd : 3 ≤ d) : VM G mX10_mayGo d [.ref r0, .ref r1, .int x2] h o h' := uX10_mayGo_0 hd _ (wX10_mayGo hd FF) e
def kX10_wasAt_0  (r0 : Nat) (x1 : Int32) (x2 : Int32) (h : Hp) : RS := (if kH h r0 = 1 then (if inB (x1 + 2) (lH h r0) = true then (if 16 ≤ (h.2 r0 (x1 + 2).toNatClampNeg) then (if inB ((x1 + 8) + (x2 / 4)) (lH h r0) = true then (some (.inl (some (.int (((h.2 r0 ((x1 + 8) + (x2 / 4)).toNatClampNeg) >>> ((8 * (x2 - x2 / 4 * 4)) &&& 31)) &&& 255))), h)) else none) else (if inB (x1 + 8) (lH h r0) = true then (some (.inl (some (.int (h.2 r0 (x1 + 8).toNatClampNeg))), h)) else none)) else none) else none)
theorem uX10_wasAt_0 {G : GG} {d : Nat} (hd : 1 ≤ d)   {r0  x1  x2 } {h : Hp} {o : OU} {h' : Hp} (e : kX10_wasAt_0  r0 x1 x2 h = some (o, h')) : VM G mX10_wasAt d [.ref r0, .int x1, .int x2] h o h' := by
  unfold kX10_wasAt_0 at e
  refine eX10_wasAt r0 x1 x2 ?_
  obtain ⟨q1, e⟩ := ob_e e
  refine ⟨q1, ?_⟩
  obtain ⟨q2, e⟩ := ob_in e
  refine ⟨q2, ?_⟩
  refine ⟨fun c3 => ?_, fun c3 => ?_⟩
  · have e := if_t e c3
    obtain ⟨q4, e⟩ := ob_in e
    refine ⟨q4, ?_⟩
    cases e
    exact ⟨rfl, rfl⟩
  · have e := if_f e c3
    obtain ⟨q5, e⟩ := ob_in e
    refine ⟨q5, ?_⟩
    cases e
    exact ⟨rfl, rfl⟩
def fX10_wasAt (r0 : Nat) (x1 : Int32) (x2 : Int32) (h : Hp) : RS := kX10_wasAt_0 r0 x1 x2 h
theorem tX10_wasAt {G : GG} {d : Nat} {r0 x1 x2} {h : Hp} {o : OU} {h' : Hp} (e : fX10_wasAt r0 x1 x2 h = some (o, h')) (hd : 1 ≤ d) : VM G mX10_wasAt d [.ref r0, .int x1, .int x2] h o h' := uX10_wasAt_0 hd e
def kX10_copiesBlock_0 (rec : Nat → List Value → List Value → Hp → RS)  (r0 : Nat) (r1 : Nat) (x2 : Int32) (h : Hp) : RS := (rec 5 [.ref r0, .ref r1, .int x2, .int 0, .int 0, uV, uV] [] h)
theorem uX10_copiesBlock_0 {G : GG} {d : Nat} (hd : 4 ≤ d) (rec : Nat → List Value → List Value → Hp → RS) (hrec : ∀ pc loc st h o h', rec pc loc st h = some (o, h') → V G mX10_copiesBlock d pc loc st h o h')   {r0  r1  x2 } {h : Hp} {o : OU} {h' : Hp} (e : kX10_copiesBlock_0 rec  r0 r1 x2 h = some (o, h')) : VM G mX10_copiesBlock d [.ref r0, .ref r1, .int x2] h o h' := by
  unfold kX10_copiesBlock_0 at e
  refine eX10_copiesBlock r0 r1 x2 ?_
  exact hrec _ _ _ _ _ _ e
def kX10_copiesBlock_5 (rec : Nat → List Value → List Value → Hp → RS)  (r0 : Nat) (r1 : Nat) (x2 : Int32) (x3 : Int32) (x4 : Int32) (h : Hp) : RS := (if kH h r1 = 1 then (if inB 3392 (lH h r1) = true then (if (h.2 r1 3392) ≤ x4 then (rec 80 [.ref r0, .ref r1, .int x2, .int x3, .int 0, uV, uV] [] h) else (if kH h r0 = 18 then (if kH h (rH h r0 27) = 3 then (if inB x4 (lH h (rH h r0 27)) = true then (bI (fX10_cell x4 (h.1, (upI h.2 (rH h r0 27) x4.toNatClampNeg 0))) fun z8 h7 => (if kH h7 r1 = 1 then (if inB (z8 + 1) (lH h7 r1) = true then (if (h7.2 r1 (z8 + 1).toNatClampNeg) = x2 then (if kH h7 r0 = 18 then (bI (fX10_mayGo r0 r1 x4 h7) fun z15 h14 => (if (z15 = 0 ∨ z15 = 1) then (if kH h14 (rH h7 r0 27) = 3 then (if inB x4 (lH h14 (rH h7 r0 27)) = true then (if kH h14 r0 = 18 then (if kH h14 (rH h14 r0 27) = 3 then (if inB x4 (lH h14 (rH h14 r0 27)) = true then (if ((upI h14.2 (rH h7 r0 27) x4.toNatClampNeg z15) (rH h14 r0 27) x4.toNatClampNeg) = 0 then (rec 5 [.ref r0, .ref r1, .int x2, .int (x3 + 1), .int (x4 + 1), uV, uV] [] (h14.1, (upI h14.2 (rH h7 r0 27) x4.toNatClampNeg z15))) else (rec 5 [.ref r0, .ref r1, .int x2, .int (x3 + 0), .int (x4 + 1), uV, uV] [] (h14.1, (upI h14.2 (rH h7 r0 27) x4.toNatClampNeg z15)))) else none) else none) else none) else none) else none) else none)) else none) else (rec 5 [.ref r0, .ref r1, .int x2, .int x3, .int (x4 + 1), uV, uV] [] h7)) else none) else none)) else none) else none) else none)) else none) else none)
theorem uX10_copiesBlock_5 {G : GG} {d : Nat} (hd : 4 ≤ d) (rec : Nat → List Value → List Value → Hp → RS) (hrec : ∀ pc loc st h o h', rec pc loc st h = some (o, h') → V G mX10_copiesBlock d pc loc st h o h')   {r0  r1  x2  x3  x4 } {h : Hp} {o : OU} {h' : Hp} (e : kX10_copiesBlock_5 rec  r0 r1 x2 x3 x4 h = some (o, h')) : V G mX10_copiesBlock d 5 [.ref r0, .ref r1, .int x2, .int x3, .int x4, uV, uV] [] h o h' := by
  unfold kX10_copiesBlock_5 at e
  refine bX10_copiesBlock_5 r0 r1 x2 x3 x4 (by omega) ?_
  obtain ⟨q1, e⟩ := ob_e e
  refine ⟨q1, ?_⟩
  obtain ⟨q2, e⟩ := ob_in e
  refine ⟨q2, ?_⟩
  refine ⟨fun c3 => ?_, fun c3 => ?_⟩
  · have e := if_t e c3
    exact hrec _ _ _ _ _ _ e
  · have e := if_f e c3
    obtain ⟨q4, e⟩ := ob_e e
    refine ⟨q4, ?_⟩
    obtain ⟨q5, e⟩ := ob_e e
    refine ⟨q5, ?_⟩
    obtain ⟨q6, e⟩ := ob_in e
    refine ⟨q6, ?_⟩
    obtain ⟨z8, h7, e7, e⟩ := bI_e e
    refine ⟨z8, h7, (tX10_cell e7 (by omega)), ?_⟩
    obtain ⟨q8, e⟩ := ob_e e
    refine ⟨q8, ?_⟩
    obtain ⟨q9, e⟩ := ob_in e
    refine ⟨q9, ?_⟩
    refine ⟨fun c10 => ?_, fun c10 => ?_⟩
    · have e := if_t e c10
      obtain ⟨q11, e⟩ := ob_e e
      refine ⟨q11, ?_⟩
      obtain ⟨z15, h14, e12, e⟩ := bI_e e
      refine ⟨z15, h14, (tX10_mayGo e12 (by omega)), ?_⟩
      obtain ⟨q13, e⟩ := ob_e e
      refine ⟨q13, ?_⟩
      obtain ⟨q14, e⟩ := ob_e e
      refine ⟨q14, ?_⟩
      obtain ⟨q15, e⟩ := ob_in e
      refine ⟨q15, ?_⟩
      obtain ⟨q16, e⟩ := ob_e e
      refine ⟨q16, ?_⟩
      obtain ⟨q17, e⟩ := ob_e e
      refine ⟨q17, ?_⟩
      obtain ⟨q18, e⟩ := ob_in e
      refine ⟨q18, ?_⟩
      refine ⟨fun c19 => ?_, fun c19 => ?_⟩
      · have e := if_t e c19
        exact hrec _ _ _ _ _ _ e
      · have e := if_f e c19
        exact hrec _ _ _ _ _ _ e
    · have e := if_f e c10
      exact hrec _ _ _ _ _ _ e
def kX10_copiesBlock_80 (rec : Nat → List Value → List Value → Hp → RS)  (r0 : Nat) (r1 : Nat) (x2 : Int32) (x3 : Int32) (x4 : Int32) (h : Hp) : RS := (if 16 ≤ x4 then (if kH h r1 = 1 then (if inB 3392 (lH h r1) = true then (rec 120 [.ref r0, .ref r1, .int x2, .int x3, .int ((h.2 r1 3392) - 1), uV, uV] [] h) else none) else none) else (if kH h r0 = 18 then (if kH h r1 = 1 then (if inB ((0 + (16 * x2)) + x4) (lH h r1) = true then (if kH h (rH h r0 28) = 1 then (if inB x4 (lH h (rH h r0 28)) = true then (rec 80 [.ref r0, .ref r1, .int x2, .int x3, .int (x4 + 1), uV, uV] [] (h.1, (upI h.2 (rH h r0 28) x4.toNatClampNeg (h.2 r1 ((0 + (16 * x2)) + x4).toNatClampNeg)))) else none) else none) else none) else none) else none))
theorem uX10_copiesBlock_80 {G : GG} {d : Nat} (hd : 4 ≤ d) (rec : Nat → List Value → List Value → Hp → RS) (hrec : ∀ pc loc st h o h', rec pc loc st h = some (o, h') → V G mX10_copiesBlock d pc loc st h o h')   {r0  r1  x2  x3  x4 } {h : Hp} {o : OU} {h' : Hp} (e : kX10_copiesBlock_80 rec  r0 r1 x2 x3 x4 h = some (o, h')) : V G mX10_copiesBlock d 80 [.ref r0, .ref r1, .int x2, .int x3, .int x4, uV, uV] [] h o h' := by
  unfold kX10_copiesBlock_80 at e
  refine bX10_copiesBlock_80 r0 r1 x2 x3 x4 ?_
  refine ⟨fun c1 => ?_, fun c1 => ?_⟩
  · have e := if_t e c1
    obtain ⟨q2, e⟩ := ob_e e
    refine ⟨q2, ?_⟩
    obtain ⟨q3, e⟩ := ob_in e
    refine ⟨q3, ?_⟩
    exact hrec _ _ _ _ _ _ e
  · have e := if_f e c1
    obtain ⟨q4, e⟩ := ob_e e
    refine ⟨q4, ?_⟩
    obtain ⟨q5, e⟩ := ob_e e
    refine ⟨q5, ?_⟩
    obtain ⟨q6, e⟩ := ob_in e
    refine ⟨q6, ?_⟩
    obtain ⟨q7, e⟩ := ob_e e
    refine ⟨q7, ?_⟩
    obtain ⟨q8, e⟩ := ob_in e
    refine ⟨q8, ?_⟩
    exact hrec _ _ _ _ _ _ e
def kX10_copiesBlock_120 (rec : Nat → List Value → List Value → Hp → RS)  (r0 : Nat) (r1 : Nat) (x2 : Int32) (x3 : Int32) (x4 : Int32) (h : Hp) : RS := (if x4 < 0 then (some (.inl (some (.int x3)), h)) else (bI (fX10_cell x4 h) fun z3 h2 => (if kH h2 r1 = 1 then (if inB (z3 + 1) (lH h2 r1) = true then (if ¬ (h2.2 r1 (z3 + 1).toNatClampNeg) = x2 then (rec 120 [.ref r0, .ref r1, .int x2, .int x3, .int (x4 + (-1)), uV, uV] [] h2) else (if kH h2 r0 = 18 then (if kH h2 (rH h2 r0 27) = 3 then (if inB x4 (lH h2 (rH h2 r0 27)) = true then (if (h2.2 (rH h2 r0 27) x4.toNatClampNeg) = 0 then (rec 158 [.ref r0, .ref r1, .int x2, .int x3, .int x4, .int z3, .int 0] [] h2) else (rec 120 [.ref r0, .ref r1, .int x2, .int x3, .int (x4 + (-1)), uV, uV] [] h2)) else none) else none) else none)) else none) else none)))
theorem uX10_copiesBlock_120 {G : GG} {d : Nat} (hd : 4 ≤ d) (rec : Nat → List Value → List Value → Hp → RS) (hrec : ∀ pc loc st h o h', rec pc loc st h = some (o, h') → V G mX10_copiesBlock d pc loc st h o h')   {r0  r1  x2  x3  x4 } {h : Hp} {o : OU} {h' : Hp} (e : kX10_copiesBlock_120 rec  r0 r1 x2 x3 x4 h = some (o, h')) : V G mX10_copiesBlock d 120 [.ref r0, .ref r1, .int x2, .int x3, .int x4, uV, uV] [] h o h' := by
  unfold kX10_copiesBlock_120 at e
  refine bX10_copiesBlock_120 r0 r1 x2 x3 x4 (by omega) ?_
  refine ⟨fun c1 => ?_, fun c1 => ?_⟩
  · have e := if_t e c1
    cases e
    exact ⟨rfl, rfl⟩
  · have e := if_f e c1
    obtain ⟨z3, h2, e2, e⟩ := bI_e e
    refine ⟨z3, h2, (tX10_cell e2 (by omega)), ?_⟩
    obtain ⟨q3, e⟩ := ob_e e
    refine ⟨q3, ?_⟩
    obtain ⟨q4, e⟩ := ob_in e
    refine ⟨q4, ?_⟩
    refine ⟨fun c5 => ?_, fun c5 => ?_⟩
    · have e := if_t e c5
      exact hrec _ _ _ _ _ _ e
    · have e := if_n e c5
      obtain ⟨q6, e⟩ := ob_e e
      refine ⟨q6, ?_⟩
      obtain ⟨q7, e⟩ := ob_e e
      refine ⟨q7, ?_⟩
      obtain ⟨q8, e⟩ := ob_in e
      refine ⟨q8, ?_⟩
      refine ⟨fun c9 => ?_, fun c9 => ?_⟩
      · have e := if_t e c9
        exact hrec _ _ _ _ _ _ e
      · have e := if_f e c9
        exact hrec _ _ _ _ _ _ e
def kX10_copiesBlock_158 (rec : Nat → List Value → List Value → Hp → RS)  (r0 : Nat) (r1 : Nat) (x2 : Int32) (x3 : Int32) (x4 : Int32) (x5 : Int32) (x6 : Int32) (h : Hp) : RS := (if 16 ≤ x6 then (rec 120 [.ref r0, .ref r1, .int x2, .int x3, .int (x4 + (-1)), uV, uV] [] h) else (if kH h r0 = 18 then (bI (fX10_puts r1 x5 x6 h) fun z4 h3 => (if z4 = 0 then (if kH h3 r0 = 18 then (if kH h3 (rH h3 r0 28) = 1 then (if inB x6 (lH h3 (rH h3 r0 28)) = true then (if kH h3 (rH h r0 28) = 1 then (if inB x6 (lH h3 (rH h r0 28)) = true then (rec 158 [.ref r0, .ref r1, .int x2, .int x3, .int x4, .int x5, .int (x6 + 1)] [] (h3.1, (upI h3.2 (rH h r0 28) x6.toNatClampNeg (h3.2 (rH h3 r0 28) x6.toNatClampNeg)))) else none) else none) else none) else none) else none) else (bI (fX10_wasAt r1 x5 x6 h3) fun z13 h12 => (if kH h12 (rH h r0 28) = 1 then (if inB x6 (lH h12 (rH h r0 28)) = true then (rec 158 [.ref r0, .ref r1, .int x2, .int x3, .int x4, .int x5, .int (x6 + 1)] [] (h12.1, (upI h12.2 (rH h r0 28) x6.toNatClampNeg z13))) else none) else none)))) else none))
theorem uX10_copiesBlock_158 {G : GG} {d : Nat} (hd : 4 ≤ d) (rec : Nat → List Value → List Value → Hp → RS) (hrec : ∀ pc loc st h o h', rec pc loc st h = some (o, h') → V G mX10_copiesBlock d pc loc st h o h')   {r0  r1  x2  x3  x4  x5  x6 } {h : Hp} {o : OU} {h' : Hp} (e : kX10_copiesBlock_158 rec  r0 r1 x2 x3 x4 x5 x6 h = some (o, h')) : V G mX10_copiesBlock d 158 [.ref r0, .ref r1, .int x2, .int x3, .int x4, .int x5, .int x6] [] h o h' := by
  unfold kX10_copiesBlock_158 at e
  refine bX10_copiesBlock_158 r0 r1 x2 x3 x4 x5 x6 (by omega) ?_
  refine ⟨fun c1 => ?_, fun c1 => ?_⟩
  · have e := if_t e c1
    exact hrec _ _ _ _ _ _ e
  · have e := if_f e c1
    obtain ⟨q2, e⟩ := ob_e e
    refine ⟨q2, ?_⟩
    obtain ⟨z4, h3, e3, e⟩ := bI_e e
    refine ⟨z4, h3, (tX10_puts e3 (by omega)), ?_⟩
    refine ⟨fun c4 => ?_, fun c4 => ?_⟩
    · have e := if_t e c4
      obtain ⟨q5, e⟩ := ob_e e
      refine ⟨q5, ?_⟩
      obtain ⟨q6, e⟩ := ob_e e
      refine ⟨q6, ?_⟩
      obtain ⟨q7, e⟩ := ob_in e
      refine ⟨q7, ?_⟩
      obtain ⟨q8, e⟩ := ob_e e
      refine ⟨q8, ?_⟩
      obtain ⟨q9, e⟩ := ob_in e
      refine ⟨q9, ?_⟩
      exact hrec _ _ _ _ _ _ e
    · have e := if_f e c4
      obtain ⟨z13, h12, e10, e⟩ := bI_e e
      refine ⟨z13, h12, (tX10_wasAt e10 (by omega)), ?_⟩
      obtain ⟨q11, e⟩ := ob_e e
      refine ⟨q11, ?_⟩
      obtain ⟨q12, e⟩ := ob_in e
      refine ⟨q12, ?_⟩
      exact hrec _ _ _ _ _ _ e
def sX10_copiesBlock  (rec : Nat → List Value → List Value → Hp → RS) (pc : Nat) (loc st : List Value) (h : Hp) : RS := match pc, loc, st with
  | 5, [.ref r0, .ref r1, .int x2, .int x3, .int x4, _, _], [] => kX10_copiesBlock_5 rec  r0 r1 x2 x3 x4 h
  | 80, [.ref r0, .ref r1, .int x2, .int x3, .int x4, _, _], [] => kX10_copiesBlock_80 rec  r0 r1 x2 x3 x4 h
  | 120, [.ref r0, .ref r1, .int x2, .int x3, .int x4, _, _], [] => kX10_copiesBlock_120 rec  r0 r1 x2 x3 x4 h
  | 158, [.ref r0, .ref r1, .int x2, .int x3, .int x4, .int x5, .int x6], [] => kX10_copiesBlock_158 rec  r0 r1 x2 x3 x4 x5 x6 h
  | _, _, _ => none
def gX10_copiesBlock  : Nat → Nat → List Value → List Value → Hp → RS
  | 0 => fun _ _ _ _ => none
  | n + 1 => sX10_copiesBlock  (gX10_copiesBlock  n)
theorem wX10_copiesBlock {G : GG} {d : Nat} (hd : 4 ≤ d)   : ∀ (n pc : Nat) (loc st : List Value) (h : Hp) (o : OU) (h' : Hp), gX10_copiesBlock  n pc loc st h = some (o, h') → V G mX10_copiesBlock d pc loc st h o h' := by
  intro n
  induction n with
  | zero => intro pc loc st h o h' e; cases e
  | succ n ih =>
    intro pc loc st h o h' e
    unfold gX10_copiesBlock sX10_copiesBlock at e
    split at e
    · exact V.drop (llp_r (llp_r (llp_r (llp_r (llp_r (llp_u (llp_u llp_nil))))))) (uX10_copiesBlock_5 hd _ ih   e)
    · exact V.drop (llp_r (llp_r (llp_r (llp_r (llp_r (llp_u (llp_u llp_nil))))))) (uX10_copiesBlock_80 hd _ ih   e)
    · exact V.drop (llp_r (llp_r (llp_r (llp_r (llp_r (llp_u (llp_u llp_nil))))))) (uX10_copiesBlock_120 hd _ ih   e)
    · exact uX10_copiesBlock_158 hd _ ih   e
    · cases e
theorem zX10_copiesBlock_5  (n : Nat) (r0 : Nat) (r1 : Nat) (x2 : Int32) (x3 : Int32) (x4 : Int32) (y5 : Value) (y6 : Value) (h : Hp) : gX10_copiesBlock  (n + 1) 5 [.ref r0, .ref r1, .int x2, .int x3, .int x4, y5, y6] [] h = kX10_copiesBlock_5 (gX10_copiesBlock  n)  r0 r1 x2 x3 x4 h := rfl
theorem zX10_copiesBlock_80  (n : Nat) (r0 : Nat) (r1 : Nat) (x2 : Int32) (x3 : Int32) (x4 : Int32) (y5 : Value) (y6 : Value) (h : Hp) : gX10_copiesBlock  (n + 1) 80 [.ref r0, .ref r1, .int x2, .int x3, .int x4, y5, y6] [] h = kX10_copiesBlock_80 (gX10_copiesBlock  n)  r0 r1 x2 x3 x4 h := rfl
theorem zX10_copiesBlock_120  (n : Nat) (r0 : Nat) (r1 : Nat) (x2 : Int32) (x3 : Int32) (x4 : Int32) (y5 : Value) (y6 : Value) (h : Hp) : gX10_copiesBlock  (n + 1) 120 [.ref r0, .ref r1, .int x2, .int x3, .int x4, y5, y6] [] h = kX10_copiesBlock_120 (gX10_copiesBlock  n)  r0 r1 x2 x3 x4 h := rfl
theorem zX10_copiesBlock_158  (n : Nat) (r0 : Nat) (r1 : Nat) (x2 : Int32) (x3 : Int32) (x4 : Int32) (x5 : Int32) (x6 : Int32)  (h : Hp) : gX10_copiesBlock  (n + 1) 158 [.ref r0, .ref r1, .int x2, .int x3, .int x4, .int x5, .int x6] [] h = kX10_copiesBlock_158 (gX10_copiesBlock  n)  r0 r1 x2 x3 x4 x5 x6 h := rfl
def fX10_copiesBlock (r0 : Nat) (r1 : Nat) (x2 : Int32) (h : Hp) : RS := kX10_copiesBlock_0 (gX10_copiesBlock FF) r0 r1 x2 h
theorem tX10_copiesBlock {G : GG} {d : Nat} {r0 r1 x2} {h : Hp} {o : OU} {h' : Hp} (e : fX10_copiesBlock r0 r1 x2 h = some (o, h')) (hd : 4 ≤ d) : VM G mX10_copiesBlock d [.ref r0, .ref r1, .int x2] h o h' := uX10_copiesBlock_0 hd _ (wX10_copiesBlock hd FF) e
def kX10_leavesOut_0 (rec : Nat → List Value → List Value → Hp → RS)  (r0 : Nat) (r1 : Nat) (h : Hp) : RS := (if kH h r0 = 18 then (rec 9 [.ref r0, .ref r1, .int 0, .int 0, uV] [] (h.1, (upI h.2 r0 30 0))) else none)
theorem uX10_leavesOut_0 {G : GG} {d : Nat} (hd : 2 ≤ d) (rec : Nat → List Value → List Value → Hp → RS) (hrec : ∀ pc loc st h o h', rec pc loc st h = some (o, h') → V G mX10_leavesOut d pc loc st h o h')   {r0  r1 } {h : Hp} {o : OU} {h' : Hp} (e : kX10_leavesOut_0 rec  r0 r1 h = some (o, h')) : VM G mX10_leavesOut d [.ref r0, .ref r1] h o h' := by
  unfold kX10_leavesOut_0 at e
  refine eX10_leavesOut r0 r1 ?_
  obtain ⟨q1, e⟩ := ob_e e
  refine ⟨q1, ?_⟩
  exact hrec _ _ _ _ _ _ e
def kX10_leavesOut_9 (rec : Nat → List Value → List Value → Hp → RS)  (r0 : Nat) (r1 : Nat) (x2 : Int32) (x3 : Int32) (h : Hp) : RS := (if kH h r1 = 1 then (if inB 3392 (lH h r1) = true then (if (h.2 r1 3392) ≤ x3 then (some (.inl none, (h.1, (upI h.2 r1 3392 x2)))) else (if kH h r0 = 18 then (if kH h (rH h r0 27) = 3 then (if inB x3 (lH h (rH h r0 27)) = true then (if (h.2 (rH h r0 27) x3.toNatClampNeg) = 0 then (rec 58 [.ref r0, .ref r1, .int x2, .int x3, .int 0] [] h) else (bI (fX10_cell x3 h) fun z9 h8 => (if kH h8 r1 = 1 then (if inB z9 (lH h8 r1) = true then (if kH h8 (rH h r0 29) = 1 then (if inB (h.2 r0 30) (lH h8 (rH h r0 29)) = true then (if kH h8 r0 = 18 then (letH (upI (upI h8.2 (rH h r0 29) (h.2 r0 30).toNatClampNeg (h8.2 r1 z9.toNatClampNeg)) r0 30 (((upI h8.2 (rH h r0 29) (h.2 r0 30).toNatClampNeg (h8.2 r1 z9.toNatClampNeg)) r0 30) + 1)) fun (i16 : Nat → Nat → Int32) => (rec 9 [.ref r0, .ref r1, .int x2, .int (x3 + 1), uV] [] (h8.1, i16))) else none) else none) else none) else none) else none))) else none) else none) else none)) else none) else none)
theorem uX10_leavesOut_9 {G : GG} {d : Nat} (hd : 2 ≤ d) (rec : Nat → List Value → List Value → Hp → RS) (hrec : ∀ pc loc st h o h', rec pc loc st h = some (o, h') → V G mX10_leavesOut d pc loc st h o h')   {r0  r1  x2  x3 } {h : Hp} {o : OU} {h' : Hp} (e : kX10_leavesOut_9 rec  r0 r1 x2 x3 h = some (o, h')) : V G mX10_leavesOut d 9 [.ref r0, .ref r1, .int x2, .int x3, uV] [] h o h' := by
  unfold kX10_leavesOut_9 at e
  refine bX10_leavesOut_9 r0 r1 x2 x3 (by omega) ?_
  obtain ⟨q1, e⟩ := ob_e e
  refine ⟨q1, ?_⟩
  obtain ⟨q2, e⟩ := ob_in e
  refine ⟨q2, ?_⟩
  refine ⟨fun c3 => ?_, fun c3 => ?_⟩
  · have e := if_t e c3
    cases e
    exact ⟨rfl, rfl⟩
  · have e := if_f e c3
    obtain ⟨q4, e⟩ := ob_e e
    refine ⟨q4, ?_⟩
    obtain ⟨q5, e⟩ := ob_e e
    refine ⟨q5, ?_⟩
    obtain ⟨q6, e⟩ := ob_in e
    refine ⟨q6, ?_⟩
    refine ⟨fun c7 => ?_, fun c7 => ?_⟩
    · have e := if_t e c7
      exact hrec _ _ _ _ _ _ e
    · have e := if_f e c7
      obtain ⟨z9, h8, e8, e⟩ := bI_e e
      refine ⟨z9, h8, (tX10_cell e8 (by omega)), ?_⟩
      obtain ⟨q9, e⟩ := ob_e e
      refine ⟨q9, ?_⟩
      obtain ⟨q10, e⟩ := ob_in e
      refine ⟨q10, ?_⟩
      obtain ⟨q11, e⟩ := ob_e e
      refine ⟨q11, ?_⟩
      obtain ⟨q12, e⟩ := ob_in e
      refine ⟨q12, ?_⟩
      obtain ⟨q13, e⟩ := ob_e e
      refine ⟨q13, ?_⟩
      intro i16 evi16
      have e := lt_e evi16 e
      exact hrec _ _ _ _ _ _ e
def kX10_leavesOut_58 (rec : Nat → List Value → List Value → Hp → RS)  (r0 : Nat) (r1 : Nat) (x2 : Int32) (x3 : Int32) (x4 : Int32) (h : Hp) : RS := (if 12 ≤ x4 then (rec 9 [.ref r0, .ref r1, .int (x2 + 1), .int (x3 + 1), uV] [] h) else (bI (fX10_cell x2 h) fun z3 h2 => (bI (fX10_cell x3 h2) fun z6 h5 => (if kH h5 r1 = 1 then (if inB (z6 + x4) (lH h5 r1) = true then (if inB (z3 + x4) (lH h5 r1) = true then (rec 58 [.ref r0, .ref r1, .int x2, .int x3, .int (x4 + 1)] [] (h5.1, (upI h5.2 r1 (z3 + x4).toNatClampNeg (h5.2 r1 (z6 + x4).toNatClampNeg)))) else none) else none) else none))))
theorem uX10_leavesOut_58 {G : GG} {d : Nat} (hd : 2 ≤ d) (rec : Nat → List Value → List Value → Hp → RS) (hrec : ∀ pc loc st h o h', rec pc loc st h = some (o, h') → V G mX10_leavesOut d pc loc st h o h')   {r0  r1  x2  x3  x4 } {h : Hp} {o : OU} {h' : Hp} (e : kX10_leavesOut_58 rec  r0 r1 x2 x3 x4 h = some (o, h')) : V G mX10_leavesOut d 58 [.ref r0, .ref r1, .int x2, .int x3, .int x4] [] h o h' := by
  unfold kX10_leavesOut_58 at e
  refine bX10_leavesOut_58 r0 r1 x2 x3 x4 (by omega) ?_
  refine ⟨fun c1 => ?_, fun c1 => ?_⟩
  · have e := if_t e c1
    exact hrec _ _ _ _ _ _ e
  · have e := if_f e c1
    obtain ⟨z3, h2, e2, e⟩ := bI_e e
    refine ⟨z3, h2, (tX10_cell e2 (by omega)), ?_⟩
    obtain ⟨z6, h5, e3, e⟩ := bI_e e
    refine ⟨z6, h5, (tX10_cell e3 (by omega)), ?_⟩
    obtain ⟨q4, e⟩ := ob_e e
    refine ⟨q4, ?_⟩
    obtain ⟨q5, e⟩ := ob_in e
    refine ⟨q5, ?_⟩
    obtain ⟨q6, e⟩ := ob_in e
    refine ⟨q6, ?_⟩
    exact hrec _ _ _ _ _ _ e
def sX10_leavesOut  (rec : Nat → List Value → List Value → Hp → RS) (pc : Nat) (loc st : List Value) (h : Hp) : RS := match pc, loc, st with
  | 9, [.ref r0, .ref r1, .int x2, .int x3, _], [] => kX10_leavesOut_9 rec  r0 r1 x2 x3 h
  | 58, [.ref r0, .ref r1, .int x2, .int x3, .int x4], [] => kX10_leavesOut_58 rec  r0 r1 x2 x3 x4 h
  | _, _, _ => none
def gX10_leavesOut  : Nat → Nat → List Value → List Value → Hp → RS
  | 0 => fun _ _ _ _ => none
  | n + 1 => sX10_leavesOut  (gX10_leavesOut  n)
theorem wX10_leavesOut {G : GG} {d : Nat} (hd : 2 ≤ d)   : ∀ (n pc : Nat) (loc st : List Value) (h : Hp) (o : OU) (h' : Hp), gX10_leavesOut  n pc loc st h = some (o, h') → V G mX10_leavesOut d pc loc st h o h' := by
  intro n
  induction n with
  | zero => intro pc loc st h o h' e; cases e
  | succ n ih =>
    intro pc loc st h o h' e
    unfold gX10_leavesOut sX10_leavesOut at e
    split at e
    · exact V.drop (llp_r (llp_r (llp_r (llp_r (llp_u llp_nil))))) (uX10_leavesOut_9 hd _ ih   e)
    · exact uX10_leavesOut_58 hd _ ih   e
    · cases e
theorem zX10_leavesOut_9  (n : Nat) (r0 : Nat) (r1 : Nat) (x2 : Int32) (x3 : Int32) (y4 : Value) (h : Hp) : gX10_leavesOut  (n + 1) 9 [.ref r0, .ref r1, .int x2, .int x3, y4] [] h = kX10_leavesOut_9 (gX10_leavesOut  n)  r0 r1 x2 x3 h := rfl
theorem zX10_leavesOut_58  (n : Nat) (r0 : Nat) (r1 : Nat) (x2 : Int32) (x3 : Int32) (x4 : Int32)  (h : Hp) : gX10_leavesOut  (n + 1) 58 [.ref r0, .ref r1, .int x2, .int x3, .int x4] [] h = kX10_leavesOut_58 (gX10_leavesOut  n)  r0 r1 x2 x3 x4 h := rfl
def fX10_leavesOut (r0 : Nat) (r1 : Nat) (h : Hp) : RS := kX10_leavesOut_0 (gX10_leavesOut FF) r0 r1 h
theorem tX10_leavesOut {G : GG} {d : Nat} {r0 r1} {h : Hp} {o : OU} {h' : Hp} (e : fX10_leavesOut r0 r1 h = some (o, h')) (hd : 2 ≤ d) : VM G mX10_leavesOut d [.ref r0, .ref r1] h o h' := uX10_leavesOut_0 hd _ (wX10_leavesOut hd FF) e
def kX10_isGone_0 (rec : Nat → List Value → List Value → Hp → RS)  (r0 : Nat) (x1 : Int32) (h : Hp) : RS := (rec 2 [.ref r0, .int x1, .int 0] [] h)
theorem uX10_isGone_0 {G : GG} {d : Nat} (hd : 1 ≤ d) (rec : Nat → List Value → List Value → Hp → RS) (hrec : ∀ pc loc st h o h', rec pc loc st h = some (o, h') → V G mX10_isGone d pc loc st h o h')   {r0  x1 } {h : Hp} {o : OU} {h' : Hp} (e : kX10_isGone_0 rec  r0 x1 h = some (o, h')) : VM G mX10_isGone d [.ref r0, .int x1] h o h' := by
  unfold kX10_isGone_0 at e
  refine eX10_isGone r0 x1 ?_
  exact hrec _ _ _ _ _ _ e
def kX10_isGone_2 (rec : Nat → List Value → List Value → Hp → RS)  (r0 : Nat) (x1 : Int32) (x2 : Int32) (h : Hp) : RS := (if kH h r0 = 18 then (if (h.2 r0 30) ≤ x2 then (some (.inl (some (.int 0)), h)) else (if kH h (rH h r0 29) = 1 then (if inB x2 (lH h (rH h r0 29)) = true then (if ¬ (h.2 (rH h r0 29) x2.toNatClampNeg) = x1 then (rec 2 [.ref r0, .int x1, .int (x2 + 1)] [] h) else (some (.inl (some (.int 1)), h))) else none) else none)) else none)
theorem uX10_isGone_2 {G : GG} {d : Nat} (hd : 1 ≤ d) (rec : Nat → List Value → List Value → Hp → RS) (hrec : ∀ pc loc st h o h', rec pc loc st h = some (o, h') → V G mX10_isGone d pc loc st h o h')   {r0  x1  x2 } {h : Hp} {o : OU} {h' : Hp} (e : kX10_isGone_2 rec  r0 x1 x2 h = some (o, h')) : V G mX10_isGone d 2 [.ref r0, .int x1, .int x2] [] h o h' := by
  unfold kX10_isGone_2 at e
  refine bX10_isGone_2 r0 x1 x2 ?_
  obtain ⟨q1, e⟩ := ob_e e
  refine ⟨q1, ?_⟩
  refine ⟨fun c2 => ?_, fun c2 => ?_⟩
  · have e := if_t e c2
    cases e
    exact ⟨rfl, rfl⟩
  · have e := if_f e c2
    obtain ⟨q3, e⟩ := ob_e e
    refine ⟨q3, ?_⟩
    obtain ⟨q4, e⟩ := ob_in e
    refine ⟨q4, ?_⟩
    refine ⟨fun c5 => ?_, fun c5 => ?_⟩
    · have e := if_t e c5
      exact hrec _ _ _ _ _ _ e
    · have e := if_n e c5
      cases e
      exact ⟨rfl, rfl⟩
def sX10_isGone  (rec : Nat → List Value → List Value → Hp → RS) (pc : Nat) (loc st : List Value) (h : Hp) : RS := match pc, loc, st with
  | 2, [.ref r0, .int x1, .int x2], [] => kX10_isGone_2 rec  r0 x1 x2 h
  | _, _, _ => none
def gX10_isGone  : Nat → Nat → List Value → List Value → Hp → RS
  | 0 => fun _ _ _ _ => none
  | n + 1 => sX10_isGone  (gX10_isGone  n)
theorem wX10_isGone {G : GG} {d : Nat} (hd : 1 ≤ d)   : ∀ (n pc : Nat) (loc st : List Value) (h : Hp) (o : OU) (h' : Hp), gX10_isGone  n pc loc st h = some (o, h') → V G mX10_isGone d pc loc st h o h' := by
  intro n
  induction n with
  | zero => intro pc loc st h o h' e; cases e
  | succ n ih =>
    intro pc loc st h o h' e
    unfold gX10_isGone sX10_isGone at e
    split at e
    · exact uX10_isGone_2 hd _ ih   e
    · cases e
theorem zX10_isGone_2  (n : Nat) (r0 : Nat) (x1 : Int32) (x2 : Int32)  (h : Hp) : gX10_isGone  (n + 1) 2 [.ref r0, .int x1, .int x2] [] h = kX10_isGone_2 (gX10_isGone  n)  r0 x1 x2 h := rfl
def fX10_isGone (r0 : Nat) (x1 : Int32) (h : Hp) : RS := kX10_isGone_0 (gX10_isGone FF) r0 x1 h
theorem tX10_isGone {G : GG} {d : Nat} {r0 x1} {h : Hp} {o : OU} {h' : Hp} (e : fX10_isGone r0 x1 h = some (o, h')) (hd : 1 ≤ d) : VM G mX10_isGone d [.ref r0, .int x1] h o h' := uX10_isGone_0 hd _ (wX10_isGone hd FF) e
def kX10_empties_0 (rec : Nat → List Value → List Value → Hp → RS)  (r0 : Nat) (x1 : Int32) (h : Hp) : RS := (bI (fX10_field r0 x1 1 0 0 0 h) fun z2 h1 => (rec 12 [.ref r0, .int x1, .int 2, uV] [] h1))
theorem uX10_empties_0 {G : GG} {d : Nat} (hd : 4 ≤ d) (rec : Nat → List Value → List Value → Hp → RS) (hrec : ∀ pc loc st h o h', rec pc loc st h = some (o, h') → V G mX10_empties d pc loc st h o h')   {r0  x1 } {h : Hp} {o : OU} {h' : Hp} (e : kX10_empties_0 rec  r0 x1 h = some (o, h')) : VM G mX10_empties d [.ref r0, .int x1] h o h' := by
  unfold kX10_empties_0 at e
  refine eX10_empties r0 x1 (by omega) ?_
  obtain ⟨z2, h1, e1, e⟩ := bI_e e
  refine ⟨z2, h1, (tX10_field e1 (by omega)), ?_⟩
  exact hrec _ _ _ _ _ _ e
def kX10_empties_12 (rec : Nat → List Value → List Value → Hp → RS)  (r0 : Nat) (x1 : Int32) (x2 : Int32) (h : Hp) : RS := (if 3 < x2 then (some (.inl none, h)) else (bI (fX10_fieldOf r0 0 x1 x2 h) fun z3 h2 => (if z3 = 0 then (rec 12 [.ref r0, .int x1, .int (x2 + 1), uV] [] h2) else (bI (fX10_field r0 x1 x2 0 0 0 h2) fun z7 h6 => (bV (fX10_putsOff r0 0 z3 z7 h6) fun h9 => (rec 12 [.ref r0, .int x1, .int (x2 + 1), uV] [] h9))))))
theorem uX10_empties_12 {G : GG} {d : Nat} (hd : 4 ≤ d) (rec : Nat → List Value → List Value → Hp → RS) (hrec : ∀ pc loc st h o h', rec pc loc st h = some (o, h') → V G mX10_empties d pc loc st h o h')   {r0  x1  x2 } {h : Hp} {o : OU} {h' : Hp} (e : kX10_empties_12 rec  r0 x1 x2 h = some (o, h')) : V G mX10_empties d 12 [.ref r0, .int x1, .int x2, uV] [] h o h' := by
  unfold kX10_empties_12 at e
  refine bX10_empties_12 r0 x1 x2 (by omega) ?_
  refine ⟨fun c1 => ?_, fun c1 => ?_⟩
  · have e := if_t e c1
    cases e
    exact ⟨rfl, rfl⟩
  · have e := if_f e c1
    obtain ⟨z3, h2, e2, e⟩ := bI_e e
    refine ⟨z3, h2, (tX10_fieldOf e2 (by omega)), ?_⟩
    refine ⟨fun c3 => ?_, fun c3 => ?_⟩
    · have e := if_t e c3
      exact hrec _ _ _ _ _ _ e
    · have e := if_f e c3
      obtain ⟨z7, h6, e4, e⟩ := bI_e e
      refine ⟨z7, h6, (tX10_field e4 (by omega)), ?_⟩
      obtain ⟨h9, e5, e⟩ := bV_e e
      refine ⟨h9, (tX10_putsOff e5 (by omega)), ?_⟩
      exact hrec _ _ _ _ _ _ e
def sX10_empties  (rec : Nat → List Value → List Value → Hp → RS) (pc : Nat) (loc st : List Value) (h : Hp) : RS := match pc, loc, st with
  | 12, [.ref r0, .int x1, .int x2, _], [] => kX10_empties_12 rec  r0 x1 x2 h
  | _, _, _ => none
def gX10_empties  : Nat → Nat → List Value → List Value → Hp → RS
  | 0 => fun _ _ _ _ => none
  | n + 1 => sX10_empties  (gX10_empties  n)
theorem wX10_empties {G : GG} {d : Nat} (hd : 4 ≤ d)   : ∀ (n pc : Nat) (loc st : List Value) (h : Hp) (o : OU) (h' : Hp), gX10_empties  n pc loc st h = some (o, h') → V G mX10_empties d pc loc st h o h' := by
  intro n
  induction n with
  | zero => intro pc loc st h o h' e; cases e
  | succ n ih =>
    intro pc loc st h o h' e
    unfold gX10_empties sX10_empties at e
    split at e
    · exact V.drop (llp_r (llp_r (llp_r (llp_u llp_nil)))) (uX10_empties_12 hd _ ih   e)
    · cases e
theorem zX10_empties_12  (n : Nat) (r0 : Nat) (x1 : Int32) (x2 : Int32) (y3 : Value) (h : Hp) : gX10_empties  (n + 1) 12 [.ref r0, .int x1, .int x2, y3] [] h = kX10_empties_12 (gX10_empties  n)  r0 x1 x2 h := rfl
def fX10_empties (r0 : Nat) (x1 : Int32) (h : Hp) : RS := kX10_empties_0 (gX10_empties FF) r0 x1 h
theorem tX10_empties {G : GG} {d : Nat} {r0 x1} {h : Hp} {o : OU} {h' : Hp} (e : fX10_empties r0 x1 h = some (o, h')) (hd : 4 ≤ d) : VM G mX10_empties d [.ref r0, .int x1] h o h' := uX10_empties_0 hd _ (wX10_empties hd FF) e
def kX10_lessens_0  (r0 : Nat) (x1 : Int32) (h : Hp) : RS := (bI (fX10_fieldOf r0 0 x1 0 h) fun z2 h1 => (if 0 ≤ (z2 - 1) then (bI (fX10_field r0 x1 0 (z2 - 1) 0 0 h1) fun z6 h5 => (if ¬ (z2 - 1) = 0 then (some (.inl none, h5)) else (bV (fX10_empties r0 x1 h5) fun h9 => (some (.inl none, h9))))) else (some (.inl none, h1))))
theorem uX10_lessens_0 {G : GG} {d : Nat} (hd : 5 ≤ d)   {r0  x1 } {h : Hp} {o : OU} {h' : Hp} (e : kX10_lessens_0  r0 x1 h = some (o, h')) : VM G mX10_lessens d [.ref r0, .int x1] h o h' := by
  unfold kX10_lessens_0 at e
  refine eX10_lessens r0 x1 (by omega) ?_
  obtain ⟨z2, h1, e1, e⟩ := bI_e e
  refine ⟨z2, h1, (tX10_fieldOf e1 (by omega)), ?_⟩
  refine ⟨fun c2 => ?_, fun c2 => ?_⟩
  · have e := if_t e c2
    obtain ⟨z6, h5, e3, e⟩ := bI_e e
    refine ⟨z6, h5, (tX10_field e3 (by omega)), ?_⟩
    refine ⟨fun c4 => ?_, fun c4 => ?_⟩
    · have e := if_t e c4
      cases e
      exact ⟨rfl, rfl⟩
    · have e := if_n e c4
      obtain ⟨h9, e5, e⟩ := bV_e e
      refine ⟨h9, (tX10_empties e5 (by omega)), ?_⟩
      cases e
      exact ⟨rfl, rfl⟩
  · have e := if_f e c2
    cases e
    exact ⟨rfl, rfl⟩
def fX10_lessens (r0 : Nat) (x1 : Int32) (h : Hp) : RS := kX10_lessens_0 r0 x1 h
theorem tX10_lessens {G : GG} {d : Nat} {r0 x1} {h : Hp} {o : OU} {h' : Hp} (e : fX10_lessens r0 x1 h = some (o, h')) (hd : 5 ≤ d) : VM G mX10_lessens d [.ref r0, .int x1] h o h' := uX10_lessens_0 hd e
def kX10_doesLater_0 (rec : Nat → List Value → List Value → Hp → RS)  (r0 : Nat) (r1 : Nat) (h : Hp) : RS := (if kH h r1 = 1 then (if inB 3393 (lH h r1) = true then (rec 11 [.ref r0, .ref r1, .int (h.2 r1 3393), .int 0, .int 0, uV, uV] [] h) else none) else none)
theorem uX10_doesLater_0 {G : GG} {d : Nat} (hd : 6 ≤ d) (rec : Nat → List Value → List Value → Hp → RS) (hrec : ∀ pc loc st h o h', rec pc loc st h = some (o, h') → V G mX10_doesLater d pc loc st h o h')   {r0  r1 } {h : Hp} {o : OU} {h' : Hp} (e : kX10_doesLater_0 rec  r0 r1 h = some (o, h')) : VM G mX10_doesLater d [.ref r0, .ref r1] h o h' := by
  unfold kX10_doesLater_0 at e
  refine eX10_doesLater r0 r1 ?_
  obtain ⟨q1, e⟩ := ob_e e
  refine ⟨q1, ?_⟩
  obtain ⟨q2, e⟩ := ob_in e
  refine ⟨q2, ?_⟩
  exact hrec _ _ _ _ _ _ e
def kX10_doesLater_11 (rec : Nat → List Value → List Value → Hp → RS)  (r0 : Nat) (r1 : Nat) (x2 : Int32) (x3 : Int32) (x4 : Int32) (h : Hp) : RS := (if x2 ≤ x4 then (rec 92 [uV, .ref r1, uV, .int x3, .int 0, uV, uV] [] h) else (if kH h r1 = 1 then (if inB ((2912 + (3 * x4)) + 2) (lH h r1) = true then (if kH h r0 = 18 then (bI (fX10_isGone r0 (h.2 r1 ((2912 + (3 * x4)) + 2).toNatClampNeg) h) fun z5 h4 => (if ¬ z5 = 0 then (if kH h4 r1 = 1 then (if inB (2912 + (3 * x4)) (lH h4 r1) = true then (if ¬ (h4.2 r1 (2912 + (3 * x4)).toNatClampNeg) = 0 then (if inB ((2912 + (3 * x4)) + 1) (lH h4 r1) = true then (bV (fX10_lessens r1 (h4.2 r1 ((2912 + (3 * x4)) + 1).toNatClampNeg) h4) fun h13 => (if kH h13 r1 = 1 then (if inB ((2912 + (3 * x4)) + 2) (lH h13 r1) = true then (rec 11 [.ref r0, .ref r1, .int x2, .int x3, .int (x4 + 1), uV, uV] [] (h13.1, (upI h13.2 r1 ((2912 + (3 * x4)) + 2).toNatClampNeg (-1)))) else none) else none)) else none) else (if inB ((2912 + (3 * x4)) + 1) (lH h4 r1) = true then (bI (fX10_bare r1 0 (h4.2 r1 ((2912 + (3 * x4)) + 1).toNatClampNeg) 0 h4) fun z19 h18 => (if kH h18 r1 = 1 then (if inB ((2912 + (3 * x4)) + 2) (lH h18 r1) = true then (rec 11 [.ref r0, .ref r1, .int x2, .int x3, .int (x4 + 1), uV, uV] [] (h18.1, (upI h18.2 r1 ((2912 + (3 * x4)) + 2).toNatClampNeg (-1)))) else none) else none)) else none)) else none) else none) else (rec 11 [.ref r0, .ref r1, .int x2, .int x3, .int (x4 + 1), uV, uV] [] h4))) else none) else none) else none))
theorem uX10_doesLater_11 {G : GG} {d : Nat} (hd : 6 ≤ d) (rec : Nat → List Value → List Value → Hp → RS) (hrec : ∀ pc loc st h o h', rec pc loc st h = some (o, h') → V G mX10_doesLater d pc loc st h o h')   {r0  r1  x2  x3  x4 } {h : Hp} {o : OU} {h' : Hp} (e : kX10_doesLater_11 rec  r0 r1 x2 x3 x4 h = some (o, h')) : V G mX10_doesLater d 11 [.ref r0, .ref r1, .int x2, .int x3, .int x4, uV, uV] [] h o h' := by
  unfold kX10_doesLater_11 at e
  refine bX10_doesLater_11 r0 r1 x2 x3 x4 (by omega) ?_
  refine ⟨fun c1 => ?_, fun c1 => ?_⟩
  · have e := if_t e c1
    exact hrec _ _ _ _ _ _ e
  · have e := if_f e c1
    obtain ⟨q2, e⟩ := ob_e e
    refine ⟨q2, ?_⟩
    obtain ⟨q3, e⟩ := ob_in e
    refine ⟨q3, ?_⟩
    obtain ⟨q4, e⟩ := ob_e e
    refine ⟨q4, ?_⟩
    obtain ⟨z5, h4, e5, e⟩ := bI_e e
    refine ⟨z5, h4, (tX10_isGone e5 (by omega)), ?_⟩
    refine ⟨fun c6 => ?_, fun c6 => ?_⟩
    · have e := if_t e c6
      obtain ⟨q7, e⟩ := ob_e e
      refine ⟨q7, ?_⟩
      obtain ⟨q8, e⟩ := ob_in e
      refine ⟨q8, ?_⟩
      refine ⟨fun c9 => ?_, fun c9 => ?_⟩
      · have e := if_t e c9
        obtain ⟨q10, e⟩ := ob_in e
        refine ⟨q10, ?_⟩
        obtain ⟨h13, e11, e⟩ := bV_e e
        refine ⟨h13, (tX10_lessens e11 (by omega)), ?_⟩
        obtain ⟨q12, e⟩ := ob_e e
        refine ⟨q12, ?_⟩
        obtain ⟨q13, e⟩ := ob_in e
        refine ⟨q13, ?_⟩
        exact hrec _ _ _ _ _ _ e
      · have e := if_n e c9
        obtain ⟨q14, e⟩ := ob_in e
        refine ⟨q14, ?_⟩
        obtain ⟨z19, h18, e15, e⟩ := bI_e e
        refine ⟨z19, h18, (tX10_bare e15 (by omega)), ?_⟩
        obtain ⟨q16, e⟩ := ob_e e
        refine ⟨q16, ?_⟩
        obtain ⟨q17, e⟩ := ob_in e
        refine ⟨q17, ?_⟩
        exact hrec _ _ _ _ _ _ e
    · have e := if_n e c6
      exact hrec _ _ _ _ _ _ e
def kX10_doesLater_92 (rec : Nat → List Value → List Value → Hp → RS)  (r1 : Nat) (x3 : Int32) (x4 : Int32) (h : Hp) : RS := (if kH h r1 = 1 then (if inB 3393 (lH h r1) = true then (if (h.2 r1 3393) ≤ x4 then (some (.inl none, (h.1, (upI h.2 r1 3393 x3)))) else (if inB ((2912 + (3 * x4)) + 2) (lH h r1) = true then (if ¬ (h.2 r1 ((2912 + (3 * x4)) + 2).toNatClampNeg) = (-1) then (rec 128 [uV, .ref r1, uV, .int x3, .int x4, .int (2912 + (3 * x4)), .int 0] [] h) else (rec 92 [uV, .ref r1, uV, .int x3, .int (x4 + 1), uV, uV] [] h)) else none)) else none) else none)
theorem uX10_doesLater_92 {G : GG} {d : Nat} (hd : 6 ≤ d) (rec : Nat → List Value → List Value → Hp → RS) (hrec : ∀ pc loc st h o h', rec pc loc st h = some (o, h') → V G mX10_doesLater d pc loc st h o h')   {r1  x3  x4 } {h : Hp} {o : OU} {h' : Hp} (e : kX10_doesLater_92 rec  r1 x3 x4 h = some (o, h')) : V G mX10_doesLater d 92 [uV, .ref r1, uV, .int x3, .int x4, uV, uV] [] h o h' := by
  unfold kX10_doesLater_92 at e
  refine bX10_doesLater_92 r1 x3 x4 ?_
  obtain ⟨q1, e⟩ := ob_e e
  refine ⟨q1, ?_⟩
  obtain ⟨q2, e⟩ := ob_in e
  refine ⟨q2, ?_⟩
  refine ⟨fun c3 => ?_, fun c3 => ?_⟩
  · have e := if_t e c3
    cases e
    exact ⟨rfl, rfl⟩
  · have e := if_f e c3
    obtain ⟨q4, e⟩ := ob_in e
    refine ⟨q4, ?_⟩
    refine ⟨fun c5 => ?_, fun c5 => ?_⟩
    · have e := if_t e c5
      exact hrec _ _ _ _ _ _ e
    · have e := if_n e c5
      exact hrec _ _ _ _ _ _ e
def kX10_doesLater_128 (rec : Nat → List Value → List Value → Hp → RS)  (r1 : Nat) (x3 : Int32) (x4 : Int32) (x5 : Int32) (x6 : Int32) (h : Hp) : RS := (if 3 ≤ x6 then (rec 92 [uV, .ref r1, uV, .int (x3 + 1), .int (x4 + 1), uV, uV] [] h) else (if kH h r1 = 1 then (if inB (x5 + x6) (lH h r1) = true then (if inB ((2912 + (3 * x3)) + x6) (lH h r1) = true then (rec 128 [uV, .ref r1, uV, .int x3, .int x4, .int x5, .int (x6 + 1)] [] (h.1, (upI h.2 r1 ((2912 + (3 * x3)) + x6).toNatClampNeg (h.2 r1 (x5 + x6).toNatClampNeg)))) else none) else none) else none))
theorem uX10_doesLater_128 {G : GG} {d : Nat} (hd : 6 ≤ d) (rec : Nat → List Value → List Value → Hp → RS) (hrec : ∀ pc loc st h o h', rec pc loc st h = some (o, h') → V G mX10_doesLater d pc loc st h o h')   {r1  x3  x4  x5  x6 } {h : Hp} {o : OU} {h' : Hp} (e : kX10_doesLater_128 rec  r1 x3 x4 x5 x6 h = some (o, h')) : V G mX10_doesLater d 128 [uV, .ref r1, uV, .int x3, .int x4, .int x5, .int x6] [] h o h' := by
  unfold kX10_doesLater_128 at e
  refine bX10_doesLater_128 r1 x3 x4 x5 x6 ?_
  refine ⟨fun c1 => ?_, fun c1 => ?_⟩
  · have e := if_t e c1
    exact hrec _ _ _ _ _ _ e
  · have e := if_f e c1
    obtain ⟨q2, e⟩ := ob_e e
    refine ⟨q2, ?_⟩
    obtain ⟨q3, e⟩ := ob_in e
    refine ⟨q3, ?_⟩
    obtain ⟨q4, e⟩ := ob_in e
    refine ⟨q4, ?_⟩
    exact hrec _ _ _ _ _ _ e
def sX10_doesLater  (rec : Nat → List Value → List Value → Hp → RS) (pc : Nat) (loc st : List Value) (h : Hp) : RS := match pc, loc, st with
  | 11, [.ref r0, .ref r1, .int x2, .int x3, .int x4, _, _], [] => kX10_doesLater_11 rec  r0 r1 x2 x3 x4 h
  | 92, [_, .ref r1, _, .int x3, .int x4, _, _], [] => kX10_doesLater_92 rec  r1 x3 x4 h
  | 128, [_, .ref r1, _, .int x3, .int x4, .int x5, .int x6], [] => kX10_doesLater_128 rec  r1 x3 x4 x5 x6 h
  | _, _, _ => none
def gX10_doesLater  : Nat → Nat → List Value → List Value → Hp → RS
  | 0 => fun _ _ _ _ => none
  | n + 1 => sX10_doesLater  (gX10_doesLater  n)
theorem wX10_doesLater {G : GG} {d : Nat} (hd : 6 ≤ d)   : ∀ (n pc : Nat) (loc st : List Value) (h : Hp) (o : OU) (h' : Hp), gX10_doesLater  n pc loc st h = some (o, h') → V G mX10_doesLater d pc loc st h o h' := by
  intro n
  induction n with
  | zero => intro pc loc st h o h' e; cases e
  | succ n ih =>
    intro pc loc st h o h' e
    unfold gX10_doesLater sX10_doesLater at e
    split at e
    · exact V.drop (llp_r (llp_r (llp_r (llp_r (llp_r (llp_u (llp_u llp_nil))))))) (uX10_doesLater_11 hd _ ih   e)
    · exact V.drop (llp_u (llp_r (llp_u (llp_r (llp_r (llp_u (llp_u llp_nil))))))) (uX10_doesLater_92 hd _ ih   e)
    · exact V.drop (llp_u (llp_r (llp_u (llp_r (llp_r (llp_r (llp_r llp_nil))))))) (uX10_doesLater_128 hd _ ih   e)
    · cases e
theorem zX10_doesLater_11  (n : Nat) (r0 : Nat) (r1 : Nat) (x2 : Int32) (x3 : Int32) (x4 : Int32) (y5 : Value) (y6 : Value) (h : Hp) : gX10_doesLater  (n + 1) 11 [.ref r0, .ref r1, .int x2, .int x3, .int x4, y5, y6] [] h = kX10_doesLater_11 (gX10_doesLater  n)  r0 r1 x2 x3 x4 h := rfl
theorem zX10_doesLater_92  (n : Nat) (r1 : Nat) (x3 : Int32) (x4 : Int32) (y0 : Value) (y2 : Value) (y5 : Value) (y6 : Value) (h : Hp) : gX10_doesLater  (n + 1) 92 [y0, .ref r1, y2, .int x3, .int x4, y5, y6] [] h = kX10_doesLater_92 (gX10_doesLater  n)  r1 x3 x4 h := rfl
theorem zX10_doesLater_128  (n : Nat) (r1 : Nat) (x3 : Int32) (x4 : Int32) (x5 : Int32) (x6 : Int32) (y0 : Value) (y2 : Value) (h : Hp) : gX10_doesLater  (n + 1) 128 [y0, .ref r1, y2, .int x3, .int x4, .int x5, .int x6] [] h = kX10_doesLater_128 (gX10_doesLater  n)  r1 x3 x4 x5 x6 h := rfl
def fX10_doesLater (r0 : Nat) (r1 : Nat) (h : Hp) : RS := kX10_doesLater_0 (gX10_doesLater FF) r0 r1 h
theorem tX10_doesLater {G : GG} {d : Nat} {r0 r1} {h : Hp} {o : OU} {h' : Hp} (e : fX10_doesLater r0 r1 h = some (o, h')) (hd : 6 ≤ d) : VM G mX10_doesLater d [.ref r0, .ref r1] h o h' := uX10_doesLater_0 hd _ (wX10_doesLater hd FF) e
def kX10_writes_0 (rec : Nat → List Value → List Value → Hp → RS)  (r0 : Nat) (r1 : Nat) (x2 : Int32) (h : Hp) : RS := (bI (fX10_isDirty r1 x2 h) fun z2 h1 => (if ¬ z2 = 0 then (if kH h1 r1 = 1 then (if inB 3396 (lH h1 r1) = true then (if kH h1 r0 = 18 then (bI (fX10_copiesBlock r0 r1 x2 h1) fun z8 h7 => (if kH h7 r1 = 1 then (if inB 3396 (lH h7 r1) = true then (if inB 3395 (lH h7 r1) = true then (rec 35 [.ref r0, .ref r1, .int x2, .int 0] [] (h7.1, (upI (upI h7.2 r1 3396 ((h1.2 r1 3396) + z8)) r1 3395 (((upI h7.2 r1 3396 ((h1.2 r1 3396) + z8)) r1 3395) + 1)))) else none) else none) else none)) else none) else none) else none) else (some (.inl (some (.int 0)), h1))))
theorem uX10_writes_0 {G : GG} {d : Nat} (hd : 7 ≤ d) (rec : Nat → List Value → List Value → Hp → RS) (hrec : ∀ pc loc st h o h', rec pc loc st h = some (o, h') → V G mX10_writes d pc loc st h o h')   {r0  r1  x2 } {h : Hp} {o : OU} {h' : Hp} (e : kX10_writes_0 rec  r0 r1 x2 h = some (o, h')) : VM G mX10_writes d [.ref r0, .ref r1, .int x2] h o h' := by
  unfold kX10_writes_0 at e
  refine eX10_writes r0 r1 x2 (by omega) ?_
  obtain ⟨z2, h1, e1, e⟩ := bI_e e
  refine ⟨z2, h1, (tX10_isDirty e1 (by omega)), ?_⟩
  refine ⟨fun c2 => ?_, fun c2 => ?_⟩
  · have e := if_t e c2
    obtain ⟨q3, e⟩ := ob_e e
    refine ⟨q3, ?_⟩
    obtain ⟨q4, e⟩ := ob_in e
    refine ⟨q4, ?_⟩
    obtain ⟨q5, e⟩ := ob_e e
    refine ⟨q5, ?_⟩
    obtain ⟨z8, h7, e6, e⟩ := bI_e e
    refine ⟨z8, h7, (tX10_copiesBlock e6 (by omega)), ?_⟩
    obtain ⟨q7, e⟩ := ob_e e
    refine ⟨q7, ?_⟩
    obtain ⟨q8, e⟩ := ob_in e
    refine ⟨q8, ?_⟩
    obtain ⟨q9, e⟩ := ob_in e
    refine ⟨q9, ?_⟩
    exact hrec _ _ _ _ _ _ e
  · have e := if_n e c2
    cases e
    exact ⟨rfl, rfl⟩
def kX10_writes_35 (rec : Nat → List Value → List Value → Hp → RS)  (r0 : Nat) (r1 : Nat) (x2 : Int32) (x3 : Int32) (h : Hp) : RS := (if 16 ≤ x3 then (if kH h r0 = 18 then (bV (fX10_leavesOut r0 r1 h) fun h2 => (if kH h2 r0 = 18 then (bV (fX10_doesLater r0 r1 h2) fun h5 => (some (.inl (some (.int 1)), h5))) else none)) else none) else (if kH h r0 = 18 then (if kH h (rH h r0 28) = 1 then (if inB x3 (lH h (rH h r0 28)) = true then (if kH h r1 = 1 then (if inB ((256 + (16 * x2)) + x3) (lH h r1) = true then (rec 35 [.ref r0, .ref r1, .int x2, .int (x3 + 1)] [] (h.1, (upI h.2 r1 ((256 + (16 * x2)) + x3).toNatClampNeg (h.2 (rH h r0 28) x3.toNatClampNeg)))) else none) else none) else none) else none) else none))
theorem uX10_writes_35 {G : GG} {d : Nat} (hd : 7 ≤ d) (rec : Nat → List Value → List Value → Hp → RS) (hrec : ∀ pc loc st h o h', rec pc loc st h = some (o, h') → V G mX10_writes d pc loc st h o h')   {r0  r1  x2  x3 } {h : Hp} {o : OU} {h' : Hp} (e : kX10_writes_35 rec  r0 r1 x2 x3 h = some (o, h')) : V G mX10_writes d 35 [.ref r0, .ref r1, .int x2, .int x3] [] h o h' := by
  unfold kX10_writes_35 at e
  refine bX10_writes_35 r0 r1 x2 x3 (by omega) ?_
  refine ⟨fun c1 => ?_, fun c1 => ?_⟩
  · have e := if_t e c1
    obtain ⟨q2, e⟩ := ob_e e
    refine ⟨q2, ?_⟩
    obtain ⟨h2, e3, e⟩ := bV_e e
    refine ⟨h2, (tX10_leavesOut e3 (by omega)), ?_⟩
    obtain ⟨q4, e⟩ := ob_e e
    refine ⟨q4, ?_⟩
    obtain ⟨h5, e5, e⟩ := bV_e e
    refine ⟨h5, (tX10_doesLater e5 (by omega)), ?_⟩
    cases e
    exact ⟨rfl, rfl⟩
  · have e := if_f e c1
    obtain ⟨q6, e⟩ := ob_e e
    refine ⟨q6, ?_⟩
    obtain ⟨q7, e⟩ := ob_e e
    refine ⟨q7, ?_⟩
    obtain ⟨q8, e⟩ := ob_in e
    refine ⟨q8, ?_⟩
    obtain ⟨q9, e⟩ := ob_e e
    refine ⟨q9, ?_⟩
    obtain ⟨q10, e⟩ := ob_in e
    refine ⟨q10, ?_⟩
    exact hrec _ _ _ _ _ _ e
def sX10_writes  (rec : Nat → List Value → List Value → Hp → RS) (pc : Nat) (loc st : List Value) (h : Hp) : RS := match pc, loc, st with
  | 35, [.ref r0, .ref r1, .int x2, .int x3], [] => kX10_writes_35 rec  r0 r1 x2 x3 h
  | _, _, _ => none
def gX10_writes  : Nat → Nat → List Value → List Value → Hp → RS
  | 0 => fun _ _ _ _ => none
  | n + 1 => sX10_writes  (gX10_writes  n)
theorem wX10_writes {G : GG} {d : Nat} (hd : 7 ≤ d)   : ∀ (n pc : Nat) (loc st : List Value) (h : Hp) (o : OU) (h' : Hp), gX10_writes  n pc loc st h = some (o, h') → V G mX10_writes d pc loc st h o h' := by
  intro n
  induction n with
  | zero => intro pc loc st h o h' e; cases e
  | succ n ih =>
    intro pc loc st h o h' e
    unfold gX10_writes sX10_writes at e
    split at e
    · exact uX10_writes_35 hd _ ih   e
    · cases e
theorem zX10_writes_35  (n : Nat) (r0 : Nat) (r1 : Nat) (x2 : Int32) (x3 : Int32)  (h : Hp) : gX10_writes  (n + 1) 35 [.ref r0, .ref r1, .int x2, .int x3] [] h = kX10_writes_35 (gX10_writes  n)  r0 r1 x2 x3 h := rfl
def fX10_writes (r0 : Nat) (r1 : Nat) (x2 : Int32) (h : Hp) : RS := kX10_writes_0 (gX10_writes FF) r0 r1 x2 h
theorem tX10_writes {G : GG} {d : Nat} {r0 r1 x2} {h : Hp} {o : OU} {h' : Hp} (e : fX10_writes r0 r1 x2 h = some (o, h')) (hd : 7 ≤ d) : VM G mX10_writes d [.ref r0, .ref r1, .int x2] h o h' := uX10_writes_0 hd _ (wX10_writes hd FF) e
def kX10_syncs_0 (rec : Nat → List Value → List Value → Hp → RS)  (r0 : Nat) (r1 : Nat) (h : Hp) : RS := (rec 4 [.ref r0, .ref r1, .int 0, .int 0] [] h)
theorem uX10_syncs_0 {G : GG} {d : Nat} (hd : 8 ≤ d) (rec : Nat → List Value → List Value → Hp → RS) (hrec : ∀ pc loc st h o h', rec pc loc st h = some (o, h') → V G mX10_syncs d pc loc st h o h')   {r0  r1 } {h : Hp} {o : OU} {h' : Hp} (e : kX10_syncs_0 rec  r0 r1 h = some (o, h')) : VM G mX10_syncs d [.ref r0, .ref r1] h o h' := by
  unfold kX10_syncs_0 at e
  refine eX10_syncs r0 r1 ?_
  exact hrec _ _ _ _ _ _ e
def kX10_syncs_4 (rec : Nat → List Value → List Value → Hp → RS)  (r0 : Nat) (r1 : Nat) (x2 : Int32) (x3 : Int32) (h : Hp) : RS := (if kH h r0 = 18 then (if (h.2 r0 11) ≤ x3 then (if (x2 = 0 ∨ x2 = 1) then (some (.inl (some (.int x2)), h)) else none) else (bI (fX10_writes r0 r1 x3 h) fun z5 h4 => (rec 4 [.ref r0, .ref r1, .int (x2 ||| z5), .int (x3 + 1)] [] h4))) else none)
theorem uX10_syncs_4 {G : GG} {d : Nat} (hd : 8 ≤ d) (rec : Nat → List Value → List Value → Hp → RS) (hrec : ∀ pc loc st h o h', rec pc loc st h = some (o, h') → V G mX10_syncs d pc loc st h o h')   {r0  r1  x2  x3 } {h : Hp} {o : OU} {h' : Hp} (e : kX10_syncs_4 rec  r0 r1 x2 x3 h = some (o, h')) : V G mX10_syncs d 4 [.ref r0, .ref r1, .int x2, .int x3] [] h o h' := by
  unfold kX10_syncs_4 at e
  refine bX10_syncs_4 r0 r1 x2 x3 (by omega) ?_
  obtain ⟨q1, e⟩ := ob_e e
  refine ⟨q1, ?_⟩
  refine ⟨fun c2 => ?_, fun c2 => ?_⟩
  · have e := if_t e c2
    obtain ⟨q3, e⟩ := ob_e e
    refine ⟨q3, ?_⟩
    cases e
    exact ⟨rfl, rfl⟩
  · have e := if_f e c2
    obtain ⟨z5, h4, e4, e⟩ := bI_e e
    refine ⟨z5, h4, (tX10_writes e4 (by omega)), ?_⟩
    exact hrec _ _ _ _ _ _ e
def sX10_syncs  (rec : Nat → List Value → List Value → Hp → RS) (pc : Nat) (loc st : List Value) (h : Hp) : RS := match pc, loc, st with
  | 4, [.ref r0, .ref r1, .int x2, .int x3], [] => kX10_syncs_4 rec  r0 r1 x2 x3 h
  | _, _, _ => none
def gX10_syncs  : Nat → Nat → List Value → List Value → Hp → RS
  | 0 => fun _ _ _ _ => none
  | n + 1 => sX10_syncs  (gX10_syncs  n)
theorem wX10_syncs {G : GG} {d : Nat} (hd : 8 ≤ d)   : ∀ (n pc : Nat) (loc st : List Value) (h : Hp) (o : OU) (h' : Hp), gX10_syncs  n pc loc st h = some (o, h') → V G mX10_syncs d pc loc st h o h' := by
  intro n
  induction n with
  | zero => intro pc loc st h o h' e; cases e
  | succ n ih =>
    intro pc loc st h o h' e
    unfold gX10_syncs sX10_syncs at e
    split at e
    · exact uX10_syncs_4 hd _ ih   e
    · cases e
theorem zX10_syncs_4  (n : Nat) (r0 : Nat) (r1 : Nat) (x2 : Int32) (x3 : Int32)  (h : Hp) : gX10_syncs  (n + 1) 4 [.ref r0, .ref r1, .int x2, .int x3] [] h = kX10_syncs_4 (gX10_syncs  n)  r0 r1 x2 x3 h := rfl
def fX10_syncs (r0 : Nat) (r1 : Nat) (h : Hp) : RS := kX10_syncs_0 (gX10_syncs FF) r0 r1 h
theorem tX10_syncs {G : GG} {d : Nat} {r0 r1} {h : Hp} {o : OU} {h' : Hp} (e : fX10_syncs r0 r1 h = some (o, h')) (hd : 8 ≤ d) : VM G mX10_syncs d [.ref r0, .ref r1] h o h' := uX10_syncs_0 hd _ (wX10_syncs hd FF) e
def kX10_crashes_0 (rec : Nat → List Value → List Value → Hp → RS)  (r0 : Nat) (h : Hp) : RS := (rec 2 [.ref r0, .int 0] [] h)
theorem uX10_crashes_0 {G : GG} {d : Nat} (hd : 1 ≤ d) (rec : Nat → List Value → List Value → Hp → RS) (hrec : ∀ pc loc st h o h', rec pc loc st h = some (o, h') → V G mX10_crashes d pc loc st h o h')   {r0 } {h : Hp} {o : OU} {h' : Hp} (e : kX10_crashes_0 rec  r0 h = some (o, h')) : VM G mX10_crashes d [.ref r0] h o h' := by
  unfold kX10_crashes_0 at e
  refine eX10_crashes r0 ?_
  exact hrec _ _ _ _ _ _ e
def kX10_crashes_2 (rec : Nat → List Value → List Value → Hp → RS)  (r0 : Nat) (x1 : Int32) (h : Hp) : RS := (if 256 ≤ x1 then (if kH h r0 = 1 then (if inB 3392 (lH h r0) = true then (if inB 3393 (lH h r0) = true then (if inB 3397 (lH h r0) = true then (some (.inl (some (.int 1)), (h.1, (upI (upI (upI h.2 r0 3392 0) r0 3393 0) r0 3397 (((upI (upI h.2 r0 3392 0) r0 3393 0) r0 3397) + 1))))) else none) else none) else none) else none) else (if kH h r0 = 1 then (if inB (256 + x1) (lH h r0) = true then (if inB (0 + x1) (lH h r0) = true then (rec 2 [.ref r0, .int (x1 + 1)] [] (h.1, (upI h.2 r0 (0 + x1).toNatClampNeg (h.2 r0 (256 + x1).toNatClampNeg)))) else none) else none) else none))
theorem uX10_crashes_2 {G : GG} {d : Nat} (hd : 1 ≤ d) (rec : Nat → List Value → List Value → Hp → RS) (hrec : ∀ pc loc st h o h', rec pc loc st h = some (o, h') → V G mX10_crashes d pc loc st h o h')   {r0  x1 } {h : Hp} {o : OU} {h' : Hp} (e : kX10_crashes_2 rec  r0 x1 h = some (o, h')) : V G mX10_crashes d 2 [.ref r0, .int x1] [] h o h' := by
  unfold kX10_crashes_2 at e
  refine bX10_crashes_2 r0 x1 ?_
  refine ⟨fun c1 => ?_, fun c1 => ?_⟩
  · have e := if_t e c1
    obtain ⟨q2, e⟩ := ob_e e
    refine ⟨q2, ?_⟩
    obtain ⟨q3, e⟩ := ob_in e
    refine ⟨q3, ?_⟩
    obtain ⟨q4, e⟩ := ob_in e
    refine ⟨q4, ?_⟩
    obtain ⟨q5, e⟩ := ob_in e
    refine ⟨q5, ?_⟩
    cases e
    exact ⟨rfl, rfl⟩
  · have e := if_f e c1
    obtain ⟨q6, e⟩ := ob_e e
    refine ⟨q6, ?_⟩
    obtain ⟨q7, e⟩ := ob_in e
    refine ⟨q7, ?_⟩
    obtain ⟨q8, e⟩ := ob_in e
    refine ⟨q8, ?_⟩
    exact hrec _ _ _ _ _ _ e
def sX10_crashes  (rec : Nat → List Value → List Value → Hp → RS) (pc : Nat) (loc st : List Value) (h : Hp) : RS := match pc, loc, st with
  | 2, [.ref r0, .int x1], [] => kX10_crashes_2 rec  r0 x1 h
  | _, _, _ => none
def gX10_crashes  : Nat → Nat → List Value → List Value → Hp → RS
  | 0 => fun _ _ _ _ => none
  | n + 1 => sX10_crashes  (gX10_crashes  n)
theorem wX10_crashes {G : GG} {d : Nat} (hd : 1 ≤ d)   : ∀ (n pc : Nat) (loc st : List Value) (h : Hp) (o : OU) (h' : Hp), gX10_crashes  n pc loc st h = some (o, h') → V G mX10_crashes d pc loc st h o h' := by
  intro n
  induction n with
  | zero => intro pc loc st h o h' e; cases e
  | succ n ih =>
    intro pc loc st h o h' e
    unfold gX10_crashes sX10_crashes at e
    split at e
    · exact uX10_crashes_2 hd _ ih   e
    · cases e
theorem zX10_crashes_2  (n : Nat) (r0 : Nat) (x1 : Int32)  (h : Hp) : gX10_crashes  (n + 1) 2 [.ref r0, .int x1] [] h = kX10_crashes_2 (gX10_crashes  n)  r0 x1 h := rfl
def fX10_crashes (r0 : Nat) (h : Hp) : RS := kX10_crashes_0 (gX10_crashes FF) r0 h
theorem tX10_crashes {G : GG} {d : Nat} {r0} {h : Hp} {o : OU} {h' : Hp} (e : fX10_crashes r0 h = some (o, h')) (hd : 1 ≤ d) : VM G mX10_crashes d [.ref r0] h o h' := uX10_crashes_0 hd _ (wX10_crashes hd FF) e
def kX10_named_0 (rec : Nat → List Value → List Value → Hp → RS)  (r0 : Nat) (x1 : Int32) (x2 : Int32) (h : Hp) : RS := (bI (fX10_reached r0 x1 h) fun z2 h1 => (rec 12 [.ref r0, .int x1, .int x2, .int 0, .int z2, .int 0, uV, uV] [] h1))
theorem uX10_named_0 {G : GG} {d : Nat} (hd : 5 ≤ d) (rec : Nat → List Value → List Value → Hp → RS) (hrec : ∀ pc loc st h o h', rec pc loc st h = some (o, h') → V G mX10_named d pc loc st h o h')   {r0  x1  x2 } {h : Hp} {o : OU} {h' : Hp} (e : kX10_named_0 rec  r0 x1 x2 h = some (o, h')) : VM G mX10_named d [.ref r0, .int x1, .int x2] h o h' := by
  unfold kX10_named_0 at e
  refine eX10_named r0 x1 x2 (by omega) ?_
  obtain ⟨z2, h1, e1, e⟩ := bI_e e
  refine ⟨z2, h1, (tX10_reached e1 (by omega)), ?_⟩
  exact hrec _ _ _ _ _ _ e
def kX10_named_12 (rec : Nat → List Value → List Value → Hp → RS)  (r0 : Nat) (x1 : Int32) (x2 : Int32) (x3 : Int32) (x4 : Int32) (x5 : Int32) (h : Hp) : RS := (if 12 ≤ x5 then (some (.inl (some (.int x3)), h)) else (bI (fX10_has x4 x5 h) fun z3 h2 => (if z3 = 0 then (rec 12 [.ref r0, .int x1, .int x2, .int x3, .int x4, .int (x5 + 1), uV, uV] [] h2) else (bI (fX10_fieldOf r0 x1 x5 1 h2) fun z7 h6 => (if z7 = 2 then (rec 47 [.ref r0, .int x1, .int x2, .int x3, .int x4, .int x5, .int 0, uV] [] h6) else (rec 12 [.ref r0, .int x1, .int x2, .int x3, .int x4, .int (x5 + 1), uV, uV] [] h6))))))
theorem uX10_named_12 {G : GG} {d : Nat} (hd : 5 ≤ d) (rec : Nat → List Value → List Value → Hp → RS) (hrec : ∀ pc loc st h o h', rec pc loc st h = some (o, h') → V G mX10_named d pc loc st h o h')   {r0  x1  x2  x3  x4  x5 } {h : Hp} {o : OU} {h' : Hp} (e : kX10_named_12 rec  r0 x1 x2 x3 x4 x5 h = some (o, h')) : V G mX10_named d 12 [.ref r0, .int x1, .int x2, .int x3, .int x4, .int x5, uV, uV] [] h o h' := by
  unfold kX10_named_12 at e
  refine bX10_named_12 r0 x1 x2 x3 x4 x5 (by omega) ?_
  refine ⟨fun c1 => ?_, fun c1 => ?_⟩
  · have e := if_t e c1
    cases e
    exact ⟨rfl, rfl⟩
  · have e := if_f e c1
    obtain ⟨z3, h2, e2, e⟩ := bI_e e
    refine ⟨z3, h2, (tX10_has e2 (by omega)), ?_⟩
    refine ⟨fun c3 => ?_, fun c3 => ?_⟩
    · have e := if_t e c3
      exact hrec _ _ _ _ _ _ e
    · have e := if_f e c3
      obtain ⟨z7, h6, e4, e⟩ := bI_e e
      refine ⟨z7, h6, (tX10_fieldOf e4 (by omega)), ?_⟩
      refine ⟨fun c5 => ?_, fun c5 => ?_⟩
      · have e := if_t e c5
        exact hrec _ _ _ _ _ _ e
      · have e := if_f e c5
        exact hrec _ _ _ _ _ _ e
def kX10_named_47 (rec : Nat → List Value → List Value → Hp → RS)  (r0 : Nat) (x1 : Int32) (x2 : Int32) (x3 : Int32) (x4 : Int32) (x5 : Int32) (x6 : Int32) (h : Hp) : RS := (bI (fX10_entryOf r0 x1 x5 x6 h) fun z2 h1 => (if z2 = (-1) then (rec 12 [.ref r0, .int x1, .int x2, .int x3, .int x4, .int (x5 + 1), uV, uV] [] h1) else (bI (fX10_entryOf r0 x1 x5 x6 h1) fun z6 h5 => (if kH h5 r0 = 1 then (if inB (x1 + z6) (lH h5 r0) = true then (if (h5.2 r0 (x1 + z6).toNatClampNeg) = 0 then (rec 47 [.ref r0, .int x1, .int x2, .int (x3 + 0), .int x4, .int x5, .int (x6 + 1), uV] [] h5) else (if inB ((x1 + z6) + 1) (lH h5 r0) = true then (if ¬ (h5.2 r0 ((x1 + z6) + 1).toNatClampNeg) = x2 then (rec 47 [.ref r0, .int x1, .int x2, .int (x3 + 0), .int x4, .int x5, .int (x6 + 1), uV] [] h5) else (rec 47 [.ref r0, .int x1, .int x2, .int (x3 + 1), .int x4, .int x5, .int (x6 + 1), uV] [] h5)) else none)) else none) else none))))
theorem uX10_named_47 {G : GG} {d : Nat} (hd : 5 ≤ d) (rec : Nat → List Value → List Value → Hp → RS) (hrec : ∀ pc loc st h o h', rec pc loc st h = some (o, h') → V G mX10_named d pc loc st h o h')   {r0  x1  x2  x3  x4  x5  x6 } {h : Hp} {o : OU} {h' : Hp} (e : kX10_named_47 rec  r0 x1 x2 x3 x4 x5 x6 h = some (o, h')) : V G mX10_named d 47 [.ref r0, .int x1, .int x2, .int x3, .int x4, .int x5, .int x6, uV] [] h o h' := by
  unfold kX10_named_47 at e
  refine bX10_named_47 r0 x1 x2 x3 x4 x5 x6 (by omega) ?_
  obtain ⟨z2, h1, e1, e⟩ := bI_e e
  refine ⟨z2, h1, (tX10_entryOf e1 (by omega)), ?_⟩
  refine ⟨fun c2 => ?_, fun c2 => ?_⟩
  · have e := if_t e c2
    exact hrec _ _ _ _ _ _ e
  · have e := if_f e c2
    obtain ⟨z6, h5, e3, e⟩ := bI_e e
    refine ⟨z6, h5, (tX10_entryOf e3 (by omega)), ?_⟩
    obtain ⟨q4, e⟩ := ob_e e
    refine ⟨q4, ?_⟩
    obtain ⟨q5, e⟩ := ob_in e
    refine ⟨q5, ?_⟩
    refine ⟨fun c6 => ?_, fun c6 => ?_⟩
    · have e := if_t e c6
      exact hrec _ _ _ _ _ _ e
    · have e := if_f e c6
      obtain ⟨q7, e⟩ := ob_in e
      refine ⟨q7, ?_⟩
      refine ⟨fun c8 => ?_, fun c8 => ?_⟩
      · have e := if_t e c8
        exact hrec _ _ _ _ _ _ e
      · have e := if_n e c8
        exact hrec _ _ _ _ _ _ e
def sX10_named  (rec : Nat → List Value → List Value → Hp → RS) (pc : Nat) (loc st : List Value) (h : Hp) : RS := match pc, loc, st with
  | 12, [.ref r0, .int x1, .int x2, .int x3, .int x4, .int x5, _, _], [] => kX10_named_12 rec  r0 x1 x2 x3 x4 x5 h
  | 47, [.ref r0, .int x1, .int x2, .int x3, .int x4, .int x5, .int x6, _], [] => kX10_named_47 rec  r0 x1 x2 x3 x4 x5 x6 h
  | _, _, _ => none
def gX10_named  : Nat → Nat → List Value → List Value → Hp → RS
  | 0 => fun _ _ _ _ => none
  | n + 1 => sX10_named  (gX10_named  n)
theorem wX10_named {G : GG} {d : Nat} (hd : 5 ≤ d)   : ∀ (n pc : Nat) (loc st : List Value) (h : Hp) (o : OU) (h' : Hp), gX10_named  n pc loc st h = some (o, h') → V G mX10_named d pc loc st h o h' := by
  intro n
  induction n with
  | zero => intro pc loc st h o h' e; cases e
  | succ n ih =>
    intro pc loc st h o h' e
    unfold gX10_named sX10_named at e
    split at e
    · exact V.drop (llp_r (llp_r (llp_r (llp_r (llp_r (llp_r (llp_u (llp_u llp_nil)))))))) (uX10_named_12 hd _ ih   e)
    · exact V.drop (llp_r (llp_r (llp_r (llp_r (llp_r (llp_r (llp_r (llp_u llp_nil)))))))) (uX10_named_47 hd _ ih   e)
    · cases e
theorem zX10_named_12  (n : Nat) (r0 : Nat) (x1 : Int32) (x2 : Int32) (x3 : Int32) (x4 : Int32) (x5 : Int32) (y6 : Value) (y7 : Value) (h : Hp) : gX10_named  (n + 1) 12 [.ref r0, .int x1, .int x2, .int x3, .int x4, .int x5, y6, y7] [] h = kX10_named_12 (gX10_named  n)  r0 x1 x2 x3 x4 x5 h := rfl
theorem zX10_named_47  (n : Nat) (r0 : Nat) (x1 : Int32) (x2 : Int32) (x3 : Int32) (x4 : Int32) (x5 : Int32) (x6 : Int32) (y7 : Value) (h : Hp) : gX10_named  (n + 1) 47 [.ref r0, .int x1, .int x2, .int x3, .int x4, .int x5, .int x6, y7] [] h = kX10_named_47 (gX10_named  n)  r0 x1 x2 x3 x4 x5 x6 h := rfl
def fX10_named (r0 : Nat) (x1 : Int32) (x2 : Int32) (h : Hp) : RS := kX10_named_0 (gX10_named FF) r0 x1 x2 h
theorem tX10_named {G : GG} {d : Nat} {r0 x1 x2} {h : Hp} {o : OU} {h' : Hp} (e : fX10_named r0 x1 x2 h = some (o, h')) (hd : 5 ≤ d) : VM G mX10_named d [.ref r0, .int x1, .int x2] h o h' := uX10_named_0 hd _ (wX10_named hd FF) e
def kX10_later_0 (rec : Nat → List Value → List Value → Hp → RS)  (r0 : Nat) (x1 : Int32) (x2 : Int32) (h : Hp) : RS := (rec 5 [.ref r0, .int x1, .int x2, .int 0, .int 0] [] h)
theorem uX10_later_0 {G : GG} {d : Nat} (hd : 1 ≤ d) (rec : Nat → List Value → List Value → Hp → RS) (hrec : ∀ pc loc st h o h', rec pc loc st h = some (o, h') → V G mX10_later d pc loc st h o h')   {r0  x1  x2 } {h : Hp} {o : OU} {h' : Hp} (e : kX10_later_0 rec  r0 x1 x2 h = some (o, h')) : VM G mX10_later d [.ref r0, .int x1, .int x2] h o h' := by
  unfold kX10_later_0 at e
  refine eX10_later r0 x1 x2 ?_
  exact hrec _ _ _ _ _ _ e
def kX10_later_5 (rec : Nat → List Value → List Value → Hp → RS)  (r0 : Nat) (x1 : Int32) (x2 : Int32) (x3 : Int32) (x4 : Int32) (h : Hp) : RS := (if kH h r0 = 1 then (if inB 3393 (lH h r0) = true then (if (h.2 r0 3393) ≤ x4 then (some (.inl (some (.int x3)), h)) else (if inB (2912 + (3 * x4)) (lH h r0) = true then (if ¬ (h.2 r0 (2912 + (3 * x4)).toNatClampNeg) = x1 then (rec 5 [.ref r0, .int x1, .int x2, .int (x3 + 0), .int (x4 + 1)] [] h) else (if inB ((2912 + (3 * x4)) + 1) (lH h r0) = true then (if ¬ (h.2 r0 ((2912 + (3 * x4)) + 1).toNatClampNeg) = x2 then (rec 5 [.ref r0, .int x1, .int x2, .int (x3 + 0), .int (x4 + 1)] [] h) else (rec 5 [.ref r0, .int x1, .int x2, .int (x3 + 1), .int (x4 + 1)] [] h)) else none)) else none)) else none) else none)
theorem uX10_later_5 {G : GG} {d : Nat} (hd : 1 ≤ d) (rec : Nat → List Value → List Value → Hp → RS) (hrec : ∀ pc loc st h o h', rec pc loc st h = some (o, h') → V G mX10_later d pc loc st h o h')   {r0  x1  x2  x3  x4 } {h : Hp} {o : OU} {h' : Hp} (e : kX10_later_5 rec  r0 x1 x2 x3 x4 h = some (o, h')) : V G mX10_later d 5 [.ref r0, .int x1, .int x2, .int x3, .int x4] [] h o h' := by
  unfold kX10_later_5 at e
  refine bX10_later_5 r0 x1 x2 x3 x4 ?_
  obtain ⟨q1, e⟩ := ob_e e
  refine ⟨q1, ?_⟩
  obtain ⟨q2, e⟩ := ob_in e
  refine ⟨q2, ?_⟩
  refine ⟨fun c3 => ?_, fun c3 => ?_⟩
  · have e := if_t e c3
    cases e
    exact ⟨rfl, rfl⟩
  · have e := if_f e c3
    obtain ⟨q4, e⟩ := ob_in e
    refine ⟨q4, ?_⟩
    refine ⟨fun c5 => ?_, fun c5 => ?_⟩
    · have e := if_t e c5
      exact hrec _ _ _ _ _ _ e
    · have e := if_n e c5
      obtain ⟨q6, e⟩ := ob_in e
      refine ⟨q6, ?_⟩
      refine ⟨fun c7 => ?_, fun c7 => ?_⟩
      · have e := if_t e c7
        exact hrec _ _ _ _ _ _ e
      · have e := if_n e c7
        exact hrec _ _ _ _ _ _ e
def sX10_later  (rec : Nat → List Value → List Value → Hp → RS) (pc : Nat) (loc st : List Value) (h : Hp) : RS := match pc, loc, st with
  | 5, [.ref r0, .int x1, .int x2, .int x3, .int x4], [] => kX10_later_5 rec  r0 x1 x2 x3 x4 h
  | _, _, _ => none
def gX10_later  : Nat → Nat → List Value → List Value → Hp → RS
  | 0 => fun _ _ _ _ => none
  | n + 1 => sX10_later  (gX10_later  n)
theorem wX10_later {G : GG} {d : Nat} (hd : 1 ≤ d)   : ∀ (n pc : Nat) (loc st : List Value) (h : Hp) (o : OU) (h' : Hp), gX10_later  n pc loc st h = some (o, h') → V G mX10_later d pc loc st h o h' := by
  intro n
  induction n with
  | zero => intro pc loc st h o h' e; cases e
  | succ n ih =>
    intro pc loc st h o h' e
    unfold gX10_later sX10_later at e
    split at e
    · exact uX10_later_5 hd _ ih   e
    · cases e
theorem zX10_later_5  (n : Nat) (r0 : Nat) (x1 : Int32) (x2 : Int32) (x3 : Int32) (x4 : Int32)  (h : Hp) : gX10_later  (n + 1) 5 [.ref r0, .int x1, .int x2, .int x3, .int x4] [] h = kX10_later_5 (gX10_later  n)  r0 x1 x2 x3 x4 h := rfl
def fX10_later (r0 : Nat) (x1 : Int32) (x2 : Int32) (h : Hp) : RS := kX10_later_0 (gX10_later FF) r0 x1 x2 h
theorem tX10_later {G : GG} {d : Nat} {r0 x1 x2} {h : Hp} {o : OU} {h' : Hp} (e : fX10_later r0 x1 x2 h = some (o, h')) (hd : 1 ≤ d) : VM G mX10_later d [.ref r0, .int x1, .int x2] h o h' := uX10_later_0 hd _ (wX10_later hd FF) e
def kX10_linked_0 (rec : Nat → List Value → List Value → Hp → RS)  (r0 : Nat) (x1 : Int32) (h : Hp) : RS := (rec 4 [.ref r0, .int x1, .int 0, .int 0] [] h)
theorem uX10_linked_0 {G : GG} {d : Nat} (hd : 3 ≤ d) (rec : Nat → List Value → List Value → Hp → RS) (hrec : ∀ pc loc st h o h', rec pc loc st h = some (o, h') → V G mX10_linked d pc loc st h o h')   {r0  x1 } {h : Hp} {o : OU} {h' : Hp} (e : kX10_linked_0 rec  r0 x1 h = some (o, h')) : VM G mX10_linked d [.ref r0, .int x1] h o h' := by
  unfold kX10_linked_0 at e
  refine eX10_linked r0 x1 ?_
  exact hrec _ _ _ _ _ _ e
def kX10_linked_4 (rec : Nat → List Value → List Value → Hp → RS)  (r0 : Nat) (x1 : Int32) (x2 : Int32) (x3 : Int32) (h : Hp) : RS := (if 12 ≤ x3 then (some (.inl (some (.int x2)), h)) else (bI (fX10_fieldOf r0 x1 x3 0 h) fun z3 h2 => (if z3 ≤ 0 then (rec 4 [.ref r0, .int x1, .int (x2 ||| 0), .int (x3 + 1)] [] h2) else (rec 4 [.ref r0, .int x1, .int (x2 ||| (1 <<< (x3 &&& 31))), .int (x3 + 1)] [] h2))))
theorem uX10_linked_4 {G : GG} {d : Nat} (hd : 3 ≤ d) (rec : Nat → List Value → List Value → Hp → RS) (hrec : ∀ pc loc st h o h', rec pc loc st h = some (o, h') → V G mX10_linked d pc loc st h o h')   {r0  x1  x2  x3 } {h : Hp} {o : OU} {h' : Hp} (e : kX10_linked_4 rec  r0 x1 x2 x3 h = some (o, h')) : V G mX10_linked d 4 [.ref r0, .int x1, .int x2, .int x3] [] h o h' := by
  unfold kX10_linked_4 at e
  refine bX10_linked_4 r0 x1 x2 x3 (by omega) ?_
  refine ⟨fun c1 => ?_, fun c1 => ?_⟩
  · have e := if_t e c1
    cases e
    exact ⟨rfl, rfl⟩
  · have e := if_f e c1
    obtain ⟨z3, h2, e2, e⟩ := bI_e e
    refine ⟨z3, h2, (tX10_fieldOf e2 (by omega)), ?_⟩
    refine ⟨fun c3 => ?_, fun c3 => ?_⟩
    · have e := if_t e c3
      exact hrec _ _ _ _ _ _ e
    · have e := if_f e c3
      exact hrec _ _ _ _ _ _ e
def sX10_linked  (rec : Nat → List Value → List Value → Hp → RS) (pc : Nat) (loc st : List Value) (h : Hp) : RS := match pc, loc, st with
  | 4, [.ref r0, .int x1, .int x2, .int x3], [] => kX10_linked_4 rec  r0 x1 x2 x3 h
  | _, _, _ => none
def gX10_linked  : Nat → Nat → List Value → List Value → Hp → RS
  | 0 => fun _ _ _ _ => none
  | n + 1 => sX10_linked  (gX10_linked  n)
theorem wX10_linked {G : GG} {d : Nat} (hd : 3 ≤ d)   : ∀ (n pc : Nat) (loc st : List Value) (h : Hp) (o : OU) (h' : Hp), gX10_linked  n pc loc st h = some (o, h') → V G mX10_linked d pc loc st h o h' := by
  intro n
  induction n with
  | zero => intro pc loc st h o h' e; cases e
  | succ n ih =>
    intro pc loc st h o h' e
    unfold gX10_linked sX10_linked at e
    split at e
    · exact uX10_linked_4 hd _ ih   e
    · cases e
theorem zX10_linked_4  (n : Nat) (r0 : Nat) (x1 : Int32) (x2 : Int32) (x3 : Int32)  (h : Hp) : gX10_linked  (n + 1) 4 [.ref r0, .int x1, .int x2, .int x3] [] h = kX10_linked_4 (gX10_linked  n)  r0 x1 x2 x3 h := rfl
def fX10_linked (r0 : Nat) (x1 : Int32) (h : Hp) : RS := kX10_linked_0 (gX10_linked FF) r0 x1 h
theorem tX10_linked {G : GG} {d : Nat} {r0 x1} {h : Hp} {o : OU} {h' : Hp} (e : fX10_linked r0 x1 h = some (o, h')) (hd : 3 ≤ d) : VM G mX10_linked d [.ref r0, .int x1] h o h' := uX10_linked_0 hd _ (wX10_linked hd FF) e
def kX10_pointer_0 (rec : Nat → List Value → List Value → Hp → RS)  (r0 : Nat) (x1 : Int32) (x2 : Int32) (x3 : Int32) (h : Hp) : RS := (rec 3 [.ref r0, .int x1, .int x2, .int x3, .int 0] [] h)
theorem uX10_pointer_0 {G : GG} {d : Nat} (hd : 3 ≤ d) (rec : Nat → List Value → List Value → Hp → RS) (hrec : ∀ pc loc st h o h', rec pc loc st h = some (o, h') → V G mX10_pointer d pc loc st h o h')   {r0  x1  x2  x3 } {h : Hp} {o : OU} {h' : Hp} (e : kX10_pointer_0 rec  r0 x1 x2 x3 h = some (o, h')) : VM G mX10_pointer d [.ref r0, .int x1, .int x2, .int x3] h o h' := by
  unfold kX10_pointer_0 at e
  refine eX10_pointer r0 x1 x2 x3 ?_
  exact hrec _ _ _ _ _ _ e
def kX10_pointer_3 (rec : Nat → List Value → List Value → Hp → RS)  (r0 : Nat) (x1 : Int32) (x2 : Int32) (x3 : Int32) (x4 : Int32) (h : Hp) : RS := (if 12 ≤ x4 then (some (.inl (some (.int (-1))), h)) else (bI (fX10_has x2 x4 h) fun z3 h2 => (if z3 = 0 then (rec 3 [.ref r0, .int x1, .int x2, .int x3, .int (x4 + 1)] [] h2) else (bI (fX10_fieldOf r0 x1 x4 2 h2) fun z7 h6 => (if z7 = x3 then (some (.inl (some (.int x4)), h6)) else (bI (fX10_fieldOf r0 x1 x4 3 h6) fun z11 h10 => (if ¬ z11 = x3 then (rec 3 [.ref r0, .int x1, .int x2, .int x3, .int (x4 + 1)] [] h10) else (some (.inl (some (.int x4)), h10)))))))))
theorem uX10_pointer_3 {G : GG} {d : Nat} (hd : 3 ≤ d) (rec : Nat → List Value → List Value → Hp → RS) (hrec : ∀ pc loc st h o h', rec pc loc st h = some (o, h') → V G mX10_pointer d pc loc st h o h')   {r0  x1  x2  x3  x4 } {h : Hp} {o : OU} {h' : Hp} (e : kX10_pointer_3 rec  r0 x1 x2 x3 x4 h = some (o, h')) : V G mX10_pointer d 3 [.ref r0, .int x1, .int x2, .int x3, .int x4] [] h o h' := by
  unfold kX10_pointer_3 at e
  refine bX10_pointer_3 r0 x1 x2 x3 x4 (by omega) ?_
  refine ⟨fun c1 => ?_, fun c1 => ?_⟩
  · have e := if_t e c1
    cases e
    exact ⟨rfl, rfl⟩
  · have e := if_f e c1
    obtain ⟨z3, h2, e2, e⟩ := bI_e e
    refine ⟨z3, h2, (tX10_has e2 (by omega)), ?_⟩
    refine ⟨fun c3 => ?_, fun c3 => ?_⟩
    · have e := if_t e c3
      exact hrec _ _ _ _ _ _ e
    · have e := if_f e c3
      obtain ⟨z7, h6, e4, e⟩ := bI_e e
      refine ⟨z7, h6, (tX10_fieldOf e4 (by omega)), ?_⟩
      refine ⟨fun c5 => ?_, fun c5 => ?_⟩
      · have e := if_t e c5
        cases e
        exact ⟨rfl, rfl⟩
      · have e := if_f e c5
        obtain ⟨z11, h10, e6, e⟩ := bI_e e
        refine ⟨z11, h10, (tX10_fieldOf e6 (by omega)), ?_⟩
        refine ⟨fun c7 => ?_, fun c7 => ?_⟩
        · have e := if_t e c7
          exact hrec _ _ _ _ _ _ e
        · have e := if_n e c7
          cases e
          exact ⟨rfl, rfl⟩
def sX10_pointer  (rec : Nat → List Value → List Value → Hp → RS) (pc : Nat) (loc st : List Value) (h : Hp) : RS := match pc, loc, st with
  | 3, [.ref r0, .int x1, .int x2, .int x3, .int x4], [] => kX10_pointer_3 rec  r0 x1 x2 x3 x4 h
  | _, _, _ => none
def gX10_pointer  : Nat → Nat → List Value → List Value → Hp → RS
  | 0 => fun _ _ _ _ => none
  | n + 1 => sX10_pointer  (gX10_pointer  n)
theorem wX10_pointer {G : GG} {d : Nat} (hd : 3 ≤ d)   : ∀ (n pc : Nat) (loc st : List Value) (h : Hp) (o : OU) (h' : Hp), gX10_pointer  n pc loc st h = some (o, h') → V G mX10_pointer d pc loc st h o h' := by
  intro n
  induction n with
  | zero => intro pc loc st h o h' e; cases e
  | succ n ih =>
    intro pc loc st h o h' e
    unfold gX10_pointer sX10_pointer at e
    split at e
    · exact uX10_pointer_3 hd _ ih   e
    · cases e
theorem zX10_pointer_3  (n : Nat) (r0 : Nat) (x1 : Int32) (x2 : Int32) (x3 : Int32) (x4 : Int32)  (h : Hp) : gX10_pointer  (n + 1) 3 [.ref r0, .int x1, .int x2, .int x3, .int x4] [] h = kX10_pointer_3 (gX10_pointer  n)  r0 x1 x2 x3 x4 h := rfl
def fX10_pointer (r0 : Nat) (x1 : Int32) (x2 : Int32) (x3 : Int32) (h : Hp) : RS := kX10_pointer_0 (gX10_pointer FF) r0 x1 x2 x3 h
theorem tX10_pointer {G : GG} {d : Nat} {r0 x1 x2 x3} {h : Hp} {o : OU} {h' : Hp} (e : fX10_pointer r0 x1 x2 x3 h = some (o, h')) (hd : 3 ≤ d) : VM G mX10_pointer d [.ref r0, .int x1, .int x2, .int x3] h o h' := uX10_pointer_0 hd _ (wX10_pointer hd FF) e
