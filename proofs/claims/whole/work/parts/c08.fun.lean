def kL_law_0 (rec : Nat → List Value → List Value → Hp → RS)   (h : Hp) : RS := (letH (nwH h 19 0 17) fun (h1 : Hp) => (if (nH h) ≠ 0 then (bV (fX9_init (nH h) h1) fun h3 => (letH (nwH h3 18 0 38) fun (h6 : Hp) => (if (nH h3) ≠ 0 then (bV (fX10_init (nH h3) h6) fun h8 => (letH (nwH h8 4 1 1) fun (h11 : Hp) => (rec 23 [.ref 1, .ref (nH h), .ref (nH h3), .ref (nH h8), .int 0, uV, uV] [] h11))) else none))) else none))
theorem uL_law_0 {G : GG} {d : Nat} (hd : 52 ≤ d) (rec : Nat → List Value → List Value → Hp → RS) (hrec : ∀ pc loc st h o h', rec pc loc st h = some (o, h') → V G mL_law d pc loc st h o h')   {h : Hp} {o : OU} {h' : Hp} (e : kL_law_0 rec  h = some (o, h')) : V G mL_law d 0 [.ref 1, uV, uV, uV, uV, uV, uV] [] h o h' := by
  unfold kL_law_0 at e
  refine bL_law_0  (by omega) ?_
  intro h1 evh1
  have e := lt_e evh1 e
  obtain ⟨q1, e⟩ := ob_e e
  refine ⟨q1, ?_⟩
  obtain ⟨h3, e2, e⟩ := bV_e e
  refine ⟨h3, (tX9_init e2 (by omega)), ?_⟩
  intro h6 evh6
  have e := lt_e evh6 e
  obtain ⟨q3, e⟩ := ob_e e
  refine ⟨q3, ?_⟩
  obtain ⟨h8, e4, e⟩ := bV_e e
  refine ⟨h8, (tX10_init e4 (by omega)), ?_⟩
  intro h11 evh11
  have e := lt_e evh11 e
  exact hrec _ _ _ _ _ _ e
def kL_law_23 (rec : Nat → List Value → List Value → Hp → RS)  (r1 : Nat) (r2 : Nat) (r3 : Nat) (x4 : Int32) (h : Hp) : RS := (if (((lH h 1).toInt32) - 7) < x4 then (some (.inl (some (.int 1)), h)) else (if inB x4 (lH h 1) = true then (if ((h.2 1 x4.toNatClampNeg) &&& 63) = 0 then (rec 204 [.ref 1, .ref r1, .ref r2, .ref r3, .int x4, uV, uV] [] h) else (if ((h.2 1 x4.toNatClampNeg) &&& 63) = 1 then (rec 277 [.ref 1, .ref r1, .ref r2, .ref r3, .int x4, uV, uV] [] h) else (if ((h.2 1 x4.toNatClampNeg) &&& 63) = 2 then (rec 333 [.ref 1, .ref r1, .ref r2, .ref r3, .int x4, uV, uV] [] h) else (if ((h.2 1 x4.toNatClampNeg) &&& 63) = 3 then (rec 389 [.ref 1, .ref r1, .ref r2, .ref r3, .int x4, uV, uV] [] h) else (if ((h.2 1 x4.toNatClampNeg) &&& 63) = 4 then (rec 445 [.ref 1, .ref r1, .ref r2, .ref r3, .int x4, uV, uV] [] h) else (if ((h.2 1 x4.toNatClampNeg) &&& 63) = 5 then (rec 458 [.ref 1, .ref r1, .ref r2, .ref r3, .int x4, uV, uV] [] h) else (if ((h.2 1 x4.toNatClampNeg) &&& 63) = 6 then (rec 471 [.ref 1, .ref r1, .ref r2, .ref r3, .int x4, uV, uV] [] h) else (if ((h.2 1 x4.toNatClampNeg) &&& 63) = 7 then (rec 527 [.ref 1, .ref r1, .ref r2, .ref r3, .int x4, uV, uV] [] h) else (if ((h.2 1 x4.toNatClampNeg) &&& 63) = 8 then (rec 607 [.ref 1, .ref r1, .ref r2, .ref r3, .int x4, uV, uV] [] h) else (if ((h.2 1 x4.toNatClampNeg) &&& 63) = 9 then (rec 687 [.ref 1, .ref r1, .ref r2, .ref r3, .int x4, uV, uV] [] h) else (if ((h.2 1 x4.toNatClampNeg) &&& 63) = 10 then (rec 767 [.ref 1, .ref r1, .ref r2, .ref r3, .int x4, uV, uV] [] h) else (if ((h.2 1 x4.toNatClampNeg) &&& 63) = 11 then (rec 823 [.ref 1, .ref r1, .ref r2, .ref r3, .int x4, uV, uV] [] h) else (if ((h.2 1 x4.toNatClampNeg) &&& 63) = 12 then (rec 879 [.ref 1, .ref r1, .ref r2, .ref r3, .int x4, uV, uV] [] h) else (if ((h.2 1 x4.toNatClampNeg) &&& 63) = 13 then (rec 935 [.ref 1, .ref r1, .ref r2, .ref r3, .int x4, uV, uV] [] h) else (if ((h.2 1 x4.toNatClampNeg) &&& 63) = 14 then (rec 991 [.ref 1, .ref r1, .ref r2, .ref r3, .int x4, uV, uV] [] h) else (if ((h.2 1 x4.toNatClampNeg) &&& 63) = 15 then (rec 1059 [.ref 1, .ref r1, .ref r2, .ref r3, .int x4, uV, uV] [] h) else (if ((h.2 1 x4.toNatClampNeg) &&& 63) = 16 then (rec 1127 [.ref 1, .ref r1, .ref r2, .ref r3, .int x4, uV, uV] [] h) else (if ((h.2 1 x4.toNatClampNeg) &&& 63) = 17 then (rec 1195 [.ref 1, .ref r1, .ref r2, .ref r3, .int x4, uV, uV] [] h) else (if ((h.2 1 x4.toNatClampNeg) &&& 63) = 18 then (rec 1251 [.ref 1, .ref r1, .ref r2, .ref r3, .int x4, uV, uV] [] h) else (if ((h.2 1 x4.toNatClampNeg) &&& 63) = 19 then (rec 1319 [.ref 1, .ref r1, .ref r2, .ref r3, .int x4, uV, uV] [] h) else (if ((h.2 1 x4.toNatClampNeg) &&& 63) = 20 then (rec 1375 [.ref 1, .ref r1, .ref r2, .ref r3, .int x4, uV, uV] [] h) else (if ((h.2 1 x4.toNatClampNeg) &&& 63) = 21 then (rec 1388 [.ref 1, .ref r1, .ref r2, .ref r3, .int x4, uV, uV] [] h) else (if ((h.2 1 x4.toNatClampNeg) &&& 63) = 22 then (rec 1401 [.ref 1, .ref r1, .ref r2, .ref r3, .int x4, uV, uV] [] h) else (if ((h.2 1 x4.toNatClampNeg) &&& 63) = 23 then (rec 1457 [.ref 1, .ref r1, .ref r2, .ref r3, .int x4, uV, uV] [] h) else (if ((h.2 1 x4.toNatClampNeg) &&& 63) = 24 then (rec 1470 [.ref 1, .ref r1, .ref r2, .ref r3, .int x4, uV, uV] [] h) else (if ((h.2 1 x4.toNatClampNeg) &&& 63) = 25 then (rec 1483 [.ref 1, .ref r1, .ref r2, .ref r3, .int x4, uV, uV] [] h) else (if ((h.2 1 x4.toNatClampNeg) &&& 63) = 26 then (rec 1496 [.ref 1, .ref r1, .ref r2, .ref r3, .int x4, uV, uV] [] h) else (if ((h.2 1 x4.toNatClampNeg) &&& 63) = 27 then (rec 1509 [.ref 1, .ref r1, .ref r2, .ref r3, .int x4, uV, uV] [] h) else (if ((h.2 1 x4.toNatClampNeg) &&& 63) = 28 then (rec 1565 [.ref 1, .ref r1, .ref r2, .ref r3, .int x4, uV, uV] [] h) else (if ((h.2 1 x4.toNatClampNeg) &&& 63) = 29 then (rec 1621 [.ref 1, .ref r1, .ref r2, .ref r3, .int x4, uV, uV] [] h) else (if ((h.2 1 x4.toNatClampNeg) &&& 63) = 30 then (rec 1689 [.ref 1, .ref r1, .ref r2, .ref r3, .int x4, uV, uV] [] h) else (if ((h.2 1 x4.toNatClampNeg) &&& 63) = 31 then (rec 1745 [.ref 1, .ref r1, .ref r2, .ref r3, .int x4, uV, uV] [] h) else (if ((h.2 1 x4.toNatClampNeg) &&& 63) = 32 then (rec 1837 [.ref 1, .ref r1, .ref r2, .ref r3, .int x4, uV, uV] [] h) else (if ((h.2 1 x4.toNatClampNeg) &&& 63) = 33 then (rec 1955 [.ref 1, .ref r1, .ref r2, .ref r3, .int x4, uV, uV] [] h) else (if ((h.2 1 x4.toNatClampNeg) &&& 63) = 34 then (rec 1968 [.ref 1, .ref r1, .ref r2, .ref r3, .int x4, uV, uV] [] h) else (if ((h.2 1 x4.toNatClampNeg) &&& 63) = 35 then (rec 1981 [.ref 1, .ref r1, .ref r2, .ref r3, .int x4, uV, uV] [] h) else (if ((h.2 1 x4.toNatClampNeg) &&& 63) = 36 then (rec 2006 [.ref 1, .ref r1, .ref r2, .ref r3, .int x4, uV, uV] [] h) else (rec 2031 [.ref 1, .ref r1, .ref r2, .ref r3, .int x4, uV, uV] [] h)))))))))))))))))))))))))))))))))))))) else none))
theorem uL_law_23 {G : GG} {d : Nat} (hd : 52 ≤ d) (rec : Nat → List Value → List Value → Hp → RS) (hrec : ∀ pc loc st h o h', rec pc loc st h = some (o, h') → V G mL_law d pc loc st h o h')   {r1  r2  r3  x4 } {h : Hp} {o : OU} {h' : Hp} (e : kL_law_23 rec  r1 r2 r3 x4 h = some (o, h')) : V G mL_law d 23 [.ref 1, .ref r1, .ref r2, .ref r3, .int x4, uV, uV] [] h o h' := by
  unfold kL_law_23 at e
  refine bL_law_23 r1 r2 r3 x4 ?_
  refine ⟨fun c1 => ?_, fun c1 => ?_⟩
  · have e := if_t e c1
    cases e
    exact ⟨rfl, rfl⟩
  · have e := if_f e c1
    obtain ⟨q2, e⟩ := ob_in e
    refine ⟨q2, ?_⟩
    refine ⟨?_, ?_, ?_, ?_, ?_, ?_, ?_, ?_, ?_, ?_, ?_, ?_, ?_, ?_, ?_, ?_, ?_, ?_, ?_, ?_, ?_, ?_, ?_, ?_, ?_, ?_, ?_, ?_, ?_, ?_, ?_, ?_, ?_, ?_, ?_, ?_, ?_, ?_⟩
    · intro cc
      have e := if_t e cc
      exact hrec _ _ _ _ _ _ e
    · intro cc
      have e := if_f e (by rw [cc]; decide)
      have e := if_t e cc
      exact hrec _ _ _ _ _ _ e
    · intro cc
      have e := if_f e (by rw [cc]; decide)
      have e := if_f e (by rw [cc]; decide)
      have e := if_t e cc
      exact hrec _ _ _ _ _ _ e
    · intro cc
      have e := if_f e (by rw [cc]; decide)
      have e := if_f e (by rw [cc]; decide)
      have e := if_f e (by rw [cc]; decide)
      have e := if_t e cc
      exact hrec _ _ _ _ _ _ e
    · intro cc
      have e := if_f e (by rw [cc]; decide)
      have e := if_f e (by rw [cc]; decide)
      have e := if_f e (by rw [cc]; decide)
      have e := if_f e (by rw [cc]; decide)
      have e := if_t e cc
      exact hrec _ _ _ _ _ _ e
    · intro cc
      have e := if_f e (by rw [cc]; decide)
      have e := if_f e (by rw [cc]; decide)
      have e := if_f e (by rw [cc]; decide)
      have e := if_f e (by rw [cc]; decide)
      have e := if_f e (by rw [cc]; decide)
      have e := if_t e cc
      exact hrec _ _ _ _ _ _ e
    · intro cc
      have e := if_f e (by rw [cc]; decide)
      have e := if_f e (by rw [cc]; decide)
      have e := if_f e (by rw [cc]; decide)
      have e := if_f e (by rw [cc]; decide)
      have e := if_f e (by rw [cc]; decide)
      have e := if_f e (by rw [cc]; decide)
      have e := if_t e cc
      exact hrec _ _ _ _ _ _ e
    · intro cc
      have e := if_f e (by rw [cc]; decide)
      have e := if_f e (by rw [cc]; decide)
      have e := if_f e (by rw [cc]; decide)
      have e := if_f e (by rw [cc]; decide)
      have e := if_f e (by rw [cc]; decide)
      have e := if_f e (by rw [cc]; decide)
      have e := if_f e (by rw [cc]; decide)
      have e := if_t e cc
      exact hrec _ _ _ _ _ _ e
    · intro cc
      have e := if_f e (by rw [cc]; decide)
      have e := if_f e (by rw [cc]; decide)
      have e := if_f e (by rw [cc]; decide)
      have e := if_f e (by rw [cc]; decide)
      have e := if_f e (by rw [cc]; decide)
      have e := if_f e (by rw [cc]; decide)
      have e := if_f e (by rw [cc]; decide)
      have e := if_f e (by rw [cc]; decide)
      have e := if_t e cc
      exact hrec _ _ _ _ _ _ e
    · intro cc
      have e := if_f e (by rw [cc]; decide)
      have e := if_f e (by rw [cc]; decide)
      have e := if_f e (by rw [cc]; decide)
      have e := if_f e (by rw [cc]; decide)
      have e := if_f e (by rw [cc]; decide)
      have e := if_f e (by rw [cc]; decide)
      have e := if_f e (by rw [cc]; decide)
      have e := if_f e (by rw [cc]; decide)
      have e := if_f e (by rw [cc]; decide)
      have e := if_t e cc
      exact hrec _ _ _ _ _ _ e
    · intro cc
      have e := if_f e (by rw [cc]; decide)
      have e := if_f e (by rw [cc]; decide)
      have e := if_f e (by rw [cc]; decide)
      have e := if_f e (by rw [cc]; decide)
      have e := if_f e (by rw [cc]; decide)
      have e := if_f e (by rw [cc]; decide)
      have e := if_f e (by rw [cc]; decide)
      have e := if_f e (by rw [cc]; decide)
      have e := if_f e (by rw [cc]; decide)
      have e := if_f e (by rw [cc]; decide)
      have e := if_t e cc
      exact hrec _ _ _ _ _ _ e
    · intro cc
      have e := if_f e (by rw [cc]; decide)
      have e := if_f e (by rw [cc]; decide)
      have e := if_f e (by rw [cc]; decide)
      have e := if_f e (by rw [cc]; decide)
      have e := if_f e (by rw [cc]; decide)
      have e := if_f e (by rw [cc]; decide)
      have e := if_f e (by rw [cc]; decide)
      have e := if_f e (by rw [cc]; decide)
      have e := if_f e (by rw [cc]; decide)
      have e := if_f e (by rw [cc]; decide)
      have e := if_f e (by rw [cc]; decide)
      have e := if_t e cc
      exact hrec _ _ _ _ _ _ e
    · intro cc
      have e := if_f e (by rw [cc]; decide)
      have e := if_f e (by rw [cc]; decide)
      have e := if_f e (by rw [cc]; decide)
      have e := if_f e (by rw [cc]; decide)
      have e := if_f e (by rw [cc]; decide)
      have e := if_f e (by rw [cc]; decide)
      have e := if_f e (by rw [cc]; decide)
      have e := if_f e (by rw [cc]; decide)
      have e := if_f e (by rw [cc]; decide)
      have e := if_f e (by rw [cc]; decide)
      have e := if_f e (by rw [cc]; decide)
      have e := if_f e (by rw [cc]; decide)
      have e := if_t e cc
      exact hrec _ _ _ _ _ _ e
    · intro cc
      have e := if_f e (by rw [cc]; decide)
      have e := if_f e (by rw [cc]; decide)
      have e := if_f e (by rw [cc]; decide)
      have e := if_f e (by rw [cc]; decide)
      have e := if_f e (by rw [cc]; decide)
      have e := if_f e (by rw [cc]; decide)
      have e := if_f e (by rw [cc]; decide)
      have e := if_f e (by rw [cc]; decide)
      have e := if_f e (by rw [cc]; decide)
      have e := if_f e (by rw [cc]; decide)
      have e := if_f e (by rw [cc]; decide)
      have e := if_f e (by rw [cc]; decide)
      have e := if_f e (by rw [cc]; decide)
      have e := if_t e cc
      exact hrec _ _ _ _ _ _ e
    · intro cc
      have e := if_f e (by rw [cc]; decide)
      have e := if_f e (by rw [cc]; decide)
      have e := if_f e (by rw [cc]; decide)
      have e := if_f e (by rw [cc]; decide)
      have e := if_f e (by rw [cc]; decide)
      have e := if_f e (by rw [cc]; decide)
      have e := if_f e (by rw [cc]; decide)
      have e := if_f e (by rw [cc]; decide)
      have e := if_f e (by rw [cc]; decide)
      have e := if_f e (by rw [cc]; decide)
      have e := if_f e (by rw [cc]; decide)
      have e := if_f e (by rw [cc]; decide)
      have e := if_f e (by rw [cc]; decide)
      have e := if_f e (by rw [cc]; decide)
      have e := if_t e cc
      exact hrec _ _ _ _ _ _ e
    · intro cc
      have e := if_f e (by rw [cc]; decide)
      have e := if_f e (by rw [cc]; decide)
      have e := if_f e (by rw [cc]; decide)
      have e := if_f e (by rw [cc]; decide)
      have e := if_f e (by rw [cc]; decide)
      have e := if_f e (by rw [cc]; decide)
      have e := if_f e (by rw [cc]; decide)
      have e := if_f e (by rw [cc]; decide)
      have e := if_f e (by rw [cc]; decide)
      have e := if_f e (by rw [cc]; decide)
      have e := if_f e (by rw [cc]; decide)
      have e := if_f e (by rw [cc]; decide)
      have e := if_f e (by rw [cc]; decide)
      have e := if_f e (by rw [cc]; decide)
      have e := if_f e (by rw [cc]; decide)
      have e := if_t e cc
      exact hrec _ _ _ _ _ _ e
    · intro cc
      have e := if_f e (by rw [cc]; decide)
      have e := if_f e (by rw [cc]; decide)
      have e := if_f e (by rw [cc]; decide)
      have e := if_f e (by rw [cc]; decide)
      have e := if_f e (by rw [cc]; decide)
      have e := if_f e (by rw [cc]; decide)
      have e := if_f e (by rw [cc]; decide)
      have e := if_f e (by rw [cc]; decide)
      have e := if_f e (by rw [cc]; decide)
      have e := if_f e (by rw [cc]; decide)
      have e := if_f e (by rw [cc]; decide)
      have e := if_f e (by rw [cc]; decide)
      have e := if_f e (by rw [cc]; decide)
      have e := if_f e (by rw [cc]; decide)
      have e := if_f e (by rw [cc]; decide)
      have e := if_f e (by rw [cc]; decide)
      have e := if_t e cc
      exact hrec _ _ _ _ _ _ e
    · intro cc
      have e := if_f e (by rw [cc]; decide)
      have e := if_f e (by rw [cc]; decide)
      have e := if_f e (by rw [cc]; decide)
      have e := if_f e (by rw [cc]; decide)
      have e := if_f e (by rw [cc]; decide)
      have e := if_f e (by rw [cc]; decide)
      have e := if_f e (by rw [cc]; decide)
      have e := if_f e (by rw [cc]; decide)
      have e := if_f e (by rw [cc]; decide)
      have e := if_f e (by rw [cc]; decide)
      have e := if_f e (by rw [cc]; decide)
      have e := if_f e (by rw [cc]; decide)
      have e := if_f e (by rw [cc]; decide)
      have e := if_f e (by rw [cc]; decide)
      have e := if_f e (by rw [cc]; decide)
      have e := if_f e (by rw [cc]; decide)
      have e := if_f e (by rw [cc]; decide)
      have e := if_t e cc
      exact hrec _ _ _ _ _ _ e
    · intro cc
      have e := if_f e (by rw [cc]; decide)
      have e := if_f e (by rw [cc]; decide)
      have e := if_f e (by rw [cc]; decide)
      have e := if_f e (by rw [cc]; decide)
      have e := if_f e (by rw [cc]; decide)
      have e := if_f e (by rw [cc]; decide)
      have e := if_f e (by rw [cc]; decide)
      have e := if_f e (by rw [cc]; decide)
      have e := if_f e (by rw [cc]; decide)
      have e := if_f e (by rw [cc]; decide)
      have e := if_f e (by rw [cc]; decide)
      have e := if_f e (by rw [cc]; decide)
      have e := if_f e (by rw [cc]; decide)
      have e := if_f e (by rw [cc]; decide)
      have e := if_f e (by rw [cc]; decide)
      have e := if_f e (by rw [cc]; decide)
      have e := if_f e (by rw [cc]; decide)
      have e := if_f e (by rw [cc]; decide)
      have e := if_t e cc
      exact hrec _ _ _ _ _ _ e
    · intro cc
      have e := if_f e (by rw [cc]; decide)
      have e := if_f e (by rw [cc]; decide)
      have e := if_f e (by rw [cc]; decide)
      have e := if_f e (by rw [cc]; decide)
      have e := if_f e (by rw [cc]; decide)
      have e := if_f e (by rw [cc]; decide)
      have e := if_f e (by rw [cc]; decide)
      have e := if_f e (by rw [cc]; decide)
      have e := if_f e (by rw [cc]; decide)
      have e := if_f e (by rw [cc]; decide)
      have e := if_f e (by rw [cc]; decide)
      have e := if_f e (by rw [cc]; decide)
      have e := if_f e (by rw [cc]; decide)
      have e := if_f e (by rw [cc]; decide)
      have e := if_f e (by rw [cc]; decide)
      have e := if_f e (by rw [cc]; decide)
      have e := if_f e (by rw [cc]; decide)
      have e := if_f e (by rw [cc]; decide)
      have e := if_f e (by rw [cc]; decide)
      have e := if_t e cc
      exact hrec _ _ _ _ _ _ e
    · intro cc
      have e := if_f e (by rw [cc]; decide)
      have e := if_f e (by rw [cc]; decide)
      have e := if_f e (by rw [cc]; decide)
      have e := if_f e (by rw [cc]; decide)
      have e := if_f e (by rw [cc]; decide)
      have e := if_f e (by rw [cc]; decide)
      have e := if_f e (by rw [cc]; decide)
      have e := if_f e (by rw [cc]; decide)
      have e := if_f e (by rw [cc]; decide)
      have e := if_f e (by rw [cc]; decide)
      have e := if_f e (by rw [cc]; decide)
      have e := if_f e (by rw [cc]; decide)
      have e := if_f e (by rw [cc]; decide)
      have e := if_f e (by rw [cc]; decide)
      have e := if_f e (by rw [cc]; decide)
      have e := if_f e (by rw [cc]; decide)
      have e := if_f e (by rw [cc]; decide)
      have e := if_f e (by rw [cc]; decide)
      have e := if_f e (by rw [cc]; decide)
      have e := if_f e (by rw [cc]; decide)
      have e := if_t e cc
      exact hrec _ _ _ _ _ _ e
    · intro cc
      have e := if_f e (by rw [cc]; decide)
      have e := if_f e (by rw [cc]; decide)
      have e := if_f e (by rw [cc]; decide)
      have e := if_f e (by rw [cc]; decide)
      have e := if_f e (by rw [cc]; decide)
      have e := if_f e (by rw [cc]; decide)
      have e := if_f e (by rw [cc]; decide)
      have e := if_f e (by rw [cc]; decide)
      have e := if_f e (by rw [cc]; decide)
      have e := if_f e (by rw [cc]; decide)
      have e := if_f e (by rw [cc]; decide)
      have e := if_f e (by rw [cc]; decide)
      have e := if_f e (by rw [cc]; decide)
      have e := if_f e (by rw [cc]; decide)
      have e := if_f e (by rw [cc]; decide)
      have e := if_f e (by rw [cc]; decide)
      have e := if_f e (by rw [cc]; decide)
      have e := if_f e (by rw [cc]; decide)
      have e := if_f e (by rw [cc]; decide)
      have e := if_f e (by rw [cc]; decide)
      have e := if_f e (by rw [cc]; decide)
      have e := if_t e cc
      exact hrec _ _ _ _ _ _ e
    · intro cc
      have e := if_f e (by rw [cc]; decide)
      have e := if_f e (by rw [cc]; decide)
      have e := if_f e (by rw [cc]; decide)
      have e := if_f e (by rw [cc]; decide)
      have e := if_f e (by rw [cc]; decide)
      have e := if_f e (by rw [cc]; decide)
      have e := if_f e (by rw [cc]; decide)
      have e := if_f e (by rw [cc]; decide)
      have e := if_f e (by rw [cc]; decide)
      have e := if_f e (by rw [cc]; decide)
      have e := if_f e (by rw [cc]; decide)
      have e := if_f e (by rw [cc]; decide)
      have e := if_f e (by rw [cc]; decide)
      have e := if_f e (by rw [cc]; decide)
      have e := if_f e (by rw [cc]; decide)
      have e := if_f e (by rw [cc]; decide)
      have e := if_f e (by rw [cc]; decide)
      have e := if_f e (by rw [cc]; decide)
      have e := if_f e (by rw [cc]; decide)
      have e := if_f e (by rw [cc]; decide)
      have e := if_f e (by rw [cc]; decide)
      have e := if_f e (by rw [cc]; decide)
      have e := if_t e cc
      exact hrec _ _ _ _ _ _ e
    · intro cc
      have e := if_f e (by rw [cc]; decide)
      have e := if_f e (by rw [cc]; decide)
      have e := if_f e (by rw [cc]; decide)
      have e := if_f e (by rw [cc]; decide)
      have e := if_f e (by rw [cc]; decide)
      have e := if_f e (by rw [cc]; decide)
      have e := if_f e (by rw [cc]; decide)
      have e := if_f e (by rw [cc]; decide)
      have e := if_f e (by rw [cc]; decide)
      have e := if_f e (by rw [cc]; decide)
      have e := if_f e (by rw [cc]; decide)
      have e := if_f e (by rw [cc]; decide)
      have e := if_f e (by rw [cc]; decide)
      have e := if_f e (by rw [cc]; decide)
      have e := if_f e (by rw [cc]; decide)
      have e := if_f e (by rw [cc]; decide)
      have e := if_f e (by rw [cc]; decide)
      have e := if_f e (by rw [cc]; decide)
      have e := if_f e (by rw [cc]; decide)
      have e := if_f e (by rw [cc]; decide)
      have e := if_f e (by rw [cc]; decide)
      have e := if_f e (by rw [cc]; decide)
      have e := if_f e (by rw [cc]; decide)
      have e := if_t e cc
      exact hrec _ _ _ _ _ _ e
    · intro cc
      have e := if_f e (by rw [cc]; decide)
      have e := if_f e (by rw [cc]; decide)
      have e := if_f e (by rw [cc]; decide)
      have e := if_f e (by rw [cc]; decide)
      have e := if_f e (by rw [cc]; decide)
      have e := if_f e (by rw [cc]; decide)
      have e := if_f e (by rw [cc]; decide)
      have e := if_f e (by rw [cc]; decide)
      have e := if_f e (by rw [cc]; decide)
      have e := if_f e (by rw [cc]; decide)
      have e := if_f e (by rw [cc]; decide)
      have e := if_f e (by rw [cc]; decide)
      have e := if_f e (by rw [cc]; decide)
      have e := if_f e (by rw [cc]; decide)
      have e := if_f e (by rw [cc]; decide)
      have e := if_f e (by rw [cc]; decide)
      have e := if_f e (by rw [cc]; decide)
      have e := if_f e (by rw [cc]; decide)
      have e := if_f e (by rw [cc]; decide)
      have e := if_f e (by rw [cc]; decide)
      have e := if_f e (by rw [cc]; decide)
      have e := if_f e (by rw [cc]; decide)
      have e := if_f e (by rw [cc]; decide)
      have e := if_f e (by rw [cc]; decide)
      have e := if_t e cc
      exact hrec _ _ _ _ _ _ e
    · intro cc
      have e := if_f e (by rw [cc]; decide)
      have e := if_f e (by rw [cc]; decide)
      have e := if_f e (by rw [cc]; decide)
      have e := if_f e (by rw [cc]; decide)
      have e := if_f e (by rw [cc]; decide)
      have e := if_f e (by rw [cc]; decide)
      have e := if_f e (by rw [cc]; decide)
      have e := if_f e (by rw [cc]; decide)
      have e := if_f e (by rw [cc]; decide)
      have e := if_f e (by rw [cc]; decide)
      have e := if_f e (by rw [cc]; decide)
      have e := if_f e (by rw [cc]; decide)
      have e := if_f e (by rw [cc]; decide)
      have e := if_f e (by rw [cc]; decide)
      have e := if_f e (by rw [cc]; decide)
      have e := if_f e (by rw [cc]; decide)
      have e := if_f e (by rw [cc]; decide)
      have e := if_f e (by rw [cc]; decide)
      have e := if_f e (by rw [cc]; decide)
      have e := if_f e (by rw [cc]; decide)
      have e := if_f e (by rw [cc]; decide)
      have e := if_f e (by rw [cc]; decide)
      have e := if_f e (by rw [cc]; decide)
      have e := if_f e (by rw [cc]; decide)
      have e := if_f e (by rw [cc]; decide)
      have e := if_t e cc
      exact hrec _ _ _ _ _ _ e
    · intro cc
      have e := if_f e (by rw [cc]; decide)
      have e := if_f e (by rw [cc]; decide)
      have e := if_f e (by rw [cc]; decide)
      have e := if_f e (by rw [cc]; decide)
      have e := if_f e (by rw [cc]; decide)
      have e := if_f e (by rw [cc]; decide)
      have e := if_f e (by rw [cc]; decide)
      have e := if_f e (by rw [cc]; decide)
      have e := if_f e (by rw [cc]; decide)
      have e := if_f e (by rw [cc]; decide)
      have e := if_f e (by rw [cc]; decide)
      have e := if_f e (by rw [cc]; decide)
      have e := if_f e (by rw [cc]; decide)
      have e := if_f e (by rw [cc]; decide)
      have e := if_f e (by rw [cc]; decide)
      have e := if_f e (by rw [cc]; decide)
      have e := if_f e (by rw [cc]; decide)
      have e := if_f e (by rw [cc]; decide)
      have e := if_f e (by rw [cc]; decide)
      have e := if_f e (by rw [cc]; decide)
      have e := if_f e (by rw [cc]; decide)
      have e := if_f e (by rw [cc]; decide)
      have e := if_f e (by rw [cc]; decide)
      have e := if_f e (by rw [cc]; decide)
      have e := if_f e (by rw [cc]; decide)
      have e := if_f e (by rw [cc]; decide)
      have e := if_t e cc
      exact hrec _ _ _ _ _ _ e
    · intro cc
      have e := if_f e (by rw [cc]; decide)
      have e := if_f e (by rw [cc]; decide)
      have e := if_f e (by rw [cc]; decide)
      have e := if_f e (by rw [cc]; decide)
      have e := if_f e (by rw [cc]; decide)
      have e := if_f e (by rw [cc]; decide)
      have e := if_f e (by rw [cc]; decide)
      have e := if_f e (by rw [cc]; decide)
      have e := if_f e (by rw [cc]; decide)
      have e := if_f e (by rw [cc]; decide)
      have e := if_f e (by rw [cc]; decide)
      have e := if_f e (by rw [cc]; decide)
      have e := if_f e (by rw [cc]; decide)
      have e := if_f e (by rw [cc]; decide)
      have e := if_f e (by rw [cc]; decide)
      have e := if_f e (by rw [cc]; decide)
      have e := if_f e (by rw [cc]; decide)
      have e := if_f e (by rw [cc]; decide)
      have e := if_f e (by rw [cc]; decide)
      have e := if_f e (by rw [cc]; decide)
      have e := if_f e (by rw [cc]; decide)
      have e := if_f e (by rw [cc]; decide)
      have e := if_f e (by rw [cc]; decide)
      have e := if_f e (by rw [cc]; decide)
      have e := if_f e (by rw [cc]; decide)
      have e := if_f e (by rw [cc]; decide)
      have e := if_f e (by rw [cc]; decide)
      have e := if_t e cc
      exact hrec _ _ _ _ _ _ e
    · intro cc
      have e := if_f e (by rw [cc]; decide)
      have e := if_f e (by rw [cc]; decide)
      have e := if_f e (by rw [cc]; decide)
      have e := if_f e (by rw [cc]; decide)
      have e := if_f e (by rw [cc]; decide)
      have e := if_f e (by rw [cc]; decide)
      have e := if_f e (by rw [cc]; decide)
      have e := if_f e (by rw [cc]; decide)
      have e := if_f e (by rw [cc]; decide)
      have e := if_f e (by rw [cc]; decide)
      have e := if_f e (by rw [cc]; decide)
      have e := if_f e (by rw [cc]; decide)
      have e := if_f e (by rw [cc]; decide)
      have e := if_f e (by rw [cc]; decide)
      have e := if_f e (by rw [cc]; decide)
      have e := if_f e (by rw [cc]; decide)
      have e := if_f e (by rw [cc]; decide)
      have e := if_f e (by rw [cc]; decide)
      have e := if_f e (by rw [cc]; decide)
      have e := if_f e (by rw [cc]; decide)
      have e := if_f e (by rw [cc]; decide)
      have e := if_f e (by rw [cc]; decide)
      have e := if_f e (by rw [cc]; decide)
      have e := if_f e (by rw [cc]; decide)
      have e := if_f e (by rw [cc]; decide)
      have e := if_f e (by rw [cc]; decide)
      have e := if_f e (by rw [cc]; decide)
      have e := if_f e (by rw [cc]; decide)
      have e := if_t e cc
      exact hrec _ _ _ _ _ _ e
    · intro cc
      have e := if_f e (by rw [cc]; decide)
      have e := if_f e (by rw [cc]; decide)
      have e := if_f e (by rw [cc]; decide)
      have e := if_f e (by rw [cc]; decide)
      have e := if_f e (by rw [cc]; decide)
      have e := if_f e (by rw [cc]; decide)
      have e := if_f e (by rw [cc]; decide)
      have e := if_f e (by rw [cc]; decide)
      have e := if_f e (by rw [cc]; decide)
      have e := if_f e (by rw [cc]; decide)
      have e := if_f e (by rw [cc]; decide)
      have e := if_f e (by rw [cc]; decide)
      have e := if_f e (by rw [cc]; decide)
      have e := if_f e (by rw [cc]; decide)
      have e := if_f e (by rw [cc]; decide)
      have e := if_f e (by rw [cc]; decide)
      have e := if_f e (by rw [cc]; decide)
      have e := if_f e (by rw [cc]; decide)
      have e := if_f e (by rw [cc]; decide)
      have e := if_f e (by rw [cc]; decide)
      have e := if_f e (by rw [cc]; decide)
      have e := if_f e (by rw [cc]; decide)
      have e := if_f e (by rw [cc]; decide)
      have e := if_f e (by rw [cc]; decide)
      have e := if_f e (by rw [cc]; decide)
      have e := if_f e (by rw [cc]; decide)
      have e := if_f e (by rw [cc]; decide)
      have e := if_f e (by rw [cc]; decide)
      have e := if_f e (by rw [cc]; decide)
      have e := if_t e cc
      exact hrec _ _ _ _ _ _ e
    · intro cc
      have e := if_f e (by rw [cc]; decide)
      have e := if_f e (by rw [cc]; decide)
      have e := if_f e (by rw [cc]; decide)
      have e := if_f e (by rw [cc]; decide)
      have e := if_f e (by rw [cc]; decide)
      have e := if_f e (by rw [cc]; decide)
      have e := if_f e (by rw [cc]; decide)
      have e := if_f e (by rw [cc]; decide)
      have e := if_f e (by rw [cc]; decide)
      have e := if_f e (by rw [cc]; decide)
      have e := if_f e (by rw [cc]; decide)
      have e := if_f e (by rw [cc]; decide)
      have e := if_f e (by rw [cc]; decide)
      have e := if_f e (by rw [cc]; decide)
      have e := if_f e (by rw [cc]; decide)
      have e := if_f e (by rw [cc]; decide)
      have e := if_f e (by rw [cc]; decide)
      have e := if_f e (by rw [cc]; decide)
      have e := if_f e (by rw [cc]; decide)
      have e := if_f e (by rw [cc]; decide)
      have e := if_f e (by rw [cc]; decide)
      have e := if_f e (by rw [cc]; decide)
      have e := if_f e (by rw [cc]; decide)
      have e := if_f e (by rw [cc]; decide)
      have e := if_f e (by rw [cc]; decide)
      have e := if_f e (by rw [cc]; decide)
      have e := if_f e (by rw [cc]; decide)
      have e := if_f e (by rw [cc]; decide)
      have e := if_f e (by rw [cc]; decide)
      have e := if_f e (by rw [cc]; decide)
      have e := if_t e cc
      exact hrec _ _ _ _ _ _ e
    · intro cc
      have e := if_f e (by rw [cc]; decide)
      have e := if_f e (by rw [cc]; decide)
      have e := if_f e (by rw [cc]; decide)
      have e := if_f e (by rw [cc]; decide)
      have e := if_f e (by rw [cc]; decide)
      have e := if_f e (by rw [cc]; decide)
      have e := if_f e (by rw [cc]; decide)
      have e := if_f e (by rw [cc]; decide)
      have e := if_f e (by rw [cc]; decide)
      have e := if_f e (by rw [cc]; decide)
      have e := if_f e (by rw [cc]; decide)
      have e := if_f e (by rw [cc]; decide)
      have e := if_f e (by rw [cc]; decide)
      have e := if_f e (by rw [cc]; decide)
      have e := if_f e (by rw [cc]; decide)
      have e := if_f e (by rw [cc]; decide)
      have e := if_f e (by rw [cc]; decide)
      have e := if_f e (by rw [cc]; decide)
      have e := if_f e (by rw [cc]; decide)
      have e := if_f e (by rw [cc]; decide)
      have e := if_f e (by rw [cc]; decide)
      have e := if_f e (by rw [cc]; decide)
      have e := if_f e (by rw [cc]; decide)
      have e := if_f e (by rw [cc]; decide)
      have e := if_f e (by rw [cc]; decide)
      have e := if_f e (by rw [cc]; decide)
      have e := if_f e (by rw [cc]; decide)
      have e := if_f e (by rw [cc]; decide)
      have e := if_f e (by rw [cc]; decide)
      have e := if_f e (by rw [cc]; decide)
      have e := if_f e (by rw [cc]; decide)
      have e := if_t e cc
      exact hrec _ _ _ _ _ _ e
    · intro cc
      have e := if_f e (by rw [cc]; decide)
      have e := if_f e (by rw [cc]; decide)
      have e := if_f e (by rw [cc]; decide)
      have e := if_f e (by rw [cc]; decide)
      have e := if_f e (by rw [cc]; decide)
      have e := if_f e (by rw [cc]; decide)
      have e := if_f e (by rw [cc]; decide)
      have e := if_f e (by rw [cc]; decide)
      have e := if_f e (by rw [cc]; decide)
      have e := if_f e (by rw [cc]; decide)
      have e := if_f e (by rw [cc]; decide)
      have e := if_f e (by rw [cc]; decide)
      have e := if_f e (by rw [cc]; decide)
      have e := if_f e (by rw [cc]; decide)
      have e := if_f e (by rw [cc]; decide)
      have e := if_f e (by rw [cc]; decide)
      have e := if_f e (by rw [cc]; decide)
      have e := if_f e (by rw [cc]; decide)
      have e := if_f e (by rw [cc]; decide)
      have e := if_f e (by rw [cc]; decide)
      have e := if_f e (by rw [cc]; decide)
      have e := if_f e (by rw [cc]; decide)
      have e := if_f e (by rw [cc]; decide)
      have e := if_f e (by rw [cc]; decide)
      have e := if_f e (by rw [cc]; decide)
      have e := if_f e (by rw [cc]; decide)
      have e := if_f e (by rw [cc]; decide)
      have e := if_f e (by rw [cc]; decide)
      have e := if_f e (by rw [cc]; decide)
      have e := if_f e (by rw [cc]; decide)
      have e := if_f e (by rw [cc]; decide)
      have e := if_f e (by rw [cc]; decide)
      have e := if_t e cc
      exact hrec _ _ _ _ _ _ e
    · intro cc
      have e := if_f e (by rw [cc]; decide)
      have e := if_f e (by rw [cc]; decide)
      have e := if_f e (by rw [cc]; decide)
      have e := if_f e (by rw [cc]; decide)
      have e := if_f e (by rw [cc]; decide)
      have e := if_f e (by rw [cc]; decide)
      have e := if_f e (by rw [cc]; decide)
      have e := if_f e (by rw [cc]; decide)
      have e := if_f e (by rw [cc]; decide)
      have e := if_f e (by rw [cc]; decide)
      have e := if_f e (by rw [cc]; decide)
      have e := if_f e (by rw [cc]; decide)
      have e := if_f e (by rw [cc]; decide)
      have e := if_f e (by rw [cc]; decide)
      have e := if_f e (by rw [cc]; decide)
      have e := if_f e (by rw [cc]; decide)
      have e := if_f e (by rw [cc]; decide)
      have e := if_f e (by rw [cc]; decide)
      have e := if_f e (by rw [cc]; decide)
      have e := if_f e (by rw [cc]; decide)
      have e := if_f e (by rw [cc]; decide)
      have e := if_f e (by rw [cc]; decide)
      have e := if_f e (by rw [cc]; decide)
      have e := if_f e (by rw [cc]; decide)
      have e := if_f e (by rw [cc]; decide)
      have e := if_f e (by rw [cc]; decide)
      have e := if_f e (by rw [cc]; decide)
      have e := if_f e (by rw [cc]; decide)
      have e := if_f e (by rw [cc]; decide)
      have e := if_f e (by rw [cc]; decide)
      have e := if_f e (by rw [cc]; decide)
      have e := if_f e (by rw [cc]; decide)
      have e := if_f e (by rw [cc]; decide)
      have e := if_t e cc
      exact hrec _ _ _ _ _ _ e
    · intro cc
      have e := if_f e (by rw [cc]; decide)
      have e := if_f e (by rw [cc]; decide)
      have e := if_f e (by rw [cc]; decide)
      have e := if_f e (by rw [cc]; decide)
      have e := if_f e (by rw [cc]; decide)
      have e := if_f e (by rw [cc]; decide)
      have e := if_f e (by rw [cc]; decide)
      have e := if_f e (by rw [cc]; decide)
      have e := if_f e (by rw [cc]; decide)
      have e := if_f e (by rw [cc]; decide)
      have e := if_f e (by rw [cc]; decide)
      have e := if_f e (by rw [cc]; decide)
      have e := if_f e (by rw [cc]; decide)
      have e := if_f e (by rw [cc]; decide)
      have e := if_f e (by rw [cc]; decide)
      have e := if_f e (by rw [cc]; decide)
      have e := if_f e (by rw [cc]; decide)
      have e := if_f e (by rw [cc]; decide)
      have e := if_f e (by rw [cc]; decide)
      have e := if_f e (by rw [cc]; decide)
      have e := if_f e (by rw [cc]; decide)
      have e := if_f e (by rw [cc]; decide)
      have e := if_f e (by rw [cc]; decide)
      have e := if_f e (by rw [cc]; decide)
      have e := if_f e (by rw [cc]; decide)
      have e := if_f e (by rw [cc]; decide)
      have e := if_f e (by rw [cc]; decide)
      have e := if_f e (by rw [cc]; decide)
      have e := if_f e (by rw [cc]; decide)
      have e := if_f e (by rw [cc]; decide)
      have e := if_f e (by rw [cc]; decide)
      have e := if_f e (by rw [cc]; decide)
      have e := if_f e (by rw [cc]; decide)
      have e := if_f e (by rw [cc]; decide)
      have e := if_t e cc
      exact hrec _ _ _ _ _ _ e
    · intro cc
      have e := if_f e (by rw [cc]; decide)
      have e := if_f e (by rw [cc]; decide)
      have e := if_f e (by rw [cc]; decide)
      have e := if_f e (by rw [cc]; decide)
      have e := if_f e (by rw [cc]; decide)
      have e := if_f e (by rw [cc]; decide)
      have e := if_f e (by rw [cc]; decide)
      have e := if_f e (by rw [cc]; decide)
      have e := if_f e (by rw [cc]; decide)
      have e := if_f e (by rw [cc]; decide)
      have e := if_f e (by rw [cc]; decide)
      have e := if_f e (by rw [cc]; decide)
      have e := if_f e (by rw [cc]; decide)
      have e := if_f e (by rw [cc]; decide)
      have e := if_f e (by rw [cc]; decide)
      have e := if_f e (by rw [cc]; decide)
      have e := if_f e (by rw [cc]; decide)
      have e := if_f e (by rw [cc]; decide)
      have e := if_f e (by rw [cc]; decide)
      have e := if_f e (by rw [cc]; decide)
      have e := if_f e (by rw [cc]; decide)
      have e := if_f e (by rw [cc]; decide)
      have e := if_f e (by rw [cc]; decide)
      have e := if_f e (by rw [cc]; decide)
      have e := if_f e (by rw [cc]; decide)
      have e := if_f e (by rw [cc]; decide)
      have e := if_f e (by rw [cc]; decide)
      have e := if_f e (by rw [cc]; decide)
      have e := if_f e (by rw [cc]; decide)
      have e := if_f e (by rw [cc]; decide)
      have e := if_f e (by rw [cc]; decide)
      have e := if_f e (by rw [cc]; decide)
      have e := if_f e (by rw [cc]; decide)
      have e := if_f e (by rw [cc]; decide)
      have e := if_f e (by rw [cc]; decide)
      have e := if_t e cc
      exact hrec _ _ _ _ _ _ e
    · intro cc
      have e := if_f e (by rw [cc]; decide)
      have e := if_f e (by rw [cc]; decide)
      have e := if_f e (by rw [cc]; decide)
      have e := if_f e (by rw [cc]; decide)
      have e := if_f e (by rw [cc]; decide)
      have e := if_f e (by rw [cc]; decide)
      have e := if_f e (by rw [cc]; decide)
      have e := if_f e (by rw [cc]; decide)
      have e := if_f e (by rw [cc]; decide)
      have e := if_f e (by rw [cc]; decide)
      have e := if_f e (by rw [cc]; decide)
      have e := if_f e (by rw [cc]; decide)
      have e := if_f e (by rw [cc]; decide)
      have e := if_f e (by rw [cc]; decide)
      have e := if_f e (by rw [cc]; decide)
      have e := if_f e (by rw [cc]; decide)
      have e := if_f e (by rw [cc]; decide)
      have e := if_f e (by rw [cc]; decide)
      have e := if_f e (by rw [cc]; decide)
      have e := if_f e (by rw [cc]; decide)
      have e := if_f e (by rw [cc]; decide)
      have e := if_f e (by rw [cc]; decide)
      have e := if_f e (by rw [cc]; decide)
      have e := if_f e (by rw [cc]; decide)
      have e := if_f e (by rw [cc]; decide)
      have e := if_f e (by rw [cc]; decide)
      have e := if_f e (by rw [cc]; decide)
      have e := if_f e (by rw [cc]; decide)
      have e := if_f e (by rw [cc]; decide)
      have e := if_f e (by rw [cc]; decide)
      have e := if_f e (by rw [cc]; decide)
      have e := if_f e (by rw [cc]; decide)
      have e := if_f e (by rw [cc]; decide)
      have e := if_f e (by rw [cc]; decide)
      have e := if_f e (by rw [cc]; decide)
      have e := if_f e (by rw [cc]; decide)
      have e := if_t e cc
      exact hrec _ _ _ _ _ _ e
    · intro n0 n1 n2 n3 n4 n5 n6 n7 n8 n9 n10 n11 n12 n13 n14 n15 n16 n17 n18 n19 n20 n21 n22 n23 n24 n25 n26 n27 n28 n29 n30 n31 n32 n33 n34 n35 n36
      have e := if_f e n0
      have e := if_f e n1
      have e := if_f e n2
      have e := if_f e n3
      have e := if_f e n4
      have e := if_f e n5
      have e := if_f e n6
      have e := if_f e n7
      have e := if_f e n8
      have e := if_f e n9
      have e := if_f e n10
      have e := if_f e n11
      have e := if_f e n12
      have e := if_f e n13
      have e := if_f e n14
      have e := if_f e n15
      have e := if_f e n16
      have e := if_f e n17
      have e := if_f e n18
      have e := if_f e n19
      have e := if_f e n20
      have e := if_f e n21
      have e := if_f e n22
      have e := if_f e n23
      have e := if_f e n24
      have e := if_f e n25
      have e := if_f e n26
      have e := if_f e n27
      have e := if_f e n28
      have e := if_f e n29
      have e := if_f e n30
      have e := if_f e n31
      have e := if_f e n32
      have e := if_f e n33
      have e := if_f e n34
      have e := if_f e n35
      have e := if_f e n36
      exact hrec _ _ _ _ _ _ e
def kL_law_204 (rec : Nat → List Value → List Value → Hp → RS)  (r1 : Nat) (r2 : Nat) (r3 : Nat) (x4 : Int32) (h : Hp) : RS := (if inB (x4 + 1) (lH h 1) = true then (if inB (x4 + 2) (lH h 1) = true then (if inB (x4 + 3) (lH h 1) = true then (if inB (x4 + 4) (lH h 1) = true then (if inB (x4 + 5) (lH h 1) = true then (if kH h r1 = 19 then (bI (fX9_feed r1 (h.2 1 (x4 + 1).toNatClampNeg) (h.2 1 (x4 + 2).toNatClampNeg) (h.2 1 (x4 + 3).toNatClampNeg) (h.2 1 (x4 + 4).toNatClampNeg) (h.2 1 (x4 + 5).toNatClampNeg) h) fun z7 h6 => (if inB (x4 + 1) (lH h6 1) = true then (if inB (x4 + 2) (lH h6 1) = true then (if inB (x4 + 3) (lH h6 1) = true then (if inB (x4 + 4) (lH h6 1) = true then (if inB (x4 + 5) (lH h6 1) = true then (if kH h6 r2 = 18 then (bI (fX10_feed r2 (h6.2 1 (x4 + 1).toNatClampNeg) (h6.2 1 (x4 + 2).toNatClampNeg) (h6.2 1 (x4 + 3).toNatClampNeg) (h6.2 1 (x4 + 4).toNatClampNeg) (h6.2 1 (x4 + 5).toNatClampNeg) h6) fun z16 h15 => (if z7 = z16 then (rec 2031 [.ref 1, .ref r1, .ref r2, .ref r3, .int x4, uV, uV] [] h15) else (some (.inl (some (.int 0)), h15)))) else none) else none) else none) else none) else none) else none)) else none) else none) else none) else none) else none) else none)
theorem uL_law_204 {G : GG} {d : Nat} (hd : 52 ≤ d) (rec : Nat → List Value → List Value → Hp → RS) (hrec : ∀ pc loc st h o h', rec pc loc st h = some (o, h') → V G mL_law d pc loc st h o h')   {r1  r2  r3  x4 } {h : Hp} {o : OU} {h' : Hp} (e : kL_law_204 rec  r1 r2 r3 x4 h = some (o, h')) : V G mL_law d 204 [.ref 1, .ref r1, .ref r2, .ref r3, .int x4, uV, uV] [] h o h' := by
  unfold kL_law_204 at e
  refine bL_law_204 r1 r2 r3 x4 (by omega) ?_
  obtain ⟨q1, e⟩ := ob_in e
  refine ⟨q1, ?_⟩
  obtain ⟨q2, e⟩ := ob_in e
  refine ⟨q2, ?_⟩
  obtain ⟨q3, e⟩ := ob_in e
  refine ⟨q3, ?_⟩
  obtain ⟨q4, e⟩ := ob_in e
  refine ⟨q4, ?_⟩
  obtain ⟨q5, e⟩ := ob_in e
  refine ⟨q5, ?_⟩
  obtain ⟨q6, e⟩ := ob_e e
  refine ⟨q6, ?_⟩
  obtain ⟨z7, h6, e7, e⟩ := bI_e e
  refine ⟨z7, h6, (tX9_feed e7 (by omega)), ?_⟩
  obtain ⟨q8, e⟩ := ob_in e
  refine ⟨q8, ?_⟩
  obtain ⟨q9, e⟩ := ob_in e
  refine ⟨q9, ?_⟩
  obtain ⟨q10, e⟩ := ob_in e
  refine ⟨q10, ?_⟩
  obtain ⟨q11, e⟩ := ob_in e
  refine ⟨q11, ?_⟩
  obtain ⟨q12, e⟩ := ob_in e
  refine ⟨q12, ?_⟩
  obtain ⟨q13, e⟩ := ob_e e
  refine ⟨q13, ?_⟩
  obtain ⟨z16, h15, e14, e⟩ := bI_e e
  refine ⟨z16, h15, (tX10_feed e14 (by omega)), ?_⟩
  refine ⟨fun c15 => ?_, fun c15 => ?_⟩
  · have e := if_t e c15
    exact hrec _ _ _ _ _ _ e
  · have e := if_f e c15
    cases e
    exact ⟨rfl, rfl⟩
def kL_law_277 (rec : Nat → List Value → List Value → Hp → RS)  (r1 : Nat) (r2 : Nat) (r3 : Nat) (x4 : Int32) (h : Hp) : RS := (if inB (x4 + 1) (lH h 1) = true then (bI (fL_store r1 (h.2 1 (x4 + 1).toNatClampNeg) r3 h) fun z3 h2 => (if inB (x4 + 1) (lH h2 1) = true then (if kH h2 r2 = 18 then (bI (fX10_store r2 (h2.2 1 (x4 + 1).toNatClampNeg) h2) fun z7 h6 => (if kH h6 r2 = 18 then (bI (fX10_thrown r2 h6) fun z11 h10 => (if z11 = z3 then (if ¬ z3 = 0 then (rec 330 [.ref 1, .ref r1, .ref r2, .ref r3, .int x4, uV, uV] [] h10) else (if kH h10 r3 = 4 then (if inB 0 (lH h10 r3) = true then (if (lg_cmp ((h10.2 r3 0).toInt64) z7.toInt64) = 0 then (rec 330 [.ref 1, .ref r1, .ref r2, .ref r3, .int x4, uV, uV] [] h10) else (some (.inl (some (.int 0)), h10))) else none) else none)) else (some (.inl (some (.int 0)), h10)))) else none)) else none) else none)) else none)
theorem uL_law_277 {G : GG} {d : Nat} (hd : 52 ≤ d) (rec : Nat → List Value → List Value → Hp → RS) (hrec : ∀ pc loc st h o h', rec pc loc st h = some (o, h') → V G mL_law d pc loc st h o h')   {r1  r2  r3  x4 } {h : Hp} {o : OU} {h' : Hp} (e : kL_law_277 rec  r1 r2 r3 x4 h = some (o, h')) : V G mL_law d 277 [.ref 1, .ref r1, .ref r2, .ref r3, .int x4, uV, uV] [] h o h' := by
  unfold kL_law_277 at e
  refine bL_law_277 r1 r2 r3 x4 (by omega) ?_
  obtain ⟨q1, e⟩ := ob_in e
  refine ⟨q1, ?_⟩
  obtain ⟨z3, h2, e2, e⟩ := bI_e e
  refine ⟨z3, h2, (tL_store e2 (by omega)), ?_⟩
  obtain ⟨q3, e⟩ := ob_in e
  refine ⟨q3, ?_⟩
  obtain ⟨q4, e⟩ := ob_e e
  refine ⟨q4, ?_⟩
  obtain ⟨z7, h6, e5, e⟩ := bI_e e
  refine ⟨z7, h6, (tX10_store e5 (by omega)), ?_⟩
  obtain ⟨q6, e⟩ := ob_e e
  refine ⟨q6, ?_⟩
  obtain ⟨z11, h10, e7, e⟩ := bI_e e
  refine ⟨z11, h10, (tX10_thrown e7 (by omega)), ?_⟩
  refine ⟨fun c8 => ?_, fun c8 => ?_⟩
  · have e := if_t e c8
    refine ⟨fun c9 => ?_, fun c9 => ?_⟩
    · have e := if_t e c9
      exact hrec _ _ _ _ _ _ e
    · have e := if_n e c9
      obtain ⟨q10, e⟩ := ob_e e
      refine ⟨q10, ?_⟩
      obtain ⟨q11, e⟩ := ob_in e
      refine ⟨q11, ?_⟩
      refine ⟨fun c12 => ?_, fun c12 => ?_⟩
      · have e := if_t e c12
        exact hrec _ _ _ _ _ _ e
      · have e := if_f e c12
        cases e
        exact ⟨rfl, rfl⟩
  · have e := if_f e c8
    cases e
    exact ⟨rfl, rfl⟩
def kL_law_330 (rec : Nat → List Value → List Value → Hp → RS)  (r1 : Nat) (r2 : Nat) (r3 : Nat) (x4 : Int32) (h : Hp) : RS := (rec 2031 [.ref 1, .ref r1, .ref r2, .ref r3, .int x4, uV, uV] [] h)
theorem uL_law_330 {G : GG} {d : Nat} (hd : 52 ≤ d) (rec : Nat → List Value → List Value → Hp → RS) (hrec : ∀ pc loc st h o h', rec pc loc st h = some (o, h') → V G mL_law d pc loc st h o h')   {r1  r2  r3  x4 } {h : Hp} {o : OU} {h' : Hp} (e : kL_law_330 rec  r1 r2 r3 x4 h = some (o, h')) : V G mL_law d 330 [.ref 1, .ref r1, .ref r2, .ref r3, .int x4, uV, uV] [] h o h' := by
  unfold kL_law_330 at e
  refine bL_law_330 r1 r2 r3 x4 ?_
  exact hrec _ _ _ _ _ _ e
def kL_law_333 (rec : Nat → List Value → List Value → Hp → RS)  (r1 : Nat) (r2 : Nat) (r3 : Nat) (x4 : Int32) (h : Hp) : RS := (if inB (x4 + 1) (lH h 1) = true then (bI (fL_work r1 (h.2 1 (x4 + 1).toNatClampNeg) r3 h) fun z3 h2 => (if inB (x4 + 1) (lH h2 1) = true then (if kH h2 r2 = 18 then (bI (fX10_work r2 (h2.2 1 (x4 + 1).toNatClampNeg) h2) fun z7 h6 => (if kH h6 r2 = 18 then (bI (fX10_thrown r2 h6) fun z11 h10 => (if z11 = z3 then (if ¬ z3 = 0 then (rec 386 [.ref 1, .ref r1, .ref r2, .ref r3, .int x4, uV, uV] [] h10) else (if kH h10 r3 = 4 then (if inB 0 (lH h10 r3) = true then (if (lg_cmp ((h10.2 r3 0).toInt64) z7.toInt64) = 0 then (rec 386 [.ref 1, .ref r1, .ref r2, .ref r3, .int x4, uV, uV] [] h10) else (some (.inl (some (.int 0)), h10))) else none) else none)) else (some (.inl (some (.int 0)), h10)))) else none)) else none) else none)) else none)
theorem uL_law_333 {G : GG} {d : Nat} (hd : 52 ≤ d) (rec : Nat → List Value → List Value → Hp → RS) (hrec : ∀ pc loc st h o h', rec pc loc st h = some (o, h') → V G mL_law d pc loc st h o h')   {r1  r2  r3  x4 } {h : Hp} {o : OU} {h' : Hp} (e : kL_law_333 rec  r1 r2 r3 x4 h = some (o, h')) : V G mL_law d 333 [.ref 1, .ref r1, .ref r2, .ref r3, .int x4, uV, uV] [] h o h' := by
  unfold kL_law_333 at e
  refine bL_law_333 r1 r2 r3 x4 (by omega) ?_
  obtain ⟨q1, e⟩ := ob_in e
  refine ⟨q1, ?_⟩
  obtain ⟨z3, h2, e2, e⟩ := bI_e e
  refine ⟨z3, h2, (tL_work e2 (by omega)), ?_⟩
  obtain ⟨q3, e⟩ := ob_in e
  refine ⟨q3, ?_⟩
  obtain ⟨q4, e⟩ := ob_e e
  refine ⟨q4, ?_⟩
  obtain ⟨z7, h6, e5, e⟩ := bI_e e
  refine ⟨z7, h6, (tX10_work e5 (by omega)), ?_⟩
  obtain ⟨q6, e⟩ := ob_e e
  refine ⟨q6, ?_⟩
  obtain ⟨z11, h10, e7, e⟩ := bI_e e
  refine ⟨z11, h10, (tX10_thrown e7 (by omega)), ?_⟩
  refine ⟨fun c8 => ?_, fun c8 => ?_⟩
  · have e := if_t e c8
    refine ⟨fun c9 => ?_, fun c9 => ?_⟩
    · have e := if_t e c9
      exact hrec _ _ _ _ _ _ e
    · have e := if_n e c9
      obtain ⟨q10, e⟩ := ob_e e
      refine ⟨q10, ?_⟩
      obtain ⟨q11, e⟩ := ob_in e
      refine ⟨q11, ?_⟩
      refine ⟨fun c12 => ?_, fun c12 => ?_⟩
      · have e := if_t e c12
        exact hrec _ _ _ _ _ _ e
      · have e := if_f e c12
        cases e
        exact ⟨rfl, rfl⟩
  · have e := if_f e c8
    cases e
    exact ⟨rfl, rfl⟩
def kL_law_386 (rec : Nat → List Value → List Value → Hp → RS)  (r1 : Nat) (r2 : Nat) (r3 : Nat) (x4 : Int32) (h : Hp) : RS := (rec 2031 [.ref 1, .ref r1, .ref r2, .ref r3, .int x4, uV, uV] [] h)
theorem uL_law_386 {G : GG} {d : Nat} (hd : 52 ≤ d) (rec : Nat → List Value → List Value → Hp → RS) (hrec : ∀ pc loc st h o h', rec pc loc st h = some (o, h') → V G mL_law d pc loc st h o h')   {r1  r2  r3  x4 } {h : Hp} {o : OU} {h' : Hp} (e : kL_law_386 rec  r1 r2 r3 x4 h = some (o, h')) : V G mL_law d 386 [.ref 1, .ref r1, .ref r2, .ref r3, .int x4, uV, uV] [] h o h' := by
  unfold kL_law_386 at e
  refine bL_law_386 r1 r2 r3 x4 ?_
  exact hrec _ _ _ _ _ _ e
def kL_law_389 (rec : Nat → List Value → List Value → Hp → RS)  (r1 : Nat) (r2 : Nat) (r3 : Nat) (x4 : Int32) (h : Hp) : RS := (if inB (x4 + 1) (lH h 1) = true then (bI (fL_book r1 (h.2 1 (x4 + 1).toNatClampNeg) r3 h) fun z3 h2 => (if inB (x4 + 1) (lH h2 1) = true then (if kH h2 r2 = 18 then (bI (fX10_book r2 (h2.2 1 (x4 + 1).toNatClampNeg) h2) fun z7 h6 => (if kH h6 r2 = 18 then (bI (fX10_thrown r2 h6) fun z11 h10 => (if z11 = z3 then (if ¬ z3 = 0 then (rec 442 [.ref 1, .ref r1, .ref r2, .ref r3, .int x4, uV, uV] [] h10) else (if kH h10 r3 = 4 then (if inB 0 (lH h10 r3) = true then (if (lg_cmp ((h10.2 r3 0).toInt64) z7.toInt64) = 0 then (rec 442 [.ref 1, .ref r1, .ref r2, .ref r3, .int x4, uV, uV] [] h10) else (some (.inl (some (.int 0)), h10))) else none) else none)) else (some (.inl (some (.int 0)), h10)))) else none)) else none) else none)) else none)
theorem uL_law_389 {G : GG} {d : Nat} (hd : 52 ≤ d) (rec : Nat → List Value → List Value → Hp → RS) (hrec : ∀ pc loc st h o h', rec pc loc st h = some (o, h') → V G mL_law d pc loc st h o h')   {r1  r2  r3  x4 } {h : Hp} {o : OU} {h' : Hp} (e : kL_law_389 rec  r1 r2 r3 x4 h = some (o, h')) : V G mL_law d 389 [.ref 1, .ref r1, .ref r2, .ref r3, .int x4, uV, uV] [] h o h' := by
  unfold kL_law_389 at e
  refine bL_law_389 r1 r2 r3 x4 (by omega) ?_
  obtain ⟨q1, e⟩ := ob_in e
  refine ⟨q1, ?_⟩
  obtain ⟨z3, h2, e2, e⟩ := bI_e e
  refine ⟨z3, h2, (tL_book e2 (by omega)), ?_⟩
  obtain ⟨q3, e⟩ := ob_in e
  refine ⟨q3, ?_⟩
  obtain ⟨q4, e⟩ := ob_e e
  refine ⟨q4, ?_⟩
  obtain ⟨z7, h6, e5, e⟩ := bI_e e
  refine ⟨z7, h6, (tX10_book e5 (by omega)), ?_⟩
  obtain ⟨q6, e⟩ := ob_e e
  refine ⟨q6, ?_⟩
  obtain ⟨z11, h10, e7, e⟩ := bI_e e
  refine ⟨z11, h10, (tX10_thrown e7 (by omega)), ?_⟩
  refine ⟨fun c8 => ?_, fun c8 => ?_⟩
  · have e := if_t e c8
    refine ⟨fun c9 => ?_, fun c9 => ?_⟩
    · have e := if_t e c9
      exact hrec _ _ _ _ _ _ e
    · have e := if_n e c9
      obtain ⟨q10, e⟩ := ob_e e
      refine ⟨q10, ?_⟩
      obtain ⟨q11, e⟩ := ob_in e
      refine ⟨q11, ?_⟩
      refine ⟨fun c12 => ?_, fun c12 => ?_⟩
      · have e := if_t e c12
        exact hrec _ _ _ _ _ _ e
      · have e := if_f e c12
        cases e
        exact ⟨rfl, rfl⟩
  · have e := if_f e c8
    cases e
    exact ⟨rfl, rfl⟩
def kL_law_442 (rec : Nat → List Value → List Value → Hp → RS)  (r1 : Nat) (r2 : Nat) (r3 : Nat) (x4 : Int32) (h : Hp) : RS := (rec 2031 [.ref 1, .ref r1, .ref r2, .ref r3, .int x4, uV, uV] [] h)
theorem uL_law_442 {G : GG} {d : Nat} (hd : 52 ≤ d) (rec : Nat → List Value → List Value → Hp → RS) (hrec : ∀ pc loc st h o h', rec pc loc st h = some (o, h') → V G mL_law d pc loc st h o h')   {r1  r2  r3  x4 } {h : Hp} {o : OU} {h' : Hp} (e : kL_law_442 rec  r1 r2 r3 x4 h = some (o, h')) : V G mL_law d 442 [.ref 1, .ref r1, .ref r2, .ref r3, .int x4, uV, uV] [] h o h' := by
  unfold kL_law_442 at e
  refine bL_law_442 r1 r2 r3 x4 ?_
  exact hrec _ _ _ _ _ _ e
def kL_law_445 (rec : Nat → List Value → List Value → Hp → RS)  (r1 : Nat) (r2 : Nat) (r3 : Nat) (x4 : Int32) (h : Hp) : RS := (if kH h r1 = 19 then (bI (fX9_fault r1 h) fun z2 h1 => (if kH h1 r2 = 18 then (bI (fX10_fault r2 h1) fun z6 h5 => (if z2 = z6 then (rec 2031 [.ref 1, .ref r1, .ref r2, .ref r3, .int x4, uV, uV] [] h5) else (some (.inl (some (.int 0)), h5)))) else none)) else none)
theorem uL_law_445 {G : GG} {d : Nat} (hd : 52 ≤ d) (rec : Nat → List Value → List Value → Hp → RS) (hrec : ∀ pc loc st h o h', rec pc loc st h = some (o, h') → V G mL_law d pc loc st h o h')   {r1  r2  r3  x4 } {h : Hp} {o : OU} {h' : Hp} (e : kL_law_445 rec  r1 r2 r3 x4 h = some (o, h')) : V G mL_law d 445 [.ref 1, .ref r1, .ref r2, .ref r3, .int x4, uV, uV] [] h o h' := by
  unfold kL_law_445 at e
  refine bL_law_445 r1 r2 r3 x4 (by omega) ?_
  obtain ⟨q1, e⟩ := ob_e e
  refine ⟨q1, ?_⟩
  obtain ⟨z2, h1, e2, e⟩ := bI_e e
  refine ⟨z2, h1, (tX9_fault e2 (by omega)), ?_⟩
  obtain ⟨q3, e⟩ := ob_e e
  refine ⟨q3, ?_⟩
  obtain ⟨z6, h5, e4, e⟩ := bI_e e
  refine ⟨z6, h5, (tX10_fault e4 (by omega)), ?_⟩
  refine ⟨fun c5 => ?_, fun c5 => ?_⟩
  · have e := if_t e c5
    exact hrec _ _ _ _ _ _ e
  · have e := if_f e c5
    cases e
    exact ⟨rfl, rfl⟩
def kL_law_458 (rec : Nat → List Value → List Value → Hp → RS)  (r1 : Nat) (r2 : Nat) (r3 : Nat) (x4 : Int32) (h : Hp) : RS := (if kH h r1 = 19 then (bI (fX9_undo r1 h) fun z2 h1 => (if kH h1 r2 = 18 then (bI (fX10_undo r2 h1) fun z6 h5 => (if z2 = z6 then (rec 2031 [.ref 1, .ref r1, .ref r2, .ref r3, .int x4, uV, uV] [] h5) else (some (.inl (some (.int 0)), h5)))) else none)) else none)
theorem uL_law_458 {G : GG} {d : Nat} (hd : 52 ≤ d) (rec : Nat → List Value → List Value → Hp → RS) (hrec : ∀ pc loc st h o h', rec pc loc st h = some (o, h') → V G mL_law d pc loc st h o h')   {r1  r2  r3  x4 } {h : Hp} {o : OU} {h' : Hp} (e : kL_law_458 rec  r1 r2 r3 x4 h = some (o, h')) : V G mL_law d 458 [.ref 1, .ref r1, .ref r2, .ref r3, .int x4, uV, uV] [] h o h' := by
  unfold kL_law_458 at e
  refine bL_law_458 r1 r2 r3 x4 (by omega) ?_
  obtain ⟨q1, e⟩ := ob_e e
  refine ⟨q1, ?_⟩
  obtain ⟨z2, h1, e2, e⟩ := bI_e e
  refine ⟨z2, h1, (tX9_undo e2 (by omega)), ?_⟩
  obtain ⟨q3, e⟩ := ob_e e
  refine ⟨q3, ?_⟩
  obtain ⟨z6, h5, e4, e⟩ := bI_e e
  refine ⟨z6, h5, (tX10_undo e4 (by omega)), ?_⟩
  refine ⟨fun c5 => ?_, fun c5 => ?_⟩
  · have e := if_t e c5
    exact hrec _ _ _ _ _ _ e
  · have e := if_f e c5
    cases e
    exact ⟨rfl, rfl⟩
def kL_law_471 (rec : Nat → List Value → List Value → Hp → RS)  (r1 : Nat) (r2 : Nat) (r3 : Nat) (x4 : Int32) (h : Hp) : RS := (if inB (x4 + 1) (lH h 1) = true then (bI (fL_told r1 (h.2 1 (x4 + 1).toNatClampNeg) r3 h) fun z3 h2 => (if inB (x4 + 1) (lH h2 1) = true then (if kH h2 r2 = 18 then (bI (fX10_told r2 (h2.2 1 (x4 + 1).toNatClampNeg) h2) fun z7 h6 => (if kH h6 r2 = 18 then (bI (fX10_thrown r2 h6) fun z11 h10 => (if z11 = z3 then (if ¬ z3 = 0 then (rec 524 [.ref 1, .ref r1, .ref r2, .ref r3, .int x4, uV, uV] [] h10) else (if kH h10 r3 = 4 then (if inB 0 (lH h10 r3) = true then (if (lg_cmp ((h10.2 r3 0).toInt64) z7.toInt64) = 0 then (rec 524 [.ref 1, .ref r1, .ref r2, .ref r3, .int x4, uV, uV] [] h10) else (some (.inl (some (.int 0)), h10))) else none) else none)) else (some (.inl (some (.int 0)), h10)))) else none)) else none) else none)) else none)
theorem uL_law_471 {G : GG} {d : Nat} (hd : 52 ≤ d) (rec : Nat → List Value → List Value → Hp → RS) (hrec : ∀ pc loc st h o h', rec pc loc st h = some (o, h') → V G mL_law d pc loc st h o h')   {r1  r2  r3  x4 } {h : Hp} {o : OU} {h' : Hp} (e : kL_law_471 rec  r1 r2 r3 x4 h = some (o, h')) : V G mL_law d 471 [.ref 1, .ref r1, .ref r2, .ref r3, .int x4, uV, uV] [] h o h' := by
  unfold kL_law_471 at e
  refine bL_law_471 r1 r2 r3 x4 (by omega) ?_
  obtain ⟨q1, e⟩ := ob_in e
  refine ⟨q1, ?_⟩
  obtain ⟨z3, h2, e2, e⟩ := bI_e e
  refine ⟨z3, h2, (tL_told e2 (by omega)), ?_⟩
  obtain ⟨q3, e⟩ := ob_in e
  refine ⟨q3, ?_⟩
  obtain ⟨q4, e⟩ := ob_e e
  refine ⟨q4, ?_⟩
  obtain ⟨z7, h6, e5, e⟩ := bI_e e
  refine ⟨z7, h6, (tX10_told e5 (by omega)), ?_⟩
  obtain ⟨q6, e⟩ := ob_e e
  refine ⟨q6, ?_⟩
  obtain ⟨z11, h10, e7, e⟩ := bI_e e
  refine ⟨z11, h10, (tX10_thrown e7 (by omega)), ?_⟩
  refine ⟨fun c8 => ?_, fun c8 => ?_⟩
  · have e := if_t e c8
    refine ⟨fun c9 => ?_, fun c9 => ?_⟩
    · have e := if_t e c9
      exact hrec _ _ _ _ _ _ e
    · have e := if_n e c9
      obtain ⟨q10, e⟩ := ob_e e
      refine ⟨q10, ?_⟩
      obtain ⟨q11, e⟩ := ob_in e
      refine ⟨q11, ?_⟩
      refine ⟨fun c12 => ?_, fun c12 => ?_⟩
      · have e := if_t e c12
        exact hrec _ _ _ _ _ _ e
      · have e := if_f e c12
        cases e
        exact ⟨rfl, rfl⟩
  · have e := if_f e c8
    cases e
    exact ⟨rfl, rfl⟩
def kL_law_524 (rec : Nat → List Value → List Value → Hp → RS)  (r1 : Nat) (r2 : Nat) (r3 : Nat) (x4 : Int32) (h : Hp) : RS := (rec 2031 [.ref 1, .ref r1, .ref r2, .ref r3, .int x4, uV, uV] [] h)
theorem uL_law_524 {G : GG} {d : Nat} (hd : 52 ≤ d) (rec : Nat → List Value → List Value → Hp → RS) (hrec : ∀ pc loc st h o h', rec pc loc st h = some (o, h') → V G mL_law d pc loc st h o h')   {r1  r2  r3  x4 } {h : Hp} {o : OU} {h' : Hp} (e : kL_law_524 rec  r1 r2 r3 x4 h = some (o, h')) : V G mL_law d 524 [.ref 1, .ref r1, .ref r2, .ref r3, .int x4, uV, uV] [] h o h' := by
  unfold kL_law_524 at e
  refine bL_law_524 r1 r2 r3 x4 ?_
  exact hrec _ _ _ _ _ _ e
def kL_law_527 (rec : Nat → List Value → List Value → Hp → RS)  (r1 : Nat) (r2 : Nat) (r3 : Nat) (x4 : Int32) (h : Hp) : RS := (if inB (x4 + 1) (lH h 1) = true then (if inB (x4 + 2) (lH h 1) = true then (if inB (x4 + 3) (lH h 1) = true then (bI (fL_peek r1 (h.2 1 (x4 + 1).toNatClampNeg) (h.2 1 (x4 + 2).toNatClampNeg) (h.2 1 (x4 + 3).toNatClampNeg) r3 h) fun z5 h4 => (if inB (x4 + 1) (lH h4 1) = true then (if inB (x4 + 2) (lH h4 1) = true then (if inB (x4 + 3) (lH h4 1) = true then (if kH h4 r2 = 18 then (bI (fX10_peek r2 (h4.2 1 (x4 + 1).toNatClampNeg) (h4.2 1 (x4 + 2).toNatClampNeg) (h4.2 1 (x4 + 3).toNatClampNeg) h4) fun z11 h10 => (if kH h10 r2 = 18 then (bI (fX10_thrown r2 h10) fun z15 h14 => (if z15 = z5 then (if ¬ z5 = 0 then (rec 604 [.ref 1, .ref r1, .ref r2, .ref r3, .int x4, uV, uV] [] h14) else (if kH h14 r3 = 4 then (if inB 0 (lH h14 r3) = true then (if (lg_cmp ((h14.2 r3 0).toInt64) z11.toInt64) = 0 then (rec 604 [.ref 1, .ref r1, .ref r2, .ref r3, .int x4, uV, uV] [] h14) else (some (.inl (some (.int 0)), h14))) else none) else none)) else (some (.inl (some (.int 0)), h14)))) else none)) else none) else none) else none) else none)) else none) else none) else none)
theorem uL_law_527 {G : GG} {d : Nat} (hd : 52 ≤ d) (rec : Nat → List Value → List Value → Hp → RS) (hrec : ∀ pc loc st h o h', rec pc loc st h = some (o, h') → V G mL_law d pc loc st h o h')   {r1  r2  r3  x4 } {h : Hp} {o : OU} {h' : Hp} (e : kL_law_527 rec  r1 r2 r3 x4 h = some (o, h')) : V G mL_law d 527 [.ref 1, .ref r1, .ref r2, .ref r3, .int x4, uV, uV] [] h o h' := by
  unfold kL_law_527 at e
  refine bL_law_527 r1 r2 r3 x4 (by omega) ?_
  obtain ⟨q1, e⟩ := ob_in e
  refine ⟨q1, ?_⟩
  obtain ⟨q2, e⟩ := ob_in e
  refine ⟨q2, ?_⟩
  obtain ⟨q3, e⟩ := ob_in e
  refine ⟨q3, ?_⟩
  obtain ⟨z5, h4, e4, e⟩ := bI_e e
  refine ⟨z5, h4, (tL_peek e4 (by omega)), ?_⟩
  obtain ⟨q5, e⟩ := ob_in e
  refine ⟨q5, ?_⟩
  obtain ⟨q6, e⟩ := ob_in e
  refine ⟨q6, ?_⟩
  obtain ⟨q7, e⟩ := ob_in e
  refine ⟨q7, ?_⟩
  obtain ⟨q8, e⟩ := ob_e e
  refine ⟨q8, ?_⟩
  obtain ⟨z11, h10, e9, e⟩ := bI_e e
  refine ⟨z11, h10, (tX10_peek e9 (by omega)), ?_⟩
  obtain ⟨q10, e⟩ := ob_e e
  refine ⟨q10, ?_⟩
  obtain ⟨z15, h14, e11, e⟩ := bI_e e
  refine ⟨z15, h14, (tX10_thrown e11 (by omega)), ?_⟩
  refine ⟨fun c12 => ?_, fun c12 => ?_⟩
  · have e := if_t e c12
    refine ⟨fun c13 => ?_, fun c13 => ?_⟩
    · have e := if_t e c13
      exact hrec _ _ _ _ _ _ e
    · have e := if_n e c13
      obtain ⟨q14, e⟩ := ob_e e
      refine ⟨q14, ?_⟩
      obtain ⟨q15, e⟩ := ob_in e
      refine ⟨q15, ?_⟩
      refine ⟨fun c16 => ?_, fun c16 => ?_⟩
      · have e := if_t e c16
        exact hrec _ _ _ _ _ _ e
      · have e := if_f e c16
        cases e
        exact ⟨rfl, rfl⟩
  · have e := if_f e c12
    cases e
    exact ⟨rfl, rfl⟩
def kL_law_604 (rec : Nat → List Value → List Value → Hp → RS)  (r1 : Nat) (r2 : Nat) (r3 : Nat) (x4 : Int32) (h : Hp) : RS := (rec 2031 [.ref 1, .ref r1, .ref r2, .ref r3, .int x4, uV, uV] [] h)
theorem uL_law_604 {G : GG} {d : Nat} (hd : 52 ≤ d) (rec : Nat → List Value → List Value → Hp → RS) (hrec : ∀ pc loc st h o h', rec pc loc st h = some (o, h') → V G mL_law d pc loc st h o h')   {r1  r2  r3  x4 } {h : Hp} {o : OU} {h' : Hp} (e : kL_law_604 rec  r1 r2 r3 x4 h = some (o, h')) : V G mL_law d 604 [.ref 1, .ref r1, .ref r2, .ref r3, .int x4, uV, uV] [] h o h' := by
  unfold kL_law_604 at e
  refine bL_law_604 r1 r2 r3 x4 ?_
  exact hrec _ _ _ _ _ _ e
def kL_law_607 (rec : Nat → List Value → List Value → Hp → RS)  (r1 : Nat) (r2 : Nat) (r3 : Nat) (x4 : Int32) (h : Hp) : RS := (if inB (x4 + 1) (lH h 1) = true then (if inB (x4 + 2) (lH h 1) = true then (if inB (x4 + 3) (lH h 1) = true then (bI (fL_node r1 (h.2 1 (x4 + 1).toNatClampNeg) (h.2 1 (x4 + 2).toNatClampNeg) (h.2 1 (x4 + 3).toNatClampNeg) r3 h) fun z5 h4 => (if inB (x4 + 1) (lH h4 1) = true then (if inB (x4 + 2) (lH h4 1) = true then (if inB (x4 + 3) (lH h4 1) = true then (if kH h4 r2 = 18 then (bI (fX10_node r2 (h4.2 1 (x4 + 1).toNatClampNeg) (h4.2 1 (x4 + 2).toNatClampNeg) (h4.2 1 (x4 + 3).toNatClampNeg) h4) fun z11 h10 => (if kH h10 r2 = 18 then (bI (fX10_thrown r2 h10) fun z15 h14 => (if z15 = z5 then (if ¬ z5 = 0 then (rec 684 [.ref 1, .ref r1, .ref r2, .ref r3, .int x4, uV, uV] [] h14) else (if kH h14 r3 = 4 then (if inB 0 (lH h14 r3) = true then (if (lg_cmp ((h14.2 r3 0).toInt64) z11.toInt64) = 0 then (rec 684 [.ref 1, .ref r1, .ref r2, .ref r3, .int x4, uV, uV] [] h14) else (some (.inl (some (.int 0)), h14))) else none) else none)) else (some (.inl (some (.int 0)), h14)))) else none)) else none) else none) else none) else none)) else none) else none) else none)
theorem uL_law_607 {G : GG} {d : Nat} (hd : 52 ≤ d) (rec : Nat → List Value → List Value → Hp → RS) (hrec : ∀ pc loc st h o h', rec pc loc st h = some (o, h') → V G mL_law d pc loc st h o h')   {r1  r2  r3  x4 } {h : Hp} {o : OU} {h' : Hp} (e : kL_law_607 rec  r1 r2 r3 x4 h = some (o, h')) : V G mL_law d 607 [.ref 1, .ref r1, .ref r2, .ref r3, .int x4, uV, uV] [] h o h' := by
  unfold kL_law_607 at e
  refine bL_law_607 r1 r2 r3 x4 (by omega) ?_
  obtain ⟨q1, e⟩ := ob_in e
  refine ⟨q1, ?_⟩
  obtain ⟨q2, e⟩ := ob_in e
  refine ⟨q2, ?_⟩
  obtain ⟨q3, e⟩ := ob_in e
  refine ⟨q3, ?_⟩
  obtain ⟨z5, h4, e4, e⟩ := bI_e e
  refine ⟨z5, h4, (tL_node e4 (by omega)), ?_⟩
  obtain ⟨q5, e⟩ := ob_in e
  refine ⟨q5, ?_⟩
  obtain ⟨q6, e⟩ := ob_in e
  refine ⟨q6, ?_⟩
  obtain ⟨q7, e⟩ := ob_in e
  refine ⟨q7, ?_⟩
  obtain ⟨q8, e⟩ := ob_e e
  refine ⟨q8, ?_⟩
  obtain ⟨z11, h10, e9, e⟩ := bI_e e
  refine ⟨z11, h10, (tX10_node e9 (by omega)), ?_⟩
  obtain ⟨q10, e⟩ := ob_e e
  refine ⟨q10, ?_⟩
  obtain ⟨z15, h14, e11, e⟩ := bI_e e
  refine ⟨z15, h14, (tX10_thrown e11 (by omega)), ?_⟩
  refine ⟨fun c12 => ?_, fun c12 => ?_⟩
  · have e := if_t e c12
    refine ⟨fun c13 => ?_, fun c13 => ?_⟩
    · have e := if_t e c13
      exact hrec _ _ _ _ _ _ e
    · have e := if_n e c13
      obtain ⟨q14, e⟩ := ob_e e
      refine ⟨q14, ?_⟩
      obtain ⟨q15, e⟩ := ob_in e
      refine ⟨q15, ?_⟩
      refine ⟨fun c16 => ?_, fun c16 => ?_⟩
      · have e := if_t e c16
        exact hrec _ _ _ _ _ _ e
      · have e := if_f e c16
        cases e
        exact ⟨rfl, rfl⟩
  · have e := if_f e c12
    cases e
    exact ⟨rfl, rfl⟩
def kL_law_684 (rec : Nat → List Value → List Value → Hp → RS)  (r1 : Nat) (r2 : Nat) (r3 : Nat) (x4 : Int32) (h : Hp) : RS := (rec 2031 [.ref 1, .ref r1, .ref r2, .ref r3, .int x4, uV, uV] [] h)
theorem uL_law_684 {G : GG} {d : Nat} (hd : 52 ≤ d) (rec : Nat → List Value → List Value → Hp → RS) (hrec : ∀ pc loc st h o h', rec pc loc st h = some (o, h') → V G mL_law d pc loc st h o h')   {r1  r2  r3  x4 } {h : Hp} {o : OU} {h' : Hp} (e : kL_law_684 rec  r1 r2 r3 x4 h = some (o, h')) : V G mL_law d 684 [.ref 1, .ref r1, .ref r2, .ref r3, .int x4, uV, uV] [] h o h' := by
  unfold kL_law_684 at e
  refine bL_law_684 r1 r2 r3 x4 ?_
  exact hrec _ _ _ _ _ _ e
def kL_law_687 (rec : Nat → List Value → List Value → Hp → RS)  (r1 : Nat) (r2 : Nat) (r3 : Nat) (x4 : Int32) (h : Hp) : RS := (if inB (x4 + 1) (lH h 1) = true then (if inB (x4 + 2) (lH h 1) = true then (if inB (x4 + 3) (lH h 1) = true then (bI (fL_find r1 (h.2 1 (x4 + 1).toNatClampNeg) (h.2 1 (x4 + 2).toNatClampNeg) (h.2 1 (x4 + 3).toNatClampNeg) r3 h) fun z5 h4 => (if inB (x4 + 1) (lH h4 1) = true then (if inB (x4 + 2) (lH h4 1) = true then (if inB (x4 + 3) (lH h4 1) = true then (if kH h4 r2 = 18 then (bI (fX10_find r2 (h4.2 1 (x4 + 1).toNatClampNeg) (h4.2 1 (x4 + 2).toNatClampNeg) (h4.2 1 (x4 + 3).toNatClampNeg) h4) fun z11 h10 => (if kH h10 r2 = 18 then (bI (fX10_thrown r2 h10) fun z15 h14 => (if z15 = z5 then (if ¬ z5 = 0 then (rec 764 [.ref 1, .ref r1, .ref r2, .ref r3, .int x4, uV, uV] [] h14) else (if kH h14 r3 = 4 then (if inB 0 (lH h14 r3) = true then (if (lg_cmp ((h14.2 r3 0).toInt64) z11.toInt64) = 0 then (rec 764 [.ref 1, .ref r1, .ref r2, .ref r3, .int x4, uV, uV] [] h14) else (some (.inl (some (.int 0)), h14))) else none) else none)) else (some (.inl (some (.int 0)), h14)))) else none)) else none) else none) else none) else none)) else none) else none) else none)
theorem uL_law_687 {G : GG} {d : Nat} (hd : 52 ≤ d) (rec : Nat → List Value → List Value → Hp → RS) (hrec : ∀ pc loc st h o h', rec pc loc st h = some (o, h') → V G mL_law d pc loc st h o h')   {r1  r2  r3  x4 } {h : Hp} {o : OU} {h' : Hp} (e : kL_law_687 rec  r1 r2 r3 x4 h = some (o, h')) : V G mL_law d 687 [.ref 1, .ref r1, .ref r2, .ref r3, .int x4, uV, uV] [] h o h' := by
  unfold kL_law_687 at e
  refine bL_law_687 r1 r2 r3 x4 (by omega) ?_
  obtain ⟨q1, e⟩ := ob_in e
  refine ⟨q1, ?_⟩
  obtain ⟨q2, e⟩ := ob_in e
  refine ⟨q2, ?_⟩
  obtain ⟨q3, e⟩ := ob_in e
  refine ⟨q3, ?_⟩
  obtain ⟨z5, h4, e4, e⟩ := bI_e e
  refine ⟨z5, h4, (tL_find e4 (by omega)), ?_⟩
  obtain ⟨q5, e⟩ := ob_in e
  refine ⟨q5, ?_⟩
  obtain ⟨q6, e⟩ := ob_in e
  refine ⟨q6, ?_⟩
  obtain ⟨q7, e⟩ := ob_in e
  refine ⟨q7, ?_⟩
  obtain ⟨q8, e⟩ := ob_e e
  refine ⟨q8, ?_⟩
  obtain ⟨z11, h10, e9, e⟩ := bI_e e
  refine ⟨z11, h10, (tX10_find e9 (by omega)), ?_⟩
  obtain ⟨q10, e⟩ := ob_e e
  refine ⟨q10, ?_⟩
  obtain ⟨z15, h14, e11, e⟩ := bI_e e
  refine ⟨z15, h14, (tX10_thrown e11 (by omega)), ?_⟩
  refine ⟨fun c12 => ?_, fun c12 => ?_⟩
  · have e := if_t e c12
    refine ⟨fun c13 => ?_, fun c13 => ?_⟩
    · have e := if_t e c13
      exact hrec _ _ _ _ _ _ e
    · have e := if_n e c13
      obtain ⟨q14, e⟩ := ob_e e
      refine ⟨q14, ?_⟩
      obtain ⟨q15, e⟩ := ob_in e
      refine ⟨q15, ?_⟩
      refine ⟨fun c16 => ?_, fun c16 => ?_⟩
      · have e := if_t e c16
        exact hrec _ _ _ _ _ _ e
      · have e := if_f e c16
        cases e
        exact ⟨rfl, rfl⟩
  · have e := if_f e c12
    cases e
    exact ⟨rfl, rfl⟩
def kL_law_764 (rec : Nat → List Value → List Value → Hp → RS)  (r1 : Nat) (r2 : Nat) (r3 : Nat) (x4 : Int32) (h : Hp) : RS := (rec 2031 [.ref 1, .ref r1, .ref r2, .ref r3, .int x4, uV, uV] [] h)
theorem uL_law_764 {G : GG} {d : Nat} (hd : 52 ≤ d) (rec : Nat → List Value → List Value → Hp → RS) (hrec : ∀ pc loc st h o h', rec pc loc st h = some (o, h') → V G mL_law d pc loc st h o h')   {r1  r2  r3  x4 } {h : Hp} {o : OU} {h' : Hp} (e : kL_law_764 rec  r1 r2 r3 x4 h = some (o, h')) : V G mL_law d 764 [.ref 1, .ref r1, .ref r2, .ref r3, .int x4, uV, uV] [] h o h' := by
  unfold kL_law_764 at e
  refine bL_law_764 r1 r2 r3 x4 ?_
  exact hrec _ _ _ _ _ _ e
def kL_law_767 (rec : Nat → List Value → List Value → Hp → RS)  (r1 : Nat) (r2 : Nat) (r3 : Nat) (x4 : Int32) (h : Hp) : RS := (if inB (x4 + 1) (lH h 1) = true then (bI (fL_used r1 (h.2 1 (x4 + 1).toNatClampNeg) r3 h) fun z3 h2 => (if inB (x4 + 1) (lH h2 1) = true then (if kH h2 r2 = 18 then (bI (fX10_used r2 (h2.2 1 (x4 + 1).toNatClampNeg) h2) fun z7 h6 => (if kH h6 r2 = 18 then (bI (fX10_thrown r2 h6) fun z11 h10 => (if z11 = z3 then (if ¬ z3 = 0 then (rec 820 [.ref 1, .ref r1, .ref r2, .ref r3, .int x4, uV, uV] [] h10) else (if kH h10 r3 = 4 then (if inB 0 (lH h10 r3) = true then (if (lg_cmp ((h10.2 r3 0).toInt64) z7.toInt64) = 0 then (rec 820 [.ref 1, .ref r1, .ref r2, .ref r3, .int x4, uV, uV] [] h10) else (some (.inl (some (.int 0)), h10))) else none) else none)) else (some (.inl (some (.int 0)), h10)))) else none)) else none) else none)) else none)
theorem uL_law_767 {G : GG} {d : Nat} (hd : 52 ≤ d) (rec : Nat → List Value → List Value → Hp → RS) (hrec : ∀ pc loc st h o h', rec pc loc st h = some (o, h') → V G mL_law d pc loc st h o h')   {r1  r2  r3  x4 } {h : Hp} {o : OU} {h' : Hp} (e : kL_law_767 rec  r1 r2 r3 x4 h = some (o, h')) : V G mL_law d 767 [.ref 1, .ref r1, .ref r2, .ref r3, .int x4, uV, uV] [] h o h' := by
  unfold kL_law_767 at e
  refine bL_law_767 r1 r2 r3 x4 (by omega) ?_
  obtain ⟨q1, e⟩ := ob_in e
  refine ⟨q1, ?_⟩
  obtain ⟨z3, h2, e2, e⟩ := bI_e e
  refine ⟨z3, h2, (tL_used e2 (by omega)), ?_⟩
  obtain ⟨q3, e⟩ := ob_in e
  refine ⟨q3, ?_⟩
  obtain ⟨q4, e⟩ := ob_e e
  refine ⟨q4, ?_⟩
  obtain ⟨z7, h6, e5, e⟩ := bI_e e
  refine ⟨z7, h6, (tX10_used e5 (by omega)), ?_⟩
  obtain ⟨q6, e⟩ := ob_e e
  refine ⟨q6, ?_⟩
  obtain ⟨z11, h10, e7, e⟩ := bI_e e
  refine ⟨z11, h10, (tX10_thrown e7 (by omega)), ?_⟩
  refine ⟨fun c8 => ?_, fun c8 => ?_⟩
  · have e := if_t e c8
    refine ⟨fun c9 => ?_, fun c9 => ?_⟩
    · have e := if_t e c9
      exact hrec _ _ _ _ _ _ e
    · have e := if_n e c9
      obtain ⟨q10, e⟩ := ob_e e
      refine ⟨q10, ?_⟩
      obtain ⟨q11, e⟩ := ob_in e
      refine ⟨q11, ?_⟩
      refine ⟨fun c12 => ?_, fun c12 => ?_⟩
      · have e := if_t e c12
        exact hrec _ _ _ _ _ _ e
      · have e := if_f e c12
        cases e
        exact ⟨rfl, rfl⟩
  · have e := if_f e c8
    cases e
    exact ⟨rfl, rfl⟩
def kL_law_820 (rec : Nat → List Value → List Value → Hp → RS)  (r1 : Nat) (r2 : Nat) (r3 : Nat) (x4 : Int32) (h : Hp) : RS := (rec 2031 [.ref 1, .ref r1, .ref r2, .ref r3, .int x4, uV, uV] [] h)
theorem uL_law_820 {G : GG} {d : Nat} (hd : 52 ≤ d) (rec : Nat → List Value → List Value → Hp → RS) (hrec : ∀ pc loc st h o h', rec pc loc st h = some (o, h') → V G mL_law d pc loc st h o h')   {r1  r2  r3  x4 } {h : Hp} {o : OU} {h' : Hp} (e : kL_law_820 rec  r1 r2 r3 x4 h = some (o, h')) : V G mL_law d 820 [.ref 1, .ref r1, .ref r2, .ref r3, .int x4, uV, uV] [] h o h' := by
  unfold kL_law_820 at e
  refine bL_law_820 r1 r2 r3 x4 ?_
  exact hrec _ _ _ _ _ _ e
def kL_law_823 (rec : Nat → List Value → List Value → Hp → RS)  (r1 : Nat) (r2 : Nat) (r3 : Nat) (x4 : Int32) (h : Hp) : RS := (if inB (x4 + 1) (lH h 1) = true then (bI (fL_leaks r1 (h.2 1 (x4 + 1).toNatClampNeg) r3 h) fun z3 h2 => (if inB (x4 + 1) (lH h2 1) = true then (if kH h2 r2 = 18 then (bI (fX10_leaks r2 (h2.2 1 (x4 + 1).toNatClampNeg) h2) fun z7 h6 => (if kH h6 r2 = 18 then (bI (fX10_thrown r2 h6) fun z11 h10 => (if z11 = z3 then (if ¬ z3 = 0 then (rec 876 [.ref 1, .ref r1, .ref r2, .ref r3, .int x4, uV, uV] [] h10) else (if kH h10 r3 = 4 then (if inB 0 (lH h10 r3) = true then (if (lg_cmp ((h10.2 r3 0).toInt64) z7.toInt64) = 0 then (rec 876 [.ref 1, .ref r1, .ref r2, .ref r3, .int x4, uV, uV] [] h10) else (some (.inl (some (.int 0)), h10))) else none) else none)) else (some (.inl (some (.int 0)), h10)))) else none)) else none) else none)) else none)
theorem uL_law_823 {G : GG} {d : Nat} (hd : 52 ≤ d) (rec : Nat → List Value → List Value → Hp → RS) (hrec : ∀ pc loc st h o h', rec pc loc st h = some (o, h') → V G mL_law d pc loc st h o h')   {r1  r2  r3  x4 } {h : Hp} {o : OU} {h' : Hp} (e : kL_law_823 rec  r1 r2 r3 x4 h = some (o, h')) : V G mL_law d 823 [.ref 1, .ref r1, .ref r2, .ref r3, .int x4, uV, uV] [] h o h' := by
  unfold kL_law_823 at e
  refine bL_law_823 r1 r2 r3 x4 (by omega) ?_
  obtain ⟨q1, e⟩ := ob_in e
  refine ⟨q1, ?_⟩
  obtain ⟨z3, h2, e2, e⟩ := bI_e e
  refine ⟨z3, h2, (tL_leaks e2 (by omega)), ?_⟩
  obtain ⟨q3, e⟩ := ob_in e
  refine ⟨q3, ?_⟩
  obtain ⟨q4, e⟩ := ob_e e
  refine ⟨q4, ?_⟩
  obtain ⟨z7, h6, e5, e⟩ := bI_e e
  refine ⟨z7, h6, (tX10_leaks e5 (by omega)), ?_⟩
  obtain ⟨q6, e⟩ := ob_e e
  refine ⟨q6, ?_⟩
  obtain ⟨z11, h10, e7, e⟩ := bI_e e
  refine ⟨z11, h10, (tX10_thrown e7 (by omega)), ?_⟩
  refine ⟨fun c8 => ?_, fun c8 => ?_⟩
  · have e := if_t e c8
    refine ⟨fun c9 => ?_, fun c9 => ?_⟩
    · have e := if_t e c9
      exact hrec _ _ _ _ _ _ e
    · have e := if_n e c9
      obtain ⟨q10, e⟩ := ob_e e
      refine ⟨q10, ?_⟩
      obtain ⟨q11, e⟩ := ob_in e
      refine ⟨q11, ?_⟩
      refine ⟨fun c12 => ?_, fun c12 => ?_⟩
      · have e := if_t e c12
        exact hrec _ _ _ _ _ _ e
      · have e := if_f e c12
        cases e
        exact ⟨rfl, rfl⟩
  · have e := if_f e c8
    cases e
    exact ⟨rfl, rfl⟩
def kL_law_876 (rec : Nat → List Value → List Value → Hp → RS)  (r1 : Nat) (r2 : Nat) (r3 : Nat) (x4 : Int32) (h : Hp) : RS := (rec 2031 [.ref 1, .ref r1, .ref r2, .ref r3, .int x4, uV, uV] [] h)
theorem uL_law_876 {G : GG} {d : Nat} (hd : 52 ≤ d) (rec : Nat → List Value → List Value → Hp → RS) (hrec : ∀ pc loc st h o h', rec pc loc st h = some (o, h') → V G mL_law d pc loc st h o h')   {r1  r2  r3  x4 } {h : Hp} {o : OU} {h' : Hp} (e : kL_law_876 rec  r1 r2 r3 x4 h = some (o, h')) : V G mL_law d 876 [.ref 1, .ref r1, .ref r2, .ref r3, .int x4, uV, uV] [] h o h' := by
  unfold kL_law_876 at e
  refine bL_law_876 r1 r2 r3 x4 ?_
  exact hrec _ _ _ _ _ _ e
def kL_law_879 (rec : Nat → List Value → List Value → Hp → RS)  (r1 : Nat) (r2 : Nat) (r3 : Nat) (x4 : Int32) (h : Hp) : RS := (if inB (x4 + 1) (lH h 1) = true then (bI (fL_lost r1 (h.2 1 (x4 + 1).toNatClampNeg) r3 h) fun z3 h2 => (if inB (x4 + 1) (lH h2 1) = true then (if kH h2 r2 = 18 then (bI (fX10_lost r2 (h2.2 1 (x4 + 1).toNatClampNeg) h2) fun z7 h6 => (if kH h6 r2 = 18 then (bI (fX10_thrown r2 h6) fun z11 h10 => (if z11 = z3 then (if ¬ z3 = 0 then (rec 932 [.ref 1, .ref r1, .ref r2, .ref r3, .int x4, uV, uV] [] h10) else (if kH h10 r3 = 4 then (if inB 0 (lH h10 r3) = true then (if (lg_cmp ((h10.2 r3 0).toInt64) z7.toInt64) = 0 then (rec 932 [.ref 1, .ref r1, .ref r2, .ref r3, .int x4, uV, uV] [] h10) else (some (.inl (some (.int 0)), h10))) else none) else none)) else (some (.inl (some (.int 0)), h10)))) else none)) else none) else none)) else none)
theorem uL_law_879 {G : GG} {d : Nat} (hd : 52 ≤ d) (rec : Nat → List Value → List Value → Hp → RS) (hrec : ∀ pc loc st h o h', rec pc loc st h = some (o, h') → V G mL_law d pc loc st h o h')   {r1  r2  r3  x4 } {h : Hp} {o : OU} {h' : Hp} (e : kL_law_879 rec  r1 r2 r3 x4 h = some (o, h')) : V G mL_law d 879 [.ref 1, .ref r1, .ref r2, .ref r3, .int x4, uV, uV] [] h o h' := by
  unfold kL_law_879 at e
  refine bL_law_879 r1 r2 r3 x4 (by omega) ?_
  obtain ⟨q1, e⟩ := ob_in e
  refine ⟨q1, ?_⟩
  obtain ⟨z3, h2, e2, e⟩ := bI_e e
  refine ⟨z3, h2, (tL_lost e2 (by omega)), ?_⟩
  obtain ⟨q3, e⟩ := ob_in e
  refine ⟨q3, ?_⟩
  obtain ⟨q4, e⟩ := ob_e e
  refine ⟨q4, ?_⟩
  obtain ⟨z7, h6, e5, e⟩ := bI_e e
  refine ⟨z7, h6, (tX10_lost e5 (by omega)), ?_⟩
  obtain ⟨q6, e⟩ := ob_e e
  refine ⟨q6, ?_⟩
  obtain ⟨z11, h10, e7, e⟩ := bI_e e
  refine ⟨z11, h10, (tX10_thrown e7 (by omega)), ?_⟩
  refine ⟨fun c8 => ?_, fun c8 => ?_⟩
  · have e := if_t e c8
    refine ⟨fun c9 => ?_, fun c9 => ?_⟩
    · have e := if_t e c9
      exact hrec _ _ _ _ _ _ e
    · have e := if_n e c9
      obtain ⟨q10, e⟩ := ob_e e
      refine ⟨q10, ?_⟩
      obtain ⟨q11, e⟩ := ob_in e
      refine ⟨q11, ?_⟩
      refine ⟨fun c12 => ?_, fun c12 => ?_⟩
      · have e := if_t e c12
        exact hrec _ _ _ _ _ _ e
      · have e := if_f e c12
        cases e
        exact ⟨rfl, rfl⟩
  · have e := if_f e c8
    cases e
    exact ⟨rfl, rfl⟩
def kL_law_932 (rec : Nat → List Value → List Value → Hp → RS)  (r1 : Nat) (r2 : Nat) (r3 : Nat) (x4 : Int32) (h : Hp) : RS := (rec 2031 [.ref 1, .ref r1, .ref r2, .ref r3, .int x4, uV, uV] [] h)
theorem uL_law_932 {G : GG} {d : Nat} (hd : 52 ≤ d) (rec : Nat → List Value → List Value → Hp → RS) (hrec : ∀ pc loc st h o h', rec pc loc st h = some (o, h') → V G mL_law d pc loc st h o h')   {r1  r2  r3  x4 } {h : Hp} {o : OU} {h' : Hp} (e : kL_law_932 rec  r1 r2 r3 x4 h = some (o, h')) : V G mL_law d 932 [.ref 1, .ref r1, .ref r2, .ref r3, .int x4, uV, uV] [] h o h' := by
  unfold kL_law_932 at e
  refine bL_law_932 r1 r2 r3 x4 ?_
  exact hrec _ _ _ _ _ _ e
def kL_law_935 (rec : Nat → List Value → List Value → Hp → RS)  (r1 : Nat) (r2 : Nat) (r3 : Nat) (x4 : Int32) (h : Hp) : RS := (if inB (x4 + 1) (lH h 1) = true then (bI (fL_broken r1 (h.2 1 (x4 + 1).toNatClampNeg) r3 h) fun z3 h2 => (if inB (x4 + 1) (lH h2 1) = true then (if kH h2 r2 = 18 then (bI (fX10_broken r2 (h2.2 1 (x4 + 1).toNatClampNeg) h2) fun z7 h6 => (if kH h6 r2 = 18 then (bI (fX10_thrown r2 h6) fun z11 h10 => (if z11 = z3 then (if ¬ z3 = 0 then (rec 988 [.ref 1, .ref r1, .ref r2, .ref r3, .int x4, uV, uV] [] h10) else (if kH h10 r3 = 4 then (if inB 0 (lH h10 r3) = true then (if (lg_cmp ((h10.2 r3 0).toInt64) z7.toInt64) = 0 then (rec 988 [.ref 1, .ref r1, .ref r2, .ref r3, .int x4, uV, uV] [] h10) else (some (.inl (some (.int 0)), h10))) else none) else none)) else (some (.inl (some (.int 0)), h10)))) else none)) else none) else none)) else none)
theorem uL_law_935 {G : GG} {d : Nat} (hd : 52 ≤ d) (rec : Nat → List Value → List Value → Hp → RS) (hrec : ∀ pc loc st h o h', rec pc loc st h = some (o, h') → V G mL_law d pc loc st h o h')   {r1  r2  r3  x4 } {h : Hp} {o : OU} {h' : Hp} (e : kL_law_935 rec  r1 r2 r3 x4 h = some (o, h')) : V G mL_law d 935 [.ref 1, .ref r1, .ref r2, .ref r3, .int x4, uV, uV] [] h o h' := by
  unfold kL_law_935 at e
  refine bL_law_935 r1 r2 r3 x4 (by omega) ?_
  obtain ⟨q1, e⟩ := ob_in e
  refine ⟨q1, ?_⟩
  obtain ⟨z3, h2, e2, e⟩ := bI_e e
  refine ⟨z3, h2, (tL_broken e2 (by omega)), ?_⟩
  obtain ⟨q3, e⟩ := ob_in e
  refine ⟨q3, ?_⟩
  obtain ⟨q4, e⟩ := ob_e e
  refine ⟨q4, ?_⟩
  obtain ⟨z7, h6, e5, e⟩ := bI_e e
  refine ⟨z7, h6, (tX10_broken e5 (by omega)), ?_⟩
  obtain ⟨q6, e⟩ := ob_e e
  refine ⟨q6, ?_⟩
  obtain ⟨z11, h10, e7, e⟩ := bI_e e
  refine ⟨z11, h10, (tX10_thrown e7 (by omega)), ?_⟩
  refine ⟨fun c8 => ?_, fun c8 => ?_⟩
  · have e := if_t e c8
    refine ⟨fun c9 => ?_, fun c9 => ?_⟩
    · have e := if_t e c9
      exact hrec _ _ _ _ _ _ e
    · have e := if_n e c9
      obtain ⟨q10, e⟩ := ob_e e
      refine ⟨q10, ?_⟩
      obtain ⟨q11, e⟩ := ob_in e
      refine ⟨q11, ?_⟩
      refine ⟨fun c12 => ?_, fun c12 => ?_⟩
      · have e := if_t e c12
        exact hrec _ _ _ _ _ _ e
      · have e := if_f e c12
        cases e
        exact ⟨rfl, rfl⟩
  · have e := if_f e c8
    cases e
    exact ⟨rfl, rfl⟩
def kL_law_988 (rec : Nat → List Value → List Value → Hp → RS)  (r1 : Nat) (r2 : Nat) (r3 : Nat) (x4 : Int32) (h : Hp) : RS := (rec 2031 [.ref 1, .ref r1, .ref r2, .ref r3, .int x4, uV, uV] [] h)
theorem uL_law_988 {G : GG} {d : Nat} (hd : 52 ≤ d) (rec : Nat → List Value → List Value → Hp → RS) (hrec : ∀ pc loc st h o h', rec pc loc st h = some (o, h') → V G mL_law d pc loc st h o h')   {r1  r2  r3  x4 } {h : Hp} {o : OU} {h' : Hp} (e : kL_law_988 rec  r1 r2 r3 x4 h = some (o, h')) : V G mL_law d 988 [.ref 1, .ref r1, .ref r2, .ref r3, .int x4, uV, uV] [] h o h' := by
  unfold kL_law_988 at e
  refine bL_law_988 r1 r2 r3 x4 ?_
  exact hrec _ _ _ _ _ _ e
def kL_law_991 (rec : Nat → List Value → List Value → Hp → RS)  (r1 : Nat) (r2 : Nat) (r3 : Nat) (x4 : Int32) (h : Hp) : RS := (if inB (x4 + 1) (lH h 1) = true then (if inB (x4 + 2) (lH h 1) = true then (bI (fL_under r1 (h.2 1 (x4 + 1).toNatClampNeg) (h.2 1 (x4 + 2).toNatClampNeg) r3 h) fun z4 h3 => (if inB (x4 + 1) (lH h3 1) = true then (if inB (x4 + 2) (lH h3 1) = true then (if kH h3 r2 = 18 then (bI (fX10_under r2 (h3.2 1 (x4 + 1).toNatClampNeg) (h3.2 1 (x4 + 2).toNatClampNeg) h3) fun z9 h8 => (if kH h8 r2 = 18 then (bI (fX10_thrown r2 h8) fun z13 h12 => (if z13 = z4 then (if ¬ z4 = 0 then (rec 1056 [.ref 1, .ref r1, .ref r2, .ref r3, .int x4, uV, uV] [] h12) else (if kH h12 r3 = 4 then (if inB 0 (lH h12 r3) = true then (if (lg_cmp ((h12.2 r3 0).toInt64) z9.toInt64) = 0 then (rec 1056 [.ref 1, .ref r1, .ref r2, .ref r3, .int x4, uV, uV] [] h12) else (some (.inl (some (.int 0)), h12))) else none) else none)) else (some (.inl (some (.int 0)), h12)))) else none)) else none) else none) else none)) else none) else none)
theorem uL_law_991 {G : GG} {d : Nat} (hd : 52 ≤ d) (rec : Nat → List Value → List Value → Hp → RS) (hrec : ∀ pc loc st h o h', rec pc loc st h = some (o, h') → V G mL_law d pc loc st h o h')   {r1  r2  r3  x4 } {h : Hp} {o : OU} {h' : Hp} (e : kL_law_991 rec  r1 r2 r3 x4 h = some (o, h')) : V G mL_law d 991 [.ref 1, .ref r1, .ref r2, .ref r3, .int x4, uV, uV] [] h o h' := by
  unfold kL_law_991 at e
  refine bL_law_991 r1 r2 r3 x4 (by omega) ?_
  obtain ⟨q1, e⟩ := ob_in e
  refine ⟨q1, ?_⟩
  obtain ⟨q2, e⟩ := ob_in e
  refine ⟨q2, ?_⟩
  obtain ⟨z4, h3, e3, e⟩ := bI_e e
  refine ⟨z4, h3, (tL_under e3 (by omega)), ?_⟩
  obtain ⟨q4, e⟩ := ob_in e
  refine ⟨q4, ?_⟩
  obtain ⟨q5, e⟩ := ob_in e
  refine ⟨q5, ?_⟩
  obtain ⟨q6, e⟩ := ob_e e
  refine ⟨q6, ?_⟩
  obtain ⟨z9, h8, e7, e⟩ := bI_e e
  refine ⟨z9, h8, (tX10_under e7 (by omega)), ?_⟩
  obtain ⟨q8, e⟩ := ob_e e
  refine ⟨q8, ?_⟩
  obtain ⟨z13, h12, e9, e⟩ := bI_e e
  refine ⟨z13, h12, (tX10_thrown e9 (by omega)), ?_⟩
  refine ⟨fun c10 => ?_, fun c10 => ?_⟩
  · have e := if_t e c10
    refine ⟨fun c11 => ?_, fun c11 => ?_⟩
    · have e := if_t e c11
      exact hrec _ _ _ _ _ _ e
    · have e := if_n e c11
      obtain ⟨q12, e⟩ := ob_e e
      refine ⟨q12, ?_⟩
      obtain ⟨q13, e⟩ := ob_in e
      refine ⟨q13, ?_⟩
      refine ⟨fun c14 => ?_, fun c14 => ?_⟩
      · have e := if_t e c14
        exact hrec _ _ _ _ _ _ e
      · have e := if_f e c14
        cases e
        exact ⟨rfl, rfl⟩
  · have e := if_f e c10
    cases e
    exact ⟨rfl, rfl⟩
def kL_law_1056 (rec : Nat → List Value → List Value → Hp → RS)  (r1 : Nat) (r2 : Nat) (r3 : Nat) (x4 : Int32) (h : Hp) : RS := (rec 2031 [.ref 1, .ref r1, .ref r2, .ref r3, .int x4, uV, uV] [] h)
theorem uL_law_1056 {G : GG} {d : Nat} (hd : 52 ≤ d) (rec : Nat → List Value → List Value → Hp → RS) (hrec : ∀ pc loc st h o h', rec pc loc st h = some (o, h') → V G mL_law d pc loc st h o h')   {r1  r2  r3  x4 } {h : Hp} {o : OU} {h' : Hp} (e : kL_law_1056 rec  r1 r2 r3 x4 h = some (o, h')) : V G mL_law d 1056 [.ref 1, .ref r1, .ref r2, .ref r3, .int x4, uV, uV] [] h o h' := by
  unfold kL_law_1056 at e
  refine bL_law_1056 r1 r2 r3 x4 ?_
  exact hrec _ _ _ _ _ _ e
def kL_law_1059 (rec : Nat → List Value → List Value → Hp → RS)  (r1 : Nat) (r2 : Nat) (r3 : Nat) (x4 : Int32) (h : Hp) : RS := (if inB (x4 + 1) (lH h 1) = true then (if inB (x4 + 2) (lH h 1) = true then (bI (fL_deep r1 (h.2 1 (x4 + 1).toNatClampNeg) (h.2 1 (x4 + 2).toNatClampNeg) r3 h) fun z4 h3 => (if inB (x4 + 1) (lH h3 1) = true then (if inB (x4 + 2) (lH h3 1) = true then (if kH h3 r2 = 18 then (bI (fX10_deep r2 (h3.2 1 (x4 + 1).toNatClampNeg) (h3.2 1 (x4 + 2).toNatClampNeg) h3) fun z9 h8 => (if kH h8 r2 = 18 then (bI (fX10_thrown r2 h8) fun z13 h12 => (if z13 = z4 then (if ¬ z4 = 0 then (rec 1124 [.ref 1, .ref r1, .ref r2, .ref r3, .int x4, uV, uV] [] h12) else (if kH h12 r3 = 4 then (if inB 0 (lH h12 r3) = true then (if (lg_cmp ((h12.2 r3 0).toInt64) z9.toInt64) = 0 then (rec 1124 [.ref 1, .ref r1, .ref r2, .ref r3, .int x4, uV, uV] [] h12) else (some (.inl (some (.int 0)), h12))) else none) else none)) else (some (.inl (some (.int 0)), h12)))) else none)) else none) else none) else none)) else none) else none)
theorem uL_law_1059 {G : GG} {d : Nat} (hd : 52 ≤ d) (rec : Nat → List Value → List Value → Hp → RS) (hrec : ∀ pc loc st h o h', rec pc loc st h = some (o, h') → V G mL_law d pc loc st h o h')   {r1  r2  r3  x4 } {h : Hp} {o : OU} {h' : Hp} (e : kL_law_1059 rec  r1 r2 r3 x4 h = some (o, h')) : V G mL_law d 1059 [.ref 1, .ref r1, .ref r2, .ref r3, .int x4, uV, uV] [] h o h' := by
  unfold kL_law_1059 at e
  refine bL_law_1059 r1 r2 r3 x4 (by omega) ?_
  obtain ⟨q1, e⟩ := ob_in e
  refine ⟨q1, ?_⟩
  obtain ⟨q2, e⟩ := ob_in e
  refine ⟨q2, ?_⟩
  obtain ⟨z4, h3, e3, e⟩ := bI_e e
  refine ⟨z4, h3, (tL_deep e3 (by omega)), ?_⟩
  obtain ⟨q4, e⟩ := ob_in e
  refine ⟨q4, ?_⟩
  obtain ⟨q5, e⟩ := ob_in e
  refine ⟨q5, ?_⟩
  obtain ⟨q6, e⟩ := ob_e e
  refine ⟨q6, ?_⟩
  obtain ⟨z9, h8, e7, e⟩ := bI_e e
  refine ⟨z9, h8, (tX10_deep e7 (by omega)), ?_⟩
  obtain ⟨q8, e⟩ := ob_e e
  refine ⟨q8, ?_⟩
  obtain ⟨z13, h12, e9, e⟩ := bI_e e
  refine ⟨z13, h12, (tX10_thrown e9 (by omega)), ?_⟩
  refine ⟨fun c10 => ?_, fun c10 => ?_⟩
  · have e := if_t e c10
    refine ⟨fun c11 => ?_, fun c11 => ?_⟩
    · have e := if_t e c11
      exact hrec _ _ _ _ _ _ e
    · have e := if_n e c11
      obtain ⟨q12, e⟩ := ob_e e
      refine ⟨q12, ?_⟩
      obtain ⟨q13, e⟩ := ob_in e
      refine ⟨q13, ?_⟩
      refine ⟨fun c14 => ?_, fun c14 => ?_⟩
      · have e := if_t e c14
        exact hrec _ _ _ _ _ _ e
      · have e := if_f e c14
        cases e
        exact ⟨rfl, rfl⟩
  · have e := if_f e c10
    cases e
    exact ⟨rfl, rfl⟩
def kL_law_1124 (rec : Nat → List Value → List Value → Hp → RS)  (r1 : Nat) (r2 : Nat) (r3 : Nat) (x4 : Int32) (h : Hp) : RS := (rec 2031 [.ref 1, .ref r1, .ref r2, .ref r3, .int x4, uV, uV] [] h)
theorem uL_law_1124 {G : GG} {d : Nat} (hd : 52 ≤ d) (rec : Nat → List Value → List Value → Hp → RS) (hrec : ∀ pc loc st h o h', rec pc loc st h = some (o, h') → V G mL_law d pc loc st h o h')   {r1  r2  r3  x4 } {h : Hp} {o : OU} {h' : Hp} (e : kL_law_1124 rec  r1 r2 r3 x4 h = some (o, h')) : V G mL_law d 1124 [.ref 1, .ref r1, .ref r2, .ref r3, .int x4, uV, uV] [] h o h' := by
  unfold kL_law_1124 at e
  refine bL_law_1124 r1 r2 r3 x4 ?_
  exact hrec _ _ _ _ _ _ e
def kL_law_1127 (rec : Nat → List Value → List Value → Hp → RS)  (r1 : Nat) (r2 : Nat) (r3 : Nat) (x4 : Int32) (h : Hp) : RS := (if inB (x4 + 1) (lH h 1) = true then (if inB (x4 + 2) (lH h 1) = true then (bI (fL_change r1 (h.2 1 (x4 + 1).toNatClampNeg) (h.2 1 (x4 + 2).toNatClampNeg) r3 h) fun z4 h3 => (if inB (x4 + 1) (lH h3 1) = true then (if inB (x4 + 2) (lH h3 1) = true then (if kH h3 r2 = 18 then (bI (fX10_change r2 (h3.2 1 (x4 + 1).toNatClampNeg) (h3.2 1 (x4 + 2).toNatClampNeg) h3) fun z9 h8 => (if kH h8 r2 = 18 then (bI (fX10_thrown r2 h8) fun z13 h12 => (if z13 = z4 then (if ¬ z4 = 0 then (rec 1192 [.ref 1, .ref r1, .ref r2, .ref r3, .int x4, uV, uV] [] h12) else (if kH h12 r3 = 4 then (if inB 0 (lH h12 r3) = true then (if (lg_cmp ((h12.2 r3 0).toInt64) z9.toInt64) = 0 then (rec 1192 [.ref 1, .ref r1, .ref r2, .ref r3, .int x4, uV, uV] [] h12) else (some (.inl (some (.int 0)), h12))) else none) else none)) else (some (.inl (some (.int 0)), h12)))) else none)) else none) else none) else none)) else none) else none)
theorem uL_law_1127 {G : GG} {d : Nat} (hd : 52 ≤ d) (rec : Nat → List Value → List Value → Hp → RS) (hrec : ∀ pc loc st h o h', rec pc loc st h = some (o, h') → V G mL_law d pc loc st h o h')   {r1  r2  r3  x4 } {h : Hp} {o : OU} {h' : Hp} (e : kL_law_1127 rec  r1 r2 r3 x4 h = some (o, h')) : V G mL_law d 1127 [.ref 1, .ref r1, .ref r2, .ref r3, .int x4, uV, uV] [] h o h' := by
  unfold kL_law_1127 at e
  refine bL_law_1127 r1 r2 r3 x4 (by omega) ?_
  obtain ⟨q1, e⟩ := ob_in e
  refine ⟨q1, ?_⟩
  obtain ⟨q2, e⟩ := ob_in e
  refine ⟨q2, ?_⟩
  obtain ⟨z4, h3, e3, e⟩ := bI_e e
  refine ⟨z4, h3, (tL_change e3 (by omega)), ?_⟩
  obtain ⟨q4, e⟩ := ob_in e
  refine ⟨q4, ?_⟩
  obtain ⟨q5, e⟩ := ob_in e
  refine ⟨q5, ?_⟩
  obtain ⟨q6, e⟩ := ob_e e
  refine ⟨q6, ?_⟩
  obtain ⟨z9, h8, e7, e⟩ := bI_e e
  refine ⟨z9, h8, (tX10_change e7 (by omega)), ?_⟩
  obtain ⟨q8, e⟩ := ob_e e
  refine ⟨q8, ?_⟩
  obtain ⟨z13, h12, e9, e⟩ := bI_e e
  refine ⟨z13, h12, (tX10_thrown e9 (by omega)), ?_⟩
  refine ⟨fun c10 => ?_, fun c10 => ?_⟩
  · have e := if_t e c10
    refine ⟨fun c11 => ?_, fun c11 => ?_⟩
    · have e := if_t e c11
      exact hrec _ _ _ _ _ _ e
    · have e := if_n e c11
      obtain ⟨q12, e⟩ := ob_e e
      refine ⟨q12, ?_⟩
      obtain ⟨q13, e⟩ := ob_in e
      refine ⟨q13, ?_⟩
      refine ⟨fun c14 => ?_, fun c14 => ?_⟩
      · have e := if_t e c14
        exact hrec _ _ _ _ _ _ e
      · have e := if_f e c14
        cases e
        exact ⟨rfl, rfl⟩
  · have e := if_f e c10
    cases e
    exact ⟨rfl, rfl⟩
def kL_law_1192 (rec : Nat → List Value → List Value → Hp → RS)  (r1 : Nat) (r2 : Nat) (r3 : Nat) (x4 : Int32) (h : Hp) : RS := (rec 2031 [.ref 1, .ref r1, .ref r2, .ref r3, .int x4, uV, uV] [] h)
theorem uL_law_1192 {G : GG} {d : Nat} (hd : 52 ≤ d) (rec : Nat → List Value → List Value → Hp → RS) (hrec : ∀ pc loc st h o h', rec pc loc st h = some (o, h') → V G mL_law d pc loc st h o h')   {r1  r2  r3  x4 } {h : Hp} {o : OU} {h' : Hp} (e : kL_law_1192 rec  r1 r2 r3 x4 h = some (o, h')) : V G mL_law d 1192 [.ref 1, .ref r1, .ref r2, .ref r3, .int x4, uV, uV] [] h o h' := by
  unfold kL_law_1192 at e
  refine bL_law_1192 r1 r2 r3 x4 ?_
  exact hrec _ _ _ _ _ _ e
def kL_law_1195 (rec : Nat → List Value → List Value → Hp → RS)  (r1 : Nat) (r2 : Nat) (r3 : Nat) (x4 : Int32) (h : Hp) : RS := (if inB (x4 + 1) (lH h 1) = true then (bI (fL_held r1 (h.2 1 (x4 + 1).toNatClampNeg) r3 h) fun z3 h2 => (if inB (x4 + 1) (lH h2 1) = true then (if kH h2 r2 = 18 then (bI (fX10_held r2 (h2.2 1 (x4 + 1).toNatClampNeg) h2) fun z7 h6 => (if kH h6 r2 = 18 then (bI (fX10_thrown r2 h6) fun z11 h10 => (if z11 = z3 then (if ¬ z3 = 0 then (rec 1248 [.ref 1, .ref r1, .ref r2, .ref r3, .int x4, uV, uV] [] h10) else (if kH h10 r3 = 4 then (if inB 0 (lH h10 r3) = true then (if (lg_cmp ((h10.2 r3 0).toInt64) z7.toInt64) = 0 then (rec 1248 [.ref 1, .ref r1, .ref r2, .ref r3, .int x4, uV, uV] [] h10) else (some (.inl (some (.int 0)), h10))) else none) else none)) else (some (.inl (some (.int 0)), h10)))) else none)) else none) else none)) else none)
theorem uL_law_1195 {G : GG} {d : Nat} (hd : 52 ≤ d) (rec : Nat → List Value → List Value → Hp → RS) (hrec : ∀ pc loc st h o h', rec pc loc st h = some (o, h') → V G mL_law d pc loc st h o h')   {r1  r2  r3  x4 } {h : Hp} {o : OU} {h' : Hp} (e : kL_law_1195 rec  r1 r2 r3 x4 h = some (o, h')) : V G mL_law d 1195 [.ref 1, .ref r1, .ref r2, .ref r3, .int x4, uV, uV] [] h o h' := by
  unfold kL_law_1195 at e
  refine bL_law_1195 r1 r2 r3 x4 (by omega) ?_
  obtain ⟨q1, e⟩ := ob_in e
  refine ⟨q1, ?_⟩
  obtain ⟨z3, h2, e2, e⟩ := bI_e e
  refine ⟨z3, h2, (tL_held e2 (by omega)), ?_⟩
  obtain ⟨q3, e⟩ := ob_in e
  refine ⟨q3, ?_⟩
  obtain ⟨q4, e⟩ := ob_e e
  refine ⟨q4, ?_⟩
  obtain ⟨z7, h6, e5, e⟩ := bI_e e
  refine ⟨z7, h6, (tX10_held e5 (by omega)), ?_⟩
  obtain ⟨q6, e⟩ := ob_e e
  refine ⟨q6, ?_⟩
  obtain ⟨z11, h10, e7, e⟩ := bI_e e
  refine ⟨z11, h10, (tX10_thrown e7 (by omega)), ?_⟩
  refine ⟨fun c8 => ?_, fun c8 => ?_⟩
  · have e := if_t e c8
    refine ⟨fun c9 => ?_, fun c9 => ?_⟩
    · have e := if_t e c9
      exact hrec _ _ _ _ _ _ e
    · have e := if_n e c9
      obtain ⟨q10, e⟩ := ob_e e
      refine ⟨q10, ?_⟩
      obtain ⟨q11, e⟩ := ob_in e
      refine ⟨q11, ?_⟩
      refine ⟨fun c12 => ?_, fun c12 => ?_⟩
      · have e := if_t e c12
        exact hrec _ _ _ _ _ _ e
      · have e := if_f e c12
        cases e
        exact ⟨rfl, rfl⟩
  · have e := if_f e c8
    cases e
    exact ⟨rfl, rfl⟩
def kL_law_1248 (rec : Nat → List Value → List Value → Hp → RS)  (r1 : Nat) (r2 : Nat) (r3 : Nat) (x4 : Int32) (h : Hp) : RS := (rec 2031 [.ref 1, .ref r1, .ref r2, .ref r3, .int x4, uV, uV] [] h)
theorem uL_law_1248 {G : GG} {d : Nat} (hd : 52 ≤ d) (rec : Nat → List Value → List Value → Hp → RS) (hrec : ∀ pc loc st h o h', rec pc loc st h = some (o, h') → V G mL_law d pc loc st h o h')   {r1  r2  r3  x4 } {h : Hp} {o : OU} {h' : Hp} (e : kL_law_1248 rec  r1 r2 r3 x4 h = some (o, h')) : V G mL_law d 1248 [.ref 1, .ref r1, .ref r2, .ref r3, .int x4, uV, uV] [] h o h' := by
  unfold kL_law_1248 at e
  refine bL_law_1248 r1 r2 r3 x4 ?_
  exact hrec _ _ _ _ _ _ e
def kL_law_1251 (rec : Nat → List Value → List Value → Hp → RS)  (r1 : Nat) (r2 : Nat) (r3 : Nat) (x4 : Int32) (h : Hp) : RS := (if inB (x4 + 1) (lH h 1) = true then (if inB (x4 + 2) (lH h 1) = true then (bI (fL_copy r1 (h.2 1 (x4 + 1).toNatClampNeg) (h.2 1 (x4 + 2).toNatClampNeg) r3 h) fun z4 h3 => (if inB (x4 + 1) (lH h3 1) = true then (if inB (x4 + 2) (lH h3 1) = true then (if kH h3 r2 = 18 then (bI (fX10_copy r2 (h3.2 1 (x4 + 1).toNatClampNeg) (h3.2 1 (x4 + 2).toNatClampNeg) h3) fun z9 h8 => (if kH h8 r2 = 18 then (bI (fX10_thrown r2 h8) fun z13 h12 => (if z13 = z4 then (if ¬ z4 = 0 then (rec 1316 [.ref 1, .ref r1, .ref r2, .ref r3, .int x4, uV, uV] [] h12) else (if kH h12 r3 = 4 then (if inB 0 (lH h12 r3) = true then (if (lg_cmp ((h12.2 r3 0).toInt64) z9.toInt64) = 0 then (rec 1316 [.ref 1, .ref r1, .ref r2, .ref r3, .int x4, uV, uV] [] h12) else (some (.inl (some (.int 0)), h12))) else none) else none)) else (some (.inl (some (.int 0)), h12)))) else none)) else none) else none) else none)) else none) else none)
theorem uL_law_1251 {G : GG} {d : Nat} (hd : 52 ≤ d) (rec : Nat → List Value → List Value → Hp → RS) (hrec : ∀ pc loc st h o h', rec pc loc st h = some (o, h') → V G mL_law d pc loc st h o h')   {r1  r2  r3  x4 } {h : Hp} {o : OU} {h' : Hp} (e : kL_law_1251 rec  r1 r2 r3 x4 h = some (o, h')) : V G mL_law d 1251 [.ref 1, .ref r1, .ref r2, .ref r3, .int x4, uV, uV] [] h o h' := by
  unfold kL_law_1251 at e
  refine bL_law_1251 r1 r2 r3 x4 (by omega) ?_
  obtain ⟨q1, e⟩ := ob_in e
  refine ⟨q1, ?_⟩
  obtain ⟨q2, e⟩ := ob_in e
  refine ⟨q2, ?_⟩
  obtain ⟨z4, h3, e3, e⟩ := bI_e e
  refine ⟨z4, h3, (tL_copy e3 (by omega)), ?_⟩
  obtain ⟨q4, e⟩ := ob_in e
  refine ⟨q4, ?_⟩
  obtain ⟨q5, e⟩ := ob_in e
  refine ⟨q5, ?_⟩
  obtain ⟨q6, e⟩ := ob_e e
  refine ⟨q6, ?_⟩
  obtain ⟨z9, h8, e7, e⟩ := bI_e e
  refine ⟨z9, h8, (tX10_copy e7 (by omega)), ?_⟩
  obtain ⟨q8, e⟩ := ob_e e
  refine ⟨q8, ?_⟩
  obtain ⟨z13, h12, e9, e⟩ := bI_e e
  refine ⟨z13, h12, (tX10_thrown e9 (by omega)), ?_⟩
  refine ⟨fun c10 => ?_, fun c10 => ?_⟩
  · have e := if_t e c10
    refine ⟨fun c11 => ?_, fun c11 => ?_⟩
    · have e := if_t e c11
      exact hrec _ _ _ _ _ _ e
    · have e := if_n e c11
      obtain ⟨q12, e⟩ := ob_e e
      refine ⟨q12, ?_⟩
      obtain ⟨q13, e⟩ := ob_in e
      refine ⟨q13, ?_⟩
      refine ⟨fun c14 => ?_, fun c14 => ?_⟩
      · have e := if_t e c14
        exact hrec _ _ _ _ _ _ e
      · have e := if_f e c14
        cases e
        exact ⟨rfl, rfl⟩
  · have e := if_f e c10
    cases e
    exact ⟨rfl, rfl⟩
def kL_law_1316 (rec : Nat → List Value → List Value → Hp → RS)  (r1 : Nat) (r2 : Nat) (r3 : Nat) (x4 : Int32) (h : Hp) : RS := (rec 2031 [.ref 1, .ref r1, .ref r2, .ref r3, .int x4, uV, uV] [] h)
theorem uL_law_1316 {G : GG} {d : Nat} (hd : 52 ≤ d) (rec : Nat → List Value → List Value → Hp → RS) (hrec : ∀ pc loc st h o h', rec pc loc st h = some (o, h') → V G mL_law d pc loc st h o h')   {r1  r2  r3  x4 } {h : Hp} {o : OU} {h' : Hp} (e : kL_law_1316 rec  r1 r2 r3 x4 h = some (o, h')) : V G mL_law d 1316 [.ref 1, .ref r1, .ref r2, .ref r3, .int x4, uV, uV] [] h o h' := by
  unfold kL_law_1316 at e
  refine bL_law_1316 r1 r2 r3 x4 ?_
  exact hrec _ _ _ _ _ _ e
def kL_law_1319 (rec : Nat → List Value → List Value → Hp → RS)  (r1 : Nat) (r2 : Nat) (r3 : Nat) (x4 : Int32) (h : Hp) : RS := (if inB (x4 + 1) (lH h 1) = true then (bI (fL_waits r1 (h.2 1 (x4 + 1).toNatClampNeg) r3 h) fun z3 h2 => (if inB (x4 + 1) (lH h2 1) = true then (if kH h2 r2 = 18 then (bI (fX10_waits r2 (h2.2 1 (x4 + 1).toNatClampNeg) h2) fun z7 h6 => (if kH h6 r2 = 18 then (bI (fX10_thrown r2 h6) fun z11 h10 => (if z11 = z3 then (if ¬ z3 = 0 then (rec 1372 [.ref 1, .ref r1, .ref r2, .ref r3, .int x4, uV, uV] [] h10) else (if kH h10 r3 = 4 then (if inB 0 (lH h10 r3) = true then (if (lg_cmp ((h10.2 r3 0).toInt64) z7.toInt64) = 0 then (rec 1372 [.ref 1, .ref r1, .ref r2, .ref r3, .int x4, uV, uV] [] h10) else (some (.inl (some (.int 0)), h10))) else none) else none)) else (some (.inl (some (.int 0)), h10)))) else none)) else none) else none)) else none)
theorem uL_law_1319 {G : GG} {d : Nat} (hd : 52 ≤ d) (rec : Nat → List Value → List Value → Hp → RS) (hrec : ∀ pc loc st h o h', rec pc loc st h = some (o, h') → V G mL_law d pc loc st h o h')   {r1  r2  r3  x4 } {h : Hp} {o : OU} {h' : Hp} (e : kL_law_1319 rec  r1 r2 r3 x4 h = some (o, h')) : V G mL_law d 1319 [.ref 1, .ref r1, .ref r2, .ref r3, .int x4, uV, uV] [] h o h' := by
  unfold kL_law_1319 at e
  refine bL_law_1319 r1 r2 r3 x4 (by omega) ?_
  obtain ⟨q1, e⟩ := ob_in e
  refine ⟨q1, ?_⟩
  obtain ⟨z3, h2, e2, e⟩ := bI_e e
  refine ⟨z3, h2, (tL_waits e2 (by omega)), ?_⟩
  obtain ⟨q3, e⟩ := ob_in e
  refine ⟨q3, ?_⟩
  obtain ⟨q4, e⟩ := ob_e e
  refine ⟨q4, ?_⟩
  obtain ⟨z7, h6, e5, e⟩ := bI_e e
  refine ⟨z7, h6, (tX10_waits e5 (by omega)), ?_⟩
  obtain ⟨q6, e⟩ := ob_e e
  refine ⟨q6, ?_⟩
  obtain ⟨z11, h10, e7, e⟩ := bI_e e
  refine ⟨z11, h10, (tX10_thrown e7 (by omega)), ?_⟩
  refine ⟨fun c8 => ?_, fun c8 => ?_⟩
  · have e := if_t e c8
    refine ⟨fun c9 => ?_, fun c9 => ?_⟩
    · have e := if_t e c9
      exact hrec _ _ _ _ _ _ e
    · have e := if_n e c9
      obtain ⟨q10, e⟩ := ob_e e
      refine ⟨q10, ?_⟩
      obtain ⟨q11, e⟩ := ob_in e
      refine ⟨q11, ?_⟩
      refine ⟨fun c12 => ?_, fun c12 => ?_⟩
      · have e := if_t e c12
        exact hrec _ _ _ _ _ _ e
      · have e := if_f e c12
        cases e
        exact ⟨rfl, rfl⟩
  · have e := if_f e c8
    cases e
    exact ⟨rfl, rfl⟩
def kL_law_1372 (rec : Nat → List Value → List Value → Hp → RS)  (r1 : Nat) (r2 : Nat) (r3 : Nat) (x4 : Int32) (h : Hp) : RS := (rec 2031 [.ref 1, .ref r1, .ref r2, .ref r3, .int x4, uV, uV] [] h)
theorem uL_law_1372 {G : GG} {d : Nat} (hd : 52 ≤ d) (rec : Nat → List Value → List Value → Hp → RS) (hrec : ∀ pc loc st h o h', rec pc loc st h = some (o, h') → V G mL_law d pc loc st h o h')   {r1  r2  r3  x4 } {h : Hp} {o : OU} {h' : Hp} (e : kL_law_1372 rec  r1 r2 r3 x4 h = some (o, h')) : V G mL_law d 1372 [.ref 1, .ref r1, .ref r2, .ref r3, .int x4, uV, uV] [] h o h' := by
  unfold kL_law_1372 at e
  refine bL_law_1372 r1 r2 r3 x4 ?_
  exact hrec _ _ _ _ _ _ e
def kL_law_1375 (rec : Nat → List Value → List Value → Hp → RS)  (r1 : Nat) (r2 : Nat) (r3 : Nat) (x4 : Int32) (h : Hp) : RS := (if kH h r1 = 19 then (bI (fX9_rings r1 h) fun z2 h1 => (if kH h1 r2 = 18 then (bI (fX10_rings r2 h1) fun z6 h5 => (if z2 = z6 then (rec 2031 [.ref 1, .ref r1, .ref r2, .ref r3, .int x4, uV, uV] [] h5) else (some (.inl (some (.int 0)), h5)))) else none)) else none)
theorem uL_law_1375 {G : GG} {d : Nat} (hd : 52 ≤ d) (rec : Nat → List Value → List Value → Hp → RS) (hrec : ∀ pc loc st h o h', rec pc loc st h = some (o, h') → V G mL_law d pc loc st h o h')   {r1  r2  r3  x4 } {h : Hp} {o : OU} {h' : Hp} (e : kL_law_1375 rec  r1 r2 r3 x4 h = some (o, h')) : V G mL_law d 1375 [.ref 1, .ref r1, .ref r2, .ref r3, .int x4, uV, uV] [] h o h' := by
  unfold kL_law_1375 at e
  refine bL_law_1375 r1 r2 r3 x4 (by omega) ?_
  obtain ⟨q1, e⟩ := ob_e e
  refine ⟨q1, ?_⟩
  obtain ⟨z2, h1, e2, e⟩ := bI_e e
  refine ⟨z2, h1, (tX9_rings e2 (by omega)), ?_⟩
  obtain ⟨q3, e⟩ := ob_e e
  refine ⟨q3, ?_⟩
  obtain ⟨z6, h5, e4, e⟩ := bI_e e
  refine ⟨z6, h5, (tX10_rings e4 (by omega)), ?_⟩
  refine ⟨fun c5 => ?_, fun c5 => ?_⟩
  · have e := if_t e c5
    exact hrec _ _ _ _ _ _ e
  · have e := if_f e c5
    cases e
    exact ⟨rfl, rfl⟩
def kL_law_1388 (rec : Nat → List Value → List Value → Hp → RS)  (r1 : Nat) (r2 : Nat) (r3 : Nat) (x4 : Int32) (h : Hp) : RS := (if kH h r1 = 19 then (bI (fX9_settle r1 h) fun z2 h1 => (if kH h1 r2 = 18 then (bI (fX10_settle r2 h1) fun z6 h5 => (if z2 = z6 then (rec 2031 [.ref 1, .ref r1, .ref r2, .ref r3, .int x4, uV, uV] [] h5) else (some (.inl (some (.int 0)), h5)))) else none)) else none)
theorem uL_law_1388 {G : GG} {d : Nat} (hd : 52 ≤ d) (rec : Nat → List Value → List Value → Hp → RS) (hrec : ∀ pc loc st h o h', rec pc loc st h = some (o, h') → V G mL_law d pc loc st h o h')   {r1  r2  r3  x4 } {h : Hp} {o : OU} {h' : Hp} (e : kL_law_1388 rec  r1 r2 r3 x4 h = some (o, h')) : V G mL_law d 1388 [.ref 1, .ref r1, .ref r2, .ref r3, .int x4, uV, uV] [] h o h' := by
  unfold kL_law_1388 at e
  refine bL_law_1388 r1 r2 r3 x4 (by omega) ?_
  obtain ⟨q1, e⟩ := ob_e e
  refine ⟨q1, ?_⟩
  obtain ⟨z2, h1, e2, e⟩ := bI_e e
  refine ⟨z2, h1, (tX9_settle e2 (by omega)), ?_⟩
  obtain ⟨q3, e⟩ := ob_e e
  refine ⟨q3, ?_⟩
  obtain ⟨z6, h5, e4, e⟩ := bI_e e
  refine ⟨z6, h5, (tX10_settle e4 (by omega)), ?_⟩
  refine ⟨fun c5 => ?_, fun c5 => ?_⟩
  · have e := if_t e c5
    exact hrec _ _ _ _ _ _ e
  · have e := if_f e c5
    cases e
    exact ⟨rfl, rfl⟩
def kL_law_1401 (rec : Nat → List Value → List Value → Hp → RS)  (r1 : Nat) (r2 : Nat) (r3 : Nat) (x4 : Int32) (h : Hp) : RS := (if inB (x4 + 1) (lH h 1) = true then (bI (fL_spill r1 (h.2 1 (x4 + 1).toNatClampNeg) r3 h) fun z3 h2 => (if inB (x4 + 1) (lH h2 1) = true then (if kH h2 r2 = 18 then (bI (fX10_spill r2 (h2.2 1 (x4 + 1).toNatClampNeg) h2) fun z7 h6 => (if kH h6 r2 = 18 then (bI (fX10_thrown r2 h6) fun z11 h10 => (if z11 = z3 then (if ¬ z3 = 0 then (rec 1454 [.ref 1, .ref r1, .ref r2, .ref r3, .int x4, uV, uV] [] h10) else (if kH h10 r3 = 4 then (if inB 0 (lH h10 r3) = true then (if (lg_cmp ((h10.2 r3 0).toInt64) z7.toInt64) = 0 then (rec 1454 [.ref 1, .ref r1, .ref r2, .ref r3, .int x4, uV, uV] [] h10) else (some (.inl (some (.int 0)), h10))) else none) else none)) else (some (.inl (some (.int 0)), h10)))) else none)) else none) else none)) else none)
theorem uL_law_1401 {G : GG} {d : Nat} (hd : 52 ≤ d) (rec : Nat → List Value → List Value → Hp → RS) (hrec : ∀ pc loc st h o h', rec pc loc st h = some (o, h') → V G mL_law d pc loc st h o h')   {r1  r2  r3  x4 } {h : Hp} {o : OU} {h' : Hp} (e : kL_law_1401 rec  r1 r2 r3 x4 h = some (o, h')) : V G mL_law d 1401 [.ref 1, .ref r1, .ref r2, .ref r3, .int x4, uV, uV] [] h o h' := by
  unfold kL_law_1401 at e
  refine bL_law_1401 r1 r2 r3 x4 (by omega) ?_
  obtain ⟨q1, e⟩ := ob_in e
  refine ⟨q1, ?_⟩
  obtain ⟨z3, h2, e2, e⟩ := bI_e e
  refine ⟨z3, h2, (tL_spill e2 (by omega)), ?_⟩
  obtain ⟨q3, e⟩ := ob_in e
  refine ⟨q3, ?_⟩
  obtain ⟨q4, e⟩ := ob_e e
  refine ⟨q4, ?_⟩
  obtain ⟨z7, h6, e5, e⟩ := bI_e e
  refine ⟨z7, h6, (tX10_spill e5 (by omega)), ?_⟩
  obtain ⟨q6, e⟩ := ob_e e
  refine ⟨q6, ?_⟩
  obtain ⟨z11, h10, e7, e⟩ := bI_e e
  refine ⟨z11, h10, (tX10_thrown e7 (by omega)), ?_⟩
  refine ⟨fun c8 => ?_, fun c8 => ?_⟩
  · have e := if_t e c8
    refine ⟨fun c9 => ?_, fun c9 => ?_⟩
    · have e := if_t e c9
      exact hrec _ _ _ _ _ _ e
    · have e := if_n e c9
      obtain ⟨q10, e⟩ := ob_e e
      refine ⟨q10, ?_⟩
      obtain ⟨q11, e⟩ := ob_in e
      refine ⟨q11, ?_⟩
      refine ⟨fun c12 => ?_, fun c12 => ?_⟩
      · have e := if_t e c12
        exact hrec _ _ _ _ _ _ e
      · have e := if_f e c12
        cases e
        exact ⟨rfl, rfl⟩
  · have e := if_f e c8
    cases e
    exact ⟨rfl, rfl⟩
def kL_law_1454 (rec : Nat → List Value → List Value → Hp → RS)  (r1 : Nat) (r2 : Nat) (r3 : Nat) (x4 : Int32) (h : Hp) : RS := (rec 2031 [.ref 1, .ref r1, .ref r2, .ref r3, .int x4, uV, uV] [] h)
theorem uL_law_1454 {G : GG} {d : Nat} (hd : 52 ≤ d) (rec : Nat → List Value → List Value → Hp → RS) (hrec : ∀ pc loc st h o h', rec pc loc st h = some (o, h') → V G mL_law d pc loc st h o h')   {r1  r2  r3  x4 } {h : Hp} {o : OU} {h' : Hp} (e : kL_law_1454 rec  r1 r2 r3 x4 h = some (o, h')) : V G mL_law d 1454 [.ref 1, .ref r1, .ref r2, .ref r3, .int x4, uV, uV] [] h o h' := by
  unfold kL_law_1454 at e
  refine bL_law_1454 r1 r2 r3 x4 ?_
  exact hrec _ _ _ _ _ _ e
def kL_law_1457 (rec : Nat → List Value → List Value → Hp → RS)  (r1 : Nat) (r2 : Nat) (r3 : Nat) (x4 : Int32) (h : Hp) : RS := (if kH h r1 = 19 then (bI (fX9_fewest r1 h) fun z2 h1 => (if kH h1 r2 = 18 then (bI (fX10_fewest r2 h1) fun z6 h5 => (if z2 = z6 then (rec 2031 [.ref 1, .ref r1, .ref r2, .ref r3, .int x4, uV, uV] [] h5) else (some (.inl (some (.int 0)), h5)))) else none)) else none)
theorem uL_law_1457 {G : GG} {d : Nat} (hd : 52 ≤ d) (rec : Nat → List Value → List Value → Hp → RS) (hrec : ∀ pc loc st h o h', rec pc loc st h = some (o, h') → V G mL_law d pc loc st h o h')   {r1  r2  r3  x4 } {h : Hp} {o : OU} {h' : Hp} (e : kL_law_1457 rec  r1 r2 r3 x4 h = some (o, h')) : V G mL_law d 1457 [.ref 1, .ref r1, .ref r2, .ref r3, .int x4, uV, uV] [] h o h' := by
  unfold kL_law_1457 at e
  refine bL_law_1457 r1 r2 r3 x4 (by omega) ?_
  obtain ⟨q1, e⟩ := ob_e e
  refine ⟨q1, ?_⟩
  obtain ⟨z2, h1, e2, e⟩ := bI_e e
  refine ⟨z2, h1, (tX9_fewest e2 (by omega)), ?_⟩
  obtain ⟨q3, e⟩ := ob_e e
  refine ⟨q3, ?_⟩
  obtain ⟨z6, h5, e4, e⟩ := bI_e e
  refine ⟨z6, h5, (tX10_fewest e4 (by omega)), ?_⟩
  refine ⟨fun c5 => ?_, fun c5 => ?_⟩
  · have e := if_t e c5
    exact hrec _ _ _ _ _ _ e
  · have e := if_f e c5
    cases e
    exact ⟨rfl, rfl⟩
def kL_law_1470 (rec : Nat → List Value → List Value → Hp → RS)  (r1 : Nat) (r2 : Nat) (r3 : Nat) (x4 : Int32) (h : Hp) : RS := (if kH h r1 = 19 then (bI (fX9_finds r1 h) fun z2 h1 => (if kH h1 r2 = 18 then (bI (fX10_finds r2 h1) fun z6 h5 => (if z2 = z6 then (rec 2031 [.ref 1, .ref r1, .ref r2, .ref r3, .int x4, uV, uV] [] h5) else (some (.inl (some (.int 0)), h5)))) else none)) else none)
theorem uL_law_1470 {G : GG} {d : Nat} (hd : 52 ≤ d) (rec : Nat → List Value → List Value → Hp → RS) (hrec : ∀ pc loc st h o h', rec pc loc st h = some (o, h') → V G mL_law d pc loc st h o h')   {r1  r2  r3  x4 } {h : Hp} {o : OU} {h' : Hp} (e : kL_law_1470 rec  r1 r2 r3 x4 h = some (o, h')) : V G mL_law d 1470 [.ref 1, .ref r1, .ref r2, .ref r3, .int x4, uV, uV] [] h o h' := by
  unfold kL_law_1470 at e
  refine bL_law_1470 r1 r2 r3 x4 (by omega) ?_
  obtain ⟨q1, e⟩ := ob_e e
  refine ⟨q1, ?_⟩
  obtain ⟨z2, h1, e2, e⟩ := bI_e e
  refine ⟨z2, h1, (tX9_finds e2 (by omega)), ?_⟩
  obtain ⟨q3, e⟩ := ob_e e
  refine ⟨q3, ?_⟩
  obtain ⟨z6, h5, e4, e⟩ := bI_e e
  refine ⟨z6, h5, (tX10_finds e4 (by omega)), ?_⟩
  refine ⟨fun c5 => ?_, fun c5 => ?_⟩
  · have e := if_t e c5
    exact hrec _ _ _ _ _ _ e
  · have e := if_f e c5
    cases e
    exact ⟨rfl, rfl⟩
def kL_law_1483 (rec : Nat → List Value → List Value → Hp → RS)  (r1 : Nat) (r2 : Nat) (r3 : Nat) (x4 : Int32) (h : Hp) : RS := (if kH h r1 = 19 then (bI (fX9_sweeps r1 h) fun z2 h1 => (if kH h1 r2 = 18 then (bI (fX10_sweeps r2 h1) fun z6 h5 => (if z2 = z6 then (rec 2031 [.ref 1, .ref r1, .ref r2, .ref r3, .int x4, uV, uV] [] h5) else (some (.inl (some (.int 0)), h5)))) else none)) else none)
theorem uL_law_1483 {G : GG} {d : Nat} (hd : 52 ≤ d) (rec : Nat → List Value → List Value → Hp → RS) (hrec : ∀ pc loc st h o h', rec pc loc st h = some (o, h') → V G mL_law d pc loc st h o h')   {r1  r2  r3  x4 } {h : Hp} {o : OU} {h' : Hp} (e : kL_law_1483 rec  r1 r2 r3 x4 h = some (o, h')) : V G mL_law d 1483 [.ref 1, .ref r1, .ref r2, .ref r3, .int x4, uV, uV] [] h o h' := by
  unfold kL_law_1483 at e
  refine bL_law_1483 r1 r2 r3 x4 (by omega) ?_
  obtain ⟨q1, e⟩ := ob_e e
  refine ⟨q1, ?_⟩
  obtain ⟨z2, h1, e2, e⟩ := bI_e e
  refine ⟨z2, h1, (tX9_sweeps e2 (by omega)), ?_⟩
  obtain ⟨q3, e⟩ := ob_e e
  refine ⟨q3, ?_⟩
  obtain ⟨z6, h5, e4, e⟩ := bI_e e
  refine ⟨z6, h5, (tX10_sweeps e4 (by omega)), ?_⟩
  refine ⟨fun c5 => ?_, fun c5 => ?_⟩
  · have e := if_t e c5
    exact hrec _ _ _ _ _ _ e
  · have e := if_f e c5
    cases e
    exact ⟨rfl, rfl⟩
def kL_law_1496 (rec : Nat → List Value → List Value → Hp → RS)  (r1 : Nat) (r2 : Nat) (r3 : Nat) (x4 : Int32) (h : Hp) : RS := (if kH h r1 = 19 then (bI (fX9_fits r1 h) fun z2 h1 => (if kH h1 r2 = 18 then (bI (fX10_fits r2 h1) fun z6 h5 => (if z2 = z6 then (rec 2031 [.ref 1, .ref r1, .ref r2, .ref r3, .int x4, uV, uV] [] h5) else (some (.inl (some (.int 0)), h5)))) else none)) else none)
theorem uL_law_1496 {G : GG} {d : Nat} (hd : 52 ≤ d) (rec : Nat → List Value → List Value → Hp → RS) (hrec : ∀ pc loc st h o h', rec pc loc st h = some (o, h') → V G mL_law d pc loc st h o h')   {r1  r2  r3  x4 } {h : Hp} {o : OU} {h' : Hp} (e : kL_law_1496 rec  r1 r2 r3 x4 h = some (o, h')) : V G mL_law d 1496 [.ref 1, .ref r1, .ref r2, .ref r3, .int x4, uV, uV] [] h o h' := by
  unfold kL_law_1496 at e
  refine bL_law_1496 r1 r2 r3 x4 (by omega) ?_
  obtain ⟨q1, e⟩ := ob_e e
  refine ⟨q1, ?_⟩
  obtain ⟨z2, h1, e2, e⟩ := bI_e e
  refine ⟨z2, h1, (tX9_fits e2 (by omega)), ?_⟩
  obtain ⟨q3, e⟩ := ob_e e
  refine ⟨q3, ?_⟩
  obtain ⟨z6, h5, e4, e⟩ := bI_e e
  refine ⟨z6, h5, (tX10_fits e4 (by omega)), ?_⟩
  refine ⟨fun c5 => ?_, fun c5 => ?_⟩
  · have e := if_t e c5
    exact hrec _ _ _ _ _ _ e
  · have e := if_f e c5
    cases e
    exact ⟨rfl, rfl⟩
def kL_law_1509 (rec : Nat → List Value → List Value → Hp → RS)  (r1 : Nat) (r2 : Nat) (r3 : Nat) (x4 : Int32) (h : Hp) : RS := (if inB (x4 + 1) (lH h 1) = true then (bI (fL_look r1 (h.2 1 (x4 + 1).toNatClampNeg) r3 h) fun z3 h2 => (if inB (x4 + 1) (lH h2 1) = true then (if kH h2 r2 = 18 then (bI (fX10_look r2 (h2.2 1 (x4 + 1).toNatClampNeg) h2) fun z7 h6 => (if kH h6 r2 = 18 then (bI (fX10_thrown r2 h6) fun z11 h10 => (if z11 = z3 then (if ¬ z3 = 0 then (rec 1562 [.ref 1, .ref r1, .ref r2, .ref r3, .int x4, uV, uV] [] h10) else (if kH h10 r3 = 4 then (if inB 0 (lH h10 r3) = true then (if (lg_cmp ((h10.2 r3 0).toInt64) z7.toInt64) = 0 then (rec 1562 [.ref 1, .ref r1, .ref r2, .ref r3, .int x4, uV, uV] [] h10) else (some (.inl (some (.int 0)), h10))) else none) else none)) else (some (.inl (some (.int 0)), h10)))) else none)) else none) else none)) else none)
theorem uL_law_1509 {G : GG} {d : Nat} (hd : 52 ≤ d) (rec : Nat → List Value → List Value → Hp → RS) (hrec : ∀ pc loc st h o h', rec pc loc st h = some (o, h') → V G mL_law d pc loc st h o h')   {r1  r2  r3  x4 } {h : Hp} {o : OU} {h' : Hp} (e : kL_law_1509 rec  r1 r2 r3 x4 h = some (o, h')) : V G mL_law d 1509 [.ref 1, .ref r1, .ref r2, .ref r3, .int x4, uV, uV] [] h o h' := by
  unfold kL_law_1509 at e
  refine bL_law_1509 r1 r2 r3 x4 (by omega) ?_
  obtain ⟨q1, e⟩ := ob_in e
  refine ⟨q1, ?_⟩
  obtain ⟨z3, h2, e2, e⟩ := bI_e e
  refine ⟨z3, h2, (tL_look e2 (by omega)), ?_⟩
  obtain ⟨q3, e⟩ := ob_in e
  refine ⟨q3, ?_⟩
  obtain ⟨q4, e⟩ := ob_e e
  refine ⟨q4, ?_⟩
  obtain ⟨z7, h6, e5, e⟩ := bI_e e
  refine ⟨z7, h6, (tX10_look e5 (by omega)), ?_⟩
  obtain ⟨q6, e⟩ := ob_e e
  refine ⟨q6, ?_⟩
  obtain ⟨z11, h10, e7, e⟩ := bI_e e
  refine ⟨z11, h10, (tX10_thrown e7 (by omega)), ?_⟩
  refine ⟨fun c8 => ?_, fun c8 => ?_⟩
  · have e := if_t e c8
    refine ⟨fun c9 => ?_, fun c9 => ?_⟩
    · have e := if_t e c9
      exact hrec _ _ _ _ _ _ e
    · have e := if_n e c9
      obtain ⟨q10, e⟩ := ob_e e
      refine ⟨q10, ?_⟩
      obtain ⟨q11, e⟩ := ob_in e
      refine ⟨q11, ?_⟩
      refine ⟨fun c12 => ?_, fun c12 => ?_⟩
      · have e := if_t e c12
        exact hrec _ _ _ _ _ _ e
      · have e := if_f e c12
        cases e
        exact ⟨rfl, rfl⟩
  · have e := if_f e c8
    cases e
    exact ⟨rfl, rfl⟩
def kL_law_1562 (rec : Nat → List Value → List Value → Hp → RS)  (r1 : Nat) (r2 : Nat) (r3 : Nat) (x4 : Int32) (h : Hp) : RS := (rec 2031 [.ref 1, .ref r1, .ref r2, .ref r3, .int x4, uV, uV] [] h)
theorem uL_law_1562 {G : GG} {d : Nat} (hd : 52 ≤ d) (rec : Nat → List Value → List Value → Hp → RS) (hrec : ∀ pc loc st h o h', rec pc loc st h = some (o, h') → V G mL_law d pc loc st h o h')   {r1  r2  r3  x4 } {h : Hp} {o : OU} {h' : Hp} (e : kL_law_1562 rec  r1 r2 r3 x4 h = some (o, h')) : V G mL_law d 1562 [.ref 1, .ref r1, .ref r2, .ref r3, .int x4, uV, uV] [] h o h' := by
  unfold kL_law_1562 at e
  refine bL_law_1562 r1 r2 r3 x4 ?_
  exact hrec _ _ _ _ _ _ e
def kL_law_1565 (rec : Nat → List Value → List Value → Hp → RS)  (r1 : Nat) (r2 : Nat) (r3 : Nat) (x4 : Int32) (h : Hp) : RS := (if inB (x4 + 1) (lH h 1) = true then (bI (fL_room r1 (h.2 1 (x4 + 1).toNatClampNeg) r3 h) fun z3 h2 => (if inB (x4 + 1) (lH h2 1) = true then (if kH h2 r2 = 18 then (bI (fX10_room r2 (h2.2 1 (x4 + 1).toNatClampNeg) h2) fun z7 h6 => (if kH h6 r2 = 18 then (bI (fX10_thrown r2 h6) fun z11 h10 => (if z11 = z3 then (if ¬ z3 = 0 then (rec 1618 [.ref 1, .ref r1, .ref r2, .ref r3, .int x4, uV, uV] [] h10) else (if kH h10 r3 = 4 then (if inB 0 (lH h10 r3) = true then (if (lg_cmp ((h10.2 r3 0).toInt64) z7.toInt64) = 0 then (rec 1618 [.ref 1, .ref r1, .ref r2, .ref r3, .int x4, uV, uV] [] h10) else (some (.inl (some (.int 0)), h10))) else none) else none)) else (some (.inl (some (.int 0)), h10)))) else none)) else none) else none)) else none)
theorem uL_law_1565 {G : GG} {d : Nat} (hd : 52 ≤ d) (rec : Nat → List Value → List Value → Hp → RS) (hrec : ∀ pc loc st h o h', rec pc loc st h = some (o, h') → V G mL_law d pc loc st h o h')   {r1  r2  r3  x4 } {h : Hp} {o : OU} {h' : Hp} (e : kL_law_1565 rec  r1 r2 r3 x4 h = some (o, h')) : V G mL_law d 1565 [.ref 1, .ref r1, .ref r2, .ref r3, .int x4, uV, uV] [] h o h' := by
  unfold kL_law_1565 at e
  refine bL_law_1565 r1 r2 r3 x4 (by omega) ?_
  obtain ⟨q1, e⟩ := ob_in e
  refine ⟨q1, ?_⟩
  obtain ⟨z3, h2, e2, e⟩ := bI_e e
  refine ⟨z3, h2, (tL_room e2 (by omega)), ?_⟩
  obtain ⟨q3, e⟩ := ob_in e
  refine ⟨q3, ?_⟩
  obtain ⟨q4, e⟩ := ob_e e
  refine ⟨q4, ?_⟩
  obtain ⟨z7, h6, e5, e⟩ := bI_e e
  refine ⟨z7, h6, (tX10_room e5 (by omega)), ?_⟩
  obtain ⟨q6, e⟩ := ob_e e
  refine ⟨q6, ?_⟩
  obtain ⟨z11, h10, e7, e⟩ := bI_e e
  refine ⟨z11, h10, (tX10_thrown e7 (by omega)), ?_⟩
  refine ⟨fun c8 => ?_, fun c8 => ?_⟩
  · have e := if_t e c8
    refine ⟨fun c9 => ?_, fun c9 => ?_⟩
    · have e := if_t e c9
      exact hrec _ _ _ _ _ _ e
    · have e := if_n e c9
      obtain ⟨q10, e⟩ := ob_e e
      refine ⟨q10, ?_⟩
      obtain ⟨q11, e⟩ := ob_in e
      refine ⟨q11, ?_⟩
      refine ⟨fun c12 => ?_, fun c12 => ?_⟩
      · have e := if_t e c12
        exact hrec _ _ _ _ _ _ e
      · have e := if_f e c12
        cases e
        exact ⟨rfl, rfl⟩
  · have e := if_f e c8
    cases e
    exact ⟨rfl, rfl⟩
def kL_law_1618 (rec : Nat → List Value → List Value → Hp → RS)  (r1 : Nat) (r2 : Nat) (r3 : Nat) (x4 : Int32) (h : Hp) : RS := (rec 2031 [.ref 1, .ref r1, .ref r2, .ref r3, .int x4, uV, uV] [] h)
theorem uL_law_1618 {G : GG} {d : Nat} (hd : 52 ≤ d) (rec : Nat → List Value → List Value → Hp → RS) (hrec : ∀ pc loc st h o h', rec pc loc st h = some (o, h') → V G mL_law d pc loc st h o h')   {r1  r2  r3  x4 } {h : Hp} {o : OU} {h' : Hp} (e : kL_law_1618 rec  r1 r2 r3 x4 h = some (o, h')) : V G mL_law d 1618 [.ref 1, .ref r1, .ref r2, .ref r3, .int x4, uV, uV] [] h o h' := by
  unfold kL_law_1618 at e
  refine bL_law_1618 r1 r2 r3 x4 ?_
  exact hrec _ _ _ _ _ _ e
def kL_law_1621 (rec : Nat → List Value → List Value → Hp → RS)  (r1 : Nat) (r2 : Nat) (r3 : Nat) (x4 : Int32) (h : Hp) : RS := (if inB (x4 + 1) (lH h 1) = true then (if inB (x4 + 2) (lH h 1) = true then (bI (fL_owner r1 (h.2 1 (x4 + 1).toNatClampNeg) (h.2 1 (x4 + 2).toNatClampNeg) r3 h) fun z4 h3 => (if inB (x4 + 1) (lH h3 1) = true then (if inB (x4 + 2) (lH h3 1) = true then (if kH h3 r2 = 18 then (bI (fX10_owner r2 (h3.2 1 (x4 + 1).toNatClampNeg) (h3.2 1 (x4 + 2).toNatClampNeg) h3) fun z9 h8 => (if kH h8 r2 = 18 then (bI (fX10_thrown r2 h8) fun z13 h12 => (if z13 = z4 then (if ¬ z4 = 0 then (rec 1686 [.ref 1, .ref r1, .ref r2, .ref r3, .int x4, uV, uV] [] h12) else (if kH h12 r3 = 4 then (if inB 0 (lH h12 r3) = true then (if (lg_cmp ((h12.2 r3 0).toInt64) z9.toInt64) = 0 then (rec 1686 [.ref 1, .ref r1, .ref r2, .ref r3, .int x4, uV, uV] [] h12) else (some (.inl (some (.int 0)), h12))) else none) else none)) else (some (.inl (some (.int 0)), h12)))) else none)) else none) else none) else none)) else none) else none)
theorem uL_law_1621 {G : GG} {d : Nat} (hd : 52 ≤ d) (rec : Nat → List Value → List Value → Hp → RS) (hrec : ∀ pc loc st h o h', rec pc loc st h = some (o, h') → V G mL_law d pc loc st h o h')   {r1  r2  r3  x4 } {h : Hp} {o : OU} {h' : Hp} (e : kL_law_1621 rec  r1 r2 r3 x4 h = some (o, h')) : V G mL_law d 1621 [.ref 1, .ref r1, .ref r2, .ref r3, .int x4, uV, uV] [] h o h' := by
  unfold kL_law_1621 at e
  refine bL_law_1621 r1 r2 r3 x4 (by omega) ?_
  obtain ⟨q1, e⟩ := ob_in e
  refine ⟨q1, ?_⟩
  obtain ⟨q2, e⟩ := ob_in e
  refine ⟨q2, ?_⟩
  obtain ⟨z4, h3, e3, e⟩ := bI_e e
  refine ⟨z4, h3, (tL_owner e3 (by omega)), ?_⟩
  obtain ⟨q4, e⟩ := ob_in e
  refine ⟨q4, ?_⟩
  obtain ⟨q5, e⟩ := ob_in e
  refine ⟨q5, ?_⟩
  obtain ⟨q6, e⟩ := ob_e e
  refine ⟨q6, ?_⟩
  obtain ⟨z9, h8, e7, e⟩ := bI_e e
  refine ⟨z9, h8, (tX10_owner e7 (by omega)), ?_⟩
  obtain ⟨q8, e⟩ := ob_e e
  refine ⟨q8, ?_⟩
  obtain ⟨z13, h12, e9, e⟩ := bI_e e
  refine ⟨z13, h12, (tX10_thrown e9 (by omega)), ?_⟩
  refine ⟨fun c10 => ?_, fun c10 => ?_⟩
  · have e := if_t e c10
    refine ⟨fun c11 => ?_, fun c11 => ?_⟩
    · have e := if_t e c11
      exact hrec _ _ _ _ _ _ e
    · have e := if_n e c11
      obtain ⟨q12, e⟩ := ob_e e
      refine ⟨q12, ?_⟩
      obtain ⟨q13, e⟩ := ob_in e
      refine ⟨q13, ?_⟩
      refine ⟨fun c14 => ?_, fun c14 => ?_⟩
      · have e := if_t e c14
        exact hrec _ _ _ _ _ _ e
      · have e := if_f e c14
        cases e
        exact ⟨rfl, rfl⟩
  · have e := if_f e c10
    cases e
    exact ⟨rfl, rfl⟩
def kL_law_1686 (rec : Nat → List Value → List Value → Hp → RS)  (r1 : Nat) (r2 : Nat) (r3 : Nat) (x4 : Int32) (h : Hp) : RS := (rec 2031 [.ref 1, .ref r1, .ref r2, .ref r3, .int x4, uV, uV] [] h)
theorem uL_law_1686 {G : GG} {d : Nat} (hd : 52 ≤ d) (rec : Nat → List Value → List Value → Hp → RS) (hrec : ∀ pc loc st h o h', rec pc loc st h = some (o, h') → V G mL_law d pc loc st h o h')   {r1  r2  r3  x4 } {h : Hp} {o : OU} {h' : Hp} (e : kL_law_1686 rec  r1 r2 r3 x4 h = some (o, h')) : V G mL_law d 1686 [.ref 1, .ref r1, .ref r2, .ref r3, .int x4, uV, uV] [] h o h' := by
  unfold kL_law_1686 at e
  refine bL_law_1686 r1 r2 r3 x4 ?_
  exact hrec _ _ _ _ _ _ e
def kL_law_1689 (rec : Nat → List Value → List Value → Hp → RS)  (r1 : Nat) (r2 : Nat) (r3 : Nat) (x4 : Int32) (h : Hp) : RS := (if inB (x4 + 1) (lH h 1) = true then (bI (fL_unlike r1 (h.2 1 (x4 + 1).toNatClampNeg) r3 h) fun z3 h2 => (if inB (x4 + 1) (lH h2 1) = true then (if kH h2 r2 = 18 then (bI (fX10_unlike r2 (h2.2 1 (x4 + 1).toNatClampNeg) h2) fun z7 h6 => (if kH h6 r2 = 18 then (bI (fX10_thrown r2 h6) fun z11 h10 => (if z11 = z3 then (if ¬ z3 = 0 then (rec 1742 [.ref 1, .ref r1, .ref r2, .ref r3, .int x4, uV, uV] [] h10) else (if kH h10 r3 = 4 then (if inB 0 (lH h10 r3) = true then (if (lg_cmp ((h10.2 r3 0).toInt64) z7.toInt64) = 0 then (rec 1742 [.ref 1, .ref r1, .ref r2, .ref r3, .int x4, uV, uV] [] h10) else (some (.inl (some (.int 0)), h10))) else none) else none)) else (some (.inl (some (.int 0)), h10)))) else none)) else none) else none)) else none)
theorem uL_law_1689 {G : GG} {d : Nat} (hd : 52 ≤ d) (rec : Nat → List Value → List Value → Hp → RS) (hrec : ∀ pc loc st h o h', rec pc loc st h = some (o, h') → V G mL_law d pc loc st h o h')   {r1  r2  r3  x4 } {h : Hp} {o : OU} {h' : Hp} (e : kL_law_1689 rec  r1 r2 r3 x4 h = some (o, h')) : V G mL_law d 1689 [.ref 1, .ref r1, .ref r2, .ref r3, .int x4, uV, uV] [] h o h' := by
  unfold kL_law_1689 at e
  refine bL_law_1689 r1 r2 r3 x4 (by omega) ?_
  obtain ⟨q1, e⟩ := ob_in e
  refine ⟨q1, ?_⟩
  obtain ⟨z3, h2, e2, e⟩ := bI_e e
  refine ⟨z3, h2, (tL_unlike e2 (by omega)), ?_⟩
  obtain ⟨q3, e⟩ := ob_in e
  refine ⟨q3, ?_⟩
  obtain ⟨q4, e⟩ := ob_e e
  refine ⟨q4, ?_⟩
  obtain ⟨z7, h6, e5, e⟩ := bI_e e
  refine ⟨z7, h6, (tX10_unlike e5 (by omega)), ?_⟩
  obtain ⟨q6, e⟩ := ob_e e
  refine ⟨q6, ?_⟩
  obtain ⟨z11, h10, e7, e⟩ := bI_e e
  refine ⟨z11, h10, (tX10_thrown e7 (by omega)), ?_⟩
  refine ⟨fun c8 => ?_, fun c8 => ?_⟩
  · have e := if_t e c8
    refine ⟨fun c9 => ?_, fun c9 => ?_⟩
    · have e := if_t e c9
      exact hrec _ _ _ _ _ _ e
    · have e := if_n e c9
      obtain ⟨q10, e⟩ := ob_e e
      refine ⟨q10, ?_⟩
      obtain ⟨q11, e⟩ := ob_in e
      refine ⟨q11, ?_⟩
      refine ⟨fun c12 => ?_, fun c12 => ?_⟩
      · have e := if_t e c12
        exact hrec _ _ _ _ _ _ e
      · have e := if_f e c12
        cases e
        exact ⟨rfl, rfl⟩
  · have e := if_f e c8
    cases e
    exact ⟨rfl, rfl⟩
def kL_law_1742 (rec : Nat → List Value → List Value → Hp → RS)  (r1 : Nat) (r2 : Nat) (r3 : Nat) (x4 : Int32) (h : Hp) : RS := (rec 2031 [.ref 1, .ref r1, .ref r2, .ref r3, .int x4, uV, uV] [] h)
theorem uL_law_1742 {G : GG} {d : Nat} (hd : 52 ≤ d) (rec : Nat → List Value → List Value → Hp → RS) (hrec : ∀ pc loc st h o h', rec pc loc st h = some (o, h') → V G mL_law d pc loc st h o h')   {r1  r2  r3  x4 } {h : Hp} {o : OU} {h' : Hp} (e : kL_law_1742 rec  r1 r2 r3 x4 h = some (o, h')) : V G mL_law d 1742 [.ref 1, .ref r1, .ref r2, .ref r3, .int x4, uV, uV] [] h o h' := by
  unfold kL_law_1742 at e
  refine bL_law_1742 r1 r2 r3 x4 ?_
  exact hrec _ _ _ _ _ _ e
def kL_law_1745 (rec : Nat → List Value → List Value → Hp → RS)  (r1 : Nat) (r2 : Nat) (r3 : Nat) (x4 : Int32) (h : Hp) : RS := (if inB (x4 + 1) (lH h 1) = true then (if inB (x4 + 2) (lH h 1) = true then (if inB (x4 + 3) (lH h 1) = true then (if inB (x4 + 4) (lH h 1) = true then (bI (fL_storm r1 (h.2 1 (x4 + 1).toNatClampNeg) (h.2 1 (x4 + 2).toNatClampNeg) (h.2 1 (x4 + 3).toNatClampNeg) (h.2 1 (x4 + 4).toNatClampNeg) r3 h) fun z6 h5 => (if inB (x4 + 1) (lH h5 1) = true then (if inB (x4 + 2) (lH h5 1) = true then (if inB (x4 + 3) (lH h5 1) = true then (if inB (x4 + 4) (lH h5 1) = true then (if kH h5 r2 = 18 then (bI (fX10_storm r2 (h5.2 1 (x4 + 1).toNatClampNeg) (h5.2 1 (x4 + 2).toNatClampNeg) (h5.2 1 (x4 + 3).toNatClampNeg) (h5.2 1 (x4 + 4).toNatClampNeg) h5) fun z13 h12 => (if kH h12 r2 = 18 then (bI (fX10_thrown r2 h12) fun z17 h16 => (if z17 = z6 then (if ¬ z6 = 0 then (rec 1834 [.ref 1, .ref r1, .ref r2, .ref r3, .int x4, uV, uV] [] h16) else (if kH h16 r3 = 4 then (if inB 0 (lH h16 r3) = true then (if (lg_cmp ((h16.2 r3 0).toInt64) z13.toInt64) = 0 then (rec 1834 [.ref 1, .ref r1, .ref r2, .ref r3, .int x4, uV, uV] [] h16) else (some (.inl (some (.int 0)), h16))) else none) else none)) else (some (.inl (some (.int 0)), h16)))) else none)) else none) else none) else none) else none) else none)) else none) else none) else none) else none)
theorem uL_law_1745 {G : GG} {d : Nat} (hd : 52 ≤ d) (rec : Nat → List Value → List Value → Hp → RS) (hrec : ∀ pc loc st h o h', rec pc loc st h = some (o, h') → V G mL_law d pc loc st h o h')   {r1  r2  r3  x4 } {h : Hp} {o : OU} {h' : Hp} (e : kL_law_1745 rec  r1 r2 r3 x4 h = some (o, h')) : V G mL_law d 1745 [.ref 1, .ref r1, .ref r2, .ref r3, .int x4, uV, uV] [] h o h' := by
  unfold kL_law_1745 at e
  refine bL_law_1745 r1 r2 r3 x4 (by omega) ?_
  obtain ⟨q1, e⟩ := ob_in e
  refine ⟨q1, ?_⟩
  obtain ⟨q2, e⟩ := ob_in e
  refine ⟨q2, ?_⟩
  obtain ⟨q3, e⟩ := ob_in e
  refine ⟨q3, ?_⟩
  obtain ⟨q4, e⟩ := ob_in e
  refine ⟨q4, ?_⟩
  obtain ⟨z6, h5, e5, e⟩ := bI_e e
  refine ⟨z6, h5, (tL_storm e5 (by omega)), ?_⟩
  obtain ⟨q6, e⟩ := ob_in e
  refine ⟨q6, ?_⟩
  obtain ⟨q7, e⟩ := ob_in e
  refine ⟨q7, ?_⟩
  obtain ⟨q8, e⟩ := ob_in e
  refine ⟨q8, ?_⟩
  obtain ⟨q9, e⟩ := ob_in e
  refine ⟨q9, ?_⟩
  obtain ⟨q10, e⟩ := ob_e e
  refine ⟨q10, ?_⟩
  obtain ⟨z13, h12, e11, e⟩ := bI_e e
  refine ⟨z13, h12, (tX10_storm e11 (by omega)), ?_⟩
  obtain ⟨q12, e⟩ := ob_e e
  refine ⟨q12, ?_⟩
  obtain ⟨z17, h16, e13, e⟩ := bI_e e
  refine ⟨z17, h16, (tX10_thrown e13 (by omega)), ?_⟩
  refine ⟨fun c14 => ?_, fun c14 => ?_⟩
  · have e := if_t e c14
    refine ⟨fun c15 => ?_, fun c15 => ?_⟩
    · have e := if_t e c15
      exact hrec _ _ _ _ _ _ e
    · have e := if_n e c15
      obtain ⟨q16, e⟩ := ob_e e
      refine ⟨q16, ?_⟩
      obtain ⟨q17, e⟩ := ob_in e
      refine ⟨q17, ?_⟩
      refine ⟨fun c18 => ?_, fun c18 => ?_⟩
      · have e := if_t e c18
        exact hrec _ _ _ _ _ _ e
      · have e := if_f e c18
        cases e
        exact ⟨rfl, rfl⟩
  · have e := if_f e c14
    cases e
    exact ⟨rfl, rfl⟩
def kL_law_1834 (rec : Nat → List Value → List Value → Hp → RS)  (r1 : Nat) (r2 : Nat) (r3 : Nat) (x4 : Int32) (h : Hp) : RS := (rec 2031 [.ref 1, .ref r1, .ref r2, .ref r3, .int x4, uV, uV] [] h)
theorem uL_law_1834 {G : GG} {d : Nat} (hd : 52 ≤ d) (rec : Nat → List Value → List Value → Hp → RS) (hrec : ∀ pc loc st h o h', rec pc loc st h = some (o, h') → V G mL_law d pc loc st h o h')   {r1  r2  r3  x4 } {h : Hp} {o : OU} {h' : Hp} (e : kL_law_1834 rec  r1 r2 r3 x4 h = some (o, h')) : V G mL_law d 1834 [.ref 1, .ref r1, .ref r2, .ref r3, .int x4, uV, uV] [] h o h' := by
  unfold kL_law_1834 at e
  refine bL_law_1834 r1 r2 r3 x4 ?_
  exact hrec _ _ _ _ _ _ e
def kL_law_1837 (rec : Nat → List Value → List Value → Hp → RS)  (r1 : Nat) (r2 : Nat) (r3 : Nat) (x4 : Int32) (h : Hp) : RS := (if inB (x4 + 1) (lH h 1) = true then (if inB (x4 + 2) (lH h 1) = true then (if inB (x4 + 3) (lH h 1) = true then (if inB (x4 + 4) (lH h 1) = true then (if inB (x4 + 5) (lH h 1) = true then (if inB (x4 + 6) (lH h 1) = true then (bI (fL_span r1 (h.2 1 (x4 + 1).toNatClampNeg) (h.2 1 (x4 + 2).toNatClampNeg) (h.2 1 (x4 + 3).toNatClampNeg) (h.2 1 (x4 + 4).toNatClampNeg) (h.2 1 (x4 + 5).toNatClampNeg) (h.2 1 (x4 + 6).toNatClampNeg) r3 h) fun z8 h7 => (if inB (x4 + 1) (lH h7 1) = true then (if inB (x4 + 2) (lH h7 1) = true then (if inB (x4 + 3) (lH h7 1) = true then (if inB (x4 + 4) (lH h7 1) = true then (if inB (x4 + 5) (lH h7 1) = true then (if inB (x4 + 6) (lH h7 1) = true then (if kH h7 r2 = 18 then (bI (fX10_span r2 (h7.2 1 (x4 + 1).toNatClampNeg) (h7.2 1 (x4 + 2).toNatClampNeg) (h7.2 1 (x4 + 3).toNatClampNeg) (h7.2 1 (x4 + 4).toNatClampNeg) (h7.2 1 (x4 + 5).toNatClampNeg) (h7.2 1 (x4 + 6).toNatClampNeg) h7) fun z17 h16 => (if kH h16 r2 = 18 then (bI (fX10_thrown r2 h16) fun z21 h20 => (if z21 = z8 then (if ¬ z8 = 0 then (rec 1952 [.ref 1, .ref r1, .ref r2, .ref r3, .int x4, uV, uV] [] h20) else (if kH h20 r3 = 4 then (if inB 0 (lH h20 r3) = true then (if (lg_cmp ((h20.2 r3 0).toInt64) z17.toInt64) = 0 then (rec 1952 [.ref 1, .ref r1, .ref r2, .ref r3, .int x4, uV, uV] [] h20) else (some (.inl (some (.int 0)), h20))) else none) else none)) else (some (.inl (some (.int 0)), h20)))) else none)) else none) else none) else none) else none) else none) else none) else none)) else none) else none) else none) else none) else none) else none)
theorem uL_law_1837 {G : GG} {d : Nat} (hd : 52 ≤ d) (rec : Nat → List Value → List Value → Hp → RS) (hrec : ∀ pc loc st h o h', rec pc loc st h = some (o, h') → V G mL_law d pc loc st h o h')   {r1  r2  r3  x4 } {h : Hp} {o : OU} {h' : Hp} (e : kL_law_1837 rec  r1 r2 r3 x4 h = some (o, h')) : V G mL_law d 1837 [.ref 1, .ref r1, .ref r2, .ref r3, .int x4, uV, uV] [] h o h' := by
  unfold kL_law_1837 at e
  refine bL_law_1837 r1 r2 r3 x4 (by omega) ?_
  obtain ⟨q1, e⟩ := ob_in e
  refine ⟨q1, ?_⟩
  obtain ⟨q2, e⟩ := ob_in e
  refine ⟨q2, ?_⟩
  obtain ⟨q3, e⟩ := ob_in e
  refine ⟨q3, ?_⟩
  obtain ⟨q4, e⟩ := ob_in e
  refine ⟨q4, ?_⟩
  obtain ⟨q5, e⟩ := ob_in e
  refine ⟨q5, ?_⟩
  obtain ⟨q6, e⟩ := ob_in e
  refine ⟨q6, ?_⟩
  obtain ⟨z8, h7, e7, e⟩ := bI_e e
  refine ⟨z8, h7, (tL_span e7 (by omega)), ?_⟩
  obtain ⟨q8, e⟩ := ob_in e
  refine ⟨q8, ?_⟩
  obtain ⟨q9, e⟩ := ob_in e
  refine ⟨q9, ?_⟩
  obtain ⟨q10, e⟩ := ob_in e
  refine ⟨q10, ?_⟩
  obtain ⟨q11, e⟩ := ob_in e
  refine ⟨q11, ?_⟩
  obtain ⟨q12, e⟩ := ob_in e
  refine ⟨q12, ?_⟩
  obtain ⟨q13, e⟩ := ob_in e
  refine ⟨q13, ?_⟩
  obtain ⟨q14, e⟩ := ob_e e
  refine ⟨q14, ?_⟩
  obtain ⟨z17, h16, e15, e⟩ := bI_e e
  refine ⟨z17, h16, (tX10_span e15 (by omega)), ?_⟩
  obtain ⟨q16, e⟩ := ob_e e
  refine ⟨q16, ?_⟩
  obtain ⟨z21, h20, e17, e⟩ := bI_e e
  refine ⟨z21, h20, (tX10_thrown e17 (by omega)), ?_⟩
  refine ⟨fun c18 => ?_, fun c18 => ?_⟩
  · have e := if_t e c18
    refine ⟨fun c19 => ?_, fun c19 => ?_⟩
    · have e := if_t e c19
      exact hrec _ _ _ _ _ _ e
    · have e := if_n e c19
      obtain ⟨q20, e⟩ := ob_e e
      refine ⟨q20, ?_⟩
      obtain ⟨q21, e⟩ := ob_in e
      refine ⟨q21, ?_⟩
      refine ⟨fun c22 => ?_, fun c22 => ?_⟩
      · have e := if_t e c22
        exact hrec _ _ _ _ _ _ e
      · have e := if_f e c22
        cases e
        exact ⟨rfl, rfl⟩
  · have e := if_f e c18
    cases e
    exact ⟨rfl, rfl⟩
def kL_law_1952 (rec : Nat → List Value → List Value → Hp → RS)  (r1 : Nat) (r2 : Nat) (r3 : Nat) (x4 : Int32) (h : Hp) : RS := (rec 2031 [.ref 1, .ref r1, .ref r2, .ref r3, .int x4, uV, uV] [] h)
theorem uL_law_1952 {G : GG} {d : Nat} (hd : 52 ≤ d) (rec : Nat → List Value → List Value → Hp → RS) (hrec : ∀ pc loc st h o h', rec pc loc st h = some (o, h') → V G mL_law d pc loc st h o h')   {r1  r2  r3  x4 } {h : Hp} {o : OU} {h' : Hp} (e : kL_law_1952 rec  r1 r2 r3 x4 h = some (o, h')) : V G mL_law d 1952 [.ref 1, .ref r1, .ref r2, .ref r3, .int x4, uV, uV] [] h o h' := by
  unfold kL_law_1952 at e
  refine bL_law_1952 r1 r2 r3 x4 ?_
  exact hrec _ _ _ _ _ _ e
def kL_law_1955 (rec : Nat → List Value → List Value → Hp → RS)  (r1 : Nat) (r2 : Nat) (r3 : Nat) (x4 : Int32) (h : Hp) : RS := (if kH h r1 = 19 then (bI (fX9_image r1 h) fun z2 h1 => (if kH h1 r2 = 18 then (bI (fX10_image r2 h1) fun z6 h5 => (if z2 = z6 then (rec 2031 [.ref 1, .ref r1, .ref r2, .ref r3, .int x4, uV, uV] [] h5) else (some (.inl (some (.int 0)), h5)))) else none)) else none)
theorem uL_law_1955 {G : GG} {d : Nat} (hd : 52 ≤ d) (rec : Nat → List Value → List Value → Hp → RS) (hrec : ∀ pc loc st h o h', rec pc loc st h = some (o, h') → V G mL_law d pc loc st h o h')   {r1  r2  r3  x4 } {h : Hp} {o : OU} {h' : Hp} (e : kL_law_1955 rec  r1 r2 r3 x4 h = some (o, h')) : V G mL_law d 1955 [.ref 1, .ref r1, .ref r2, .ref r3, .int x4, uV, uV] [] h o h' := by
  unfold kL_law_1955 at e
  refine bL_law_1955 r1 r2 r3 x4 (by omega) ?_
  obtain ⟨q1, e⟩ := ob_e e
  refine ⟨q1, ?_⟩
  obtain ⟨z2, h1, e2, e⟩ := bI_e e
  refine ⟨z2, h1, (tX9_image e2 (by omega)), ?_⟩
  obtain ⟨q3, e⟩ := ob_e e
  refine ⟨q3, ?_⟩
  obtain ⟨z6, h5, e4, e⟩ := bI_e e
  refine ⟨z6, h5, (tX10_image e4 (by omega)), ?_⟩
  refine ⟨fun c5 => ?_, fun c5 => ?_⟩
  · have e := if_t e c5
    exact hrec _ _ _ _ _ _ e
  · have e := if_f e c5
    cases e
    exact ⟨rfl, rfl⟩
def kL_law_1968 (rec : Nat → List Value → List Value → Hp → RS)  (r1 : Nat) (r2 : Nat) (r3 : Nat) (x4 : Int32) (h : Hp) : RS := (if kH h r1 = 19 then (bI (fX9_restore r1 h) fun z2 h1 => (if kH h1 r2 = 18 then (bI (fX10_restore r2 h1) fun z6 h5 => (if z2 = z6 then (rec 2031 [.ref 1, .ref r1, .ref r2, .ref r3, .int x4, uV, uV] [] h5) else (some (.inl (some (.int 0)), h5)))) else none)) else none)
theorem uL_law_1968 {G : GG} {d : Nat} (hd : 52 ≤ d) (rec : Nat → List Value → List Value → Hp → RS) (hrec : ∀ pc loc st h o h', rec pc loc st h = some (o, h') → V G mL_law d pc loc st h o h')   {r1  r2  r3  x4 } {h : Hp} {o : OU} {h' : Hp} (e : kL_law_1968 rec  r1 r2 r3 x4 h = some (o, h')) : V G mL_law d 1968 [.ref 1, .ref r1, .ref r2, .ref r3, .int x4, uV, uV] [] h o h' := by
  unfold kL_law_1968 at e
  refine bL_law_1968 r1 r2 r3 x4 (by omega) ?_
  obtain ⟨q1, e⟩ := ob_e e
  refine ⟨q1, ?_⟩
  obtain ⟨z2, h1, e2, e⟩ := bI_e e
  refine ⟨z2, h1, (tX9_restore e2 (by omega)), ?_⟩
  obtain ⟨q3, e⟩ := ob_e e
  refine ⟨q3, ?_⟩
  obtain ⟨z6, h5, e4, e⟩ := bI_e e
  refine ⟨z6, h5, (tX10_restore e4 (by omega)), ?_⟩
  refine ⟨fun c5 => ?_, fun c5 => ?_⟩
  · have e := if_t e c5
    exact hrec _ _ _ _ _ _ e
  · have e := if_f e c5
    cases e
    exact ⟨rfl, rfl⟩
def kL_law_1981 (rec : Nat → List Value → List Value → Hp → RS)  (r1 : Nat) (r2 : Nat) (r3 : Nat) (x4 : Int32) (h : Hp) : RS := (if inB (x4 + 1) (lH h 1) = true then (if kH h r1 = 19 then (bI (fX9_status r1 (h.2 1 (x4 + 1).toNatClampNeg) h) fun z3 h2 => (if inB (x4 + 1) (lH h2 1) = true then (if kH h2 r2 = 18 then (bI (fX10_status r2 (h2.2 1 (x4 + 1).toNatClampNeg) h2) fun z8 h7 => (if z3 = z8 then (rec 2031 [.ref 1, .ref r1, .ref r2, .ref r3, .int x4, uV, uV] [] h7) else (some (.inl (some (.int 0)), h7)))) else none) else none)) else none) else none)
theorem uL_law_1981 {G : GG} {d : Nat} (hd : 52 ≤ d) (rec : Nat → List Value → List Value → Hp → RS) (hrec : ∀ pc loc st h o h', rec pc loc st h = some (o, h') → V G mL_law d pc loc st h o h')   {r1  r2  r3  x4 } {h : Hp} {o : OU} {h' : Hp} (e : kL_law_1981 rec  r1 r2 r3 x4 h = some (o, h')) : V G mL_law d 1981 [.ref 1, .ref r1, .ref r2, .ref r3, .int x4, uV, uV] [] h o h' := by
  unfold kL_law_1981 at e
  refine bL_law_1981 r1 r2 r3 x4 (by omega) ?_
  obtain ⟨q1, e⟩ := ob_in e
  refine ⟨q1, ?_⟩
  obtain ⟨q2, e⟩ := ob_e e
  refine ⟨q2, ?_⟩
  obtain ⟨z3, h2, e3, e⟩ := bI_e e
  refine ⟨z3, h2, (tX9_status e3 (by omega)), ?_⟩
  obtain ⟨q4, e⟩ := ob_in e
  refine ⟨q4, ?_⟩
  obtain ⟨q5, e⟩ := ob_e e
  refine ⟨q5, ?_⟩
  obtain ⟨z8, h7, e6, e⟩ := bI_e e
  refine ⟨z8, h7, (tX10_status e6 (by omega)), ?_⟩
  refine ⟨fun c7 => ?_, fun c7 => ?_⟩
  · have e := if_t e c7
    exact hrec _ _ _ _ _ _ e
  · have e := if_f e c7
    cases e
    exact ⟨rfl, rfl⟩
def kL_law_2006 (rec : Nat → List Value → List Value → Hp → RS)  (r1 : Nat) (r2 : Nat) (r3 : Nat) (x4 : Int32) (h : Hp) : RS := (if inB (x4 + 1) (lH h 1) = true then (if kH h r1 = 19 then (bI (fX9_count r1 (h.2 1 (x4 + 1).toNatClampNeg) h) fun z3 h2 => (if inB (x4 + 1) (lH h2 1) = true then (if kH h2 r2 = 18 then (bI (fX10_count r2 (h2.2 1 (x4 + 1).toNatClampNeg) h2) fun z8 h7 => (if z3 = z8 then (rec 2031 [.ref 1, .ref r1, .ref r2, .ref r3, .int x4, uV, uV] [] h7) else (some (.inl (some (.int 0)), h7)))) else none) else none)) else none) else none)
theorem uL_law_2006 {G : GG} {d : Nat} (hd : 52 ≤ d) (rec : Nat → List Value → List Value → Hp → RS) (hrec : ∀ pc loc st h o h', rec pc loc st h = some (o, h') → V G mL_law d pc loc st h o h')   {r1  r2  r3  x4 } {h : Hp} {o : OU} {h' : Hp} (e : kL_law_2006 rec  r1 r2 r3 x4 h = some (o, h')) : V G mL_law d 2006 [.ref 1, .ref r1, .ref r2, .ref r3, .int x4, uV, uV] [] h o h' := by
  unfold kL_law_2006 at e
  refine bL_law_2006 r1 r2 r3 x4 (by omega) ?_
  obtain ⟨q1, e⟩ := ob_in e
  refine ⟨q1, ?_⟩
  obtain ⟨q2, e⟩ := ob_e e
  refine ⟨q2, ?_⟩
  obtain ⟨z3, h2, e3, e⟩ := bI_e e
  refine ⟨z3, h2, (tX9_count e3 (by omega)), ?_⟩
  obtain ⟨q4, e⟩ := ob_in e
  refine ⟨q4, ?_⟩
  obtain ⟨q5, e⟩ := ob_e e
  refine ⟨q5, ?_⟩
  obtain ⟨z8, h7, e6, e⟩ := bI_e e
  refine ⟨z8, h7, (tX10_count e6 (by omega)), ?_⟩
  refine ⟨fun c7 => ?_, fun c7 => ?_⟩
  · have e := if_t e c7
    exact hrec _ _ _ _ _ _ e
  · have e := if_f e c7
    cases e
    exact ⟨rfl, rfl⟩
def kL_law_2031 (rec : Nat → List Value → List Value → Hp → RS)  (r1 : Nat) (r2 : Nat) (r3 : Nat) (x4 : Int32) (h : Hp) : RS := (rec 23 [.ref 1, .ref r1, .ref r2, .ref r3, .int (x4 + 7), uV, uV] [] h)
theorem uL_law_2031 {G : GG} {d : Nat} (hd : 52 ≤ d) (rec : Nat → List Value → List Value → Hp → RS) (hrec : ∀ pc loc st h o h', rec pc loc st h = some (o, h') → V G mL_law d pc loc st h o h')   {r1  r2  r3  x4 } {h : Hp} {o : OU} {h' : Hp} (e : kL_law_2031 rec  r1 r2 r3 x4 h = some (o, h')) : V G mL_law d 2031 [.ref 1, .ref r1, .ref r2, .ref r3, .int x4, uV, uV] [] h o h' := by
  unfold kL_law_2031 at e
  refine bL_law_2031 r1 r2 r3 x4 ?_
  exact hrec _ _ _ _ _ _ e
