def sL_law (rec : Nat → List Value → List Value → Hp → RS) (pc : Nat) (loc st : List Value) (h : Hp) : RS := match loc, st with
  | [.ref 1, .ref r1, .ref r2, .ref r3, .int x4, _, _], [] =>
    if pc = 23 then kL_law_23 rec r1 r2 r3 x4 h else
    if pc = 204 then kL_law_204 rec r1 r2 r3 x4 h else
    if pc = 277 then kL_law_277 rec r1 r2 r3 x4 h else
    if pc = 330 then kL_law_330 rec r1 r2 r3 x4 h else
    if pc = 333 then kL_law_333 rec r1 r2 r3 x4 h else
    if pc = 386 then kL_law_386 rec r1 r2 r3 x4 h else
    if pc = 389 then kL_law_389 rec r1 r2 r3 x4 h else
    if pc = 442 then kL_law_442 rec r1 r2 r3 x4 h else
    if pc = 445 then kL_law_445 rec r1 r2 r3 x4 h else
    if pc = 458 then kL_law_458 rec r1 r2 r3 x4 h else
    if pc = 471 then kL_law_471 rec r1 r2 r3 x4 h else
    if pc = 524 then kL_law_524 rec r1 r2 r3 x4 h else
    if pc = 527 then kL_law_527 rec r1 r2 r3 x4 h else
    if pc = 604 then kL_law_604 rec r1 r2 r3 x4 h else
    if pc = 607 then kL_law_607 rec r1 r2 r3 x4 h else
    if pc = 684 then kL_law_684 rec r1 r2 r3 x4 h else
    if pc = 687 then kL_law_687 rec r1 r2 r3 x4 h else
    if pc = 764 then kL_law_764 rec r1 r2 r3 x4 h else
    if pc = 767 then kL_law_767 rec r1 r2 r3 x4 h else
    if pc = 820 then kL_law_820 rec r1 r2 r3 x4 h else
    if pc = 823 then kL_law_823 rec r1 r2 r3 x4 h else
    if pc = 876 then kL_law_876 rec r1 r2 r3 x4 h else
    if pc = 879 then kL_law_879 rec r1 r2 r3 x4 h else
    if pc = 932 then kL_law_932 rec r1 r2 r3 x4 h else
    if pc = 935 then kL_law_935 rec r1 r2 r3 x4 h else
    if pc = 988 then kL_law_988 rec r1 r2 r3 x4 h else
    if pc = 991 then kL_law_991 rec r1 r2 r3 x4 h else
    if pc = 1056 then kL_law_1056 rec r1 r2 r3 x4 h else
    if pc = 1059 then kL_law_1059 rec r1 r2 r3 x4 h else
    if pc = 1124 then kL_law_1124 rec r1 r2 r3 x4 h else
    if pc = 1127 then kL_law_1127 rec r1 r2 r3 x4 h else
    if pc = 1192 then kL_law_1192 rec r1 r2 r3 x4 h else
    if pc = 1195 then kL_law_1195 rec r1 r2 r3 x4 h else
    if pc = 1248 then kL_law_1248 rec r1 r2 r3 x4 h else
    if pc = 1251 then kL_law_1251 rec r1 r2 r3 x4 h else
    if pc = 1316 then kL_law_1316 rec r1 r2 r3 x4 h else
    if pc = 1319 then kL_law_1319 rec r1 r2 r3 x4 h else
    if pc = 1372 then kL_law_1372 rec r1 r2 r3 x4 h else
    if pc = 1375 then kL_law_1375 rec r1 r2 r3 x4 h else
    if pc = 1388 then kL_law_1388 rec r1 r2 r3 x4 h else
    if pc = 1401 then kL_law_1401 rec r1 r2 r3 x4 h else
    if pc = 1454 then kL_law_1454 rec r1 r2 r3 x4 h else
    if pc = 1457 then kL_law_1457 rec r1 r2 r3 x4 h else
    if pc = 1470 then kL_law_1470 rec r1 r2 r3 x4 h else
    if pc = 1483 then kL_law_1483 rec r1 r2 r3 x4 h else
    if pc = 1496 then kL_law_1496 rec r1 r2 r3 x4 h else
    if pc = 1509 then kL_law_1509 rec r1 r2 r3 x4 h else
    if pc = 1562 then kL_law_1562 rec r1 r2 r3 x4 h else
    if pc = 1565 then kL_law_1565 rec r1 r2 r3 x4 h else
    if pc = 1618 then kL_law_1618 rec r1 r2 r3 x4 h else
    if pc = 1621 then kL_law_1621 rec r1 r2 r3 x4 h else
    if pc = 1686 then kL_law_1686 rec r1 r2 r3 x4 h else
    if pc = 1689 then kL_law_1689 rec r1 r2 r3 x4 h else
    if pc = 1742 then kL_law_1742 rec r1 r2 r3 x4 h else
    if pc = 1745 then kL_law_1745 rec r1 r2 r3 x4 h else
    if pc = 1834 then kL_law_1834 rec r1 r2 r3 x4 h else
    if pc = 1837 then kL_law_1837 rec r1 r2 r3 x4 h else
    if pc = 1952 then kL_law_1952 rec r1 r2 r3 x4 h else
    if pc = 1955 then kL_law_1955 rec r1 r2 r3 x4 h else
    if pc = 1968 then kL_law_1968 rec r1 r2 r3 x4 h else
    if pc = 1981 then kL_law_1981 rec r1 r2 r3 x4 h else
    if pc = 2006 then kL_law_2006 rec r1 r2 r3 x4 h else
    if pc = 2031 then kL_law_2031 rec r1 r2 r3 x4 h else
    none
  | _, _ => none
def gL_law  : Nat → Nat → List Value → List Value → Hp → RS
  | 0 => fun _ _ _ _ => none
  | n + 1 => sL_law  (gL_law  n)
theorem wL_law {G : GG} {d : Nat} (hd : 52 ≤ d)   : ∀ (n pc : Nat) (loc st : List Value) (h : Hp) (o : OU) (h' : Hp), gL_law  n pc loc st h = some (o, h') → V G mL_law d pc loc st h o h' := by
  intro n
  induction n with
  | zero => intro pc loc st h o h' e; cases e
  | succ n ih =>
    intro pc loc st h o h' e
    unfold gL_law sL_law at e
    split at e
    · refine V.drop (llp_r (llp_r (llp_r (llp_r (llp_r (llp_u (llp_u llp_nil))))))) ?_
      by_cases q23 : pc = 23
      · subst q23
        exact uL_law_23 hd _ ih (if_t e rfl)
      have e := if_f e q23
      by_cases q204 : pc = 204
      · subst q204
        exact uL_law_204 hd _ ih (if_t e rfl)
      have e := if_f e q204
      by_cases q277 : pc = 277
      · subst q277
        exact uL_law_277 hd _ ih (if_t e rfl)
      have e := if_f e q277
      by_cases q330 : pc = 330
      · subst q330
        exact uL_law_330 hd _ ih (if_t e rfl)
      have e := if_f e q330
      by_cases q333 : pc = 333
      · subst q333
        exact uL_law_333 hd _ ih (if_t e rfl)
      have e := if_f e q333
      by_cases q386 : pc = 386
      · subst q386
        exact uL_law_386 hd _ ih (if_t e rfl)
      have e := if_f e q386
      by_cases q389 : pc = 389
      · subst q389
        exact uL_law_389 hd _ ih (if_t e rfl)
      have e := if_f e q389
      by_cases q442 : pc = 442
      · subst q442
        exact uL_law_442 hd _ ih (if_t e rfl)
      have e := if_f e q442
      by_cases q445 : pc = 445
      · subst q445
        exact uL_law_445 hd _ ih (if_t e rfl)
      have e := if_f e q445
      by_cases q458 : pc = 458
      · subst q458
        exact uL_law_458 hd _ ih (if_t e rfl)
      have e := if_f e q458
      by_cases q471 : pc = 471
      · subst q471
        exact uL_law_471 hd _ ih (if_t e rfl)
      have e := if_f e q471
      by_cases q524 : pc = 524
      · subst q524
        exact uL_law_524 hd _ ih (if_t e rfl)
      have e := if_f e q524
      by_cases q527 : pc = 527
      · subst q527
        exact uL_law_527 hd _ ih (if_t e rfl)
      have e := if_f e q527
      by_cases q604 : pc = 604
      · subst q604
        exact uL_law_604 hd _ ih (if_t e rfl)
      have e := if_f e q604
      by_cases q607 : pc = 607
      · subst q607
        exact uL_law_607 hd _ ih (if_t e rfl)
      have e := if_f e q607
      by_cases q684 : pc = 684
      · subst q684
        exact uL_law_684 hd _ ih (if_t e rfl)
      have e := if_f e q684
      by_cases q687 : pc = 687
      · subst q687
        exact uL_law_687 hd _ ih (if_t e rfl)
      have e := if_f e q687
      by_cases q764 : pc = 764
      · subst q764
        exact uL_law_764 hd _ ih (if_t e rfl)
      have e := if_f e q764
      by_cases q767 : pc = 767
      · subst q767
        exact uL_law_767 hd _ ih (if_t e rfl)
      have e := if_f e q767
      by_cases q820 : pc = 820
      · subst q820
        exact uL_law_820 hd _ ih (if_t e rfl)
      have e := if_f e q820
      by_cases q823 : pc = 823
      · subst q823
        exact uL_law_823 hd _ ih (if_t e rfl)
      have e := if_f e q823
      by_cases q876 : pc = 876
      · subst q876
        exact uL_law_876 hd _ ih (if_t e rfl)
      have e := if_f e q876
      by_cases q879 : pc = 879
      · subst q879
        exact uL_law_879 hd _ ih (if_t e rfl)
      have e := if_f e q879
      by_cases q932 : pc = 932
      · subst q932
        exact uL_law_932 hd _ ih (if_t e rfl)
      have e := if_f e q932
      by_cases q935 : pc = 935
      · subst q935
        exact uL_law_935 hd _ ih (if_t e rfl)
      have e := if_f e q935
      by_cases q988 : pc = 988
      · subst q988
        exact uL_law_988 hd _ ih (if_t e rfl)
      have e := if_f e q988
      by_cases q991 : pc = 991
      · subst q991
        exact uL_law_991 hd _ ih (if_t e rfl)
      have e := if_f e q991
      by_cases q1056 : pc = 1056
      · subst q1056
        exact uL_law_1056 hd _ ih (if_t e rfl)
      have e := if_f e q1056
      by_cases q1059 : pc = 1059
      · subst q1059
        exact uL_law_1059 hd _ ih (if_t e rfl)
      have e := if_f e q1059
      by_cases q1124 : pc = 1124
      · subst q1124
        exact uL_law_1124 hd _ ih (if_t e rfl)
      have e := if_f e q1124
      by_cases q1127 : pc = 1127
      · subst q1127
        exact uL_law_1127 hd _ ih (if_t e rfl)
      have e := if_f e q1127
      by_cases q1192 : pc = 1192
      · subst q1192
        exact uL_law_1192 hd _ ih (if_t e rfl)
      have e := if_f e q1192
      by_cases q1195 : pc = 1195
      · subst q1195
        exact uL_law_1195 hd _ ih (if_t e rfl)
      have e := if_f e q1195
      by_cases q1248 : pc = 1248
      · subst q1248
        exact uL_law_1248 hd _ ih (if_t e rfl)
      have e := if_f e q1248
      by_cases q1251 : pc = 1251
      · subst q1251
        exact uL_law_1251 hd _ ih (if_t e rfl)
      have e := if_f e q1251
      by_cases q1316 : pc = 1316
      · subst q1316
        exact uL_law_1316 hd _ ih (if_t e rfl)
      have e := if_f e q1316
      by_cases q1319 : pc = 1319
      · subst q1319
        exact uL_law_1319 hd _ ih (if_t e rfl)
      have e := if_f e q1319
      by_cases q1372 : pc = 1372
      · subst q1372
        exact uL_law_1372 hd _ ih (if_t e rfl)
      have e := if_f e q1372
      by_cases q1375 : pc = 1375
      · subst q1375
        exact uL_law_1375 hd _ ih (if_t e rfl)
      have e := if_f e q1375
      by_cases q1388 : pc = 1388
      · subst q1388
        exact uL_law_1388 hd _ ih (if_t e rfl)
      have e := if_f e q1388
      by_cases q1401 : pc = 1401
      · subst q1401
        exact uL_law_1401 hd _ ih (if_t e rfl)
      have e := if_f e q1401
      by_cases q1454 : pc = 1454
      · subst q1454
        exact uL_law_1454 hd _ ih (if_t e rfl)
      have e := if_f e q1454
      by_cases q1457 : pc = 1457
      · subst q1457
        exact uL_law_1457 hd _ ih (if_t e rfl)
      have e := if_f e q1457
      by_cases q1470 : pc = 1470
      · subst q1470
        exact uL_law_1470 hd _ ih (if_t e rfl)
      have e := if_f e q1470
      by_cases q1483 : pc = 1483
      · subst q1483
        exact uL_law_1483 hd _ ih (if_t e rfl)
      have e := if_f e q1483
      by_cases q1496 : pc = 1496
      · subst q1496
        exact uL_law_1496 hd _ ih (if_t e rfl)
      have e := if_f e q1496
      by_cases q1509 : pc = 1509
      · subst q1509
        exact uL_law_1509 hd _ ih (if_t e rfl)
      have e := if_f e q1509
      by_cases q1562 : pc = 1562
      · subst q1562
        exact uL_law_1562 hd _ ih (if_t e rfl)
      have e := if_f e q1562
      by_cases q1565 : pc = 1565
      · subst q1565
        exact uL_law_1565 hd _ ih (if_t e rfl)
      have e := if_f e q1565
      by_cases q1618 : pc = 1618
      · subst q1618
        exact uL_law_1618 hd _ ih (if_t e rfl)
      have e := if_f e q1618
      by_cases q1621 : pc = 1621
      · subst q1621
        exact uL_law_1621 hd _ ih (if_t e rfl)
      have e := if_f e q1621
      by_cases q1686 : pc = 1686
      · subst q1686
        exact uL_law_1686 hd _ ih (if_t e rfl)
      have e := if_f e q1686
      by_cases q1689 : pc = 1689
      · subst q1689
        exact uL_law_1689 hd _ ih (if_t e rfl)
      have e := if_f e q1689
      by_cases q1742 : pc = 1742
      · subst q1742
        exact uL_law_1742 hd _ ih (if_t e rfl)
      have e := if_f e q1742
      by_cases q1745 : pc = 1745
      · subst q1745
        exact uL_law_1745 hd _ ih (if_t e rfl)
      have e := if_f e q1745
      by_cases q1834 : pc = 1834
      · subst q1834
        exact uL_law_1834 hd _ ih (if_t e rfl)
      have e := if_f e q1834
      by_cases q1837 : pc = 1837
      · subst q1837
        exact uL_law_1837 hd _ ih (if_t e rfl)
      have e := if_f e q1837
      by_cases q1952 : pc = 1952
      · subst q1952
        exact uL_law_1952 hd _ ih (if_t e rfl)
      have e := if_f e q1952
      by_cases q1955 : pc = 1955
      · subst q1955
        exact uL_law_1955 hd _ ih (if_t e rfl)
      have e := if_f e q1955
      by_cases q1968 : pc = 1968
      · subst q1968
        exact uL_law_1968 hd _ ih (if_t e rfl)
      have e := if_f e q1968
      by_cases q1981 : pc = 1981
      · subst q1981
        exact uL_law_1981 hd _ ih (if_t e rfl)
      have e := if_f e q1981
      by_cases q2006 : pc = 2006
      · subst q2006
        exact uL_law_2006 hd _ ih (if_t e rfl)
      have e := if_f e q2006
      by_cases q2031 : pc = 2031
      · subst q2031
        exact uL_law_2031 hd _ ih (if_t e rfl)
      have e := if_f e q2031
      cases e
    · cases e
theorem zL_law_23  (n : Nat) (r1 : Nat) (r2 : Nat) (r3 : Nat) (x4 : Int32) (y5 : Value) (y6 : Value) (h : Hp) : gL_law  (n + 1) 23 [.ref 1, .ref r1, .ref r2, .ref r3, .int x4, y5, y6] [] h = kL_law_23 (gL_law  n)  r1 r2 r3 x4 h := rfl
theorem zL_law_204  (n : Nat) (r1 : Nat) (r2 : Nat) (r3 : Nat) (x4 : Int32) (y5 : Value) (y6 : Value) (h : Hp) : gL_law  (n + 1) 204 [.ref 1, .ref r1, .ref r2, .ref r3, .int x4, y5, y6] [] h = kL_law_204 (gL_law  n)  r1 r2 r3 x4 h := rfl
theorem zL_law_277  (n : Nat) (r1 : Nat) (r2 : Nat) (r3 : Nat) (x4 : Int32) (y5 : Value) (y6 : Value) (h : Hp) : gL_law  (n + 1) 277 [.ref 1, .ref r1, .ref r2, .ref r3, .int x4, y5, y6] [] h = kL_law_277 (gL_law  n)  r1 r2 r3 x4 h := rfl
theorem zL_law_330  (n : Nat) (r1 : Nat) (r2 : Nat) (r3 : Nat) (x4 : Int32) (y5 : Value) (y6 : Value) (h : Hp) : gL_law  (n + 1) 330 [.ref 1, .ref r1, .ref r2, .ref r3, .int x4, y5, y6] [] h = kL_law_330 (gL_law  n)  r1 r2 r3 x4 h := rfl
theorem zL_law_333  (n : Nat) (r1 : Nat) (r2 : Nat) (r3 : Nat) (x4 : Int32) (y5 : Value) (y6 : Value) (h : Hp) : gL_law  (n + 1) 333 [.ref 1, .ref r1, .ref r2, .ref r3, .int x4, y5, y6] [] h = kL_law_333 (gL_law  n)  r1 r2 r3 x4 h := rfl
theorem zL_law_386  (n : Nat) (r1 : Nat) (r2 : Nat) (r3 : Nat) (x4 : Int32) (y5 : Value) (y6 : Value) (h : Hp) : gL_law  (n + 1) 386 [.ref 1, .ref r1, .ref r2, .ref r3, .int x4, y5, y6] [] h = kL_law_386 (gL_law  n)  r1 r2 r3 x4 h := rfl
theorem zL_law_389  (n : Nat) (r1 : Nat) (r2 : Nat) (r3 : Nat) (x4 : Int32) (y5 : Value) (y6 : Value) (h : Hp) : gL_law  (n + 1) 389 [.ref 1, .ref r1, .ref r2, .ref r3, .int x4, y5, y6] [] h = kL_law_389 (gL_law  n)  r1 r2 r3 x4 h := rfl
theorem zL_law_442  (n : Nat) (r1 : Nat) (r2 : Nat) (r3 : Nat) (x4 : Int32) (y5 : Value) (y6 : Value) (h : Hp) : gL_law  (n + 1) 442 [.ref 1, .ref r1, .ref r2, .ref r3, .int x4, y5, y6] [] h = kL_law_442 (gL_law  n)  r1 r2 r3 x4 h := rfl
theorem zL_law_445  (n : Nat) (r1 : Nat) (r2 : Nat) (r3 : Nat) (x4 : Int32) (y5 : Value) (y6 : Value) (h : Hp) : gL_law  (n + 1) 445 [.ref 1, .ref r1, .ref r2, .ref r3, .int x4, y5, y6] [] h = kL_law_445 (gL_law  n)  r1 r2 r3 x4 h := rfl
theorem zL_law_458  (n : Nat) (r1 : Nat) (r2 : Nat) (r3 : Nat) (x4 : Int32) (y5 : Value) (y6 : Value) (h : Hp) : gL_law  (n + 1) 458 [.ref 1, .ref r1, .ref r2, .ref r3, .int x4, y5, y6] [] h = kL_law_458 (gL_law  n)  r1 r2 r3 x4 h := rfl
theorem zL_law_471  (n : Nat) (r1 : Nat) (r2 : Nat) (r3 : Nat) (x4 : Int32) (y5 : Value) (y6 : Value) (h : Hp) : gL_law  (n + 1) 471 [.ref 1, .ref r1, .ref r2, .ref r3, .int x4, y5, y6] [] h = kL_law_471 (gL_law  n)  r1 r2 r3 x4 h := rfl
theorem zL_law_524  (n : Nat) (r1 : Nat) (r2 : Nat) (r3 : Nat) (x4 : Int32) (y5 : Value) (y6 : Value) (h : Hp) : gL_law  (n + 1) 524 [.ref 1, .ref r1, .ref r2, .ref r3, .int x4, y5, y6] [] h = kL_law_524 (gL_law  n)  r1 r2 r3 x4 h := rfl
theorem zL_law_527  (n : Nat) (r1 : Nat) (r2 : Nat) (r3 : Nat) (x4 : Int32) (y5 : Value) (y6 : Value) (h : Hp) : gL_law  (n + 1) 527 [.ref 1, .ref r1, .ref r2, .ref r3, .int x4, y5, y6] [] h = kL_law_527 (gL_law  n)  r1 r2 r3 x4 h := rfl
theorem zL_law_604  (n : Nat) (r1 : Nat) (r2 : Nat) (r3 : Nat) (x4 : Int32) (y5 : Value) (y6 : Value) (h : Hp) : gL_law  (n + 1) 604 [.ref 1, .ref r1, .ref r2, .ref r3, .int x4, y5, y6] [] h = kL_law_604 (gL_law  n)  r1 r2 r3 x4 h := rfl
theorem zL_law_607  (n : Nat) (r1 : Nat) (r2 : Nat) (r3 : Nat) (x4 : Int32) (y5 : Value) (y6 : Value) (h : Hp) : gL_law  (n + 1) 607 [.ref 1, .ref r1, .ref r2, .ref r3, .int x4, y5, y6] [] h = kL_law_607 (gL_law  n)  r1 r2 r3 x4 h := rfl
theorem zL_law_684  (n : Nat) (r1 : Nat) (r2 : Nat) (r3 : Nat) (x4 : Int32) (y5 : Value) (y6 : Value) (h : Hp) : gL_law  (n + 1) 684 [.ref 1, .ref r1, .ref r2, .ref r3, .int x4, y5, y6] [] h = kL_law_684 (gL_law  n)  r1 r2 r3 x4 h := rfl
theorem zL_law_687  (n : Nat) (r1 : Nat) (r2 : Nat) (r3 : Nat) (x4 : Int32) (y5 : Value) (y6 : Value) (h : Hp) : gL_law  (n + 1) 687 [.ref 1, .ref r1, .ref r2, .ref r3, .int x4, y5, y6] [] h = kL_law_687 (gL_law  n)  r1 r2 r3 x4 h := rfl
theorem zL_law_764  (n : Nat) (r1 : Nat) (r2 : Nat) (r3 : Nat) (x4 : Int32) (y5 : Value) (y6 : Value) (h : Hp) : gL_law  (n + 1) 764 [.ref 1, .ref r1, .ref r2, .ref r3, .int x4, y5, y6] [] h = kL_law_764 (gL_law  n)  r1 r2 r3 x4 h := rfl
theorem zL_law_767  (n : Nat) (r1 : Nat) (r2 : Nat) (r3 : Nat) (x4 : Int32) (y5 : Value) (y6 : Value) (h : Hp) : gL_law  (n + 1) 767 [.ref 1, .ref r1, .ref r2, .ref r3, .int x4, y5, y6] [] h = kL_law_767 (gL_law  n)  r1 r2 r3 x4 h := rfl
theorem zL_law_820  (n : Nat) (r1 : Nat) (r2 : Nat) (r3 : Nat) (x4 : Int32) (y5 : Value) (y6 : Value) (h : Hp) : gL_law  (n + 1) 820 [.ref 1, .ref r1, .ref r2, .ref r3, .int x4, y5, y6] [] h = kL_law_820 (gL_law  n)  r1 r2 r3 x4 h := rfl
theorem zL_law_823  (n : Nat) (r1 : Nat) (r2 : Nat) (r3 : Nat) (x4 : Int32) (y5 : Value) (y6 : Value) (h : Hp) : gL_law  (n + 1) 823 [.ref 1, .ref r1, .ref r2, .ref r3, .int x4, y5, y6] [] h = kL_law_823 (gL_law  n)  r1 r2 r3 x4 h := rfl
theorem zL_law_876  (n : Nat) (r1 : Nat) (r2 : Nat) (r3 : Nat) (x4 : Int32) (y5 : Value) (y6 : Value) (h : Hp) : gL_law  (n + 1) 876 [.ref 1, .ref r1, .ref r2, .ref r3, .int x4, y5, y6] [] h = kL_law_876 (gL_law  n)  r1 r2 r3 x4 h := rfl
theorem zL_law_879  (n : Nat) (r1 : Nat) (r2 : Nat) (r3 : Nat) (x4 : Int32) (y5 : Value) (y6 : Value) (h : Hp) : gL_law  (n + 1) 879 [.ref 1, .ref r1, .ref r2, .ref r3, .int x4, y5, y6] [] h = kL_law_879 (gL_law  n)  r1 r2 r3 x4 h := rfl
theorem zL_law_932  (n : Nat) (r1 : Nat) (r2 : Nat) (r3 : Nat) (x4 : Int32) (y5 : Value) (y6 : Value) (h : Hp) : gL_law  (n + 1) 932 [.ref 1, .ref r1, .ref r2, .ref r3, .int x4, y5, y6] [] h = kL_law_932 (gL_law  n)  r1 r2 r3 x4 h := rfl
theorem zL_law_935  (n : Nat) (r1 : Nat) (r2 : Nat) (r3 : Nat) (x4 : Int32) (y5 : Value) (y6 : Value) (h : Hp) : gL_law  (n + 1) 935 [.ref 1, .ref r1, .ref r2, .ref r3, .int x4, y5, y6] [] h = kL_law_935 (gL_law  n)  r1 r2 r3 x4 h := rfl
theorem zL_law_988  (n : Nat) (r1 : Nat) (r2 : Nat) (r3 : Nat) (x4 : Int32) (y5 : Value) (y6 : Value) (h : Hp) : gL_law  (n + 1) 988 [.ref 1, .ref r1, .ref r2, .ref r3, .int x4, y5, y6] [] h = kL_law_988 (gL_law  n)  r1 r2 r3 x4 h := rfl
theorem zL_law_991  (n : Nat) (r1 : Nat) (r2 : Nat) (r3 : Nat) (x4 : Int32) (y5 : Value) (y6 : Value) (h : Hp) : gL_law  (n + 1) 991 [.ref 1, .ref r1, .ref r2, .ref r3, .int x4, y5, y6] [] h = kL_law_991 (gL_law  n)  r1 r2 r3 x4 h := rfl
theorem zL_law_1056  (n : Nat) (r1 : Nat) (r2 : Nat) (r3 : Nat) (x4 : Int32) (y5 : Value) (y6 : Value) (h : Hp) : gL_law  (n + 1) 1056 [.ref 1, .ref r1, .ref r2, .ref r3, .int x4, y5, y6] [] h = kL_law_1056 (gL_law  n)  r1 r2 r3 x4 h := rfl
theorem zL_law_1059  (n : Nat) (r1 : Nat) (r2 : Nat) (r3 : Nat) (x4 : Int32) (y5 : Value) (y6 : Value) (h : Hp) : gL_law  (n + 1) 1059 [.ref 1, .ref r1, .ref r2, .ref r3, .int x4, y5, y6] [] h = kL_law_1059 (gL_law  n)  r1 r2 r3 x4 h := rfl
theorem zL_law_1124  (n : Nat) (r1 : Nat) (r2 : Nat) (r3 : Nat) (x4 : Int32) (y5 : Value) (y6 : Value) (h : Hp) : gL_law  (n + 1) 1124 [.ref 1, .ref r1, .ref r2, .ref r3, .int x4, y5, y6] [] h = kL_law_1124 (gL_law  n)  r1 r2 r3 x4 h := rfl
theorem zL_law_1127  (n : Nat) (r1 : Nat) (r2 : Nat) (r3 : Nat) (x4 : Int32) (y5 : Value) (y6 : Value) (h : Hp) : gL_law  (n + 1) 1127 [.ref 1, .ref r1, .ref r2, .ref r3, .int x4, y5, y6] [] h = kL_law_1127 (gL_law  n)  r1 r2 r3 x4 h := rfl
theorem zL_law_1192  (n : Nat) (r1 : Nat) (r2 : Nat) (r3 : Nat) (x4 : Int32) (y5 : Value) (y6 : Value) (h : Hp) : gL_law  (n + 1) 1192 [.ref 1, .ref r1, .ref r2, .ref r3, .int x4, y5, y6] [] h = kL_law_1192 (gL_law  n)  r1 r2 r3 x4 h := rfl
theorem zL_law_1195  (n : Nat) (r1 : Nat) (r2 : Nat) (r3 : Nat) (x4 : Int32) (y5 : Value) (y6 : Value) (h : Hp) : gL_law  (n + 1) 1195 [.ref 1, .ref r1, .ref r2, .ref r3, .int x4, y5, y6] [] h = kL_law_1195 (gL_law  n)  r1 r2 r3 x4 h := rfl
theorem zL_law_1248  (n : Nat) (r1 : Nat) (r2 : Nat) (r3 : Nat) (x4 : Int32) (y5 : Value) (y6 : Value) (h : Hp) : gL_law  (n + 1) 1248 [.ref 1, .ref r1, .ref r2, .ref r3, .int x4, y5, y6] [] h = kL_law_1248 (gL_law  n)  r1 r2 r3 x4 h := rfl
theorem zL_law_1251  (n : Nat) (r1 : Nat) (r2 : Nat) (r3 : Nat) (x4 : Int32) (y5 : Value) (y6 : Value) (h : Hp) : gL_law  (n + 1) 1251 [.ref 1, .ref r1, .ref r2, .ref r3, .int x4, y5, y6] [] h = kL_law_1251 (gL_law  n)  r1 r2 r3 x4 h := rfl
theorem zL_law_1316  (n : Nat) (r1 : Nat) (r2 : Nat) (r3 : Nat) (x4 : Int32) (y5 : Value) (y6 : Value) (h : Hp) : gL_law  (n + 1) 1316 [.ref 1, .ref r1, .ref r2, .ref r3, .int x4, y5, y6] [] h = kL_law_1316 (gL_law  n)  r1 r2 r3 x4 h := rfl
theorem zL_law_1319  (n : Nat) (r1 : Nat) (r2 : Nat) (r3 : Nat) (x4 : Int32) (y5 : Value) (y6 : Value) (h : Hp) : gL_law  (n + 1) 1319 [.ref 1, .ref r1, .ref r2, .ref r3, .int x4, y5, y6] [] h = kL_law_1319 (gL_law  n)  r1 r2 r3 x4 h := rfl
theorem zL_law_1372  (n : Nat) (r1 : Nat) (r2 : Nat) (r3 : Nat) (x4 : Int32) (y5 : Value) (y6 : Value) (h : Hp) : gL_law  (n + 1) 1372 [.ref 1, .ref r1, .ref r2, .ref r3, .int x4, y5, y6] [] h = kL_law_1372 (gL_law  n)  r1 r2 r3 x4 h := rfl
theorem zL_law_1375  (n : Nat) (r1 : Nat) (r2 : Nat) (r3 : Nat) (x4 : Int32) (y5 : Value) (y6 : Value) (h : Hp) : gL_law  (n + 1) 1375 [.ref 1, .ref r1, .ref r2, .ref r3, .int x4, y5, y6] [] h = kL_law_1375 (gL_law  n)  r1 r2 r3 x4 h := rfl
theorem zL_law_1388  (n : Nat) (r1 : Nat) (r2 : Nat) (r3 : Nat) (x4 : Int32) (y5 : Value) (y6 : Value) (h : Hp) : gL_law  (n + 1) 1388 [.ref 1, .ref r1, .ref r2, .ref r3, .int x4, y5, y6] [] h = kL_law_1388 (gL_law  n)  r1 r2 r3 x4 h := rfl
theorem zL_law_1401  (n : Nat) (r1 : Nat) (r2 : Nat) (r3 : Nat) (x4 : Int32) (y5 : Value) (y6 : Value) (h : Hp) : gL_law  (n + 1) 1401 [.ref 1, .ref r1, .ref r2, .ref r3, .int x4, y5, y6] [] h = kL_law_1401 (gL_law  n)  r1 r2 r3 x4 h := rfl
theorem zL_law_1454  (n : Nat) (r1 : Nat) (r2 : Nat) (r3 : Nat) (x4 : Int32) (y5 : Value) (y6 : Value) (h : Hp) : gL_law  (n + 1) 1454 [.ref 1, .ref r1, .ref r2, .ref r3, .int x4, y5, y6] [] h = kL_law_1454 (gL_law  n)  r1 r2 r3 x4 h := rfl
theorem zL_law_1457  (n : Nat) (r1 : Nat) (r2 : Nat) (r3 : Nat) (x4 : Int32) (y5 : Value) (y6 : Value) (h : Hp) : gL_law  (n + 1) 1457 [.ref 1, .ref r1, .ref r2, .ref r3, .int x4, y5, y6] [] h = kL_law_1457 (gL_law  n)  r1 r2 r3 x4 h := rfl
theorem zL_law_1470  (n : Nat) (r1 : Nat) (r2 : Nat) (r3 : Nat) (x4 : Int32) (y5 : Value) (y6 : Value) (h : Hp) : gL_law  (n + 1) 1470 [.ref 1, .ref r1, .ref r2, .ref r3, .int x4, y5, y6] [] h = kL_law_1470 (gL_law  n)  r1 r2 r3 x4 h := rfl
theorem zL_law_1483  (n : Nat) (r1 : Nat) (r2 : Nat) (r3 : Nat) (x4 : Int32) (y5 : Value) (y6 : Value) (h : Hp) : gL_law  (n + 1) 1483 [.ref 1, .ref r1, .ref r2, .ref r3, .int x4, y5, y6] [] h = kL_law_1483 (gL_law  n)  r1 r2 r3 x4 h := rfl
theorem zL_law_1496  (n : Nat) (r1 : Nat) (r2 : Nat) (r3 : Nat) (x4 : Int32) (y5 : Value) (y6 : Value) (h : Hp) : gL_law  (n + 1) 1496 [.ref 1, .ref r1, .ref r2, .ref r3, .int x4, y5, y6] [] h = kL_law_1496 (gL_law  n)  r1 r2 r3 x4 h := rfl
theorem zL_law_1509  (n : Nat) (r1 : Nat) (r2 : Nat) (r3 : Nat) (x4 : Int32) (y5 : Value) (y6 : Value) (h : Hp) : gL_law  (n + 1) 1509 [.ref 1, .ref r1, .ref r2, .ref r3, .int x4, y5, y6] [] h = kL_law_1509 (gL_law  n)  r1 r2 r3 x4 h := rfl
theorem zL_law_1562  (n : Nat) (r1 : Nat) (r2 : Nat) (r3 : Nat) (x4 : Int32) (y5 : Value) (y6 : Value) (h : Hp) : gL_law  (n + 1) 1562 [.ref 1, .ref r1, .ref r2, .ref r3, .int x4, y5, y6] [] h = kL_law_1562 (gL_law  n)  r1 r2 r3 x4 h := rfl
theorem zL_law_1565  (n : Nat) (r1 : Nat) (r2 : Nat) (r3 : Nat) (x4 : Int32) (y5 : Value) (y6 : Value) (h : Hp) : gL_law  (n + 1) 1565 [.ref 1, .ref r1, .ref r2, .ref r3, .int x4, y5, y6] [] h = kL_law_1565 (gL_law  n)  r1 r2 r3 x4 h := rfl
theorem zL_law_1618  (n : Nat) (r1 : Nat) (r2 : Nat) (r3 : Nat) (x4 : Int32) (y5 : Value) (y6 : Value) (h : Hp) : gL_law  (n + 1) 1618 [.ref 1, .ref r1, .ref r2, .ref r3, .int x4, y5, y6] [] h = kL_law_1618 (gL_law  n)  r1 r2 r3 x4 h := rfl
theorem zL_law_1621  (n : Nat) (r1 : Nat) (r2 : Nat) (r3 : Nat) (x4 : Int32) (y5 : Value) (y6 : Value) (h : Hp) : gL_law  (n + 1) 1621 [.ref 1, .ref r1, .ref r2, .ref r3, .int x4, y5, y6] [] h = kL_law_1621 (gL_law  n)  r1 r2 r3 x4 h := rfl
theorem zL_law_1686  (n : Nat) (r1 : Nat) (r2 : Nat) (r3 : Nat) (x4 : Int32) (y5 : Value) (y6 : Value) (h : Hp) : gL_law  (n + 1) 1686 [.ref 1, .ref r1, .ref r2, .ref r3, .int x4, y5, y6] [] h = kL_law_1686 (gL_law  n)  r1 r2 r3 x4 h := rfl
theorem zL_law_1689  (n : Nat) (r1 : Nat) (r2 : Nat) (r3 : Nat) (x4 : Int32) (y5 : Value) (y6 : Value) (h : Hp) : gL_law  (n + 1) 1689 [.ref 1, .ref r1, .ref r2, .ref r3, .int x4, y5, y6] [] h = kL_law_1689 (gL_law  n)  r1 r2 r3 x4 h := rfl
theorem zL_law_1742  (n : Nat) (r1 : Nat) (r2 : Nat) (r3 : Nat) (x4 : Int32) (y5 : Value) (y6 : Value) (h : Hp) : gL_law  (n + 1) 1742 [.ref 1, .ref r1, .ref r2, .ref r3, .int x4, y5, y6] [] h = kL_law_1742 (gL_law  n)  r1 r2 r3 x4 h := rfl
theorem zL_law_1745  (n : Nat) (r1 : Nat) (r2 : Nat) (r3 : Nat) (x4 : Int32) (y5 : Value) (y6 : Value) (h : Hp) : gL_law  (n + 1) 1745 [.ref 1, .ref r1, .ref r2, .ref r3, .int x4, y5, y6] [] h = kL_law_1745 (gL_law  n)  r1 r2 r3 x4 h := rfl
theorem zL_law_1834  (n : Nat) (r1 : Nat) (r2 : Nat) (r3 : Nat) (x4 : Int32) (y5 : Value) (y6 : Value) (h : Hp) : gL_law  (n + 1) 1834 [.ref 1, .ref r1, .ref r2, .ref r3, .int x4, y5, y6] [] h = kL_law_1834 (gL_law  n)  r1 r2 r3 x4 h := rfl
theorem zL_law_1837  (n : Nat) (r1 : Nat) (r2 : Nat) (r3 : Nat) (x4 : Int32) (y5 : Value) (y6 : Value) (h : Hp) : gL_law  (n + 1) 1837 [.ref 1, .ref r1, .ref r2, .ref r3, .int x4, y5, y6] [] h = kL_law_1837 (gL_law  n)  r1 r2 r3 x4 h := rfl
theorem zL_law_1952  (n : Nat) (r1 : Nat) (r2 : Nat) (r3 : Nat) (x4 : Int32) (y5 : Value) (y6 : Value) (h : Hp) : gL_law  (n + 1) 1952 [.ref 1, .ref r1, .ref r2, .ref r3, .int x4, y5, y6] [] h = kL_law_1952 (gL_law  n)  r1 r2 r3 x4 h := rfl
theorem zL_law_1955  (n : Nat) (r1 : Nat) (r2 : Nat) (r3 : Nat) (x4 : Int32) (y5 : Value) (y6 : Value) (h : Hp) : gL_law  (n + 1) 1955 [.ref 1, .ref r1, .ref r2, .ref r3, .int x4, y5, y6] [] h = kL_law_1955 (gL_law  n)  r1 r2 r3 x4 h := rfl
theorem zL_law_1968  (n : Nat) (r1 : Nat) (r2 : Nat) (r3 : Nat) (x4 : Int32) (y5 : Value) (y6 : Value) (h : Hp) : gL_law  (n + 1) 1968 [.ref 1, .ref r1, .ref r2, .ref r3, .int x4, y5, y6] [] h = kL_law_1968 (gL_law  n)  r1 r2 r3 x4 h := rfl
theorem zL_law_1981  (n : Nat) (r1 : Nat) (r2 : Nat) (r3 : Nat) (x4 : Int32) (y5 : Value) (y6 : Value) (h : Hp) : gL_law  (n + 1) 1981 [.ref 1, .ref r1, .ref r2, .ref r3, .int x4, y5, y6] [] h = kL_law_1981 (gL_law  n)  r1 r2 r3 x4 h := rfl
theorem zL_law_2006  (n : Nat) (r1 : Nat) (r2 : Nat) (r3 : Nat) (x4 : Int32) (y5 : Value) (y6 : Value) (h : Hp) : gL_law  (n + 1) 2006 [.ref 1, .ref r1, .ref r2, .ref r3, .int x4, y5, y6] [] h = kL_law_2006 (gL_law  n)  r1 r2 r3 x4 h := rfl
theorem zL_law_2031  (n : Nat) (r1 : Nat) (r2 : Nat) (r3 : Nat) (x4 : Int32) (y5 : Value) (y6 : Value) (h : Hp) : gL_law  (n + 1) 2031 [.ref 1, .ref r1, .ref r2, .ref r3, .int x4, y5, y6] [] h = kL_law_2031 (gL_law  n)  r1 r2 r3 x4 h := rfl
def fL_law  (h : Hp) : RS := kL_law_0 (gL_law FF)  h
theorem tL_law {G : GG} {d : Nat} {h : Hp} {o : OU} {h' : Hp} (e : fL_law  h = some (o, h')) (hd : 52 ≤ d) : V G mL_law d 0 [.ref 1, uV, uV, uV, uV, uV, uV] [] h o h' := uL_law_0 hd _ (wL_law hd FF) e
