def kX9_testChange_0  (r0 : Nat) (x1 : Int32) (h : Hp) : RS := (if x1 < 0 then (if kH h r0 = 19 then (if kH h (rH h r0 10) = 1 then (if inB 3 (lH h (rH h r0 10)) = true then (some (.inr xIO, nwH (h.1, (upI h.2 (rH h r0 10) 3 ((h.2 (rH h r0 10) 3) + 1))) 30 0 6)) else none) else none) else none) else (if x1 < 256 then (if kH h r0 = 19 then (if kH h (rH h r0 0) = 15 then (if x1 < (h.2 (rH h r0 0) 2) then (some (.inl none, h)) else (if kH h (rH h r0 10) = 1 then (if inB 2 (lH h (rH h r0 10)) = true then (some (.inr xNP, nwH (h.1, (upI h.2 (rH h r0 10) 2 ((h.2 (rH h r0 10) 2) + 1))) 30 0 8)) else none) else none)) else none) else none) else (if kH h r0 = 19 then (if kH h (rH h r0 10) = 1 then (if inB 3 (lH h (rH h r0 10)) = true then (some (.inr xIO, nwH (h.1, (upI h.2 (rH h r0 10) 3 ((h.2 (rH h r0 10) 3) + 1))) 30 0 6)) else none) else none) else none)))
theorem uX9_testChange_0 {G : GG} {d : Nat} (hd : 8 ≤ d)   {r0  x1 } {h : Hp} {o : OU} {h' : Hp} (e : kX9_testChange_0  r0 x1 h = some (o, h')) : VM G mX9_testChange d [.ref r0, .int x1] h o h' := by
  unfold kX9_testChange_0 at e
  refine eX9_testChange r0 x1 (by omega) ?_
  refine ⟨fun c1 => ?_, fun c1 => ?_⟩
  · have e := if_t e c1
    obtain ⟨q2, e⟩ := ob_e e
    refine ⟨q2, ?_⟩
    obtain ⟨q3, e⟩ := ob_e e
    refine ⟨q3, ?_⟩
    obtain ⟨q4, e⟩ := ob_in e
    refine ⟨q4, ?_⟩
    cases e
    exact ⟨rfl, rfl⟩
  · have e := if_f e c1
    refine ⟨fun c5 => ?_, fun c5 => ?_⟩
    · have e := if_t e c5
      obtain ⟨q6, e⟩ := ob_e e
      refine ⟨q6, ?_⟩
      obtain ⟨q7, e⟩ := ob_e e
      refine ⟨q7, ?_⟩
      refine ⟨fun c8 => ?_, fun c8 => ?_⟩
      · have e := if_t e c8
        cases e
        exact ⟨rfl, rfl⟩
      · have e := if_f e c8
        obtain ⟨q9, e⟩ := ob_e e
        refine ⟨q9, ?_⟩
        obtain ⟨q10, e⟩ := ob_in e
        refine ⟨q10, ?_⟩
        cases e
        exact ⟨rfl, rfl⟩
    · have e := if_f e c5
      obtain ⟨q11, e⟩ := ob_e e
      refine ⟨q11, ?_⟩
      obtain ⟨q12, e⟩ := ob_e e
      refine ⟨q12, ?_⟩
      obtain ⟨q13, e⟩ := ob_in e
      refine ⟨q13, ?_⟩
      cases e
      exact ⟨rfl, rfl⟩
def fX9_testChange (r0 : Nat) (x1 : Int32) (h : Hp) : RS := kX9_testChange_0 r0 x1 h
theorem tX9_testChange {G : GG} {d : Nat} {r0 x1} {h : Hp} {o : OU} {h' : Hp} (e : fX9_testChange r0 x1 h = some (o, h')) (hd : 8 ≤ d) : VM G mX9_testChange d [.ref r0, .int x1] h o h' := uX9_testChange_0 hd e
def kX9_testNode_0  (r0 : Nat) (x1 : Int32) (h : Hp) : RS := (if x1 < 0 then (if kH h r0 = 19 then (if kH h (rH h r0 10) = 1 then (if inB 0 (lH h (rH h r0 10)) = true then (some (.inr xNS, nwH (h.1, (upI h.2 (rH h r0 10) 0 ((h.2 (rH h r0 10) 0) + 1))) 30 0 6)) else none) else none) else none) else (if x1 < 12 then (some (.inl none, h)) else (if kH h r0 = 19 then (if kH h (rH h r0 10) = 1 then (if inB 0 (lH h (rH h r0 10)) = true then (some (.inr xNS, nwH (h.1, (upI h.2 (rH h r0 10) 0 ((h.2 (rH h r0 10) 0) + 1))) 30 0 6)) else none) else none) else none)))
theorem uX9_testNode_0 {G : GG} {d : Nat} (hd : 8 ≤ d)   {r0  x1 } {h : Hp} {o : OU} {h' : Hp} (e : kX9_testNode_0  r0 x1 h = some (o, h')) : VM G mX9_testNode d [.ref r0, .int x1] h o h' := by
  unfold kX9_testNode_0 at e
  refine eX9_testNode r0 x1 (by omega) ?_
  refine ⟨fun c1 => ?_, fun c1 => ?_⟩
  · have e := if_t e c1
    obtain ⟨q2, e⟩ := ob_e e
    refine ⟨q2, ?_⟩
    obtain ⟨q3, e⟩ := ob_e e
    refine ⟨q3, ?_⟩
    obtain ⟨q4, e⟩ := ob_in e
    refine ⟨q4, ?_⟩
    cases e
    exact ⟨rfl, rfl⟩
  · have e := if_f e c1
    refine ⟨fun c5 => ?_, fun c5 => ?_⟩
    · have e := if_t e c5
      cases e
      exact ⟨rfl, rfl⟩
    · have e := if_f e c5
      obtain ⟨q6, e⟩ := ob_e e
      refine ⟨q6, ?_⟩
      obtain ⟨q7, e⟩ := ob_e e
      refine ⟨q7, ?_⟩
      obtain ⟨q8, e⟩ := ob_in e
      refine ⟨q8, ?_⟩
      cases e
      exact ⟨rfl, rfl⟩
def fX9_testNode (r0 : Nat) (x1 : Int32) (h : Hp) : RS := kX9_testNode_0 r0 x1 h
theorem tX9_testNode {G : GG} {d : Nat} {r0 x1} {h : Hp} {o : OU} {h' : Hp} (e : fX9_testNode r0 x1 h = some (o, h')) (hd : 8 ≤ d) : VM G mX9_testNode d [.ref r0, .int x1] h o h' := uX9_testNode_0 hd e
def kX9_node_0  (r0 : Nat) (x1 : Int32) (x2 : Int32) (x3 : Int32) (h : Hp) : RS := (if kH h r0 = 19 then (bVx (fX9_testNode r0 x1 h) fun h1 => (if kH h1 r0 = 19 then (bVx (fX9_testWhat r0 x2 4 h1) fun h4 => (if kH h4 r0 = 19 then (bVx (fX9_testWhere r0 x3 h4) fun h7 => (if ¬ x2 = 4 then (if kH h7 r0 = 19 then (if kH h7 (rH h7 r0 0) = 15 then (bI (fX5_nodeField (rH h7 r0 0) x3 x1 x2 h7) fun z13 h12 => (some (.inl (some (.int z13)), h12))) else none) else none) else (if kH h7 r0 = 19 then (bI (fX8_reachedNodes (rH h7 r0 0) x3 h7) fun z18 h17 => (some (.inl (some (.int ((z18 >>> (x1 &&& 31)) &&& 1))), h17))) else none))) else none)) else none)) else none)
theorem uX9_node_0 {G : GG} {d : Nat} (hd : 10 ≤ d)   {r0  x1  x2  x3 } {h : Hp} {o : OU} {h' : Hp} (e : kX9_node_0  r0 x1 x2 x3 h = some (o, h')) : VM G mX9_node d [.ref r0, .int x1, .int x2, .int x3] h o h' := by
  unfold kX9_node_0 at e
  refine eX9_node r0 x1 x2 x3 (by omega) ?_
  obtain ⟨q1, e⟩ := ob_e e
  refine ⟨q1, ?_⟩
  rcases bVx_e e with ⟨h1, e2, e⟩ | ⟨E, rfl, e2⟩
  · refine Or.inl ⟨h1, (tX9_testNode e2 (by omega)), ?_⟩
    obtain ⟨q3, e⟩ := ob_e e
    refine ⟨q3, ?_⟩
    rcases bVx_e e with ⟨h4, e4, e⟩ | ⟨E, rfl, e4⟩
    · refine Or.inl ⟨h4, (tX9_testWhat e4 (by omega)), ?_⟩
      obtain ⟨q5, e⟩ := ob_e e
      refine ⟨q5, ?_⟩
      rcases bVx_e e with ⟨h7, e6, e⟩ | ⟨E, rfl, e6⟩
      · refine Or.inl ⟨h7, (tX9_testWhere e6 (by omega)), ?_⟩
        refine ⟨fun c7 => ?_, fun c7 => ?_⟩
        · have e := if_t e c7
          obtain ⟨q8, e⟩ := ob_e e
          refine ⟨q8, ?_⟩
          obtain ⟨q9, e⟩ := ob_e e
          refine ⟨q9, ?_⟩
          obtain ⟨z13, h12, e10, e⟩ := bI_e e
          refine ⟨z13, h12, (tX5_nodeField e10 (by omega)), ?_⟩
          cases e
          exact ⟨rfl, rfl⟩
        · have e := if_n e c7
          obtain ⟨q11, e⟩ := ob_e e
          refine ⟨q11, ?_⟩
          obtain ⟨z18, h17, e12, e⟩ := bI_e e
          refine ⟨z18, h17, (tX8_reachedNodes e12 (by omega)), ?_⟩
          cases e
          exact ⟨rfl, rfl⟩
      · exact Or.inr ⟨E, rfl, (tX9_testWhere e6 (by omega))⟩
    · exact Or.inr ⟨E, rfl, (tX9_testWhat e4 (by omega))⟩
  · exact Or.inr ⟨E, rfl, (tX9_testNode e2 (by omega))⟩
def fX9_node (r0 : Nat) (x1 : Int32) (x2 : Int32) (x3 : Int32) (h : Hp) : RS := kX9_node_0 r0 x1 x2 x3 h
theorem tX9_node {G : GG} {d : Nat} {r0 x1 x2 x3} {h : Hp} {o : OU} {h' : Hp} (e : fX9_node r0 x1 x2 x3 h = some (o, h')) (hd : 10 ≤ d) : VM G mX9_node d [.ref r0, .int x1, .int x2, .int x3] h o h' := uX9_node_0 hd e
def kX9_find_0  (r0 : Nat) (x1 : Int32) (x2 : Int32) (x3 : Int32) (h : Hp) : RS := (if kH h r0 = 19 then (bVx (fX9_testNode r0 x1 h) fun h1 => (if x2 < 1 then (if kH h1 r0 = 19 then (if kH h1 (rH h1 r0 10) = 1 then (if inB 1 (lH h1 (rH h1 r0 10)) = true then (some (.inr xIA, nwH (h1.1, (upI h1.2 (rH h1 r0 10) 1 ((h1.2 (rH h1 r0 10) 1) + 1))) 30 0 6)) else none) else none) else none) else (if x2 ≤ 99 then (if kH h1 r0 = 19 then (bVx (fX9_testWhere r0 x3 h1) fun h9 => (if kH h9 r0 = 19 then (bI (fX8_entryNamed (rH h9 r0 0) x3 x1 x2 h9) fun z14 h13 => (if ¬ z14 = (-1) then (if kH h13 r0 = 19 then (bI (fX8_nodeOfEntry (rH h13 r0 0) x3 z14 h13) fun z19 h18 => (some (.inl (some (.int z19)), h18))) else none) else (some (.inl (some (.int (-1))), h13)))) else none)) else none) else (if kH h1 r0 = 19 then (if kH h1 (rH h1 r0 10) = 1 then (if inB 1 (lH h1 (rH h1 r0 10)) = true then (some (.inr xIA, nwH (h1.1, (upI h1.2 (rH h1 r0 10) 1 ((h1.2 (rH h1 r0 10) 1) + 1))) 30 0 6)) else none) else none) else none)))) else none)
theorem uX9_find_0 {G : GG} {d : Nat} (hd : 10 ≤ d)   {r0  x1  x2  x3 } {h : Hp} {o : OU} {h' : Hp} (e : kX9_find_0  r0 x1 x2 x3 h = some (o, h')) : VM G mX9_find d [.ref r0, .int x1, .int x2, .int x3] h o h' := by
  unfold kX9_find_0 at e
  refine eX9_find r0 x1 x2 x3 (by omega) (by omega) ?_
  obtain ⟨q1, e⟩ := ob_e e
  refine ⟨q1, ?_⟩
  rcases bVx_e e with ⟨h1, e2, e⟩ | ⟨E, rfl, e2⟩
  · refine Or.inl ⟨h1, (tX9_testNode e2 (by omega)), ?_⟩
    refine ⟨fun c3 => ?_, fun c3 => ?_⟩
    · have e := if_t e c3
      obtain ⟨q4, e⟩ := ob_e e
      refine ⟨q4, ?_⟩
      obtain ⟨q5, e⟩ := ob_e e
      refine ⟨q5, ?_⟩
      obtain ⟨q6, e⟩ := ob_in e
      refine ⟨q6, ?_⟩
      cases e
      exact ⟨rfl, rfl⟩
    · have e := if_f e c3
      refine ⟨fun c7 => ?_, fun c7 => ?_⟩
      · have e := if_t e c7
        obtain ⟨q8, e⟩ := ob_e e
        refine ⟨q8, ?_⟩
        rcases bVx_e e with ⟨h9, e9, e⟩ | ⟨E, rfl, e9⟩
        · refine Or.inl ⟨h9, (tX9_testWhere e9 (by omega)), ?_⟩
          obtain ⟨q10, e⟩ := ob_e e
          refine ⟨q10, ?_⟩
          obtain ⟨z14, h13, e11, e⟩ := bI_e e
          refine ⟨z14, h13, (tX8_entryNamed e11 (by omega)), ?_⟩
          refine ⟨fun c12 => ?_, fun c12 => ?_⟩
          · have e := if_t e c12
            obtain ⟨q13, e⟩ := ob_e e
            refine ⟨q13, ?_⟩
            obtain ⟨z19, h18, e14, e⟩ := bI_e e
            refine ⟨z19, h18, (tX8_nodeOfEntry e14 (by omega)), ?_⟩
            cases e
            exact ⟨rfl, rfl⟩
          · have e := if_n e c12
            cases e
            exact ⟨rfl, rfl⟩
        · exact Or.inr ⟨E, rfl, (tX9_testWhere e9 (by omega))⟩
      · have e := if_f e c7
        obtain ⟨q15, e⟩ := ob_e e
        refine ⟨q15, ?_⟩
        obtain ⟨q16, e⟩ := ob_e e
        refine ⟨q16, ?_⟩
        obtain ⟨q17, e⟩ := ob_in e
        refine ⟨q17, ?_⟩
        cases e
        exact ⟨rfl, rfl⟩
  · exact Or.inr ⟨E, rfl, (tX9_testNode e2 (by omega))⟩
def fX9_find (r0 : Nat) (x1 : Int32) (x2 : Int32) (x3 : Int32) (h : Hp) : RS := kX9_find_0 r0 x1 x2 x3 h
theorem tX9_find {G : GG} {d : Nat} {r0 x1 x2 x3} {h : Hp} {o : OU} {h' : Hp} (e : fX9_find r0 x1 x2 x3 h = some (o, h')) (hd : 10 ≤ d) : VM G mX9_find d [.ref r0, .int x1, .int x2, .int x3] h o h' := uX9_find_0 hd e
def kX9_under_0  (r0 : Nat) (x1 : Int32) (x2 : Int32) (h : Hp) : RS := (if kH h r0 = 19 then (bVx (fX9_testNode r0 x1 h) fun h1 => (if kH h1 r0 = 19 then (bVx (fX9_testWhere r0 x2 h1) fun h4 => (if kH h4 r0 = 19 then (bV (fX9_forgetKnown r0 h4) fun h7 => (if kH h7 r0 = 19 then (bI (fX8_countUnder (rH h7 r0 0) x2 x1 (rH h7 r0 16) 0 h7) fun z12 h11 => (some (.inl (some (.int z12)), h11))) else none)) else none)) else none)) else none)
theorem uX9_under_0 {G : GG} {d : Nat} (hd : 44 ≤ d)   {r0  x1  x2 } {h : Hp} {o : OU} {h' : Hp} (e : kX9_under_0  r0 x1 x2 h = some (o, h')) : VM G mX9_under d [.ref r0, .int x1, .int x2] h o h' := by
  unfold kX9_under_0 at e
  refine eX9_under r0 x1 x2 (by omega) ?_
  obtain ⟨q1, e⟩ := ob_e e
  refine ⟨q1, ?_⟩
  rcases bVx_e e with ⟨h1, e2, e⟩ | ⟨E, rfl, e2⟩
  · refine Or.inl ⟨h1, (tX9_testNode e2 (by omega)), ?_⟩
    obtain ⟨q3, e⟩ := ob_e e
    refine ⟨q3, ?_⟩
    rcases bVx_e e with ⟨h4, e4, e⟩ | ⟨E, rfl, e4⟩
    · refine Or.inl ⟨h4, (tX9_testWhere e4 (by omega)), ?_⟩
      obtain ⟨q5, e⟩ := ob_e e
      refine ⟨q5, ?_⟩
      obtain ⟨h7, e6, e⟩ := bV_e e
      refine ⟨h7, (tX9_forgetKnown e6 (by omega)), ?_⟩
      obtain ⟨q7, e⟩ := ob_e e
      refine ⟨q7, ?_⟩
      obtain ⟨z12, h11, e8, e⟩ := bI_e e
      refine ⟨z12, h11, (tX8_countUnder e8 (by omega)), ?_⟩
      cases e
      exact ⟨rfl, rfl⟩
    · exact Or.inr ⟨E, rfl, (tX9_testWhere e4 (by omega))⟩
  · exact Or.inr ⟨E, rfl, (tX9_testNode e2 (by omega))⟩
def fX9_under (r0 : Nat) (x1 : Int32) (x2 : Int32) (h : Hp) : RS := kX9_under_0 r0 x1 x2 h
theorem tX9_under {G : GG} {d : Nat} {r0 x1 x2} {h : Hp} {o : OU} {h' : Hp} (e : fX9_under r0 x1 x2 h = some (o, h')) (hd : 44 ≤ d) : VM G mX9_under d [.ref r0, .int x1, .int x2] h o h' := uX9_under_0 hd e
def kX9_deep_0  (r0 : Nat) (x1 : Int32) (x2 : Int32) (h : Hp) : RS := (if kH h r0 = 19 then (bVx (fX9_testNode r0 x1 h) fun h1 => (if kH h1 r0 = 19 then (bVx (fX9_testWhere r0 x2 h1) fun h4 => (if kH h4 r0 = 19 then (bV (fX9_forgetKnown r0 h4) fun h7 => (if kH h7 r0 = 19 then (bI (fX8_depthOf (rH h7 r0 0) x2 x1 (rH h7 r0 16) 0 h7) fun z12 h11 => (some (.inl (some (.int z12)), h11))) else none)) else none)) else none)) else none)
theorem uX9_deep_0 {G : GG} {d : Nat} (hd : 44 ≤ d)   {r0  x1  x2 } {h : Hp} {o : OU} {h' : Hp} (e : kX9_deep_0  r0 x1 x2 h = some (o, h')) : VM G mX9_deep d [.ref r0, .int x1, .int x2] h o h' := by
  unfold kX9_deep_0 at e
  refine eX9_deep r0 x1 x2 (by omega) ?_
  obtain ⟨q1, e⟩ := ob_e e
  refine ⟨q1, ?_⟩
  rcases bVx_e e with ⟨h1, e2, e⟩ | ⟨E, rfl, e2⟩
  · refine Or.inl ⟨h1, (tX9_testNode e2 (by omega)), ?_⟩
    obtain ⟨q3, e⟩ := ob_e e
    refine ⟨q3, ?_⟩
    rcases bVx_e e with ⟨h4, e4, e⟩ | ⟨E, rfl, e4⟩
    · refine Or.inl ⟨h4, (tX9_testWhere e4 (by omega)), ?_⟩
      obtain ⟨q5, e⟩ := ob_e e
      refine ⟨q5, ?_⟩
      obtain ⟨h7, e6, e⟩ := bV_e e
      refine ⟨h7, (tX9_forgetKnown e6 (by omega)), ?_⟩
      obtain ⟨q7, e⟩ := ob_e e
      refine ⟨q7, ?_⟩
      obtain ⟨z12, h11, e8, e⟩ := bI_e e
      refine ⟨z12, h11, (tX8_depthOf e8 (by omega)), ?_⟩
      cases e
      exact ⟨rfl, rfl⟩
    · exact Or.inr ⟨E, rfl, (tX9_testWhere e4 (by omega))⟩
  · exact Or.inr ⟨E, rfl, (tX9_testNode e2 (by omega))⟩
def fX9_deep (r0 : Nat) (x1 : Int32) (x2 : Int32) (h : Hp) : RS := kX9_deep_0 r0 x1 x2 h
theorem tX9_deep {G : GG} {d : Nat} {r0 x1 x2} {h : Hp} {o : OU} {h' : Hp} (e : fX9_deep r0 x1 x2 h = some (o, h')) (hd : 44 ≤ d) : VM G mX9_deep d [.ref r0, .int x1, .int x2] h o h' := uX9_deep_0 hd e
def kX9_room_0  (r0 : Nat) (x1 : Int32) (h : Hp) : RS := (if kH h r0 = 19 then (bVx (fX9_testNode r0 x1 h) fun h1 => (if kH h1 r0 = 19 then (bI (fX8_freeEntries (rH h1 r0 0) 0 x1 h1) fun z6 h5 => (some (.inl (some (.int z6)), h5))) else none)) else none)
theorem uX9_room_0 {G : GG} {d : Nat} (hd : 9 ≤ d)   {r0  x1 } {h : Hp} {o : OU} {h' : Hp} (e : kX9_room_0  r0 x1 h = some (o, h')) : VM G mX9_room d [.ref r0, .int x1] h o h' := by
  unfold kX9_room_0 at e
  refine eX9_room r0 x1 (by omega) ?_
  obtain ⟨q1, e⟩ := ob_e e
  refine ⟨q1, ?_⟩
  rcases bVx_e e with ⟨h1, e2, e⟩ | ⟨E, rfl, e2⟩
  · refine Or.inl ⟨h1, (tX9_testNode e2 (by omega)), ?_⟩
    obtain ⟨q3, e⟩ := ob_e e
    refine ⟨q3, ?_⟩
    obtain ⟨z6, h5, e4, e⟩ := bI_e e
    refine ⟨z6, h5, (tX8_freeEntries e4 (by omega)), ?_⟩
    cases e
    exact ⟨rfl, rfl⟩
  · exact Or.inr ⟨E, rfl, (tX9_testNode e2 (by omega))⟩
def fX9_room (r0 : Nat) (x1 : Int32) (h : Hp) : RS := kX9_room_0 r0 x1 h
theorem tX9_room {G : GG} {d : Nat} {r0 x1} {h : Hp} {o : OU} {h' : Hp} (e : fX9_room r0 x1 h = some (o, h')) (hd : 9 ≤ d) : VM G mX9_room d [.ref r0, .int x1] h o h' := uX9_room_0 hd e
def kX9_span_0 (rec : Nat → List Value → List Value → Hp → RS)  (r0 : Nat) (x1 : Int32) (x2 : Int32) (x3 : Int32) (x4 : Int32) (x5 : Int32) (x6 : Int32) (h : Hp) : RS := (if kH h r0 = 19 then (bVx (fX9_testNode r0 x6 h) fun h1 => (if kH h1 r0 = 19 then (bVx (fX9_testRange r0 x2 1 5 h1) fun h4 => (if kH h4 r0 = 19 then (bVx (fX9_testRange r0 x3 1 96 h4) fun h7 => (if kH h7 r0 = 19 then (bVx (fX9_testRange r0 x4 0 16 h7) fun h10 => (if kH h10 r0 = 19 then (bVx (fX9_testWhat r0 x5 2 h10) fun h13 => (rec 50 [.ref r0, .int x1, .int x2, .int x3, .int x4, .int x5, .int x6, .int 16, .int 0, .int 0, .int 0, uV, uV] [] h13)) else none)) else none)) else none)) else none)) else none)
theorem uX9_span_0 {G : GG} {d : Nat} (hd : 10 ≤ d) (rec : Nat → List Value → List Value → Hp → RS) (hrec : ∀ pc loc st h o h', rec pc loc st h = some (o, h') → V G mX9_span d pc loc st h o h')   {r0  x1  x2  x3  x4  x5  x6 } {h : Hp} {o : OU} {h' : Hp} (e : kX9_span_0 rec  r0 x1 x2 x3 x4 x5 x6 h = some (o, h')) : VM G mX9_span d [.ref r0, .int x1, .int x2, .int x3, .int x4, .int x5, .int x6] h o h' := by
  unfold kX9_span_0 at e
  refine eX9_span r0 x1 x2 x3 x4 x5 x6 (by omega) ?_
  obtain ⟨q1, e⟩ := ob_e e
  refine ⟨q1, ?_⟩
  rcases bVx_e e with ⟨h1, e2, e⟩ | ⟨E, rfl, e2⟩
  · refine Or.inl ⟨h1, (tX9_testNode e2 (by omega)), ?_⟩
    obtain ⟨q3, e⟩ := ob_e e
    refine ⟨q3, ?_⟩
    rcases bVx_e e with ⟨h4, e4, e⟩ | ⟨E, rfl, e4⟩
    · refine Or.inl ⟨h4, (tX9_testRange e4 (by omega)), ?_⟩
      obtain ⟨q5, e⟩ := ob_e e
      refine ⟨q5, ?_⟩
      rcases bVx_e e with ⟨h7, e6, e⟩ | ⟨E, rfl, e6⟩
      · refine Or.inl ⟨h7, (tX9_testRange e6 (by omega)), ?_⟩
        obtain ⟨q7, e⟩ := ob_e e
        refine ⟨q7, ?_⟩
        rcases bVx_e e with ⟨h10, e8, e⟩ | ⟨E, rfl, e8⟩
        · refine Or.inl ⟨h10, (tX9_testRange e8 (by omega)), ?_⟩
          obtain ⟨q9, e⟩ := ob_e e
          refine ⟨q9, ?_⟩
          rcases bVx_e e with ⟨h13, e10, e⟩ | ⟨E, rfl, e10⟩
          · refine Or.inl ⟨h13, (tX9_testWhat e10 (by omega)), ?_⟩
            exact hrec _ _ _ _ _ _ e
          · exact Or.inr ⟨E, rfl, (tX9_testWhat e10 (by omega))⟩
        · exact Or.inr ⟨E, rfl, (tX9_testRange e8 (by omega))⟩
      · exact Or.inr ⟨E, rfl, (tX9_testRange e6 (by omega))⟩
    · exact Or.inr ⟨E, rfl, (tX9_testRange e4 (by omega))⟩
  · exact Or.inr ⟨E, rfl, (tX9_testNode e2 (by omega))⟩
def kX9_span_50 (rec : Nat → List Value → List Value → Hp → RS)  (r0 : Nat) (x1 : Int32) (x2 : Int32) (x3 : Int32) (x4 : Int32) (x5 : Int32) (x6 : Int32) (x7 : Int32) (x8 : Int32) (x9 : Int32) (x10 : Int32) (h : Hp) : RS := (if x2 ≤ x10 then (if ¬ x5 = 0 then (if ¬ x5 = 1 then (some (.inl (some (.int x9)), h)) else (some (.inl (some (.int x8)), h))) else (some (.inl (some (.int x7)), h))) else (if kH h r0 = 19 then (bR (fX9_blow r0 (x1 + x10) x3 x4 h) fun z5 h4 => (bI (fX8_leakedBlocks z5 1 h4) fun z9 h8 => (bI (fJ6_bitCount_0f7a4 z9 h8) fun z12 h11 => (bI (fX8_linkedNodes z5 1 h11) fun z15 h14 => (rec 50 [.ref r0, .int x1, .int x2, .int x3, .int x4, .int x5, .int x6, .int (if z12 < x7 then z12 else x7), .int (if x8 < z12 then z12 else x8), .int (x9 + ((z15 >>> (x6 &&& 31)) &&& 1)), .int (x10 + 1), uV, uV] [] h14))))) else none))
theorem uX9_span_50 {G : GG} {d : Nat} (hd : 10 ≤ d) (rec : Nat → List Value → List Value → Hp → RS) (hrec : ∀ pc loc st h o h', rec pc loc st h = some (o, h') → V G mX9_span d pc loc st h o h')   {r0  x1  x2  x3  x4  x5  x6  x7  x8  x9  x10 } {h : Hp} {o : OU} {h' : Hp} (e : kX9_span_50 rec  r0 x1 x2 x3 x4 x5 x6 x7 x8 x9 x10 h = some (o, h')) : V G mX9_span d 50 [.ref r0, .int x1, .int x2, .int x3, .int x4, .int x5, .int x6, .int x7, .int x8, .int x9, .int x10, uV, uV] [] h o h' := by
  unfold kX9_span_50 at e
  refine bX9_span_50 r0 x1 x2 x3 x4 x5 x6 x7 x8 x9 x10 (by omega) ?_
  refine ⟨fun c1 => ?_, fun c1 => ?_⟩
  · have e := if_t e c1
    refine ⟨fun c2 => ?_, fun c2 => ?_⟩
    · have e := if_t e c2
      refine ⟨fun c3 => ?_, fun c3 => ?_⟩
      · have e := if_t e c3
        cases e
        exact ⟨rfl, rfl⟩
      · have e := if_n e c3
        cases e
        exact ⟨rfl, rfl⟩
    · have e := if_n e c2
      cases e
      exact ⟨rfl, rfl⟩
  · have e := if_f e c1
    obtain ⟨q4, e⟩ := ob_e e
    refine ⟨q4, ?_⟩
    obtain ⟨z5, h4, e5, e⟩ := bR_e e
    refine ⟨z5, h4, (tX9_blow e5 (by omega)), ?_⟩
    obtain ⟨z9, h8, e6, e⟩ := bI_e e
    refine ⟨z9, h8, (tX8_leakedBlocks e6 (by omega)), ?_⟩
    obtain ⟨z12, h11, e7, e⟩ := bI_e e
    refine ⟨z12, h11, (tJ6_bitCount_0f7a4 e7 (by omega)), ?_⟩
    obtain ⟨z15, h14, e8, e⟩ := bI_e e
    refine ⟨z15, h14, (tX8_linkedNodes e8 (by omega)), ?_⟩
    exact hrec _ _ _ _ _ _ e
def sX9_span  (rec : Nat → List Value → List Value → Hp → RS) (pc : Nat) (loc st : List Value) (h : Hp) : RS := match pc, loc, st with
  | 50, [.ref r0, .int x1, .int x2, .int x3, .int x4, .int x5, .int x6, .int x7, .int x8, .int x9, .int x10, _, _], [] => kX9_span_50 rec  r0 x1 x2 x3 x4 x5 x6 x7 x8 x9 x10 h
  | _, _, _ => none
def gX9_span  : Nat → Nat → List Value → List Value → Hp → RS
  | 0 => fun _ _ _ _ => none
  | n + 1 => sX9_span  (gX9_span  n)
theorem wX9_span {G : GG} {d : Nat} (hd : 10 ≤ d)   : ∀ (n pc : Nat) (loc st : List Value) (h : Hp) (o : OU) (h' : Hp), gX9_span  n pc loc st h = some (o, h') → V G mX9_span d pc loc st h o h' := by
  intro n
  induction n with
  | zero => intro pc loc st h o h' e; cases e
  | succ n ih =>
    intro pc loc st h o h' e
    unfold gX9_span sX9_span at e
    split at e
    · exact V.drop (llp_r (llp_r (llp_r (llp_r (llp_r (llp_r (llp_r (llp_r (llp_r (llp_r (llp_r (llp_u (llp_u llp_nil))))))))))))) (uX9_span_50 hd _ ih   e)
    · cases e
theorem zX9_span_50  (n : Nat) (r0 : Nat) (x1 : Int32) (x2 : Int32) (x3 : Int32) (x4 : Int32) (x5 : Int32) (x6 : Int32) (x7 : Int32) (x8 : Int32) (x9 : Int32) (x10 : Int32) (y11 : Value) (y12 : Value) (h : Hp) : gX9_span  (n + 1) 50 [.ref r0, .int x1, .int x2, .int x3, .int x4, .int x5, .int x6, .int x7, .int x8, .int x9, .int x10, y11, y12] [] h = kX9_span_50 (gX9_span  n)  r0 x1 x2 x3 x4 x5 x6 x7 x8 x9 x10 h := rfl
def fX9_span (r0 : Nat) (x1 : Int32) (x2 : Int32) (x3 : Int32) (x4 : Int32) (x5 : Int32) (x6 : Int32) (h : Hp) : RS := kX9_span_0 (gX9_span FF) r0 x1 x2 x3 x4 x5 x6 h
theorem tX9_span {G : GG} {d : Nat} {r0 x1 x2 x3 x4 x5 x6} {h : Hp} {o : OU} {h' : Hp} (e : fX9_span r0 x1 x2 x3 x4 x5 x6 h = some (o, h')) (hd : 10 ≤ d) : VM G mX9_span d [.ref r0, .int x1, .int x2, .int x3, .int x4, .int x5, .int x6] h o h' := uX9_span_0 hd _ (wX9_span hd FF) e
def kX9_change_0  (r0 : Nat) (x1 : Int32) (x2 : Int32) (h : Hp) : RS := (if kH h r0 = 19 then (bVx (fX9_testWhat r0 x2 5 h) fun h1 => (if kH h1 r0 = 19 then (bVx (fX9_testChange r0 x1 h1) fun h4 => (if x2 = 0 then (if kH h4 r0 = 19 then (if kH h4 (rH h4 r0 0) = 15 then (if kH h4 (rH h4 (rH h4 r0 0) 3) = 1 then (if inB x1 (lH h4 (rH h4 (rH h4 r0 0) 3)) = true then (some (.inl (some (.int (h4.2 (rH h4 (rH h4 r0 0) 3) x1.toNatClampNeg))), h4)) else none) else none) else none) else none) else (if x2 = 1 then (if kH h4 r0 = 19 then (if kH h4 (rH h4 r0 0) = 15 then (if kH h4 (rH h4 (rH h4 r0 0) 4) = 1 then (if inB x1 (lH h4 (rH h4 (rH h4 r0 0) 4)) = true then (some (.inl (some (.int (h4.2 (rH h4 (rH h4 r0 0) 4) x1.toNatClampNeg))), h4)) else none) else none) else none) else none) else (if x2 = 2 then (if kH h4 r0 = 19 then (if kH h4 (rH h4 r0 0) = 15 then (bI (fX5_firstPlace (rH h4 r0 0) x1 h4) fun z21 h20 => (if kH h20 (rH h4 (rH h4 r0 0) 6) = 2 then (if inB ((x1 * 16) + z21) (lH h20 (rH h4 (rH h4 r0 0) 6)) = true then (some (.inl (some (.int (h20.2 (rH h4 (rH h4 r0 0) 6) ((x1 * 16) + z21).toNatClampNeg))), h20)) else none) else none)) else none) else none) else (if x2 = 3 then (if kH h4 r0 = 19 then (if kH h4 (rH h4 r0 0) = 15 then (if kH h4 (rH h4 (rH h4 r0 0) 5) = 1 then (if inB x1 (lH h4 (rH h4 (rH h4 r0 0) 5)) = true then (some (.inl (some (.int (h4.2 (rH h4 (rH h4 r0 0) 5) x1.toNatClampNeg))), h4)) else none) else none) else none) else none) else (if x2 = 4 then (if kH h4 r0 = 19 then (if kH h4 (rH h4 r0 0) = 15 then (bI (fX5_countNeeds (rH h4 r0 0) x1 h4) fun z33 h32 => (some (.inl (some (.int z33)), h32))) else none) else none) else (if kH h4 r0 = 19 then (if kH h4 (rH h4 r0 0) = 15 then (if kH h4 (rH h4 (rH h4 r0 0) 3) = 1 then (if inB x1 (lH h4 (rH h4 (rH h4 r0 0) 3)) = true then (if kH h4 (rH h4 r0 4) = 12 then (bV (fX2_weigh (rH h4 r0 4) (rH h4 r0 0) (h4.2 (rH h4 (rH h4 r0 0) 3) x1.toNatClampNeg) h4) fun h40 => (if kH h40 r0 = 19 then (if kH h40 (rH h40 r0 4) = 12 then (if kH h40 (rH h40 (rH h40 r0 4) 0) = 3 then (if inB x1 (lH h40 (rH h40 (rH h40 r0 4) 0)) = true then (if (h40.2 (rH h40 (rH h40 r0 4) 0) x1.toNatClampNeg) = 0 then (some (.inl (some (.int 0)), h40)) else (some (.inl (some (.int 1)), h40))) else none) else none) else none) else none)) else none) else none) else none) else none) else none))))))) else none)) else none)
theorem uX9_change_0 {G : GG} {d : Nat} (hd : 10 ≤ d)   {r0  x1  x2 } {h : Hp} {o : OU} {h' : Hp} (e : kX9_change_0  r0 x1 x2 h = some (o, h')) : VM G mX9_change d [.ref r0, .int x1, .int x2] h o h' := by
  unfold kX9_change_0 at e
  refine e2X9_change r0 x1 x2 (by omega) ?_
  obtain ⟨q1, e⟩ := ob_e e
  refine ⟨q1, ?_⟩
  rcases bVx_e e with ⟨h1, e2, e⟩ | ⟨E, rfl, e2⟩
  · refine Or.inl ⟨h1, (tX9_testWhat e2 (by omega)), ?_⟩
    obtain ⟨q3, e⟩ := ob_e e
    refine ⟨q3, ?_⟩
    rcases bVx_e e with ⟨h4, e4, e⟩ | ⟨E, rfl, e4⟩
    · refine Or.inl ⟨h4, (tX9_testChange e4 (by omega)), ?_⟩
      refine ⟨?_, ?_, ?_, ?_, ?_, ?_⟩
      · intro cc
        have e := if_t e cc
        obtain ⟨q5, e⟩ := ob_e e
        refine ⟨q5, ?_⟩
        obtain ⟨q6, e⟩ := ob_e e
        refine ⟨q6, ?_⟩
        obtain ⟨q7, e⟩ := ob_e e
        refine ⟨q7, ?_⟩
        obtain ⟨q8, e⟩ := ob_in e
        refine ⟨q8, ?_⟩
        cases e
        exact ⟨rfl, rfl⟩
      · intro cc
        have e := if_f e (by rw [cc]; decide)
        have e := if_t e cc
        obtain ⟨q9, e⟩ := ob_e e
        refine ⟨q9, ?_⟩
        obtain ⟨q10, e⟩ := ob_e e
        refine ⟨q10, ?_⟩
        obtain ⟨q11, e⟩ := ob_e e
        refine ⟨q11, ?_⟩
        obtain ⟨q12, e⟩ := ob_in e
        refine ⟨q12, ?_⟩
        cases e
        exact ⟨rfl, rfl⟩
      · intro cc
        have e := if_f e (by rw [cc]; decide)
        have e := if_f e (by rw [cc]; decide)
        have e := if_t e cc
        obtain ⟨q13, e⟩ := ob_e e
        refine ⟨q13, ?_⟩
        obtain ⟨q14, e⟩ := ob_e e
        refine ⟨q14, ?_⟩
        obtain ⟨z21, h20, e15, e⟩ := bI_e e
        refine ⟨z21, h20, (tX5_firstPlace e15 (by omega)), ?_⟩
        obtain ⟨q16, e⟩ := ob_e e
        refine ⟨q16, ?_⟩
        obtain ⟨q17, e⟩ := ob_in e
        refine ⟨q17, ?_⟩
        cases e
        exact ⟨rfl, rfl⟩
      · intro cc
        have e := if_f e (by rw [cc]; decide)
        have e := if_f e (by rw [cc]; decide)
        have e := if_f e (by rw [cc]; decide)
        have e := if_t e cc
        obtain ⟨q18, e⟩ := ob_e e
        refine ⟨q18, ?_⟩
        obtain ⟨q19, e⟩ := ob_e e
        refine ⟨q19, ?_⟩
        obtain ⟨q20, e⟩ := ob_e e
        refine ⟨q20, ?_⟩
        obtain ⟨q21, e⟩ := ob_in e
        refine ⟨q21, ?_⟩
        cases e
        exact ⟨rfl, rfl⟩
      · intro cc
        have e := if_f e (by rw [cc]; decide)
        have e := if_f e (by rw [cc]; decide)
        have e := if_f e (by rw [cc]; decide)
        have e := if_f e (by rw [cc]; decide)
        have e := if_t e cc
        obtain ⟨q22, e⟩ := ob_e e
        refine ⟨q22, ?_⟩
        obtain ⟨q23, e⟩ := ob_e e
        refine ⟨q23, ?_⟩
        obtain ⟨z33, h32, e24, e⟩ := bI_e e
        refine ⟨z33, h32, (tX5_countNeeds e24 (by omega)), ?_⟩
        cases e
        exact ⟨rfl, rfl⟩
      · intro n0 n1 n2 n3 n4
        have e := if_f e n0
        have e := if_f e n1
        have e := if_f e n2
        have e := if_f e n3
        have e := if_f e n4
        obtain ⟨q25, e⟩ := ob_e e
        refine ⟨q25, ?_⟩
        obtain ⟨q26, e⟩ := ob_e e
        refine ⟨q26, ?_⟩
        obtain ⟨q27, e⟩ := ob_e e
        refine ⟨q27, ?_⟩
        obtain ⟨q28, e⟩ := ob_in e
        refine ⟨q28, ?_⟩
        obtain ⟨q29, e⟩ := ob_e e
        refine ⟨q29, ?_⟩
        obtain ⟨h40, e30, e⟩ := bV_e e
        refine ⟨h40, (tX2_weigh e30 (by omega)), ?_⟩
        obtain ⟨q31, e⟩ := ob_e e
        refine ⟨q31, ?_⟩
        obtain ⟨q32, e⟩ := ob_e e
        refine ⟨q32, ?_⟩
        obtain ⟨q33, e⟩ := ob_e e
        refine ⟨q33, ?_⟩
        obtain ⟨q34, e⟩ := ob_in e
        refine ⟨q34, ?_⟩
        refine ⟨fun c35 => ?_, fun c35 => ?_⟩
        · have e := if_t e c35
          cases e
          exact ⟨rfl, rfl⟩
        · have e := if_f e c35
          cases e
          exact ⟨rfl, rfl⟩
    · exact Or.inr ⟨E, rfl, (tX9_testChange e4 (by omega))⟩
  · exact Or.inr ⟨E, rfl, (tX9_testWhat e2 (by omega))⟩
def fX9_change (r0 : Nat) (x1 : Int32) (x2 : Int32) (h : Hp) : RS := kX9_change_0 r0 x1 x2 h
theorem tX9_change {G : GG} {d : Nat} {r0 x1 x2} {h : Hp} {o : OU} {h' : Hp} (e : fX9_change r0 x1 x2 h = some (o, h')) (hd : 10 ≤ d) : VM G mX9_change d [.ref r0, .int x1, .int x2] h o h' := uX9_change_0 hd e
def kL_node_0  (r0 : Nat) (x1 : Int32) (x2 : Int32) (x3 : Int32) (r4 : Nat) (h : Hp) : RS := (if kH h r0 = 19 then (bC (fX9_node r0 x1 x2 x3 h) (fun z2 h1 => (if kH h1 r4 = 4 then (if inB 0 (lH h1 r4) = true then (some (.inl (some (.int 0)), (h1.1, (upI h1.2 r4 0 z2)))) else none) else none)) (fun E hE => (if E = xNS then (letH hE fun (h7 : Hp) => (some (.inl (some (.int 1)), h7))) else (if E = xIA then (letH hE fun (h9 : Hp) => (some (.inl (some (.int 2)), h9))) else none)))) else none)
theorem uL_node_0 {G : GG} {d : Nat} (hd : 11 ≤ d)   {r0  x1  x2  x3  r4 } {h : Hp} {o : OU} {h' : Hp} (e : kL_node_0  r0 x1 x2 x3 r4 h = some (o, h')) : VMW G mL_node d [.ref r0, .int x1, .int x2, .int x3, .ref r4] h o h' := by
  unfold kL_node_0 at e
  refine eL_node r0 x1 x2 x3 r4 (by omega) ?_
  obtain ⟨q1, e⟩ := ob_e e
  refine ⟨q1, ?_⟩
  rcases bC_e e with ⟨z2, h1, e2, e⟩ | ⟨E, hE, e2, e⟩
  · exact Or.inl ⟨z2, h1, tX9_node e2 (by omega), by
      obtain ⟨q3, e⟩ := ob_e e
      refine ⟨q3, ?_⟩
      obtain ⟨q4, e⟩ := ob_in e
      refine ⟨q4, ?_⟩
      cases e
      exact ⟨rfl, rfl⟩⟩
  · by_cases c0 : E = xNS
    · have e := if_t e c0
      subst c0
      exact Or.inr (Or.inl  ⟨hE, tX9_node e2 (by omega), by
        have e := lt_e rfl e
        cases e
        exact ⟨rfl, rfl⟩⟩)
    have e := if_f e c0
    by_cases c1 : E = xIA
    · have e := if_t e c1
      subst c1
      exact Or.inr (Or.inr ( ⟨hE, tX9_node e2 (by omega), by
        have e := lt_e rfl e
        cases e
        exact ⟨rfl, rfl⟩⟩))
    have e := if_f e c1
    cases e
def fL_node (r0 : Nat) (x1 : Int32) (x2 : Int32) (x3 : Int32) (r4 : Nat) (h : Hp) : RS := kL_node_0 r0 x1 x2 x3 r4 h
theorem tL_node {G : GG} {d : Nat} {r0 x1 x2 x3 r4} {h : Hp} {o : OU} {h' : Hp} (e : fL_node r0 x1 x2 x3 r4 h = some (o, h')) (hd : 11 ≤ d) : VMW G mL_node d [.ref r0, .int x1, .int x2, .int x3, .ref r4] h o h' := uL_node_0 hd e
def kL_find_0  (r0 : Nat) (x1 : Int32) (x2 : Int32) (x3 : Int32) (r4 : Nat) (h : Hp) : RS := (if kH h r0 = 19 then (bC (fX9_find r0 x1 x2 x3 h) (fun z2 h1 => (if kH h1 r4 = 4 then (if inB 0 (lH h1 r4) = true then (some (.inl (some (.int 0)), (h1.1, (upI h1.2 r4 0 z2)))) else none) else none)) (fun E hE => (if E = xNS then (letH hE fun (h7 : Hp) => (some (.inl (some (.int 1)), h7))) else (if E = xIA then (letH hE fun (h9 : Hp) => (some (.inl (some (.int 2)), h9))) else none)))) else none)
theorem uL_find_0 {G : GG} {d : Nat} (hd : 11 ≤ d)   {r0  x1  x2  x3  r4 } {h : Hp} {o : OU} {h' : Hp} (e : kL_find_0  r0 x1 x2 x3 r4 h = some (o, h')) : VMW G mL_find d [.ref r0, .int x1, .int x2, .int x3, .ref r4] h o h' := by
  unfold kL_find_0 at e
  refine eL_find r0 x1 x2 x3 r4 (by omega) ?_
  obtain ⟨q1, e⟩ := ob_e e
  refine ⟨q1, ?_⟩
  rcases bC_e e with ⟨z2, h1, e2, e⟩ | ⟨E, hE, e2, e⟩
  · exact Or.inl ⟨z2, h1, tX9_find e2 (by omega), by
      obtain ⟨q3, e⟩ := ob_e e
      refine ⟨q3, ?_⟩
      obtain ⟨q4, e⟩ := ob_in e
      refine ⟨q4, ?_⟩
      cases e
      exact ⟨rfl, rfl⟩⟩
  · by_cases c0 : E = xNS
    · have e := if_t e c0
      subst c0
      exact Or.inr (Or.inl  ⟨hE, tX9_find e2 (by omega), by
        have e := lt_e rfl e
        cases e
        exact ⟨rfl, rfl⟩⟩)
    have e := if_f e c0
    by_cases c1 : E = xIA
    · have e := if_t e c1
      subst c1
      exact Or.inr (Or.inr ( ⟨hE, tX9_find e2 (by omega), by
        have e := lt_e rfl e
        cases e
        exact ⟨rfl, rfl⟩⟩))
    have e := if_f e c1
    cases e
def fL_find (r0 : Nat) (x1 : Int32) (x2 : Int32) (x3 : Int32) (r4 : Nat) (h : Hp) : RS := kL_find_0 r0 x1 x2 x3 r4 h
theorem tL_find {G : GG} {d : Nat} {r0 x1 x2 x3 r4} {h : Hp} {o : OU} {h' : Hp} (e : fL_find r0 x1 x2 x3 r4 h = some (o, h')) (hd : 11 ≤ d) : VMW G mL_find d [.ref r0, .int x1, .int x2, .int x3, .ref r4] h o h' := uL_find_0 hd e
def kL_under_0  (r0 : Nat) (x1 : Int32) (x2 : Int32) (r3 : Nat) (h : Hp) : RS := (if kH h r0 = 19 then (bC (fX9_under r0 x1 x2 h) (fun z2 h1 => (if kH h1 r3 = 4 then (if inB 0 (lH h1 r3) = true then (some (.inl (some (.int 0)), (h1.1, (upI h1.2 r3 0 z2)))) else none) else none)) (fun E hE => (if E = xNS then (letH hE fun (h7 : Hp) => (some (.inl (some (.int 1)), h7))) else (if E = xIA then (letH hE fun (h9 : Hp) => (some (.inl (some (.int 2)), h9))) else none)))) else none)
theorem uL_under_0 {G : GG} {d : Nat} (hd : 45 ≤ d)   {r0  x1  x2  r3 } {h : Hp} {o : OU} {h' : Hp} (e : kL_under_0  r0 x1 x2 r3 h = some (o, h')) : VMW G mL_under d [.ref r0, .int x1, .int x2, .ref r3] h o h' := by
  unfold kL_under_0 at e
  refine eL_under r0 x1 x2 r3 (by omega) ?_
  obtain ⟨q1, e⟩ := ob_e e
  refine ⟨q1, ?_⟩
  rcases bC_e e with ⟨z2, h1, e2, e⟩ | ⟨E, hE, e2, e⟩
  · exact Or.inl ⟨z2, h1, tX9_under e2 (by omega), by
      obtain ⟨q3, e⟩ := ob_e e
      refine ⟨q3, ?_⟩
      obtain ⟨q4, e⟩ := ob_in e
      refine ⟨q4, ?_⟩
      cases e
      exact ⟨rfl, rfl⟩⟩
  · by_cases c0 : E = xNS
    · have e := if_t e c0
      subst c0
      exact Or.inr (Or.inl  ⟨hE, tX9_under e2 (by omega), by
        have e := lt_e rfl e
        cases e
        exact ⟨rfl, rfl⟩⟩)
    have e := if_f e c0
    by_cases c1 : E = xIA
    · have e := if_t e c1
      subst c1
      exact Or.inr (Or.inr ( ⟨hE, tX9_under e2 (by omega), by
        have e := lt_e rfl e
        cases e
        exact ⟨rfl, rfl⟩⟩))
    have e := if_f e c1
    cases e
def fL_under (r0 : Nat) (x1 : Int32) (x2 : Int32) (r3 : Nat) (h : Hp) : RS := kL_under_0 r0 x1 x2 r3 h
theorem tL_under {G : GG} {d : Nat} {r0 x1 x2 r3} {h : Hp} {o : OU} {h' : Hp} (e : fL_under r0 x1 x2 r3 h = some (o, h')) (hd : 45 ≤ d) : VMW G mL_under d [.ref r0, .int x1, .int x2, .ref r3] h o h' := uL_under_0 hd e
def kL_deep_0  (r0 : Nat) (x1 : Int32) (x2 : Int32) (r3 : Nat) (h : Hp) : RS := (if kH h r0 = 19 then (bC (fX9_deep r0 x1 x2 h) (fun z2 h1 => (if kH h1 r3 = 4 then (if inB 0 (lH h1 r3) = true then (some (.inl (some (.int 0)), (h1.1, (upI h1.2 r3 0 z2)))) else none) else none)) (fun E hE => (if E = xNS then (letH hE fun (h7 : Hp) => (some (.inl (some (.int 1)), h7))) else (if E = xIA then (letH hE fun (h9 : Hp) => (some (.inl (some (.int 2)), h9))) else none)))) else none)
theorem uL_deep_0 {G : GG} {d : Nat} (hd : 45 ≤ d)   {r0  x1  x2  r3 } {h : Hp} {o : OU} {h' : Hp} (e : kL_deep_0  r0 x1 x2 r3 h = some (o, h')) : VMW G mL_deep d [.ref r0, .int x1, .int x2, .ref r3] h o h' := by
  unfold kL_deep_0 at e
  refine eL_deep r0 x1 x2 r3 (by omega) ?_
  obtain ⟨q1, e⟩ := ob_e e
  refine ⟨q1, ?_⟩
  rcases bC_e e with ⟨z2, h1, e2, e⟩ | ⟨E, hE, e2, e⟩
  · exact Or.inl ⟨z2, h1, tX9_deep e2 (by omega), by
      obtain ⟨q3, e⟩ := ob_e e
      refine ⟨q3, ?_⟩
      obtain ⟨q4, e⟩ := ob_in e
      refine ⟨q4, ?_⟩
      cases e
      exact ⟨rfl, rfl⟩⟩
  · by_cases c0 : E = xNS
    · have e := if_t e c0
      subst c0
      exact Or.inr (Or.inl  ⟨hE, tX9_deep e2 (by omega), by
        have e := lt_e rfl e
        cases e
        exact ⟨rfl, rfl⟩⟩)
    have e := if_f e c0
    by_cases c1 : E = xIA
    · have e := if_t e c1
      subst c1
      exact Or.inr (Or.inr ( ⟨hE, tX9_deep e2 (by omega), by
        have e := lt_e rfl e
        cases e
        exact ⟨rfl, rfl⟩⟩))
    have e := if_f e c1
    cases e
def fL_deep (r0 : Nat) (x1 : Int32) (x2 : Int32) (r3 : Nat) (h : Hp) : RS := kL_deep_0 r0 x1 x2 r3 h
theorem tL_deep {G : GG} {d : Nat} {r0 x1 x2 r3} {h : Hp} {o : OU} {h' : Hp} (e : fL_deep r0 x1 x2 r3 h = some (o, h')) (hd : 45 ≤ d) : VMW G mL_deep d [.ref r0, .int x1, .int x2, .ref r3] h o h' := uL_deep_0 hd e
def kL_room_0  (r0 : Nat) (x1 : Int32) (r2 : Nat) (h : Hp) : RS := (if kH h r0 = 19 then (bC (fX9_room r0 x1 h) (fun z2 h1 => (if kH h1 r2 = 4 then (if inB 0 (lH h1 r2) = true then (some (.inl (some (.int 0)), (h1.1, (upI h1.2 r2 0 z2)))) else none) else none)) (fun E hE => (if E = xNS then (letH hE fun (h7 : Hp) => (some (.inl (some (.int 1)), h7))) else none))) else none)
theorem uL_room_0 {G : GG} {d : Nat} (hd : 10 ≤ d)   {r0  x1  r2 } {h : Hp} {o : OU} {h' : Hp} (e : kL_room_0  r0 x1 r2 h = some (o, h')) : VMW G mL_room d [.ref r0, .int x1, .ref r2] h o h' := by
  unfold kL_room_0 at e
  refine eL_room r0 x1 r2 (by omega) ?_
  obtain ⟨q1, e⟩ := ob_e e
  refine ⟨q1, ?_⟩
  rcases bC_e e with ⟨z2, h1, e2, e⟩ | ⟨E, hE, e2, e⟩
  · exact Or.inl ⟨z2, h1, tX9_room e2 (by omega), by
      obtain ⟨q3, e⟩ := ob_e e
      refine ⟨q3, ?_⟩
      obtain ⟨q4, e⟩ := ob_in e
      refine ⟨q4, ?_⟩
      cases e
      exact ⟨rfl, rfl⟩⟩
  · by_cases c0 : E = xNS
    · have e := if_t e c0
      subst c0
      exact Or.inr ( ⟨hE, tX9_room e2 (by omega), by
        have e := lt_e rfl e
        cases e
        exact ⟨rfl, rfl⟩⟩)
    have e := if_f e c0
    cases e
def fL_room (r0 : Nat) (x1 : Int32) (r2 : Nat) (h : Hp) : RS := kL_room_0 r0 x1 r2 h
theorem tL_room {G : GG} {d : Nat} {r0 x1 r2} {h : Hp} {o : OU} {h' : Hp} (e : fL_room r0 x1 r2 h = some (o, h')) (hd : 10 ≤ d) : VMW G mL_room d [.ref r0, .int x1, .ref r2] h o h' := uL_room_0 hd e
def kL_span_0  (r0 : Nat) (x1 : Int32) (x2 : Int32) (x3 : Int32) (x4 : Int32) (x5 : Int32) (x6 : Int32) (r7 : Nat) (h : Hp) : RS := (if kH h r0 = 19 then (bC (fX9_span r0 x1 x2 x3 x4 x5 x6 h) (fun z2 h1 => (if kH h1 r7 = 4 then (if inB 0 (lH h1 r7) = true then (some (.inl (some (.int 0)), (h1.1, (upI h1.2 r7 0 z2)))) else none) else none)) (fun E hE => (if E = xNS then (letH hE fun (h7 : Hp) => (some (.inl (some (.int 1)), h7))) else (if E = xIA then (letH hE fun (h9 : Hp) => (some (.inl (some (.int 2)), h9))) else none)))) else none)
theorem uL_span_0 {G : GG} {d : Nat} (hd : 11 ≤ d)   {r0  x1  x2  x3  x4  x5  x6  r7 } {h : Hp} {o : OU} {h' : Hp} (e : kL_span_0  r0 x1 x2 x3 x4 x5 x6 r7 h = some (o, h')) : VMW G mL_span d [.ref r0, .int x1, .int x2, .int x3, .int x4, .int x5, .int x6, .ref r7] h o h' := by
  unfold kL_span_0 at e
  refine eL_span r0 x1 x2 x3 x4 x5 x6 r7 (by omega) ?_
  obtain ⟨q1, e⟩ := ob_e e
  refine ⟨q1, ?_⟩
  rcases bC_e e with ⟨z2, h1, e2, e⟩ | ⟨E, hE, e2, e⟩
  · exact Or.inl ⟨z2, h1, tX9_span e2 (by omega), by
      obtain ⟨q3, e⟩ := ob_e e
      refine ⟨q3, ?_⟩
      obtain ⟨q4, e⟩ := ob_in e
      refine ⟨q4, ?_⟩
      cases e
      exact ⟨rfl, rfl⟩⟩
  · by_cases c0 : E = xNS
    · have e := if_t e c0
      subst c0
      exact Or.inr (Or.inl  ⟨hE, tX9_span e2 (by omega), by
        have e := lt_e rfl e
        cases e
        exact ⟨rfl, rfl⟩⟩)
    have e := if_f e c0
    by_cases c1 : E = xIA
    · have e := if_t e c1
      subst c1
      exact Or.inr (Or.inr ( ⟨hE, tX9_span e2 (by omega), by
        have e := lt_e rfl e
        cases e
        exact ⟨rfl, rfl⟩⟩))
    have e := if_f e c1
    cases e
def fL_span (r0 : Nat) (x1 : Int32) (x2 : Int32) (x3 : Int32) (x4 : Int32) (x5 : Int32) (x6 : Int32) (r7 : Nat) (h : Hp) : RS := kL_span_0 r0 x1 x2 x3 x4 x5 x6 r7 h
theorem tL_span {G : GG} {d : Nat} {r0 x1 x2 x3 x4 x5 x6 r7} {h : Hp} {o : OU} {h' : Hp} (e : fL_span r0 x1 x2 x3 x4 x5 x6 r7 h = some (o, h')) (hd : 11 ≤ d) : VMW G mL_span d [.ref r0, .int x1, .int x2, .int x3, .int x4, .int x5, .int x6, .ref r7] h o h' := uL_span_0 hd e
def kL_change_0  (r0 : Nat) (x1 : Int32) (x2 : Int32) (r3 : Nat) (h : Hp) : RS := (if kH h r0 = 19 then (bC (fX9_change r0 x1 x2 h) (fun z2 h1 => (if kH h1 r3 = 4 then (if inB 0 (lH h1 r3) = true then (some (.inl (some (.int 0)), (h1.1, (upI h1.2 r3 0 z2)))) else none) else none)) (fun E hE => (if E = xIA then (letH hE fun (h7 : Hp) => (some (.inl (some (.int 1)), h7))) else (if E = xNP then (letH hE fun (h9 : Hp) => (some (.inl (some (.int 2)), h9))) else (if E = xIO then (letH hE fun (h11 : Hp) => (some (.inl (some (.int 3)), h11))) else none))))) else none)
theorem uL_change_0 {G : GG} {d : Nat} (hd : 11 ≤ d)   {r0  x1  x2  r3 } {h : Hp} {o : OU} {h' : Hp} (e : kL_change_0  r0 x1 x2 r3 h = some (o, h')) : VMW G mL_change d [.ref r0, .int x1, .int x2, .ref r3] h o h' := by
  unfold kL_change_0 at e
  refine eL_change r0 x1 x2 r3 (by omega) ?_
  obtain ⟨q1, e⟩ := ob_e e
  refine ⟨q1, ?_⟩
  rcases bC_e e with ⟨z2, h1, e2, e⟩ | ⟨E, hE, e2, e⟩
  · exact Or.inl ⟨z2, h1, tX9_change e2 (by omega), by
      obtain ⟨q3, e⟩ := ob_e e
      refine ⟨q3, ?_⟩
      obtain ⟨q4, e⟩ := ob_in e
      refine ⟨q4, ?_⟩
      cases e
      exact ⟨rfl, rfl⟩⟩
  · by_cases c0 : E = xIA
    · have e := if_t e c0
      subst c0
      exact Or.inr (Or.inl  ⟨hE, tX9_change e2 (by omega), by
        have e := lt_e rfl e
        cases e
        exact ⟨rfl, rfl⟩⟩)
    have e := if_f e c0
    by_cases c1 : E = xNP
    · have e := if_t e c1
      subst c1
      exact Or.inr (Or.inr (Or.inl  ⟨hE, tX9_change e2 (by omega), by
        have e := lt_e rfl e
        cases e
        exact ⟨rfl, rfl⟩⟩))
    have e := if_f e c1
    by_cases c2 : E = xIO
    · have e := if_t e c2
      subst c2
      exact Or.inr (Or.inr (Or.inr ( ⟨hE, tX9_change e2 (by omega), by
        have e := lt_e rfl e
        cases e
        exact ⟨rfl, rfl⟩⟩)))
    have e := if_f e c2
    cases e
def fL_change (r0 : Nat) (x1 : Int32) (x2 : Int32) (r3 : Nat) (h : Hp) : RS := kL_change_0 r0 x1 x2 r3 h
theorem tL_change {G : GG} {d : Nat} {r0 x1 x2 r3} {h : Hp} {o : OU} {h' : Hp} (e : fL_change r0 x1 x2 r3 h = some (o, h')) (hd : 11 ≤ d) : VMW G mL_change d [.ref r0, .int x1, .int x2, .ref r3] h o h' := uL_change_0 hd e
