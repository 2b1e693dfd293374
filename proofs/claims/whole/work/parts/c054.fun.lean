def kX10_init_0  (r0 : Nat) (h : Hp) : RS := (if r0 ≠ 0 then (if kH h r0 = 18 then (letH (nwH (h.1, (upI h.2 r0 3 (-1))) 1 600 600) fun (h3 : Hp) => (if kH h3 r0 = 18 then (letH (sR h3 r0 9 (nH h)) fun (h6 : Hp) => (letH (nwH h6 1 4 4) fun (h8 : Hp) => (if kH h8 r0 = 18 then (letH (sR h8 r0 10 (nH h6)) fun (h11 : Hp) => (letH (nwM h11 16 2) fun (h13 : Hp) => (if kH h13 r0 = 18 then (letH (sR h13 r0 19 (nH h11)) fun (h16 : Hp) => (letH (nwM h16 16 2) fun (h18 : Hp) => (if kH h18 r0 = 18 then (letH (sR h18 r0 20 (nH h16)) fun (h21 : Hp) => (letH (nwM h21 80 5) fun (h23 : Hp) => (if kH h23 r0 = 18 then (letH (sR h23 r0 21 (nH h21)) fun (h26 : Hp) => (letH (nwH h26 1 3398 3398) fun (h28 : Hp) => (if kH h28 r0 = 18 then (letH (sR h28 r0 22 (nH h26)) fun (h31 : Hp) => (letH (nwH h31 1 3398 3398) fun (h33 : Hp) => (if kH h33 r0 = 18 then (letH (sR h33 r0 23 (nH h31)) fun (h36 : Hp) => (letH (nwM h36 16 3398) fun (h38 : Hp) => (if kH h38 r0 = 18 then (letH (sR h38 r0 24 (nH h36)) fun (h41 : Hp) => (letH (nwM h41 3 57767) fun (h43 : Hp) => (if kH h43 r0 = 18 then (letH (sR h43 r0 25 (nH h41)) fun (h46 : Hp) => (letH (nwM h46 5 3398) fun (h48 : Hp) => (if kH h48 r0 = 18 then (letH (sR h48 r0 26 (nH h46)) fun (h51 : Hp) => (letH (nwH h51 3 200 200) fun (h53 : Hp) => (if kH h53 r0 = 18 then (letH (sR h53 r0 27 (nH h51)) fun (h56 : Hp) => (letH (nwH h56 1 16 16) fun (h58 : Hp) => (if kH h58 r0 = 18 then (letH (sR h58 r0 28 (nH h56)) fun (h61 : Hp) => (letH (nwH h61 1 200 200) fun (h63 : Hp) => (if kH h63 r0 = 18 then (letH (sR h63 r0 29 (nH h61)) fun (h66 : Hp) => (letH (nwH h66 1 256 256) fun (h68 : Hp) => (if kH h68 r0 = 18 then (letH (sR h68 r0 35 (nH h66)) fun (h71 : Hp) => (letH (nwH h71 1 5 5) fun (h73 : Hp) => (if kH h73 r0 = 18 then (letH (sR h73 r0 37 (nH h71)) fun (h76 : Hp) => (if kH h76 r0 = 18 then (bV (fX10_beginsAnew r0 (h76.1, (upI (upI h76.2 r0 12 16) r0 18 0))) fun h79 => (some (.inl none, h79))) else none)) else none))) else none))) else none))) else none))) else none))) else none))) else none))) else none))) else none))) else none))) else none))) else none))) else none))) else none))) else none)) else none) else none)
theorem uX10_init_0 {G : GG} {d : Nat} (hd : 11 ≤ d)   {r0 } {h : Hp} {o : OU} {h' : Hp} (e : kX10_init_0  r0 h = some (o, h')) : VM G mX10_init d [.ref r0] h o h' := by
  unfold kX10_init_0 at e
  refine eX10_init r0 (by omega) ?_
  obtain ⟨q1, e⟩ := ob_e e
  refine ⟨q1, ?_⟩
  obtain ⟨q2, e⟩ := ob_e e
  refine ⟨q2, ?_⟩
  intro h3 evh3
  have e := lt_e evh3 e
  obtain ⟨q3, e⟩ := ob_e e
  refine ⟨q3, ?_⟩
  intro h6 evh6
  have e := lt_e evh6 e
  intro h8 evh8
  have e := lt_e evh8 e
  obtain ⟨q4, e⟩ := ob_e e
  refine ⟨q4, ?_⟩
  intro h11 evh11
  have e := lt_e evh11 e
  intro h13 evh13
  have e := lt_e evh13 e
  obtain ⟨q5, e⟩ := ob_e e
  refine ⟨q5, ?_⟩
  intro h16 evh16
  have e := lt_e evh16 e
  intro h18 evh18
  have e := lt_e evh18 e
  obtain ⟨q6, e⟩ := ob_e e
  refine ⟨q6, ?_⟩
  intro h21 evh21
  have e := lt_e evh21 e
  intro h23 evh23
  have e := lt_e evh23 e
  obtain ⟨q7, e⟩ := ob_e e
  refine ⟨q7, ?_⟩
  intro h26 evh26
  have e := lt_e evh26 e
  intro h28 evh28
  have e := lt_e evh28 e
  obtain ⟨q8, e⟩ := ob_e e
  refine ⟨q8, ?_⟩
  intro h31 evh31
  have e := lt_e evh31 e
  intro h33 evh33
  have e := lt_e evh33 e
  obtain ⟨q9, e⟩ := ob_e e
  refine ⟨q9, ?_⟩
  intro h36 evh36
  have e := lt_e evh36 e
  intro h38 evh38
  have e := lt_e evh38 e
  obtain ⟨q10, e⟩ := ob_e e
  refine ⟨q10, ?_⟩
  intro h41 evh41
  have e := lt_e evh41 e
  intro h43 evh43
  have e := lt_e evh43 e
  obtain ⟨q11, e⟩ := ob_e e
  refine ⟨q11, ?_⟩
  intro h46 evh46
  have e := lt_e evh46 e
  intro h48 evh48
  have e := lt_e evh48 e
  obtain ⟨q12, e⟩ := ob_e e
  refine ⟨q12, ?_⟩
  intro h51 evh51
  have e := lt_e evh51 e
  intro h53 evh53
  have e := lt_e evh53 e
  obtain ⟨q13, e⟩ := ob_e e
  refine ⟨q13, ?_⟩
  intro h56 evh56
  have e := lt_e evh56 e
  intro h58 evh58
  have e := lt_e evh58 e
  obtain ⟨q14, e⟩ := ob_e e
  refine ⟨q14, ?_⟩
  intro h61 evh61
  have e := lt_e evh61 e
  intro h63 evh63
  have e := lt_e evh63 e
  obtain ⟨q15, e⟩ := ob_e e
  refine ⟨q15, ?_⟩
  intro h66 evh66
  have e := lt_e evh66 e
  intro h68 evh68
  have e := lt_e evh68 e
  obtain ⟨q16, e⟩ := ob_e e
  refine ⟨q16, ?_⟩
  intro h71 evh71
  have e := lt_e evh71 e
  intro h73 evh73
  have e := lt_e evh73 e
  obtain ⟨q17, e⟩ := ob_e e
  refine ⟨q17, ?_⟩
  intro h76 evh76
  have e := lt_e evh76 e
  obtain ⟨q18, e⟩ := ob_e e
  refine ⟨q18, ?_⟩
  obtain ⟨h79, e19, e⟩ := bV_e e
  refine ⟨h79, (tX10_beginsAnew e19 (by omega)), ?_⟩
  cases e
  exact ⟨rfl, rfl⟩
def fX10_init (r0 : Nat) (h : Hp) : RS := kX10_init_0 r0 h
theorem tX10_init {G : GG} {d : Nat} {r0} {h : Hp} {o : OU} {h' : Hp} (e : fX10_init r0 h = some (o, h')) (hd : 11 ≤ d) : VM G mX10_init d [.ref r0] h o h' := uX10_init_0 hd e
