/-! ===== a STORE is built: the reference ===== -/
section BM
variable {h h' : Hp} {m z n : Nat} {S : St} {T : Nat → Nat} {ls : List (Nat × Nat)} {fp rs : Int32} {rf : Nat → Int32} {hi : List St} {im : List (St × List St)}
theorem m_b0 : ∀ (c k fl : Nat) (h : Hp), k + c = 3398 → c < fl → MS h m → ∃ h', gX10_beginsAnew fl 10 [.ref m, .int (nI k)] [] h = gX10_beginsAnew (fl - c - 1) 32 [.ref m, .int (nI 0)] [] h' ∧ h'.1 = h.1 ∧ (∀ a, a ≠ m + 118 → h'.2 a = h.2 a) ∧ ∀ j, h'.2 (m + 118) j = if k ≤ j ∧ j < 3398 then 0 else h.2 (m + 118) j := by
  intro c
  induction c with
  | zero =>
    intro k fl h hk hfl M
    obtain ⟨fl, rfl⟩ := sc (show 0 < fl by omega)
    refine ⟨h, ?_, rfl, fun _ _ => rfl, fun j => by rw [if_neg (by omega)]⟩
    rw [zX10_beginsAnew_10]
    unfold kX10_beginsAnew_10
    rw [if_pos (by rw [k3398, nI_leI (by decide) (by omega)]; omega)]
    rfl
  | succ c ih =>
    intro k fl h hk hfl M
    obtain ⟨fl, rfl⟩ := sc (show 0 < fl by omega)
    obtain ⟨n1, n2, n3⟩ := M.now
    obtain ⟨h', i1, i2, i3, i4⟩ := ih (k + 1) fl (h.1, upI h.2 (m + 118) k 0) (by omega) (by omega) (M.eq rfl)
    refine ⟨h', ?_, i2, fun a q => by rw [i3 a q]; exact upI_ne q, fun j => ?_⟩
    · rw [zX10_beginsAnew_10]
      unfold kX10_beginsAnew_10
      rw [if_neg (by rw [k3398, nI_leI (by decide) (by omega)]; omega), if_pos M.k, n1, if_pos n2, n3, if_pos (inB_nI (by omega) (by decide)), nI_clamp (by omega), nI_1, i1, show fl + 1 - (c + 1) - 1 = fl - c - 1 by omega]
    · rw [i4 j]
      show (if _ then (0 : Int32) else upI _ _ _ _ (m + 118) j) = _
      rw [upI_at]
      by_cases q : k + 1 ≤ j ∧ j < 3398
      · rw [if_pos q, if_pos (by omega)]
      · rw [if_neg q]
        by_cases q2 : j = k
        · rw [if_pos q2, if_pos (by omega)]
        · rw [if_neg q2, if_neg (by omega)]
theorem m_b1 : ∀ (c k fl : Nat) (h : Hp), k + c = 5 → c < fl → MS h m → ∃ h', gX10_beginsAnew fl 32 [.ref m, .int (nI k)] [] h = gX10_beginsAnew (fl - c) 32 [.ref m, .int (nI 5)] [] h' ∧ h'.1 = h.1 ∧ (∀ a, a ≠ m + 118 → h'.2 a = h.2 a) ∧ ∀ j, h'.2 (m + 118) j = if k ≤ j ∧ j < 5 then 1 else h.2 (m + 118) j := by
  intro c
  induction c with
  | zero =>
    intro k fl h hk hfl M
    refine ⟨h, by rw [show k = 5 by omega]; rfl, rfl, fun _ _ => rfl, fun j => by rw [if_neg (by omega)]⟩
  | succ c ih =>
    intro k fl h hk hfl M
    obtain ⟨fl, rfl⟩ := sc (show 0 < fl by omega)
    obtain ⟨n1, n2, n3⟩ := M.now
    have e0 : (0 : Int32) + nI k = nI k := by rw [show (0 : Int32) = nI 0 from rfl, nI_add, Nat.zero_add]
    obtain ⟨h', i1, i2, i3, i4⟩ := ih (k + 1) fl (h.1, upI h.2 (m + 118) k 1) (by omega) (by omega) (M.eq rfl)
    refine ⟨h', ?_, i2, fun a q => by rw [i3 a q]; exact upI_ne q, fun j => ?_⟩
    · rw [zX10_beginsAnew_32]
      unfold kX10_beginsAnew_32
      rw [if_neg (show ¬ (5 : Int32) ≤ nI k by rw [k5, nI_leI (by decide) (by omega)]; omega), if_pos M.k, n1, if_pos n2, e0, n3, if_pos (inB_nI (by omega) (by decide)), nI_clamp (by omega), nI_1, i1, show fl + 1 - (c + 1) = fl - c by omega]
    · rw [i4 j]
      show (if _ then (1 : Int32) else upI _ _ _ _ (m + 118) j) = _
      rw [upI_at]
      by_cases q : k + 1 ≤ j ∧ j < 5
      · rw [if_pos q, if_pos (by omega)]
      · rw [if_neg q]
        by_cases q2 : j = k
        · rw [if_pos q2, if_pos (by omega)]
        · rw [if_neg q2, if_neg (by omega)]
theorem m_safe_go {r : Nat} : ∀ (c x n : Nat) (h : Hp), x + c = 256 → c < n → kH h r = 1 → lH h r = 3398 → ∃ h', gX10_safe n 2 [.ref r, .int (nI x)] [] h = some (.inl none, h') ∧ h'.1 = h.1 ∧ (∀ a, a ≠ r → h'.2 a = h.2 a) ∧ ∀ y, h'.2 r y = if y = 3392 ∨ y = 3393 then 0 else if 256 + x ≤ y ∧ y < 512 then h.2 r (y - 256) else h.2 r y := by
  intro c
  induction c with
  | zero =>
    intro x n h hx hn k1 l1
    obtain ⟨n, rfl⟩ := sc hn
    refine ⟨(h.1, upI (upI h.2 r 3392 0) r 3393 0), ?_, rfl, fun a ha => by dsimp only; rw [upI_ne ha, upI_ne ha], fun y => ?_⟩
    · rw [zX10_safe_2]
      unfold kX10_safe_2
      rw [if_pos (by rw [k256, nI_leI (by decide) (by omega)]; omega), if_pos k1, l1, if_pos (by decide), if_pos (by decide)]
    · dsimp only
      rw [upI_at, upI_at]
      by_cases q : y = 3393
      · rw [if_pos q, if_pos (Or.inr q)]
      · rw [if_neg q]
        by_cases q2 : y = 3392
        · rw [if_pos q2, if_pos (Or.inl q2)]
        · rw [if_neg q2, if_neg (c := y = 3392 ∨ y = 3393) (by omega), if_neg (by omega)]
  | succ c ih =>
    intro x n h hx hn k1 l1
    obtain ⟨n, rfl⟩ := sc hn
    obtain ⟨h', i1, i2, i3, i4⟩ := ih (x + 1) n (h.1, upI h.2 r (256 + x) (h.2 r x)) (by omega) (by omega) k1 l1
    refine ⟨h', ?_, i2, fun a ha => by rw [i3 a ha]; exact upI_ne ha, fun y => ?_⟩
    · rw [zX10_safe_2, ← i1]
      unfold kX10_safe_2
      rw [if_neg (by rw [k256, nI_leI (by decide) (by omega)]; omega), if_pos k1, l1, z_add, if_pos (inB_nI (by omega) (by decide)), k256, nI_add, if_pos (inB_nI (by omega) (by decide)), nI_clamp (by omega), nI_clamp (by omega), nI_1]
    · rw [i4]
      dsimp only
      by_cases q : y = 3392 ∨ y = 3393
      · rw [if_pos q, if_pos q]
      · rw [if_neg q, if_neg q, upI_at, upI_at]
        by_cases q2 : y = 256 + x
        · rw [if_neg (by omega), if_pos q2, if_pos (by omega), show y - 256 = x by omega]
        · rw [if_neg (c := y = 256 + x) q2]
          by_cases q3 : 256 + (x + 1) ≤ y ∧ y < 512
          · rw [if_pos q3, if_neg (by omega), if_pos (by omega)]
          · rw [if_neg q3, if_neg (by omega)]
theorem m_safe0 {r : Nat} (k1 : kH h r = 1) (l1 : lH h r = 3398) : ∃ h', fX10_safe r h = some (.inl none, h') ∧ h'.1 = h.1 ∧ (∀ a, a ≠ r → h'.2 a = h.2 a) ∧ ∀ y, h'.2 r y = if y = 3392 ∨ y = 3393 then 0 else if 256 ≤ y ∧ y < 512 then h.2 r (y - 256) else h.2 r y := m_safe_go 256 0 FF h rfl (by decide) k1 l1
theorem bd_S0 : Bd S0 := ⟨by decide, by decide, by decide, D0_lt, fun c hc => (by cases hc), fun e he => (by cases he), List.Pairwise.nil⟩
theorem m_b94 {k : Nat} {F : Fo} (hz1 : 6 ≤ z) (hz2 : z ≤ 16) (hF : ∀ u ∈ F, okS u.1 u.2.1 u.2.2.1 u.2.2.2.1 ∧ u.1 ≤ 4 ∧ u.2.2.2.2 = 0) (h60 : F.length ≤ 60) : ∀ (c i fl : Nat) (S : St) (h : Hp), i + c = F.length → c < fl → MS h m → Row h (m + 118) S → h.2 m 11 = nI z → h.2 m 18 = nI F.length → Inx S z (k + 3840 * c) → LayR h m 0 F →
    ∃ h', gX10_beginsAnew fl 94 [.ref m, .int (nI i)] [] h = gX10_beginsAnew (fl - c) 94 [.ref m, .int (nI F.length)] [] h' ∧ h'.1 = h.1 ∧ (∀ a, a ≠ m → a ≠ m + 118 → a ≠ m + 147 → a ≠ m + 148 → a ≠ m + 149 → h'.2 a = h.2 a) ∧ (∀ j, j ≠ 30 → h'.2 m j = h.2 m j) ∧ Row h' (m + 118) (bS z (F.drop i) S) := by
  intro c
  induction c with
  | zero =>
    intro i fl S h hi hfl M R Z e18 I L
    refine ⟨h, ?_, rfl, fun _ _ _ _ _ _ => rfl, fun _ _ => rfl, ?_⟩
    · rw [show i = F.length by omega]
      rfl
    · rw [List.drop_of_length_le (by omega)]
      exact R
  | succ c ih =>
    intro i fl S h hi hfl M R Z e18 I L
    obtain ⟨fl, rfl⟩ := sc (show 0 < fl by omega)
    have hi' : i < F.length := by omega
    obtain ⟨u, hu⟩ : ∃ u, F[i]? = some u := ⟨F[i], List.getElem?_eq_getElem hi'⟩
    have hd : F.drop i = u :: F.drop (i + 1) := by
      rw [List.drop_eq_getElem_cons hi']
      rw [List.getElem?_eq_getElem hi'] at hu
      injection hu with hu
      rw [hu]
    obtain ⟨o1, o2, o3⟩ := hF u (List.mem_of_getElem? hu)
    have Lu := L i u hu
    rw [Nat.zero_add] at Lu
    have I1 : Inx S z (k + 3840 * c + 3840) := I.le (by omega)
    obtain ⟨h7, d1, d2, d3, d4, d5⟩ := m_doesR (m := m) (z := z) (k := k + 3840 * c) (i := i) (kd := u.1) (a := u.2.1) (b := u.2.2.1) (c := u.2.2.2.1) R M Z (by omega) Lu.1 Lu.2.1 o1 I1
    have M7 := M.eq d2
    obtain ⟨h11, g1, g2, g3, g4⟩ := m_safe d5
    have f11 : ∀ a, a ≠ m → a ≠ m + 118 → a ≠ m + 147 → a ≠ m + 148 → a ≠ m + 149 → h11.2 a = h.2 a := fun a q1 q2 q3 q4 q5 => by rw [g3 a q2, d3 a q2 q1 q3 q4 q5]
    have j11 : ∀ j, j ≠ 30 → h11.2 m j = h.2 m j := fun j q => by rw [g3 m (by omega), d4 j q]
    have rr := M.stp.2 i (by omega)
    have er : m + 37 + 1 + i = m + 38 + i := by omega
    rw [er] at rr
    obtain ⟨h', i1, i2, i3, i4, i5⟩ := ih (i + 1) fl _ h11 (by omega) (by omega) (M7.eq g2) g4 (by rw [j11 11 (by decide)]; exact Z) (by rw [j11 18 (by decide)]; exact e18) (inx_safe (inx_step I1 o1)) (L.cg F 0 (fun a q1 q2 => f11 a (by omega) (by unfold fsz at q2; omega) (by unfold fsz at q2; omega) (by unfold fsz at q2; omega) (by unfold fsz at q2; omega)))
    refine ⟨h', ?_, i2.trans (g2.trans d2), fun a q1 q2 q3 q4 q5 => by rw [i3 a q1 q2 q3 q4 q5, f11 a q1 q2 q3 q4 q5], fun j q => by rw [i4 j q, j11 j q], ?_⟩
    · rw [zX10_beginsAnew_94]
      unfold kX10_beginsAnew_94
      rw [if_pos M.k, e18, if_neg (by rw [nI_leI (by omega) (by omega)]; omega), M.stp.1.1, if_pos M.stp.1.2.1, M.stp.1.2.2, if_pos (inB_nI (by omega) (by decide)), nI_clamp (by omega), rr.1, M.now.1, d1, bI_s, if_pos M7.k, M7.now.1, g1, bV_s, nI_1, i1, show fl + 1 - (c + 1) = fl - c by omega]
    · rw [hd]
      exact i5
/-- what beginsAnew leaves -/
theorem m_anew {v : Nat × Fo} (O : okF v) (h60 : v.2.length ≤ 60) (M : MS h m) (e12 : h.2 m 12 = nI v.1) (e18 : h.2 m 18 = nI v.2.length) (L : LayR h m 0 v.2) : ∃ h', fX10_beginsAnew m h = some (.inl none, h') ∧ h'.1 = h.1 ∧ (∀ a, a ≠ m → a ≠ m + 118 → a ≠ m + 147 → a ≠ m + 148 → a ≠ m + 149 → h'.2 a = h.2 a) ∧ (∀ j, j ≠ 11 → j ≠ 13 → j ≠ 14 → j ≠ 15 → j ≠ 16 → j ≠ 30 → h'.2 m j = h.2 m j) ∧ Row h' (m + 118) (nwS v) ∧ h'.2 m 11 = nI v.1 ∧ h'.2 m 13 = 0 ∧ h'.2 m 14 = 0 ∧ h'.2 m 15 = 0 ∧ h'.2 m 16 = 0 := by
  obtain ⟨n1, n2, n3⟩ := M.now
  let g0 : Hp := (h.1, upI h.2 m 11 (nI v.1))
  obtain ⟨h1, a1, a2, a3, a4⟩ := m_b0 (m := m) 3398 0 FF g0 (by omega) (show 3398 < 1000000 by decide) (M.eq rfl)
  have e1 : h1.1 = h.1 := a2
  obtain ⟨h2, b1, b2, b3, b4⟩ := m_b1 (m := m) 5 0 (FF - 3398 - 1) h1 (by omega) (show 5 < 1000000 - 3398 - 1 by decide) (M.eq e1)
  have e2 : h2.1 = h.1 := b2.trans e1
  have M2 := M.eq e2
  have q0 := m_byteOf (n := 0) (f := 0) (by decide) (by decide)
  have q1 := m_byteOf (n := 0) (f := 1) (by decide) (by decide)
  have q2 := m_byteOf (n := 0) (f := 2) (by decide) (by decide)
  let g5 : Hp := (h2.1, upI (upI (upI h2.2 (m + 118) 16 1) (m + 118) 17 2) (m + 118) 18 4)
  have row : ∀ j, g5.2 (m + 118) j = if j = 18 then 4 else if j = 17 then 2 else if j = 16 then 1 else if j < 5 then 1 else if j < 3398 then 0 else h.2 (m + 118) j := fun j => by
    show upI _ _ _ _ (m + 118) j = _
    rw [upI_at, upI_at, upI_at, b4 j, a4 j]
    by_cases c1 : j = 18
    · rw [if_pos c1, if_pos c1]
    · rw [if_neg c1, if_neg c1]
      by_cases c2 : j = 17
      · rw [if_pos c2, if_pos c2]
      · rw [if_neg c2, if_neg c2]
        by_cases c3 : j = 16
        · rw [if_pos c3, if_pos c3]
        · rw [if_neg c3, if_neg c3]
          by_cases c4 : j < 5
          · rw [if_pos (by omega), if_pos c4]
          · rw [if_neg (by omega), if_neg c4]
            by_cases c5 : j < 3398
            · rw [if_pos (by omega), if_pos c5]
            · rw [if_neg (by omega), if_neg c5]
              show upI _ _ _ _ (m + 118) j = _
              rw [upI_ne (by omega)]
  -- the row of a store with D0 in MEMORY and DISK
  obtain ⟨h21, s1, s2, s3, s4⟩ := m_safe0 (h := g5) (r := m + 118) (by rw [show kH g5 (m + 118) = kH h (m + 118) from kh_eq e2 _]; exact n2) (by rw [show lH g5 (m + 118) = lH h (m + 118) from lh_eq e2 _]; exact n3)
  have e21 : h21.1 = h.1 := s2.trans e2
  have R21 : Row h21 (m + 118) S0 := by
    have rj : ∀ j, j < 256 → g5.2 (m + 118) j = nI (D0 j) := fun j hj => by
      rw [row j]
      unfold D0
      by_cases c1 : j = 18
      · rw [if_pos c1, c1]; rfl
      · rw [if_neg c1]
        by_cases c2 : j = 17
        · rw [if_pos c2, c2]; rfl
        · rw [if_neg c2]
          by_cases c3 : j = 16
          · rw [if_pos c3, c3]; rfl
          · rw [if_neg c3]
            by_cases c4 : j < 5
            · rw [if_pos c4, if_pos c4]; rfl
            · rw [if_neg c4, if_pos (by omega), if_neg c4, if_neg c3, if_neg c2, if_neg c1]; rfl
    have rz : ∀ j, 3392 ≤ j → j < 3398 → h21.2 (m + 118) j = 0 := fun j w1 w2 => by
      rw [s4 j]
      by_cases c1 : j = 3392
      · rw [if_pos (Or.inl c1)]
      · by_cases c2 : j = 3393
        · rw [if_pos (Or.inr c2)]
        · rw [if_neg (by omega), if_neg (by omega), row j, if_neg (by omega), if_neg (by omega), if_neg (by omega), if_neg (by omega), if_pos (by omega)]
    refine ⟨by rw [kh_eq e21]; exact n2, by rw [lh_eq e21]; exact n3, ⟨fun x hx => ?_, fun x hx => ?_, rz 3392 (by omega) (by omega), rz 3393 (by omega) (by omega), rz 3394 (by omega) (by omega), rz 3395 (by omega) (by omega), rz 3396 (by omega) (by omega), rz 3397 (by omega) (by omega), fun pre c l q => ?_, fun pre c l q => ?_⟩, bd_S0⟩
    · rw [s4 x, if_neg (by omega), if_neg (by omega)]
      exact rj x hx
    · rw [s4 (256 + x), if_neg (by omega), if_pos (by omega), show 256 + x - 256 = x by omega]
      exact rj x hx
    · have : ([] : List Ch) = pre ++ c :: l := q
      simp at this
    · have : ([] : List La) = pre ++ c :: l := q
      simp at this
  have f21 : ∀ a, a ≠ m → a ≠ m + 118 → h21.2 a = h.2 a := fun a w1 w2 => by
    rw [s3 a w2]
    show upI _ _ _ _ a = _
    rw [upI_ne w2, upI_ne w2, upI_ne w2, b3 a w2, a3 a w2]
    exact upI_ne w1
  have j21 : ∀ j, j ≠ 11 → h21.2 m j = h.2 m j := fun j w => by
    rw [s3 m (by omega)]
    show upI _ _ _ _ m j = _
    rw [upI_ne (by omega), upI_ne (by omega), upI_ne (by omega), b3 m (by omega), a3 m (by omega)]
    show upI _ _ _ _ m j = _
    rw [upI_at, if_neg w]
  have z21 : h21.2 m 11 = nI v.1 := by
    rw [s3 m (by omega)]
    show upI _ _ _ _ m 11 = _
    rw [upI_ne (by omega), upI_ne (by omega), upI_ne (by omega), b3 m (by omega), a3 m (by omega)]
    show upI _ _ _ _ m 11 = _
    rw [upI_at, if_pos rfl]
  have M21 := M.eq e21
  obtain ⟨h3, c1, c2, c3, c4, c5⟩ := m_b94 (m := m) (k := 0) (z := v.1) O.1.1 O.1.2 O.2 h60 v.2.length 0 (FF - 3398 - 1 - 5 - 1) S0 h21 (by omega) (show v.2.length < 1000000 - 3398 - 1 - 5 - 1 by omega) M21 R21 z21 (by rw [j21 18 (by decide)]; exact e18) (inx_S0 O.1 (by omega)) (L.cg v.2 0 (fun a w1 w2 => f21 a (by omega) (by unfold fsz at w2; omega)))
  rw [List.drop_zero] at c5
  obtain ⟨-, k2, k3', k4⟩ := nwS_ok (k := 0) O h60 (by decide)
  have e3 : h3.1 = h.1 := c2.trans e21
  have M3 := M.eq e3
  have m18 : h3.2 m 18 = nI v.2.length := by rw [c4 18 (by decide), j21 18 (by decide)]; exact e18
  let g6 : Hp := (h3.1, upI (upI (upI (upI (upI h3.2 (m + 118) 3394 0) m 13 0) m 14 0) m 15 0) m 16 0)
  have jm : ∀ j, g6.2 m j = if j = 16 then 0 else if j = 15 then 0 else if j = 14 then 0 else if j = 13 then 0 else h3.2 m j := fun j => by
    show upI _ _ _ _ m j = _
    rw [upI_at, upI_at, upI_at, upI_at, upI_ne (by omega)]
  have jn : ∀ a, a ≠ m → a ≠ m + 118 → g6.2 a = h3.2 a := fun a w1 w2 => by
    show upI _ _ _ _ a = _
    rw [upI_ne w1, upI_ne w1, upI_ne w1, upI_ne w1, upI_ne w2]
  have jr : ∀ j, g6.2 (m + 118) j = if j = 3394 then 0 else h3.2 (m + 118) j := fun j => by
    show upI _ _ _ _ (m + 118) j = _
    rw [upI_ne (by omega), upI_ne (by omega), upI_ne (by omega), upI_ne (by omega), upI_at]
  refine ⟨g6, ?_, e3, fun a w1 w2 w3 w4 w5 => by rw [jn a w1 w2, c3 a w1 w2 w3 w4 w5, f21 a w1 w2], fun j w1 w2 w3 w4 w5 w6 => by rw [jm j, if_neg w5, if_neg w4, if_neg w3, if_neg w2, c4 j w6, j21 j w1], ?_, ?_, ?_, ?_, ?_, ?_⟩
  · unfold fX10_beginsAnew kX10_beginsAnew_0
    rw [if_pos M.k, e12]
    have st : gX10_beginsAnew FF 10 [.ref m, .int 0] [] g0 = gX10_beginsAnew (FF - 3398 - 1 - 5) 32 [.ref m, .int (nI 5)] [] h2 := a1.trans b1
    refine st.trans ?_
    show gX10_beginsAnew (996595 + 1) 32 [.ref m, .int (nI 5)] [] h2 = _
    rw [zX10_beginsAnew_32]
    unfold kX10_beginsAnew_32
    have M2n := M2.now
    have q0 : ∀ g, fX10_byteOf 0 0 g = some (.inl (some (.int (nI 16))), g) := fun g => m_byteOf (n := 0) (f := 0) (by decide) (by decide) g
    have q1 : ∀ g, fX10_byteOf 0 1 g = some (.inl (some (.int (nI 17))), g) := fun g => m_byteOf (n := 0) (f := 1) (by decide) (by decide) g
    have q2 : ∀ g, fX10_byteOf 0 2 g = some (.inl (some (.int (nI 18))), g) := fun g => m_byteOf (n := 0) (f := 2) (by decide) (by decide) g
    rw [if_pos (show (5 : Int32) ≤ nI 5 by decide), if_pos M2.k, q0, bI_s, M2n.1, if_pos M2n.2.1, M2n.2.2, if_pos (show inB (nI 16) 3398 = true by decide), if_pos M2.k, q1, bI_s]
    have kk : ∀ I, kH (h2.1, I) (m + 118) = 1 := fun _ => M2n.2.1
    have ll : ∀ I, lH (h2.1, I) (m + 118) = 3398 := fun _ => M2n.2.2
    have kr : ∀ I, rH (h2.1, I) m 22 = m + 118 := fun _ => M2n.1
    have km : ∀ I, kH (h2.1, I) m = 18 := fun _ => M2.k
    rw [if_pos (kk _), ll, if_pos (show inB (nI 17) 3398 = true by decide), if_pos (km _), q2, bI_s, kr, if_pos (kk _), ll, if_pos (show inB (nI 18) 3398 = true by decide), if_pos (km _)]
    show (bV (fX10_safe (m + 118) g5) fun h21 => gX10_beginsAnew 996595 94 [.ref m, .int (nI 0)] [] h21) = _
    rw [s1, bV_s]
    refine c1.trans ?_
    obtain ⟨g, hg⟩ : ∃ g, FF - 3398 - 1 - 5 - 1 - v.2.length = g + 1 := ⟨1000000 - 3398 - 1 - 5 - 1 - v.2.length - 1, by show 1000000 - 3398 - 1 - 5 - 1 - v.2.length = _; omega⟩
    rw [hg, zX10_beginsAnew_94]
    unfold kX10_beginsAnew_94
    rw [if_pos M3.k, m18, if_pos (by rw [nI_leI (by omega) (by omega)]; omega), M3.now.1, if_pos M3.now.2.1, M3.now.2.2, if_pos (show inB 3394 3398 = true by decide)]
  · obtain ⟨r1, r2, ⟨t1, t2, t3, t4, t5, t6, t7, t8, t9, t10⟩, rb⟩ := c5
    have ct : sW (bS v.1 v.2 S0) = 0 ∧ sH (bS v.1 v.2 S0) = 0 ∧ sK (bS v.1 v.2 S0) = 0 := by
      have h1 : (sW (bS v.1 v.2 S0), sH (bS v.1 v.2 S0), sK (bS v.1 v.2 S0)) = ((0 : Int32), (0 : Int32), (0 : Int32)) := k4
      injection h1 with h1 h2
      injection h2 with h2 h3
      exact ⟨h1, h2, h3⟩
    have c0 : sC (nwS v) = [] := k2
    have l0 : sL (nwS v) = [] := k3'
    refine ⟨r1, r2, ⟨fun x hx => ?_, fun x hx => ?_, ?_, ?_, ?_, ?_, ?_, ?_, fun pre c l q => ?_, fun pre c l q => ?_⟩, ?_⟩
    · rw [jr x, if_neg (by omega)]; exact t1 x hx
    · rw [jr _, if_neg (by omega)]; exact t2 x hx
    · rw [jr _, if_neg (by decide), t3, k2, c0]
    · rw [jr _, if_neg (by decide), t4, k3', l0]
    · rw [jr _, if_pos rfl]; rfl
    · rw [jr _, if_neg (by decide), t6, ct.1]; rfl
    · rw [jr _, if_neg (by decide), t7, ct.2.1]; rfl
    · rw [jr _, if_neg (by decide), t8, ct.2.2]; rfl
    · rw [c0] at q; simp at q
    · rw [l0] at q; simp at q
    · obtain ⟨b1, b2, b3, b4, b5, b6, b7⟩ := rb
      exact ⟨b1, b2, by show (0 : Nat) < 2 ^ 31; decide, b4, fun c hc' => (by have hc' : c ∈ sC (nwS v) := hc'; rw [c0] at hc'; cases hc'), fun e he => (by have he : e ∈ sL (nwS v) := he; rw [l0] at he; cases he), b7⟩
  · rw [jm 11, if_neg (by decide), if_neg (by decide), if_neg (by decide), if_neg (by decide), c4 11 (by decide)]; exact z21
  · rw [jm 13, if_neg (by decide), if_neg (by decide), if_neg (by decide), if_pos rfl]
  · rw [jm 14, if_neg (by decide), if_neg (by decide), if_pos rfl]
  · rw [jm 15, if_neg (by decide), if_pos rfl]
  · rw [jm 16, if_pos rfl]
theorem mt_bad (A : RW h m S z T n ls fp rs rf hi im) {a : Int32} (ha : ¬ (0 ≤ a ∧ a ≤ nI n)) : fX10_store m a h = some (.inl (some (.int 0)), bdM h m 1 1) := by
  have M := A.1.1
  have e1 : (upI h.2 m 0 0) m 1 = nI n := by rw [upI_at, if_neg (by decide)]; exact A.2.1.1.1
  have bd := m_badT M (w := 1) (by decide) (i := 1) (by decide)
  have bd : fX10_bad m 1 1 1 (h.1, upI h.2 m 0 0) = _ := bd
  unfold fX10_store kX10_store_0
  rw [if_pos M.k, e1, m_in, bI_s, decide_eq_false ha, if_neg (show ¬ ¬ b2i false = 0 from fun q => q rfl), if_pos M.k, bd, bI_s, if_neg (by decide)]
theorem mt_go (A : RW h m S z T n ls fp rs rf hi im) {p : Nat} (h1 : p ≤ n) : match stP T p (p + 1) 0 (16, []) 0 with
    | .inr e => ∃ h', fX10_store m (nI p) h = some (.inl (some (.int (nI e.1 - 10))), h') ∧ Gm h h' m ∧ h'.2 m 0 = 0 ∧ RW h' m S z T 0 ls (nI e.2) rs rf hi im
    | .inl v => ∃ h', fX10_store m (nI p) h = some (.inl (some (.int (nI v.1))), h') ∧ Gm h h' m ∧ h'.2 m 0 = 0 ∧ RW h' m (nwS v) v.1 T 0 [] (-1) 0 rf [] [] := by
  have A0 := A.th0
  have M := A.1.1
  have M0 := A0.1.1
  obtain ⟨⟨a1, a2, a3, a4⟩, a5, ⟨a6, a7⟩, a8⟩ := A0.2.1
  obtain ⟨h11, s1, s2, s3, s4, s5, s6, s7, s8⟩ := m_starts (n := p) M0 (by omega) (fun i hi => a3 i (by omega)) (fun i hi => a4 i (by omega))
  obtain ⟨g, hg⟩ : ∃ g : Hp, g = (h11.1, upI (upI h11.2 m 12 16) m 18 0) := ⟨_, rfl⟩
  have gn : ∀ a, a ≠ m → g.2 a = h11.2 a := fun a q => by rw [hg]; show upI _ _ _ _ a = _; rw [upI_ne q, upI_ne q]
  have gj : ∀ j, j ≠ 12 → j ≠ 18 → g.2 m j = h11.2 m j := fun j q1 q2 => by rw [hg]; show upI _ _ _ _ m j = _; rw [upI_at, if_neg q2, upI_at, if_neg q1]
  have g1 : g.1 = h11.1 := by rw [hg]
  have Xg : RP g m T p (bk T p 0) := by
    obtain ⟨⟨y1, y2, y3, y4, y5⟩, y6, y7, y8⟩ := s5
    exact ⟨⟨y1.eq g1, by rw [gj 2 (by decide) (by decide)]; exact y2, y3, fun i hi => by rw [gn (m + 1) (by omega)]; exact y4 i hi, y5⟩, by rw [gj 4 (by decide) (by decide)]; exact y6, by rw [gj 5 (by decide) (by decide)]; exact y7, y8⟩
  have Ag : SLr g m 0 (16, []) := ⟨by rw [gj 7 (by decide) (by decide)]; exact s7, by rw [hg]; show upI _ _ _ _ m 12 = _; rw [upI_at, if_neg (by decide), upI_at, if_pos rfl]; rfl, by rw [hg]; show upI _ _ _ _ m 18 = _; rw [upI_at, if_pos rfl]; rfl, by rw [gj 8 (by decide) (by decide)]; exact s8, fun j v hv => by simp at hv⟩
  obtain ⟨h', fl', w1, w2, w3, w4⟩ := m_st_read (T := T) (n := p) (m := m) (p + 1) 0 0 FF (16, []) g Xg (Nat.zero_le _) Ag ⟨by decide, by simp⟩ (Nat.le_refl _) (by decide) (by omega) (show p + 1 + 1 < 1000000 by omega)
  have st : fX10_store m (nI p) h = gX10_store (fl' + 1) 49 [.ref m, uV] [] h' := by
    have e1 : (upI h.2 m 0 0) m 1 = nI n := a1
    have bd : fX10_bad m 0 1 1 (h.1, upI h.2 m 0 0) = _ := m_bad0 (h := th0 h m) M.k (th0_0 h m) 1 1
    have s1 : fX10_starts m (nI p) (h.1, upI h.2 m 0 0) = _ := s1
    unfold fX10_store kX10_store_0
    rw [if_pos M.k, e1, m_in, bI_s, decide_eq_true ⟨nI_pos' (by omega), by rw [nI_leI (by omega) (by omega)]; exact h1⟩, if_pos (show ¬ b2i true = 0 by decide), if_pos M.k, bd, bI_s, if_pos rfl, if_pos M.k, s1, bV_s, if_pos s5.k, ← hg, w1]
  rw [zX10_store_49] at st
  have f1 : h'.1 = h.1 := w2.1.trans (g1.trans s2)
  have f2 : ∀ a, a ≠ m → a < m + 38 ∨ m + 118 ≤ a → h'.2 a = (th0 h m).2 a := fun a q1 q2 => by rw [w2.2.1 a q1 q2, gn a q1, s3 a q1]
  have f3 : ∀ j, j ≠ 1 → j ≠ 2 → j ≠ 4 → j ≠ 5 → j ≠ 6 → j ≠ 7 → j ≠ 8 → j ≠ 12 → j ≠ 18 → h'.2 m j = (th0 h m).2 m j := fun j q1 q2 q4 q5 q6 q7 q8 q12 q18 => by rw [w2.2.2 j q4 q5 q6 q7 q8 q12 q18, gj j q12 q18, s4 j q1 q2 q4 q5 q6 q7 q8]
  have t1 : h'.2 m 1 = nI 0 := by rw [w2.2.2 1 (by decide) (by decide) (by decide) (by decide) (by decide) (by decide) (by decide), gj 1 (by decide) (by decide), s6]; rfl
  have t0 : h'.2 m 0 = 0 := by rw [f3 0 (by decide) (by decide) (by decide) (by decide) (by decide) (by decide) (by decide) (by decide) (by decide)]; exact th0_0 h m
  have A' : RW h' m S z T 0 ls fp rs rf hi im := A0.fl f1 (fun a q1 q2 q3 => by
      unfold perM at q1
      exact f2 a (by omega) (by omega)) (fun j q => f3 j (by omega) (by omega) (by omega) (by omega) (by omega) (by omega) (by omega) (by omega) (by omega)) t1 (Nat.zero_le _) (by rw [f3 3 (by decide) (by decide) (by decide) (by decide) (by decide) (by decide) (by decide) (by decide) (by decide)]; exact a6)
  have Gf : Gm h h' m := ⟨f1, fun a q => by rw [f2 a (by omega) (by omega)]; exact upI_ne (by omega)⟩
  have M' : MS h' m := M.eq f1
  cases e : stP T p (p + 1) 0 (16, []) 0 with
  | inr er =>
    rw [e] at w4
    obtain ⟨x2, x3⟩ := w4
    refine ⟨(h'.1, upI h'.2 m 3 (nI er.2)), ?_, Gf.trans ⟨rfl, fun a q => upI_ne (by omega)⟩, ?_, A'.fl rfl (fun a q1 q2 q3 => upI_ne (by unfold perM at q1; omega)) (fun j q => ?_) ?_ (Nat.le_refl _) ?_⟩
    · rw [st]
      unfold kX10_store_49
      rw [if_pos M'.k, if_pos x2.nz, if_neg x2.nz]
      unfold fX10_ends kX10_ends_0
      rw [if_pos M'.k, upI_at, if_neg (by decide), x2.2.1, x2.2.2.1, bI_s]
    · show upI _ _ _ _ m 0 = _
      rw [upI_at, if_neg (by decide)]
      exact t0
    · show upI _ _ _ _ m j = _
      rw [upI_at, if_neg (by omega)]
    · show upI _ _ _ _ m 1 = _
      rw [upI_at, if_neg (by decide)]
      exact t1
    · show upI _ _ _ _ m 3 = _
      rw [upI_at, if_pos rfl]
  | inl v =>
    rw [e] at w4
    obtain ⟨x1, x2, c', x3⟩ := w4
    obtain ⟨O, h60⟩ := stP_ok (p + 1) 0 (16, []) 0 v (Nat.zero_le _) e ⟨by decide, by simp⟩ (Nat.le_refl _) (by decide)
    obtain ⟨q, hq⟩ : ∃ q : Hp, q = (h'.1, upI h'.2 m 3 (-1)) := ⟨_, rfl⟩
    have qn : ∀ a, a ≠ m → q.2 a = h'.2 a := fun a w => by rw [hq]; exact upI_ne w
    have qj : ∀ j, j ≠ 3 → q.2 m j = h'.2 m j := fun j w => by rw [hq]; show upI _ _ _ _ m j = _; rw [upI_at, if_neg w]
    obtain ⟨y1, y2, y3, y4, y5⟩ := x3
    obtain ⟨h8, c1, c2, c3, c4, c5, c6, c7, c8, c9, c10⟩ := m_anew (h := q) O h60 (M'.eq (by rw [hq])) (by rw [qj 12 (by decide)]; exact y2) (by rw [qj 18 (by decide)]; exact y3) (y5.cg v.2 0 (fun a w1 w2 => qn a (by omega)))
    have e8 : h8.1 = h'.1 := by rw [c2, hq]
    have n8 : ∀ a, a ≠ m → a ≠ m + 118 → a ≠ m + 147 → a ≠ m + 148 → a ≠ m + 149 → h8.2 a = h'.2 a := fun a w1 w2 w3 w4 w5 => by rw [c3 a w1 w2 w3 w4 w5, qn a w1]
    have j8 : ∀ j, j ≠ 11 → j ≠ 13 → j ≠ 14 → j ≠ 15 → j ≠ 16 → j ≠ 30 → j ≠ 3 → h8.2 m j = h'.2 m j := fun j w1 w2 w3 w4 w5 w6 w7 => by rw [c4 j w1 w2 w3 w4 w5 w6, qj j w7]
    obtain ⟨⟨M9, R9, Z9⟩, ⟨⟨a1', a2', a3', a4'⟩, a5', ⟨a6', a7'⟩, a8'⟩, ⟨b1', b2', b3'⟩, c1'', c2'', c3''⟩ := A'
    refine ⟨h8, ?_, Gf.trans ⟨e8, fun a w => n8 a (by omega) (by omega) (by omega) (by omega) (by omega)⟩, by rw [j8 0 (by decide) (by decide) (by decide) (by decide) (by decide) (by decide) (by decide)]; exact t0, ⟨M9.eq e8, c5, c6⟩, ⟨⟨by rw [j8 1 (by decide) (by decide) (by decide) (by decide) (by decide) (by decide) (by decide)]; exact t1, by omega, fun i hi => by omega, fun i hi => by omega⟩, ⟨⟨by decide, by simp, by simp⟩, c7, fun k w hw => by simp at hw⟩, ⟨?_, c9⟩, fun i hi => by rw [n8 (m + 2) (by omega) (by omega) (by omega) (by omega) (by omega)]; exact a8' i hi⟩, ⟨c8, by decide, fun i S' hS => by simp at hS⟩, c10, by decide, fun g v' hv => by simp at hv⟩
    · rw [st]
      unfold kX10_store_49
      rw [if_pos M'.k, if_neg (show ¬ ¬ h'.2 m 5 = 0 from fun q => q x1), if_pos x2, if_pos x1, ← hq, c1, bV_s, if_pos (show kH h8 m = 18 by rw [kh_eq e8]; exact M'.k), c6]
    · rw [c4 3 (by decide) (by decide) (by decide) (by decide) (by decide) (by decide), hq]
      show upI _ _ _ _ m 3 = _
      rw [upI_at, if_pos rfl]
end BM
