/-! ===== the reference: image, restore ===== -/
section RIR
variable {h h' : Hp} {m z n k : Nat} {S S' : St} {T : Nat → Nat} {ls : List (Nat × Nat)} {fp rs : Int32} {rf : Nat → Int32} {hi hs : List St} {im : List (St × List St)}
theorem lays_0 {r i : Nat} (hk : kH h m = 18) (hr : kH h r = 1) (hl : lH h r = 57767) (e : h.2 m 17 = nI i) (hi : i < 57767) (hm : r ≠ m) (v : Int32) : fX10_lays m r v 0 h = some (.inl (some (.int v)), (h.1, upI (upI h.2 r i v) m 17 (nI (i + 1)))) := by
  have es : nI (i + 1) - 1 = nI i := sub8 (by omega)
  have e1 : upI h.2 r i v m 17 = nI i := by rw [upI_ne (by omega)]; exact e
  unfold fX10_lays kX10_lays_0
  rw [if_neg (show ¬ ¬ (0 : Int32) = 0 from fun q => q rfl), if_pos hk, if_pos hr, e, hl, if_pos (inB_nI hi (by decide)), nI_clamp (by omega), e1, nI_1, upI_at, if_pos rfl, es, if_pos (inB_nI hi (by decide)), nI_clamp (by omega), upI_ne hm, upI_at, if_pos rfl]
theorem lays_1 {r i : Nat} (hk : kH h m = 18) (hr : kH h r = 1) (hl : lH h r = 57767) (e : h.2 m 17 = nI i) (hi : i < 57767) (hm : r ≠ m) (v : Int32) : fX10_lays m r v 1 h = some (.inl (some (.int (h.2 r i))), (h.1, upI h.2 m 17 (nI (i + 1)))) := by
  have es : nI (i + 1) - 1 = nI i := sub8 (by omega)
  unfold fX10_lays kX10_lays_0
  rw [if_pos (show ¬ (1 : Int32) = 0 by decide), if_pos hk, if_pos hr, e, nI_1, upI_at, if_pos rfl, es, hl, if_pos (inB_nI hi (by decide)), nI_clamp (by omega), upI_ne hm]
/-- a row is laid into the long row -/
def PuA (h h' : Hp) (m r q s k : Nat) : Prop := h'.1 = h.1 ∧ (∀ a, a ≠ m → a ≠ r → h'.2 a = h.2 a) ∧ (∀ j, j ≠ 17 → h'.2 m j = h.2 m j) ∧ h'.2 m 17 = nI (s + 3398) ∧ ∀ j, h'.2 r j = if s + k ≤ j ∧ j < s + 3398 then h.2 q (j - s) else h.2 r j
/-- and back -/
def GeA (h h' : Hp) (m r q s k : Nat) : Prop := h'.1 = h.1 ∧ (∀ a, a ≠ m → a ≠ q → h'.2 a = h.2 a) ∧ (∀ j, j ≠ 17 → h'.2 m j = h.2 m j) ∧ h'.2 m 17 = nI (s + 3398) ∧ ∀ j, h'.2 q j = if k ≤ j ∧ j < 3398 then h.2 r (s + j) else h.2 q j
theorem upI_id (I : Nat → Nat → Int32) (a k : Nat) : upI I a k (I a k) = I := by
  funext b j
  by_cases e : b = a
  · rw [e, upI_at]
    by_cases e2 : j = k
    · rw [if_pos e2, e2]
    · rw [if_neg e2]
  · rw [upI_ne e]
theorem pu_step {r q s k : Nat} (hmr : r ≠ m) (hqm : q ≠ m) (hqr : q ≠ r) (hk : k < 3398) (e : PuA (h.1, upI (upI h.2 r (s + k) (h.2 q k)) m 17 (nI (s + k + 1))) h' m r q s (k + 1)) : PuA h h' m r q s k := by
  obtain ⟨e1, e2, e3, e4, e5⟩ := e
  have f2 : ∀ a, a ≠ m → a ≠ r → h'.2 a = h.2 a := fun a q1 q2 => by
    rw [e2 a q1 q2]
    show upI _ _ _ _ a = _
    rw [upI_ne q1, upI_ne q2]
  refine ⟨e1, f2, fun j q1 => ?_, e4, fun j => ?_⟩
  · rw [e3 j q1]
    show upI _ _ _ _ m j = _
    rw [upI_at, if_neg q1, upI_ne (by omega)]
  · rw [e5 j]
    show (if _ then upI _ _ _ _ q _ else upI _ _ _ _ r j) = _
    rw [upI_ne hqm, upI_ne hqr, upI_ne hmr, upI_at]
    by_cases c1 : s + (k + 1) ≤ j ∧ j < s + 3398
    · rw [if_pos c1, if_pos (by omega)]
    · rw [if_neg c1]
      by_cases c2 : j = s + k
      · rw [if_pos c2, if_pos (by omega), c2, show s + k - s = k by omega]
      · rw [if_neg c2, if_neg (by omega)]
theorem ge_step {r q s k : Nat} (hmr : r ≠ m) (hqm : q ≠ m) (hqr : q ≠ r) (hk : k < 3398) (e : GeA (h.1, upI (upI h.2 m 17 (nI (s + k + 1))) q k (h.2 r (s + k))) h' m r q s (k + 1)) : GeA h h' m r q s k := by
  obtain ⟨e1, e2, e3, e4, e5⟩ := e
  refine ⟨e1, fun a q1 q2 => ?_, fun j q1 => ?_, e4, fun j => ?_⟩
  · rw [e2 a q1 q2]
    show upI _ _ _ _ a = _
    rw [upI_ne q2, upI_ne q1]
  · rw [e3 j q1]
    show upI _ _ _ _ m j = _
    rw [upI_ne (by omega), upI_at, if_neg q1]
  · rw [e5 j]
    show (if _ then upI _ _ _ _ r _ else upI _ _ _ _ q j) = _
    rw [upI_ne (by omega), upI_ne hmr, upI_at, upI_ne hqm]
    by_cases c1 : k + 1 ≤ j ∧ j < 3398
    · rw [if_pos c1, if_pos (by omega)]
    · rw [if_neg c1]
      by_cases c2 : j = k
      · rw [if_pos c2, if_pos (by omega), c2]
      · rw [if_neg c2, if_neg (by omega)]
theorem puts_now0 {r : Nat} (hr : m + 138 ≤ r ∧ r ≤ m + 140) : ∀ (c k fl : Nat) (h : Hp), k + c = 3398 → c < fl → MS h m → kH h r = 1 → lH h r = 57767 → h.2 m 17 = nI (1 + k) →
    ∃ h', gX10_putsAll fl 21 [.ref m, .ref r, .int 0, .int (nI k), uV] [] h = gX10_putsAll (fl - c - 1) 54 [.ref m, .ref r, .int 0, .int (nI 0), uV] [] h' ∧ PuA h h' m r (m + 118) 1 k := by
  intro c
  induction c with
  | zero =>
    intro k fl h hk hfl M kr lr e
    obtain ⟨fl, rfl⟩ := sc (show 0 < fl by omega)
    refine ⟨h, ?_, rfl, fun _ _ _ => rfl, fun _ _ => rfl, by rw [e, show k = 3398 by omega], fun j => by rw [if_neg (by omega)]⟩
    rw [zX10_putsAll_21]
    unfold kX10_putsAll_21
    rw [if_pos (by rw [k3398, nI_leI (by decide) (by omega)]; omega)]
    rfl
  | succ c ih =>
    intro k fl h hk hfl M kr lr e
    obtain ⟨fl, rfl⟩ := sc (show 0 < fl by omega)
    obtain ⟨n1, n2, n3⟩ := M.now
    have L := lays_0 (m := m) (r := r) (i := 1 + k) M.k kr lr e (by omega) (by omega) (h.2 (m + 118) k)
    obtain ⟨h', i1, i2⟩ := ih (k + 1) fl (h.1, upI (upI h.2 r (1 + k) (h.2 (m + 118) k)) m 17 (nI (1 + k + 1))) (by omega) (by omega) (M.eq rfl) kr lr (by show upI _ _ _ _ m 17 = _; rw [upI_at, if_pos rfl]; rfl)
    refine ⟨h', ?_, pu_step (by omega) (by omega) (by omega) (by omega) i2⟩
    have hid : upI (upI (upI h.2 r (1 + k) (h.2 (m + 118) k)) m 17 (nI (1 + k + 1))) (m + 118) k (h.2 (m + 118) k) = upI (upI h.2 r (1 + k) (h.2 (m + 118) k)) m 17 (nI (1 + k + 1)) := by
      have := upI_id (upI (upI h.2 r (1 + k) (h.2 (m + 118) k)) m 17 (nI (1 + k + 1))) (m + 118) k
      have e2 : upI (upI h.2 r (1 + k) (h.2 (m + 118) k)) m 17 (nI (1 + k + 1)) (m + 118) k = h.2 (m + 118) k := by rw [upI_ne (by omega), upI_ne (by omega)]
      rw [e2] at this
      exact this
    rw [zX10_putsAll_21]
    unfold kX10_putsAll_21
    rw [if_neg (by rw [k3398, nI_leI (by decide) (by omega)]; omega), if_pos M.k, n1, if_pos n2, n3, if_pos (inB_nI (by omega) (by decide)), nI_clamp (by omega), L, bI_s, if_pos n2, n3, if_pos (inB_nI (by omega) (by decide)), hid, nI_1, i1, show fl + 1 - (c + 1) - 1 = fl - c - 1 by omega]
theorem puts_now1 {r : Nat} (hr : m + 138 ≤ r ∧ r ≤ m + 140) : ∀ (c k fl : Nat) (h : Hp), k + c = 3398 → c < fl → MS h m → kH h r = 1 → lH h r = 57767 → h.2 m 17 = nI (1 + k) →
    ∃ h', gX10_putsAll fl 21 [.ref m, .ref r, .int 1, .int (nI k), uV] [] h = gX10_putsAll (fl - c - 1) 54 [.ref m, .ref r, .int 1, .int (nI 0), uV] [] h' ∧ GeA h h' m r (m + 118) 1 k := by
  intro c
  induction c with
  | zero =>
    intro k fl h hk hfl M kr lr e
    obtain ⟨fl, rfl⟩ := sc (show 0 < fl by omega)
    refine ⟨h, ?_, rfl, fun _ _ _ => rfl, fun _ _ => rfl, by rw [e, show k = 3398 by omega], fun j => by rw [if_neg (by omega)]⟩
    rw [zX10_putsAll_21]
    unfold kX10_putsAll_21
    rw [if_pos (by rw [k3398, nI_leI (by decide) (by omega)]; omega)]
    rfl
  | succ c ih =>
    intro k fl h hk hfl M kr lr e
    obtain ⟨fl, rfl⟩ := sc (show 0 < fl by omega)
    obtain ⟨n1, n2, n3⟩ := M.now
    have L := lays_1 (m := m) (r := r) (i := 1 + k) M.k kr lr e (by omega) (by omega) (h.2 (m + 118) k)
    obtain ⟨h', i1, i2⟩ := ih (k + 1) fl (h.1, upI (upI h.2 m 17 (nI (1 + k + 1))) (m + 118) k (h.2 r (1 + k))) (by omega) (by omega) (M.eq rfl) kr lr (by show upI _ _ _ _ m 17 = _; rw [upI_ne (by omega), upI_at, if_pos rfl]; rfl)
    refine ⟨h', ?_, ge_step (by omega) (by omega) (by omega) (by omega) i2⟩
    rw [zX10_putsAll_21]
    unfold kX10_putsAll_21
    rw [if_neg (by rw [k3398, nI_leI (by decide) (by omega)]; omega), if_pos M.k, n1, if_pos n2, n3, if_pos (inB_nI (by omega) (by decide)), nI_clamp (by omega), L, bI_s, if_pos n2, n3, if_pos (inB_nI (by omega) (by decide)), nI_1, i1, show fl + 1 - (c + 1) - 1 = fl - c - 1 by omega]
theorem MS.befr (M : MS h m) {w : Nat} (hw : w < 16) : rH h m 24 = m + 120 ∧ kH h (m + 120) = 7 ∧ lH h (m + 120) = 16 ∧ rH h (m + 120) w = m + 121 + w ∧ kH h (m + 121 + w) = 1 ∧ lH h (m + 121 + w) = 3398 := by
  have br := M.bef.2 w hw
  have er2 : m + 120 + 1 + w = m + 121 + w := by omega
  rw [er2] at br
  exact ⟨M.bef.1.1, M.bef.1.2.1, M.bef.1.2.2, br.1, br.2.1, br.2.2⟩
theorem puts_bef0 {r w : Nat} (hr : m + 138 ≤ r ∧ r ≤ m + 140) (hw : w < 16) : ∀ (c k fl : Nat) (h : Hp), k + c = 3398 → c < fl → MS h m → kH h r = 1 → lH h r = 57767 → h.2 m 17 = nI (1 + 3398 * (w + 1) + k) →
    ∃ h', gX10_putsAll fl 63 [.ref m, .ref r, .int 0, .int (nI w), .int (nI k)] [] h = gX10_putsAll (fl - c - 1) 54 [.ref m, .ref r, .int 0, .int (nI (w + 1)), uV] [] h' ∧ PuA h h' m r (m + 121 + w) (1 + 3398 * (w + 1)) k := by
  intro c
  induction c with
  | zero =>
    intro k fl h hk hfl M kr lr e
    obtain ⟨fl, rfl⟩ := sc (show 0 < fl by omega)
    refine ⟨h, ?_, rfl, fun _ _ _ => rfl, fun _ _ => rfl, by rw [e, show k = 3398 by omega], fun j => by rw [if_neg (by omega)]⟩
    rw [zX10_putsAll_63]
    unfold kX10_putsAll_63
    rw [if_pos (by rw [k3398, nI_leI (by decide) (by omega)]; omega), nI_1]
    rfl
  | succ c ih =>
    intro k fl h hk hfl M kr lr e
    obtain ⟨fl, rfl⟩ := sc (show 0 < fl by omega)
    obtain ⟨n1, n2, n3, n4, n5, n6⟩ := M.befr hw
    have L := lays_0 (m := m) (r := r) (i := 1 + 3398 * (w + 1) + k) M.k kr lr e (by omega) (by omega) (h.2 (m + 121 + w) k)
    obtain ⟨h', i1, i2⟩ := ih (k + 1) fl (h.1, upI (upI h.2 r (1 + 3398 * (w + 1) + k) (h.2 (m + 121 + w) k)) m 17 (nI (1 + 3398 * (w + 1) + k + 1))) (by omega) (by omega) (M.eq rfl) kr lr (by show upI _ _ _ _ m 17 = _; rw [upI_at, if_pos rfl]; rfl)
    refine ⟨h', ?_, pu_step (by omega) (by omega) (by omega) (by omega) i2⟩
    have hid : upI (upI (upI h.2 r (1 + 3398 * (w + 1) + k) (h.2 (m + 121 + w) k)) m 17 (nI (1 + 3398 * (w + 1) + k + 1))) (m + 121 + w) k (h.2 (m + 121 + w) k) = upI (upI h.2 r (1 + 3398 * (w + 1) + k) (h.2 (m + 121 + w) k)) m 17 (nI (1 + 3398 * (w + 1) + k + 1)) := by
      have := upI_id (upI (upI h.2 r (1 + 3398 * (w + 1) + k) (h.2 (m + 121 + w) k)) m 17 (nI (1 + 3398 * (w + 1) + k + 1))) (m + 121 + w) k
      have e2 : upI (upI h.2 r (1 + 3398 * (w + 1) + k) (h.2 (m + 121 + w) k)) m 17 (nI (1 + 3398 * (w + 1) + k + 1)) (m + 121 + w) k = h.2 (m + 121 + w) k := by rw [upI_ne (by omega), upI_ne (by omega)]
      rw [e2] at this
      exact this
    rw [zX10_putsAll_63]
    unfold kX10_putsAll_63
    rw [if_neg (by rw [k3398, nI_leI (by decide) (by omega)]; omega), if_pos M.k, n1, if_pos n2, n3, if_pos (inB_nI hw (by decide)), nI_clamp (by omega), n4, if_pos n5, n6, if_pos (inB_nI (by omega) (by decide)), nI_clamp (by omega), L, bI_s, if_pos n5, n6, if_pos (inB_nI (by omega) (by decide)), hid, nI_1, i1, show fl + 1 - (c + 1) - 1 = fl - c - 1 by omega]
theorem puts_bef1 {r w : Nat} (hr : m + 138 ≤ r ∧ r ≤ m + 140) (hw : w < 16) : ∀ (c k fl : Nat) (h : Hp), k + c = 3398 → c < fl → MS h m → kH h r = 1 → lH h r = 57767 → h.2 m 17 = nI (1 + 3398 * (w + 1) + k) →
    ∃ h', gX10_putsAll fl 63 [.ref m, .ref r, .int 1, .int (nI w), .int (nI k)] [] h = gX10_putsAll (fl - c - 1) 54 [.ref m, .ref r, .int 1, .int (nI (w + 1)), uV] [] h' ∧ GeA h h' m r (m + 121 + w) (1 + 3398 * (w + 1)) k := by
  intro c
  induction c with
  | zero =>
    intro k fl h hk hfl M kr lr e
    obtain ⟨fl, rfl⟩ := sc (show 0 < fl by omega)
    refine ⟨h, ?_, rfl, fun _ _ _ => rfl, fun _ _ => rfl, by rw [e, show k = 3398 by omega], fun j => by rw [if_neg (by omega)]⟩
    rw [zX10_putsAll_63]
    unfold kX10_putsAll_63
    rw [if_pos (by rw [k3398, nI_leI (by decide) (by omega)]; omega), nI_1]
    rfl
  | succ c ih =>
    intro k fl h hk hfl M kr lr e
    obtain ⟨fl, rfl⟩ := sc (show 0 < fl by omega)
    obtain ⟨n1, n2, n3, n4, n5, n6⟩ := M.befr hw
    have L := lays_1 (m := m) (r := r) (i := 1 + 3398 * (w + 1) + k) M.k kr lr e (by omega) (by omega) (h.2 (m + 121 + w) k)
    obtain ⟨h', i1, i2⟩ := ih (k + 1) fl (h.1, upI (upI h.2 m 17 (nI (1 + 3398 * (w + 1) + k + 1))) (m + 121 + w) k (h.2 r (1 + 3398 * (w + 1) + k))) (by omega) (by omega) (M.eq rfl) kr lr (by show upI _ _ _ _ m 17 = _; rw [upI_ne (by omega), upI_at, if_pos rfl]; rfl)
    refine ⟨h', ?_, ge_step (by omega) (by omega) (by omega) (by omega) i2⟩
    rw [zX10_putsAll_63]
    unfold kX10_putsAll_63
    rw [if_neg (by rw [k3398, nI_leI (by decide) (by omega)]; omega), if_pos M.k, n1, if_pos n2, n3, if_pos (inB_nI hw (by decide)), nI_clamp (by omega), n4, if_pos n5, n6, if_pos (inB_nI (by omega) (by decide)), nI_clamp (by omega), L, bI_s, if_pos n5, n6, if_pos (inB_nI (by omega) (by decide)), nI_1, i1, show fl + 1 - (c + 1) - 1 = fl - c - 1 by omega]
/-- all rows ahead, from w on -/
theorem puts_all0 {r : Nat} (hr : m + 138 ≤ r ∧ r ≤ m + 140) : ∀ (c w fl : Nat) (h : Hp), w + c = 16 → 3400 * c < fl → MS h m → kH h r = 1 → lH h r = 57767 → h.2 m 17 = nI (1 + 3398 * (w + 1)) →
    ∃ h', gX10_putsAll fl 54 [.ref m, .ref r, .int 0, .int (nI w), uV] [] h = some (.inl none, h') ∧ h'.1 = h.1 ∧ (∀ a, a ≠ m → a ≠ r → h'.2 a = h.2 a) ∧ (∀ j, j ≠ 17 → h'.2 m j = h.2 m j) ∧ (∀ j, j < 1 + 3398 * (w + 1) → h'.2 r j = h.2 r j) ∧ ∀ v j, w ≤ v → v < 16 → j < 3398 → h'.2 r (1 + 3398 * (v + 1) + j) = h.2 (m + 121 + v) j := by
  intro c
  induction c with
  | zero =>
    intro w fl h hw hfl M kr lr e
    obtain ⟨fl, rfl⟩ := sc (show 0 < fl by omega)
    refine ⟨h, ?_, rfl, fun _ _ _ => rfl, fun _ _ => rfl, fun _ _ => rfl, fun v j q1 q2 _ => by omega⟩
    rw [zX10_putsAll_54]
    unfold kX10_putsAll_54
    rw [if_pos (by rw [k16, nI_leI (by decide) (by omega)]; omega)]
  | succ c ih =>
    intro w fl h hw hfl M kr lr e
    obtain ⟨fl, rfl⟩ := sc (show 0 < fl by omega)
    obtain ⟨h1, a1, a2, a3, a4, a5, a6⟩ := puts_bef0 hr (show w < 16 by omega) 3398 0 fl h (by omega) (by omega) M kr lr (by rw [e]; rfl)
    obtain ⟨h', b1, b2, b3, b4, b5, b6⟩ := ih (w + 1) (fl - 3398 - 1) h1 (by omega) (by omega) (M.eq a2) ((kh_eq a2 r).trans kr) ((lh_eq a2 r).trans lr) (by rw [a5]; exact congrArg nI (by omega))
    refine ⟨h', ?_, b2.trans a2, fun a q1 q2 => by rw [b3 a q1 q2, a3 a q1 q2], fun j q => by rw [b4 j q, a4 j q], fun j q => ?_, fun v j q1 q2 q3 => ?_⟩
    · rw [zX10_putsAll_54]
      unfold kX10_putsAll_54
      rw [if_neg (by rw [k16, nI_leI (by decide) (by omega)]; omega)]
      exact a1.trans b1
    · have q2 : j < 1 + 3398 * (w + 1 + 1) := Nat.lt_of_lt_of_le q (Nat.add_le_add_left (Nat.mul_le_mul_left 3398 (Nat.le_succ (w + 1))) 1)
      rw [b5 j q2, a6 j, if_neg (fun c => absurd c.1 (Nat.not_le.mpr (by rw [Nat.add_zero]; exact q)))]
    · by_cases ev : v = w
      · rw [ev, b5 _ (by omega), a6, if_pos (by omega), show 1 + 3398 * (w + 1) + j - (1 + 3398 * (w + 1)) = j by omega]
      · rw [b6 v j (by omega) q2 q3, a3 _ (by omega) (by omega)]
theorem puts_all1 {r : Nat} (hr : m + 138 ≤ r ∧ r ≤ m + 140) : ∀ (c w fl : Nat) (h : Hp), w + c = 16 → 3400 * c < fl → MS h m → kH h r = 1 → lH h r = 57767 → h.2 m 17 = nI (1 + 3398 * (w + 1)) →
    ∃ h', gX10_putsAll fl 54 [.ref m, .ref r, .int 1, .int (nI w), uV] [] h = some (.inl none, h') ∧ h'.1 = h.1 ∧ (∀ a, a ≠ m → a < m + 121 + w ∨ m + 137 ≤ a → h'.2 a = h.2 a) ∧ (∀ j, j ≠ 17 → h'.2 m j = h.2 m j) ∧ ∀ v j, w ≤ v → v < 16 → j < 3398 → h'.2 (m + 121 + v) j = h.2 r (1 + 3398 * (v + 1) + j) := by
  intro c
  induction c with
  | zero =>
    intro w fl h hw hfl M kr lr e
    obtain ⟨fl, rfl⟩ := sc (show 0 < fl by omega)
    refine ⟨h, ?_, rfl, fun _ _ _ => rfl, fun _ _ => rfl, fun v j q1 q2 _ => by omega⟩
    rw [zX10_putsAll_54]
    unfold kX10_putsAll_54
    rw [if_pos (by rw [k16, nI_leI (by decide) (by omega)]; omega)]
  | succ c ih =>
    intro w fl h hw hfl M kr lr e
    obtain ⟨fl, rfl⟩ := sc (show 0 < fl by omega)
    obtain ⟨h1, a1, a2, a3, a4, a5, a6⟩ := puts_bef1 hr (show w < 16 by omega) 3398 0 fl h (by omega) (by omega) M kr lr (by rw [e]; rfl)
    obtain ⟨h', b1, b2, b3, b4, b6⟩ := ih (w + 1) (fl - 3398 - 1) h1 (by omega) (by omega) (M.eq a2) ((kh_eq a2 r).trans kr) ((lh_eq a2 r).trans lr) (by rw [a5]; exact congrArg nI (by omega))
    refine ⟨h', ?_, b2.trans a2, fun a q1 q2 => by rw [b3 a q1 (by omega), a3 a q1 (by omega)], fun j q => by rw [b4 j q, a4 j q], fun v j q1 q2 q3 => ?_⟩
    · rw [zX10_putsAll_54]
      unfold kX10_putsAll_54
      rw [if_neg (by rw [k16, nI_leI (by decide) (by omega)]; omega)]
      exact a1.trans b1
    · by_cases ev : v = w
      · rw [ev, b3 _ (by omega) (by omega), a6, if_pos (by omega)]
      · rw [b6 v j (by omega) q2 q3, a3 _ (by omega) (by omega)]
theorem m_puts0 {r : Nat} (hr : m + 138 ≤ r ∧ r ≤ m + 140) (M : MS h m) (kr : kH h r = 1) (lr : lH h r = 57767) : ∃ h', fX10_putsAll m r 0 h = some (.inl none, h') ∧ h'.1 = h.1 ∧ (∀ a, a ≠ m → a ≠ r → h'.2 a = h.2 a) ∧ (∀ j, j ≠ 17 → h'.2 m j = h.2 m j) ∧ h'.2 r 0 = h.2 m 14 ∧ (∀ j, j < 3398 → h'.2 r (1 + j) = h.2 (m + 118) j) ∧ ∀ v j, v < 16 → j < 3398 → h'.2 r (1 + 3398 * (v + 1) + j) = h.2 (m + 121 + v) j := by
  have L := lays_0 (h := (h.1, upI h.2 m 17 0)) (m := m) (r := r) (i := 0) M.k kr lr (by show upI _ _ _ _ m 17 = _; rw [upI_at, if_pos rfl]; rfl) (by omega) (by omega) (h.2 m 14)
  obtain ⟨g, hg⟩ : ∃ g : Hp, g = (h.1, upI (upI (upI (upI h.2 m 17 0) r 0 (h.2 m 14)) m 17 (nI (0 + 1))) m 14 (h.2 m 14)) := ⟨_, rfl⟩
  have g1 : ∀ a, a ≠ m → a ≠ r → g.2 a = h.2 a := fun a q1 q2 => by rw [hg]; show upI _ _ _ _ a = _; rw [upI_ne q1, upI_ne q1, upI_ne q2, upI_ne q1]
  have g2 : ∀ j, j ≠ 17 → g.2 m j = h.2 m j := fun j q => by
    rw [hg]
    show upI _ _ _ _ m j = _
    rw [upI_at]
    by_cases e : j = 14
    · rw [if_pos e, e]
    · rw [if_neg e, upI_at, if_neg q, upI_ne (by omega), upI_at, if_neg q]
  have g3 : g.2 m 17 = nI (1 + 0) := by rw [hg]; show upI _ _ _ _ m 17 = _; rw [upI_at, if_neg (by decide), upI_at, if_pos rfl]
  have g4 : g.2 r 0 = h.2 m 14 := by rw [hg]; show upI _ _ _ _ r 0 = _; rw [upI_ne (by omega), upI_ne (by omega), upI_at, if_pos rfl]
  have e1 : g.1 = h.1 := by rw [hg]
  obtain ⟨h1, a1, a2, a3, a4, a5, a6⟩ := puts_now0 hr 3398 0 FF g (by omega) (show 3398 < 1000000 by decide) (M.eq e1) ((kh_eq e1 r).trans kr) ((lh_eq e1 r).trans lr) g3
  have e2 : h1.1 = h.1 := a2.trans e1
  obtain ⟨h', b1, b2, b3, b4, b5, b6⟩ := puts_all0 hr 16 0 (FF - 3398 - 1) h1 (by omega) (show 3400 * 16 < 1000000 - 3398 - 1 by decide) (M.eq e2) ((kh_eq e2 r).trans kr) ((lh_eq e2 r).trans lr) (by rw [a5])
  refine ⟨h', ?_, b2.trans e2, fun a q1 q2 => by rw [b3 a q1 q2, a3 a q1 q2, g1 a q1 q2], fun j q => by rw [b4 j q, a4 j q, g2 j q], ?_, fun j q => ?_, fun v j q1 q2 => ?_⟩
  · unfold fX10_putsAll kX10_putsAll_0
    have u14 : upI h.2 m 17 0 m 14 = h.2 m 14 := by rw [upI_at, if_neg (by decide)]
    rw [if_pos M.k, u14, L, bI_s, if_pos (show kH (h.1, _) m = 18 from M.k), ← hg]
    exact a1.trans b1
  · rw [b5 0 (by omega), a6 0, if_neg (by omega)]
    exact g4
  · rw [b5 _ (by omega), a6, if_pos (by omega), show 1 + j - 1 = j by omega, g1 _ (by omega) (by omega)]
  · rw [b6 v j (by omega) q1 q2, a3 _ (by omega) (by omega), g1 _ (by omega) (by omega)]
theorem m_puts1 {r : Nat} (hr : m + 138 ≤ r ∧ r ≤ m + 140) (M : MS h m) (kr : kH h r = 1) (lr : lH h r = 57767) : ∃ h', fX10_putsAll m r 1 h = some (.inl none, h') ∧ h'.1 = h.1 ∧ (∀ a, a ≠ m → a ≠ m + 118 → a < m + 121 ∨ m + 137 ≤ a → h'.2 a = h.2 a) ∧ (∀ j, j ≠ 17 → j ≠ 14 → h'.2 m j = h.2 m j) ∧ h'.2 m 14 = h.2 r 0 ∧ (∀ j, j < 3398 → h'.2 (m + 118) j = h.2 r (1 + j)) ∧ ∀ v j, v < 16 → j < 3398 → h'.2 (m + 121 + v) j = h.2 r (1 + 3398 * (v + 1) + j) := by
  have L := lays_1 (h := (h.1, upI h.2 m 17 0)) (m := m) (r := r) (i := 0) M.k kr lr (by show upI _ _ _ _ m 17 = _; rw [upI_at, if_pos rfl]; rfl) (by omega) (by omega) (h.2 m 14)
  obtain ⟨g, hg⟩ : ∃ g : Hp, g = (h.1, upI (upI (upI h.2 m 17 0) m 17 (nI (0 + 1))) m 14 (upI h.2 m 17 0 r 0)) := ⟨_, rfl⟩
  have g1 : ∀ a, a ≠ m → g.2 a = h.2 a := fun a q1 => by rw [hg]; show upI _ _ _ _ a = _; rw [upI_ne q1, upI_ne q1, upI_ne q1]
  have g2 : ∀ j, j ≠ 17 → j ≠ 14 → g.2 m j = h.2 m j := fun j q q2 => by rw [hg]; show upI _ _ _ _ m j = _; rw [upI_at, if_neg q2, upI_at, if_neg q, upI_at, if_neg q]
  have g3 : g.2 m 17 = nI (1 + 0) := by rw [hg]; show upI _ _ _ _ m 17 = _; rw [upI_at, if_neg (by decide), upI_at, if_pos rfl]
  have g4 : g.2 m 14 = h.2 r 0 := by rw [hg]; show upI _ _ _ _ m 14 = _; rw [upI_at, if_pos rfl, upI_ne (by omega)]
  have e1 : g.1 = h.1 := by rw [hg]
  obtain ⟨h1, a1, a2, a3, a4, a5, a6⟩ := puts_now1 hr 3398 0 FF g (by omega) (show 3398 < 1000000 by decide) (M.eq e1) ((kh_eq e1 r).trans kr) ((lh_eq e1 r).trans lr) g3
  have e2 : h1.1 = h.1 := a2.trans e1
  obtain ⟨h', b1, b2, b3, b4, b6⟩ := puts_all1 hr 16 0 (FF - 3398 - 1) h1 (by omega) (show 3400 * 16 < 1000000 - 3398 - 1 by decide) (M.eq e2) ((kh_eq e2 r).trans kr) ((lh_eq e2 r).trans lr) (by rw [a5])
  refine ⟨h', ?_, b2.trans e2, fun a q1 q2 q3 => by rw [b3 a q1 (by omega), a3 a q1 q2, g1 a q1], fun j q q2 => by rw [b4 j q, a4 j q, g2 j q q2], ?_, fun j q => ?_, fun v j q1 q2 => ?_⟩
  · unfold fX10_putsAll kX10_putsAll_0
    have u14 : upI h.2 m 17 0 m 14 = h.2 m 14 := by rw [upI_at, if_neg (by decide)]
    rw [if_pos M.k, u14, L, bI_s, if_pos (show kH (h.1, _) m = 18 from M.k), ← hg]
    exact a1.trans b1
  · rw [b4 14 (by decide), a4 14 (by decide)]
    exact g4
  · rw [b3 _ (by omega) (by omega), a6, if_pos (by omega), g1 _ (by omega)]
  · rw [b6 v j (by omega) q1 q2, a3 _ (by omega) (by omega), g1 _ (by omega)]
theorem MS.kepr (M : MS h m) {g : Nat} (hg : g < 3) : rH h m 25 = m + 137 ∧ kH h (m + 137) = 7 ∧ lH h (m + 137) = 3 ∧ rH h (m + 137) g = m + 138 + g ∧ kH h (m + 138 + g) = 1 ∧ lH h (m + 138 + g) = 57767 := by
  have br := M.kep.2 g hg
  have er2 : m + 137 + 1 + g = m + 138 + g := by omega
  rw [er2] at br
  exact ⟨M.kep.1.1, M.kep.1.2.1, M.kep.1.2.2, br.1, br.2.1, br.2.2⟩
theorem mi_full (A : RW h m S z T n ls fp rs rf hi im) (h3 : im.length = 3) : fX10_image m h = some (.inl (some (.int (-1))), th0 h m) := by
  have e16 : upI h.2 m 0 0 m 16 = nI im.length := A.th0.2.2.2.1
  rw [h3] at e16
  unfold fX10_image kX10_image_0
  rw [if_pos A.1.1.k, e16, if_neg (show ¬ ¬ nI 3 = 3 from fun q => q rfl)]
theorem mi_go (A : RW h m S z T n ls fp rs rf hi im) (h3 : im.length < 3) : ∃ h', fX10_image m h = some (.inl (some (.int (nI (im.length + 1)))), h') ∧ Gm h h' m ∧ h'.2 m 0 = 0 ∧ RW h' m S z T n ls fp rs rf hi (im ++ [(S, hi)]) := by
  have A0 := A.th0
  obtain ⟨⟨M, R, Z⟩, ⟨⟨a1, a2, a3, a4⟩, a5, ⟨a6, a7⟩, a8⟩, ⟨b1, b2, b3⟩, c1, c2, c3⟩ := A0
  obtain ⟨k1, k2, k3', k4, k5, k6⟩ := M.kepr h3
  obtain ⟨h5, d1, d2, d3, d4, d5, d6, d7⟩ := m_puts0 (r := m + 138 + im.length) (by omega) M k5 k6
  have c1' : upI h.2 m 0 0 m 16 = nI im.length := c1
  have f16 : h5.2 m 16 = nI im.length := by rw [d4 16 (by decide)]; exact c1
  obtain ⟨h', hh'⟩ : ∃ h' : Hp, h' = (h5.1, upI h5.2 m 16 (nI (im.length + 1))) := ⟨_, rfl⟩
  have e' : h'.1 = (th0 h m).1 := by rw [hh']; exact d2
  have n' : ∀ a, a ≠ m → a ≠ m + 138 + im.length → h'.2 a = (th0 h m).2 a := fun a q1 q2 => by rw [hh']; show upI _ _ _ _ a = _; rw [upI_ne q1]; exact d3 a q1 q2
  have r' : h'.2 (m + 138 + im.length) = h5.2 (m + 138 + im.length) := by rw [hh']; exact upI_ne (by omega)
  have m' : ∀ j, j ≠ 16 → j ≠ 17 → h'.2 m j = (th0 h m).2 m j := fun j w1 w2 => by rw [hh']; show upI _ _ _ _ m j = _; rw [upI_at, if_neg w1]; exact d4 j w2
  refine ⟨h', ?_, ⟨e', fun a q => ?_⟩, ?_, ⟨M.eq e', ?_, ?_⟩, ⟨⟨?_, a2, fun i hi => ?_, a4⟩, ?_, ⟨?_, ?_⟩, fun i hi => ?_⟩, ⟨?_, b2, fun i S' hS => ?_⟩, ?_, ?_, fun g v hv => ?_⟩
  · have k1' : rH h m 25 = m + 137 := k1
    have k2' : kH h (m + 137) = 7 := k2
    have k3'' : lH h (m + 137) = 3 := k3'
    have k4' : rH h (m + 137) im.length = m + 138 + im.length := k4
    unfold fX10_image kX10_image_0
    rw [if_pos A.1.1.k, c1', if_pos (show ¬ nI im.length = 3 by rw [k3, nI_eq (by omega) (by decide)]; omega), k1', if_pos k2', k3'', if_pos (inB_nI h3 (by decide)), nI_clamp (by omega), k4']
    have d1 : fX10_putsAll m (m + 138 + im.length) 0 (h.1, upI h.2 m 0 0) = _ := d1
    rw [d1, bV_s, if_pos (show kH h5 m = 18 by rw [kh_eq d2]; exact A.1.1.k), f16, nI_1, upI_at, if_pos rfl, hh']
  · rw [n' a (by omega) (by omega)]; exact upI_ne (by omega)
  · rw [m' 0 (by decide) (by decide)]; exact th0_0 h m
  · exact R.eq e' (n' _ (by omega) (by omega))
  · rw [m' 11 (by decide) (by decide)]; exact Z
  · rw [m' 1 (by decide) (by decide)]; exact a1
  · rw [n' (m + 1) (by omega) (by omega)]; exact a3 i hi
  · exact a5.cg (m' 13 (by decide) (by decide)) (fun a w1 w2 => n' a (by omega) (by omega))
  · rw [m' 3 (by decide) (by decide)]; exact a6
  · rw [m' 15 (by decide) (by decide)]; exact a7
  · rw [n' (m + 2) (by omega) (by omega)]; exact a8 i hi
  · rw [m' 14 (by decide) (by decide)]; exact b1
  · have hk : i < hi.length := (List.getElem?_eq_some_iff.mp hS).1
    exact (b3 i S' hS).eq e' (n' _ (by omega) (by omega))
  · rw [hh', List.length_append, List.length_singleton]; show upI _ _ _ _ m 16 = _; rw [upI_at, if_pos rfl]
  · rw [List.length_append, List.length_singleton]; omega
  · by_cases eg : g = im.length
    · rw [eg, List.getElem?_append_right (Nat.le_refl _), Nat.sub_self] at hv
      injection hv with hv
      rw [eg, ← hv, r']
      refine ⟨by rw [d5]; exact b1, b2, ⟨R.2.2.1.congr R.2.2.2 (fun j hj => d6 j hj), R.2.2.2⟩, fun i S' hS => ?_⟩
      have hk : i < hi.length := (List.getElem?_eq_some_iff.mp hS).1
      have := b3 i S' hS
      exact ⟨this.2.2.1.congr this.2.2.2 (fun j hj => d7 i j (by omega) hj), this.2.2.2⟩
    · have hk : g < (im ++ [(S, hi)]).length := (List.getElem?_eq_some_iff.mp hv).1
      rw [List.length_append, List.length_singleton] at hk
      rw [List.getElem?_append_left (by omega)] at hv
      rw [n' (m + 138 + g) (by omega) (by omega)]
      exact c3 g v hv
theorem mr_0 (A : RW h m S z T n ls fp rs rf hi im) (h0 : im = []) : fX10_restore m h = some (.inl (some (.int (-1))), th0 h m) := by
  have e16 : upI h.2 m 0 0 m 16 = nI im.length := A.th0.2.2.2.1
  rw [h0] at e16
  unfold fX10_restore kX10_restore_0
  rw [if_pos A.1.1.k, e16, if_neg (show ¬ ¬ nI ([] : List (St × List St)).length = 0 from fun q => q rfl)]
theorem mr_1 {l : List (St × List St)} {v : St × List St} (A : RW h m S z T n ls fp rs rf hi (l ++ [v])) : ∃ h', fX10_restore m h = some (.inl (some (.int (nI l.length))), h') ∧ Gm h h' m ∧ h'.2 m 0 = 0 ∧ RW h' m v.1 z T n ls fp 0 rf v.2 l := by
  have A0 := A.th0
  obtain ⟨⟨M, R, Z⟩, ⟨⟨a1, a2, a3, a4⟩, a5, ⟨a6, a7⟩, a8⟩, ⟨b1, b2, b3⟩, c1, c2, c3⟩ := A0
  rw [List.length_append, List.length_singleton] at c1 c2
  have hsb : nI (l.length + 1) - 1 = nI l.length := sub8 (by omega)
  obtain ⟨k1, k2, k3', k4, k5, k6⟩ := M.kepr (g := l.length) (by omega)
  obtain ⟨v1, v2, ⟨v3, v4⟩, v5⟩ := c3 l.length v (by rw [List.getElem?_append_right (Nat.le_refl _), Nat.sub_self]; rfl)
  obtain ⟨g, hg⟩ : ∃ g : Hp, g = (h.1, upI (upI h.2 m 0 0) m 16 (nI l.length)) := ⟨_, rfl⟩
  have e1 : g.1 = h.1 := by rw [hg]
  have g1 : ∀ a, a ≠ m → g.2 a = (th0 h m).2 a := fun a q => by rw [hg]; exact upI_ne q
  have g2 : ∀ j, j ≠ 16 → g.2 m j = (th0 h m).2 m j := fun j q => by rw [hg]; show upI _ _ _ _ m j = _; rw [upI_at, if_neg q]
  have g16 : g.2 m 16 = nI l.length := by rw [hg]; show upI _ _ _ _ m 16 = _; rw [upI_at, if_pos rfl]
  obtain ⟨h5, d1, d2, d3, d4, d5, d6, d7⟩ := m_puts1 (h := g) (r := m + 138 + l.length) (by omega) (M.eq e1) (by rw [kh_eq e1]; exact k5) (by rw [lh_eq e1]; exact k6)
  have e5 : h5.1 = h.1 := d2.trans e1
  obtain ⟨h', hh'⟩ : ∃ h' : Hp, h' = (h5.1, upI h5.2 m 15 0) := ⟨_, rfl⟩
  have e' : h'.1 = (th0 h m).1 := by rw [hh']; exact e5
  have s' : ∀ a, a ≠ m → h'.2 a = h5.2 a := fun a q => by rw [hh']; exact upI_ne q
  have n' : ∀ a, a ≠ m → a ≠ m + 118 → a < m + 121 ∨ m + 137 ≤ a → h'.2 a = (th0 h m).2 a := fun a q1 q2 q3 => by rw [s' a q1, d3 a q1 q2 q3, g1 a q1]
  have m' : ∀ j, j ≠ 14 → j ≠ 15 → j ≠ 16 → j ≠ 17 → h'.2 m j = (th0 h m).2 m j := fun j w1 w2 w3 w4 => by rw [hh']; show upI _ _ _ _ m j = _; rw [upI_at, if_neg w2, d4 j w4 w1, g2 j w3]
  have m16 : h5.2 m 16 = nI l.length := by rw [d4 16 (by decide) (by decide)]; exact g16
  have rr : g.2 (m + 138 + l.length) = (th0 h m).2 (m + 138 + l.length) := g1 _ (by omega)
  refine ⟨h', ?_, ⟨e', fun a q => ?_⟩, ?_, ⟨M.eq e', ?_, ?_⟩, ⟨⟨?_, a2, fun i hi => ?_, a4⟩, ?_, ⟨?_, ?_⟩, fun i hi => ?_⟩, ⟨?_, v2, fun i S' hS => ?_⟩, ?_, by omega, fun g' v' hv => ?_⟩
  · have c1' : upI h.2 m 0 0 m 16 = nI (l.length + 1) := c1
    have k1' : rH h m 25 = m + 137 := k1
    have k2' : kH h (m + 137) = 7 := k2
    have k3'' : lH h (m + 137) = 3 := k3'
    have k4' : rH h (m + 137) l.length = m + 138 + l.length := k4
    unfold fX10_restore kX10_restore_0
    rw [if_pos A.1.1.k, c1', if_pos (show ¬ nI (l.length + 1) = 0 by rw [nI_eq0 (by omega)]; omega), k1', if_pos k2', hsb, upI_at, if_pos rfl, k3'', if_pos (inB_nI (by omega) (by decide)), nI_clamp (by omega), k4', ← hg, d1, bV_s, if_pos (show kH h5 m = 18 by rw [kh_eq e5]; exact A.1.1.k), upI_at, if_neg (by decide), m16, hh']
  · rw [n' a (by omega) (by omega) (by omega)]; exact upI_ne (by omega)
  · rw [m' 0 (by decide) (by decide) (by decide) (by decide)]; exact th0_0 h m
  · refine ⟨by rw [kh_eq e']; exact R.1, by rw [lh_eq e']; exact R.2.1, v3.congr v4 (fun j hj => ?_), v4⟩
    rw [s' _ (by omega), d6 j hj, rr]
  · rw [m' 11 (by decide) (by decide) (by decide) (by decide)]; exact Z
  · rw [m' 1 (by decide) (by decide) (by decide) (by decide)]; exact a1
  · rw [n' (m + 1) (by omega) (by omega) (by omega)]; exact a3 i hi
  · exact a5.cg (m' 13 (by decide) (by decide) (by decide) (by decide)) (fun a w1 w2 => n' a (by omega) (by omega) (by omega))
  · rw [m' 3 (by decide) (by decide) (by decide) (by decide)]; exact a6
  · rw [hh']; show upI _ _ _ _ m 15 = _; rw [upI_at, if_pos rfl]
  · rw [n' (m + 2) (by omega) (by omega) (by omega)]; exact a8 i hi
  · rw [hh']; show upI _ _ _ _ m 14 = _; rw [upI_at, if_neg (by decide), d5, rr]; exact v1
  · have hk : i < v.2.length := (List.getElem?_eq_some_iff.mp hS).1
    obtain ⟨y1, y2⟩ := v5 i S' hS
    obtain ⟨-, -, -, -, n5, n6⟩ := M.befr (w := i) (by omega)
    refine ⟨by rw [kh_eq e']; exact n5, by rw [lh_eq e']; exact n6, y1.congr y2 (fun j hj => ?_), y2⟩
    rw [s' _ (by omega), d7 i j (by omega) hj, rr]
  · rw [hh']; show upI _ _ _ _ m 16 = _; rw [upI_at, if_neg (by decide)]; exact m16
  · have hk : g' < l.length := (List.getElem?_eq_some_iff.mp hv).1
    rw [n' (m + 138 + g') (by omega) (by omega) (by omega)]
    exact c3 g' v' (by rw [List.getElem?_append_left hk]; exact hv)
end RIR
