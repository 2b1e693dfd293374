/-! ===== feed, both sides ===== -/
/-- a byte of a number: the eight bits from s on -/
def byt (a : Int32) (s : Nat) : Nat := ((a.toBitVec >>> s) &&& 255#32).toNat
theorem byt_lt (a : Int32) (s : Nat) : byt a s < 256 := by
  unfold byt
  rw [BitVec.toNat_and]
  exact Nat.lt_of_le_of_lt Nat.and_le_right (by decide)
theorem bv_nat (v : BitVec 32) : BitVec.ofNat 32 v.toNat = v := by
  apply BitVec.eq_of_toNat_eq
  rw [BitVec.toNat_ofNat]
  exact Nat.mod_eq_of_lt v.isLt
theorem byt_nI (a : Int32) (s : Nat) : (nI (byt a s)).toBitVec = (a.toBitVec >>> s) &&& 255#32 := by
  rw [nI_bv]
  exact bv_nat _
theorem i8_all : ∀ v : Fin 256, ((nI v.val).toInt8.toInt32).toInt8.toInt32 = cby v.val := by decide +kernel
theorem i8_and (a : Int32) : (a &&& 255).toInt8 = a.toInt8 := by
  apply Int8.toBitVec_inj.mp
  rw [Int32.toBitVec_toInt8, Int32.toBitVec_toInt8, Int32.toBitVec_and]
  apply BitVec.eq_of_getLsbD_eq
  intro i hi
  have h255 : ∀ j : Fin 8, (Int32.toBitVec 255).getLsbD j.val = true := by decide
  rw [BitVec.getLsbD_signExtend, BitVec.getLsbD_signExtend, if_pos (by omega), if_pos (by omega), BitVec.getLsbD_and, h255 ⟨i, hi⟩, Bool.and_true]
theorem ush_bv (a : Int32) {s : Nat} (hs : s < 32) : (ushr a (nI s)).toBitVec = a.toBitVec >>> s := by
  unfold ushr
  show (a.toUInt32 >>> ((nI s).toUInt32 &&& Int32.toUInt32 31)).toBitVec = _
  rw [UInt32.toBitVec_shiftRight, UInt32.toBitVec_and]
  have e : ∀ k : Fin 32, (((nI k.val).toUInt32.toBitVec &&& (Int32.toUInt32 31).toBitVec) % 32).toNat = k.val := by decide +kernel
  show a.toBitVec >>> (((nI s).toUInt32.toBitVec &&& (Int32.toUInt32 31).toBitVec) % 32).toNat = _
  rw [e ⟨s, hs⟩]
theorem ush_and (a : Int32) {s : Nat} (hs : s < 32) : ushr a (nI s) &&& 255 = nI (byt a s) := by
  apply Int32.toBitVec_inj.mp
  rw [byt_nI, Int32.toBitVec_and, ush_bv a hs]
  rfl
theorem cls_byte (a : Int32) {s : Nat} (hs : s < 32) : ((ushr a (nI s)).toInt8.toInt32).toInt8.toInt32 = cby (byt a s) := by
  rw [← i8_and (ushr a (nI s)), ush_and a hs]
  exact i8_all ⟨byt a s, byt_lt a s⟩
theorem ref_byte (a : Int32) {s : Nat} (hs : s ≤ 24) : (a >>> nI s) &&& 255 = nI (byt a s) := by
  apply Int32.toBitVec_inj.mp
  rw [byt_nI]
  have e : (a >>> nI s).toBitVec = a.toBitVec.sshiftRight s := by
    rw [Int32.toBitVec_shiftRight]
    have : ∀ k : Fin 25, ((nI k.val).toBitVec.smod 32#32).toNat = k.val := by decide +kernel
    have := this ⟨s, by omega⟩
    show a.toBitVec.sshiftRight ((nI s).toBitVec.smod 32#32).toNat = _
    rw [this]
  rw [Int32.toBitVec_and, e]
  apply BitVec.eq_of_getLsbD_eq
  intro i hi
  rw [BitVec.getLsbD_and, BitVec.getLsbD_and, BitVec.getLsbD_sshiftRight, BitVec.getLsbD_ushiftRight]
  by_cases h8 : i < 8
  · have : s + i < 32 := by omega
    have h32 : ¬ 32 ≤ i := by omega
    simp [this, hi, h32]
  · have h255 : ∀ j : Fin 32, 8 ≤ j.val → (Int32.toBitVec 255).getLsbD j.val = false := by decide
    have h255' : ∀ j : Fin 32, 8 ≤ j.val → (255#32).getLsbD j.val = false := by decide
    rw [h255 ⟨i, hi⟩ (by show 8 ≤ i; omega), h255' ⟨i, hi⟩ (by show 8 ≤ i; omega), Bool.and_false, Bool.and_false]
def fdA (a b c d e : Int32) (k : Nat) : Int32 := if k < 4 then a else if k < 8 then b else if k < 12 then c else if k < 16 then d else e
def fdT (T : Nat → Nat) (n : Nat) (a b c d e : Int32) : Nat → Nat := fun i => if i < n then T i else byt (fdA a b c d e (i - n)) (24 - 8 * ((i - n) % 4))
theorem fdT_lt {T : Nat → Nat} {n : Nat} (hT : ∀ i, i < n → T i < 256) (a b c d e : Int32) (i : Nat) : fdT T n a b c d e i < 256 := by
  unfold fdT
  split
  · rename_i q; exact hT i q
  · exact byt_lt _ _
section FD
variable {h h' : Hp} {x B z n m : Nat} {bl : Nat → Nat} {S : St} {T : Nat → Nat} {ls : List (Nat × Nat)} {fp rs : Int32} {rf : Nat → Int32} {hi : List St} {im : List (St × List St)}
theorem fd1 {k s f : Nat} (C : CO h x) (e : h.2 x 12 = nI k) (hk : k < 600) (hs : s < 32) (a : Int32) : gX9_feedNumber (f + 1) 3 [.ref x, .int a, .int (nI s)] [] h = gX9_feedNumber f 3 [.ref x, .int a, .int (nI s + (-8))] [] (h.1, upI (upI h.2 (x + 26) k (cby (byt a s))) x 12 (nI (k + 1))) := by
  obtain ⟨t1, t2, t3⟩ := C.tape
  rw [zX9_feedNumber_3]
  unfold kX9_feedNumber_3
  rw [if_neg (by rw [nI_lt0 (by omega)]; exact id), if_pos C.k, e, if_neg (show ¬ (600 : Int32) ≤ nI k by rw [show (600 : Int32) = nI 600 from rfl, nI_leI (by decide) (by omega)]; omega), t1, if_pos t2, t3, if_pos (inB_nI hk (by decide)), nI_clamp (by omega), letH_s, cls_byte a hs, upI_ne (by omega), e, nI_1]
/-- one number -/
theorem fd4 {k : Nat} (C : CO h x) (e : h.2 x 12 = nI k) (hk : k + 4 ≤ 600) (a : Int32) : ∃ h', fX9_feedNumber x a h = some (.inl none, h') ∧ h'.1 = h.1 ∧ (∀ y, y ≠ x → y ≠ x + 26 → h'.2 y = h.2 y) ∧ (∀ j, j ≠ 12 → h'.2 x j = h.2 x j) ∧ h'.2 x 12 = nI (k + 4) ∧ (∀ j, j < 4 → h'.2 (x + 26) (k + j) = cby (byt a (24 - 8 * j))) ∧ ∀ j, j < k → h'.2 (x + 26) j = h.2 (x + 26) j := by
  let h1 : Hp := (h.1, upI (upI h.2 (x + 26) k (cby (byt a 24))) x 12 (nI (k + 1)))
  let h2 : Hp := (h1.1, upI (upI h1.2 (x + 26) (k + 1) (cby (byt a 16))) x 12 (nI (k + 1 + 1)))
  let h3 : Hp := (h2.1, upI (upI h2.2 (x + 26) (k + 1 + 1) (cby (byt a 8))) x 12 (nI (k + 1 + 1 + 1)))
  let h4 : Hp := (h3.1, upI (upI h3.2 (x + 26) (k + 1 + 1 + 1) (cby (byt a 0))) x 12 (nI (k + 1 + 1 + 1 + 1)))
  have x1 : h1.2 x 12 = nI (k + 1) := by show upI _ _ _ _ x 12 = _; rw [upI_at, if_pos rfl]
  have x2 : h2.2 x 12 = nI (k + 1 + 1) := by show upI _ _ _ _ x 12 = _; rw [upI_at, if_pos rfl]
  have x3 : h3.2 x 12 = nI (k + 1 + 1 + 1) := by show upI _ _ _ _ x 12 = _; rw [upI_at, if_pos rfl]
  have tp : ∀ (g : Hp) (q : Nat) (v w : Int32) (j : Nat), (upI (upI g.2 (x + 26) q v) x 12 w) (x + 26) j = if j = q then v else g.2 (x + 26) j := fun g q v w j => by rw [upI_ne (by omega), upI_at]
  refine ⟨h4, ?_, rfl, fun y q1 q2 => ?_, fun j q => ?_, ?_, fun j hj => ?_, fun j hj => ?_⟩
  · unfold fX9_feedNumber kX9_feedNumber_0
    show gX9_feedNumber (999995 + 1 + 1 + 1 + 1 + 1) 3 [.ref x, .int a, .int (nI 24)] [] h = _
    rw [fd1 C e (by omega) (by decide), show nI 24 + (-8) = nI 16 by decide, fd1 (h := h1) (k := k + 1) (C.eq rfl) x1 (by omega) (by decide), show nI 16 + (-8) = nI 8 by decide, fd1 (h := h2) (k := k + 1 + 1) (C.eq rfl) x2 (by omega) (by decide), show nI 8 + (-8) = nI 0 by decide, fd1 (h := h3) (k := k + 1 + 1 + 1) (C.eq rfl) x3 (by omega) (by decide), zX9_feedNumber_3]
    unfold kX9_feedNumber_3
    rw [if_pos (by decide)]
  · show upI _ _ _ _ y = _
    rw [upI_ne q1, upI_ne q2]
    show upI _ _ _ _ y = _
    rw [upI_ne q1, upI_ne q2]
    show upI _ _ _ _ y = _
    rw [upI_ne q1, upI_ne q2]
    show upI _ _ _ _ y = _
    rw [upI_ne q1, upI_ne q2]
  · show upI _ _ _ _ x j = _
    rw [upI_at, if_neg q, upI_ne (by omega)]
    show upI _ _ _ _ x j = _
    rw [upI_at, if_neg q, upI_ne (by omega)]
    show upI _ _ _ _ x j = _
    rw [upI_at, if_neg q, upI_ne (by omega)]
    show upI _ _ _ _ x j = _
    rw [upI_at, if_neg q, upI_ne (by omega)]
  · show upI _ _ _ _ x 12 = _
    rw [upI_at, if_pos rfl]
  · show (upI (upI h3.2 (x + 26) _ _) x 12 _) (x + 26) (k + j) = _
    rw [tp h3]
    have hj : j = 0 ∨ j = 1 ∨ j = 2 ∨ j = 3 := by omega
    rcases hj with rfl | rfl | rfl | rfl
    · rw [if_neg (by omega)]
      show (upI (upI h2.2 (x + 26) _ _) x 12 _) (x + 26) (k + 0) = _
      rw [tp h2, if_neg (by omega)]
      show (upI (upI h1.2 (x + 26) _ _) x 12 _) (x + 26) (k + 0) = _
      rw [tp h1, if_neg (by omega)]
      show (upI (upI h.2 (x + 26) _ _) x 12 _) (x + 26) (k + 0) = _
      rw [tp h, if_pos (by omega)]
    · rw [if_neg (by omega)]
      show (upI (upI h2.2 (x + 26) _ _) x 12 _) (x + 26) (k + 1) = _
      rw [tp h2, if_neg (by omega)]
      show (upI (upI h1.2 (x + 26) _ _) x 12 _) (x + 26) (k + 1) = _
      rw [tp h1, if_pos (by omega)]
    · rw [if_neg (by omega)]
      show (upI (upI h2.2 (x + 26) _ _) x 12 _) (x + 26) (k + 2) = _
      rw [tp h2, if_pos (by omega)]
    · rw [if_pos (by omega)]
  · show (upI (upI h3.2 (x + 26) _ _) x 12 _) (x + 26) j = _
    rw [tp h3, if_neg (by omega)]
    show (upI (upI h2.2 (x + 26) _ _) x 12 _) (x + 26) j = _
    rw [tp h2, if_neg (by omega)]
    show (upI (upI h1.2 (x + 26) _ _) x 12 _) (x + 26) j = _
    rw [tp h1, if_neg (by omega)]
    show (upI (upI h.2 (x + 26) _ _) x 12 _) (x + 26) j = _
    rw [tp h, if_neg (by omega)]
theorem cf_no (A : CW h x B bl S z T n ls fp rs rf hi im) (hn : 580 < n) (a b c d e : Int32) : fX9_feed x a b c d e h = some (.inl (some (.int (-1))), h) := by
  unfold fX9_feed kX9_feed_0
  have := A.2.1.1.2.1
  rw [if_pos A.1.1.k, A.2.1.1.1, if_neg (show ¬ nI n ≤ (580 : Int32) by rw [show (580 : Int32) = nI 580 from rfl, nI_leI (by omega) (by decide)]; omega)]
theorem cf_go (A : CW h x B bl S z T n ls fp rs rf hi im) (hn : n ≤ 580) (a b c d e : Int32) : ∃ h', fX9_feed x a b c d e h = some (.inl (some (.int (nI (n + 20)))), h') ∧ h'.1 = h.1 ∧ CW h' x B bl S z (fdT T n a b c d e) (n + 20) ls fp rs rf hi im ∧ KC h h' x B := by
  have C := A.1.1
  have b1 := A.2.2.1.1
  obtain ⟨⟨m1, m2, m3, m4⟩, ⟨⟨m5, m6⟩, m7⟩, ⟨m8, m9⟩, m10⟩ := A.2.1
  obtain ⟨h1, a1, a2, a3, a4, a5, a6, a7⟩ := fd4 C m1 (by omega) a
  obtain ⟨h2, b1', b2, b3, b4, b5, b6, b7⟩ := fd4 (C.eq a2) a5 (by omega) b
  obtain ⟨h3, c1, c2, c3, c4, c5, c6, c7⟩ := fd4 ((C.eq a2).eq b2) b5 (by omega) c
  obtain ⟨h4, d1, d2, d3, d4, d5, d6, d7⟩ := fd4 (((C.eq a2).eq b2).eq c2) c5 (by omega) d
  obtain ⟨h5, e1, e2, e3, e4, e5, e6, e7⟩ := fd4 ((((C.eq a2).eq b2).eq c2).eq d2) d5 (by omega) e
  have q1 : h5.1 = h.1 := e2.trans (d2.trans (c2.trans (b2.trans a2)))
  have q2 : ∀ y, y ≠ x → y ≠ x + 26 → h5.2 y = h.2 y := fun y w1 w2 => by rw [e3 y w1 w2, d3 y w1 w2, c3 y w1 w2, b3 y w1 w2, a3 y w1 w2]
  have q3 : ∀ j, j ≠ 12 → h5.2 x j = h.2 x j := fun j w => by rw [e4 j w, d4 j w, c4 j w, b4 j w, a4 j w]
  have q4 : h5.2 x 12 = nI (n + 20) := by rw [e5]
  refine ⟨h5, ?_, q1, ?_, KC.of q1 (fun y w1 w2 => q2 y (by omega) (by omega))⟩
  · unfold fX9_feed kX9_feed_0
    rw [if_pos C.k, m1, if_pos (show nI n ≤ (580 : Int32) by rw [show (580 : Int32) = nI 580 from rfl, nI_leI (by omega) (by decide)]; exact hn), a1, bV_s, if_pos (C.eq a2).k, b1', bV_s, if_pos ((C.eq a2).eq b2).k, c1, bV_s, if_pos (((C.eq a2).eq b2).eq c2).k, d1, bV_s, if_pos ((((C.eq a2).eq b2).eq c2).eq d2).k, e1, bV_s, if_pos (C.eq q1).k, q4]
  · refine A.re q1 (Sta.eqs q1 (fun y w1 w2 => q2 y (by omega) (by omega)) A.1.2) ⟨⟨q4, by omega, fun i hi => ?_, fun i hi => fdT_lt m4 a b c d e i⟩, ⟨⟨m5, fun p hp => by rw [q2 (x + 38) (by omega) (by omega)]; exact m6 p hp⟩, by rw [q3 13 (by decide)]; exact m7⟩, ⟨by rw [q3 14 (by decide)]; exact m8, by rw [q3 15 (by decide)]; exact m9⟩, fun i hi => by rw [q2 (x + 41) (by omega) (by omega)]; exact m10 i hi⟩ (fun y w => q2 y (by omega) (by omega)) (q3 11 (by decide))
    unfold fdT fdA
    by_cases w0 : i < n
    · rw [if_pos w0, e7 i (by omega), d7 i (by omega), c7 i (by omega), b7 i (by omega), a7 i w0]
      exact m3 i w0
    · rw [if_neg w0]
      obtain ⟨k, rfl⟩ : ∃ k, i = n + k := ⟨i - n, by omega⟩
      rw [show n + k - n = k by omega]
      by_cases w1 : k < 4
      · rw [if_pos w1, e7 _ (by omega), d7 _ (by omega), c7 _ (by omega), b7 _ (by omega), a6 k w1, Nat.mod_eq_of_lt w1]
      · rw [if_neg w1]
        by_cases w2 : k < 8
        · rw [if_pos w2, e7 _ (by omega), d7 _ (by omega), c7 _ (by omega), show n + k = n + 4 + (k - 4) by omega, b6 (k - 4) (by omega), show k % 4 = k - 4 by omega]
        · rw [if_neg w2]
          by_cases w3 : k < 12
          · rw [if_pos w3, e7 _ (by omega), d7 _ (by omega), show n + k = n + 4 + 4 + (k - 8) by omega, c6 (k - 8) (by omega), show k % 4 = k - 8 by omega]
          · rw [if_neg w3]
            by_cases w4 : k < 16
            · rw [if_pos w4, e7 _ (by omega), show n + k = n + 4 + 4 + 4 + (k - 12) by omega, d6 (k - 12) (by omega), show k % 4 = k - 12 by omega]
            · rw [if_neg w4, show n + k = n + 4 + 4 + 4 + 4 + (k - 16) by omega, e6 (k - 16) (by omega), show k % 4 = k - 16 by omega]
theorem shf : ∀ k : Fin 20, (24 - (8 * (nI k.val - nI k.val / 4 * 4))) &&& 31 = nI (24 - 8 * (k.val % 4)) := by decide +kernel
theorem mf_go1 {a b c d e : Int32} : ∀ (w k fl : Nat) (h : Hp), k + w = 20 → 2 * w < fl → MS h m → n + 20 ≤ 600 → h.2 m 1 = nI (n + k) →
    ∃ h', gX10_feed fl 23 [.ref m, .int a, .int b, .int c, .int d, .int e, .int (nI k), uV] [] h = some (.inl (some (.int (nI (n + 20)))), h') ∧ h'.1 = h.1 ∧ (∀ y, y ≠ m → y ≠ m + 1 → h'.2 y = h.2 y) ∧ (∀ j, j ≠ 1 → h'.2 m j = h.2 m j) ∧ h'.2 m 1 = nI (n + 20) ∧ (∀ j, j < n + k → h'.2 (m + 1) j = h.2 (m + 1) j) ∧ ∀ j, k ≤ j → j < 20 → h'.2 (m + 1) (n + j) = nI (byt (fdA a b c d e j) (24 - 8 * (j % 4))) := by
  intro w
  induction w with
  | zero =>
    intro k fl h hk hfl M hn e1
    obtain ⟨fl, rfl⟩ := sc (show 0 < fl by omega)
    have hk20 : k = 20 := by omega
    subst hk20
    refine ⟨h, ?_, rfl, fun _ _ _ => rfl, fun _ _ => rfl, e1, fun _ _ => rfl, fun j q1 q2 => by omega⟩
    rw [zX10_feed_23]
    unfold kX10_feed_23
    rw [if_pos (show (20 : Int32) ≤ nI 20 by decide), if_pos M.k, e1]
  | succ w ih =>
    intro k fl h hk hfl M hn e1
    obtain ⟨fl, rfl⟩ : ∃ g, fl = g + 1 + 1 := ⟨fl - 2, by omega⟩
    obtain ⟨f1, f2, f3⟩ := M.fed
    have st : gX10_feed (fl + 1 + 1) 23 [.ref m, .int a, .int b, .int c, .int d, .int e, .int (nI k), uV] [] h = gX10_feed (fl + 1) 76 [.ref m, .int a, .int b, .int c, .int d, .int e, .int (nI k), uV] [.int (fdA a b c d e k)] h := by
      rw [zX10_feed_23]
      unfold kX10_feed_23 fdA
      rw [if_neg (show ¬ (20 : Int32) ≤ nI k by rw [k20, nI_leI (by decide) (by omega)]; omega)]
      by_cases w1 : k < 4
      · rw [if_neg (show ¬ (4 : Int32) ≤ nI k by rw [k4, nI_leI (by decide) (by omega)]; omega), if_pos w1]
      · rw [if_pos (show (4 : Int32) ≤ nI k by rw [k4, nI_leI (by decide) (by omega)]; omega), if_neg w1]
        by_cases w2 : k < 8
        · rw [if_neg (show ¬ (8 : Int32) ≤ nI k by rw [k8, nI_leI (by decide) (by omega)]; omega), if_pos w2]
        · rw [if_pos (show (8 : Int32) ≤ nI k by rw [k8, nI_leI (by decide) (by omega)]; omega), if_neg w2]
          by_cases w3 : k < 12
          · rw [if_neg (show ¬ (12 : Int32) ≤ nI k by rw [k12, nI_leI (by decide) (by omega)]; omega), if_pos w3]
          · rw [if_pos (show (12 : Int32) ≤ nI k by rw [k12, nI_leI (by decide) (by omega)]; omega), if_neg w3]
            by_cases w4 : k < 16
            · rw [if_neg (show ¬ (16 : Int32) ≤ nI k by rw [k16, nI_leI (by decide) (by omega)]; omega), if_pos w4]
            · rw [if_pos (show (16 : Int32) ≤ nI k by rw [k16, nI_leI (by decide) (by omega)]; omega), if_neg w4]
    obtain ⟨h', i1, i2, i3, i4, i5, i6, i7⟩ := ih (k + 1) fl (h.1, upI (upI h.2 (m + 1) (n + k) (nI (byt (fdA a b c d e k) (24 - 8 * (k % 4))))) m 1 (nI (n + k + 1))) (by omega) (by omega) (M.eq rfl) hn (by show upI _ _ _ _ m 1 = _; rw [upI_at, if_pos rfl]; rfl)
    have tp : ∀ j, (upI (upI h.2 (m + 1) (n + k) (nI (byt (fdA a b c d e k) (24 - 8 * (k % 4))))) m 1 (nI (n + k + 1))) (m + 1) j = if j = n + k then nI (byt (fdA a b c d e k) (24 - 8 * (k % 4))) else h.2 (m + 1) j := fun j => by rw [upI_ne (by omega), upI_at]
    refine ⟨h', ?_, i2, fun y q1 q2 => ?_, fun j q => ?_, i5, fun j q => ?_, fun j q1 q2 => ?_⟩
    · rw [st, zX10_feed_76]
      unfold kX10_feed_76
      have sh := shf ⟨k, by omega⟩
      have sh : (24 - (8 * (nI k - nI k / 4 * 4))) &&& 31 = nI (24 - 8 * (k % 4)) := sh
      rw [if_pos M.k, f1, if_pos f2, e1, f3, if_pos (inB_nI (by omega) (by decide)), nI_clamp (by omega), sh, ref_byte _ (by omega), letH_s, upI_ne (by omega), e1, nI_1, nI_1, i1]
    · rw [i3 y q1 q2]
      show upI _ _ _ _ y = _
      rw [upI_ne q1, upI_ne q2]
    · rw [i4 j q]
      show upI _ _ _ _ m j = _
      rw [upI_at, if_neg q, upI_ne (by omega)]
    · rw [i6 j (by omega)]
      show (upI (upI h.2 (m + 1) _ _) m 1 _) (m + 1) j = _
      rw [tp j, if_neg (by omega)]
    · by_cases ej : j = k
      · rw [ej, i6 (n + k) (by omega)]
        show (upI (upI h.2 (m + 1) _ _) m 1 _) (m + 1) (n + k) = _
        rw [tp, if_pos rfl]
      · exact i7 j (by omega) q2
theorem mf_no (A : RW h m S z T n ls fp rs rf hi im) (hn : 580 < n) (a b c d e : Int32) : fX10_feed m a b c d e h = some (.inl (some (.int (-1))), th0 h m) := by
  have := A.2.1.1.2.1
  have e1 : upI h.2 m 0 0 m 1 = nI n := A.th0.2.1.1.1
  unfold fX10_feed kX10_feed_0
  rw [if_pos A.1.1.k, e1, if_neg (show ¬ nI n + 20 ≤ 600 by rw [k20, nI_add, show (600 : Int32) = nI 600 from rfl, nI_leI (by omega) (by decide)]; omega)]
theorem mf_go (A : RW h m S z T n ls fp rs rf hi im) (hn : n ≤ 580) (a b c d e : Int32) : ∃ h', fX10_feed m a b c d e h = some (.inl (some (.int (nI (n + 20)))), h') ∧ Gm h h' m ∧ h'.2 m 0 = 0 ∧ RW h' m S z (fdT T n a b c d e) (n + 20) ls fp rs rf hi im := by
  have A0 := A.th0
  have e1 : upI h.2 m 0 0 m 1 = nI n := A0.2.1.1.1
  obtain ⟨h', i1, i2, i3, i4, i5, i6, i7⟩ := mf_go1 (n := n) (a := a) (b := b) (c := c) (d := d) (e := e) 20 0 FF (th0 h m) (by omega) (show 2 * 20 < 1000000 by decide) A0.1.1 (by omega) A0.2.1.1.1
  obtain ⟨⟨M, R, Z⟩, ⟨⟨a1, a2, a3, a4⟩, a5, ⟨a6, a7⟩, a8⟩, ⟨b1, b2, b3⟩, c1, c2, c3⟩ := A0
  refine ⟨h', ?_, ⟨i2, fun y q => ?_⟩, ?_, ⟨M.eq i2, R.eq i2 (i3 _ (by omega) (by omega)), by rw [i4 11 (by decide)]; exact Z⟩, ⟨⟨i5, by omega, fun i hi => ?_, fun i hi => fdT_lt a4 a b c d e i⟩, a5.cg (i4 13 (by decide)) (fun y q1 q2 => i3 y (by omega) (by omega)), ⟨by rw [i4 3 (by decide)]; exact a6, by rw [i4 15 (by decide)]; exact a7⟩, fun i hi => by rw [i3 (m + 2) (by omega) (by omega)]; exact a8 i hi⟩, ⟨by rw [i4 14 (by decide)]; exact b1, b2, fun i S' hS => ?_⟩, by rw [i4 16 (by decide)]; exact c1, c2, fun g v hv => ?_⟩
  · unfold fX10_feed kX10_feed_0
    rw [if_pos A.1.1.k, e1, if_pos (show nI n + 20 ≤ 600 by rw [k20, nI_add, show (600 : Int32) = nI 600 from rfl, nI_leI (by omega) (by decide)]; omega)]
    exact i1
  · rw [i3 y (by omega) (by omega)]
    exact upI_ne (by omega)
  · rw [i4 0 (by decide)]
    exact th0_0 h m
  · unfold fdT
    by_cases w0 : i < n
    · rw [if_pos w0, i6 i (by omega)]
      exact a3 i w0
    · rw [if_neg w0]
      obtain ⟨k, rfl⟩ : ∃ k, i = n + k := ⟨i - n, by omega⟩
      rw [show n + k - n = k by omega]
      exact i7 k (by omega) (by omega)
  · have hk : i < hi.length := (List.getElem?_eq_some_iff.mp hS).1
    exact (b3 i S' hS).eq i2 (i3 _ (by omega) (by omega))
  · have hk : g < im.length := (List.getElem?_eq_some_iff.mp hv).1
    rw [i3 (m + 138 + g) (by omega) (by omega)]
    exact c3 g v hv
end FD
