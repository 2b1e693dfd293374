/-! ===== what stands behind a word, by the class ===== -/
def FrS (h h' : Hp) (x : Nat) : Prop := h'.1 = h.1 ∧ (∀ a, a < x + 27 ∨ x + 33 ≤ a → h'.2 a = h.2 a) ∧ (∀ j, j ≠ 3 → j ≠ 4 → j ≠ 7 → h'.2 (x + 27) j = h.2 (x + 27) j)
theorem FrS.refl (h : Hp) (x : Nat) : FrS h h x := ⟨rfl, fun _ _ => rfl, fun _ _ _ _ => rfl⟩
theorem FrS.trans {h h1 h2 : Hp} {x : Nat} (a : FrS h h1 x) (b : FrS h1 h2 x) : FrS h h2 x := ⟨b.1.trans a.1, fun y q => by rw [b.2.1 y q, a.2.1 y q], fun j q1 q2 q3 => by rw [b.2.2 j q1 q2 q3, a.2.2 j q1 q2 q3]⟩
theorem FrC.s {h h' : Hp} {x : Nat} (f : FrC h h' x) : FrS h h' x := ⟨f.1, fun a q => f.2.1 a (by omega), f.2.2⟩
section NC
variable {h h' : Hp} {x n : Nat} {T : Nat → Nat} {s : Rd}
theorem CX.frs (X : CX h x T n) (f : FrS h h' x) : CX h' x T n := ⟨X.1.eq f.1, (f.2.2 6 (by decide) (by decide) (by decide)).trans X.2.1, X.2.2.1, fun i hi => by rw [f.2.1 (x + 36) (by omega)]; exact X.2.2.2.1 i hi, X.2.2.2.2⟩
/-- the reader itself is as it was -/
theorem CSt.at (X : CSt h x T n s) (f : FrS h h' x) (e : h'.2 (x + 27) = h.2 (x + 27)) : CSt h' x T n s := by
  cases s with
  | inl p =>
    have X : CP h x T n p := X
    exact ⟨X.1.frs f, by rw [e]; exact X.2.1, by rw [e]; exact X.2.2.1, X.2.2.2⟩
  | inr e' => exact ⟨X.1.frs f, ⟨X.2.1.1, by rw [e]; exact X.2.1.2.1, by rw [e]; exact X.2.1.2.2⟩, X.2.2⟩
theorem CO.scr {h : Hp} {x : Nat} (C : CO h x) : rH h (x + 27) 0 = x + 28 ∧ kH h (x + 28) = 14 ∧ ∀ i, i < 6 → rH h (x + 28) (2 + i) = x + 29 + i ∧ kH h (x + 29 + i) = 1 ∧ lH h (x + 29 + i) = 64 := ⟨C.rdr.2.1.1, C.rdr.2.1.2, fun i hi => C.rdr.2.2.1 i hi⟩
/-- an entry is added to the script -/
theorem c_add (C : CO h x) {j : Nat} (hj : j < 64) (hl : h.2 (x + 28) 1 = nI j) (w a b c : Int32) : ∃ h', fX4_add (x + 28) w a b c h = some (.inl none, h') ∧ FrS h h' x ∧ h'.2 (x + 27) = h.2 (x + 27) ∧ h'.2 (x + 28) 1 = nI (j + 1) ∧ h'.2 (x + 28) 0 = h.2 (x + 28) 0 ∧
    (∀ i, h'.2 (x + 29) i = if i = j then w else h.2 (x + 29) i) ∧ (∀ i, h'.2 (x + 30) i = if i = j then a else h.2 (x + 30) i) ∧ (∀ i, h'.2 (x + 31) i = if i = j then b else h.2 (x + 31) i) ∧ (∀ i, h'.2 (x + 32) i = if i = j then c else h.2 (x + 32) i) := by
  obtain ⟨s1, s2, s3⟩ := C.scr
  obtain ⟨o1, o2, o3⟩ := s3 0 (by decide)
  obtain ⟨a1, a2, a3⟩ := s3 1 (by decide)
  obtain ⟨b1, b2, b3⟩ := s3 2 (by decide)
  obtain ⟨c1, c2, c3⟩ := s3 3 (by decide)
  have o1 : rH h (x + 28) 2 = x + 29 := o1
  have o2 : kH h (x + 29) = 1 := o2
  have o3 : lH h (x + 29) = 64 := o3
  have a1 : rH h (x + 28) 3 = x + 30 := a1
  have a2 : kH h (x + 30) = 1 := a2
  have a3 : lH h (x + 30) = 64 := a3
  have b1 : rH h (x + 28) 4 = x + 31 := b1
  have b2 : kH h (x + 31) = 1 := b2
  have b3 : lH h (x + 31) = 64 := b3
  have c1 : rH h (x + 28) 5 = x + 32 := c1
  have c2 : kH h (x + 32) = 1 := c2
  have c3 : lH h (x + 32) = 64 := c3
  refine ⟨(h.1, upI (upI (upI (upI (upI h.2 (x + 29) j w) (x + 30) j a) (x + 31) j b) (x + 32) j c) (x + 28) 1 (nI (j + 1))), ?_, ⟨rfl, fun y q => ?_, fun i _ _ _ => ?_⟩, ?_, ?_, ?_, fun i => ?_, fun i => ?_, fun i => ?_, fun i => ?_⟩
  · have u1 : upI h.2 (x + 29) j w (x + 28) 1 = nI j := by rw [upI_ne (by omega)]; exact hl
    have u2 : upI (upI h.2 (x + 29) j w) (x + 30) j a (x + 28) 1 = nI j := by rw [upI_ne (by omega)]; exact u1
    have u3 : upI (upI (upI h.2 (x + 29) j w) (x + 30) j a) (x + 31) j b (x + 28) 1 = nI j := by rw [upI_ne (by omega)]; exact u2
    have u4 : upI (upI (upI (upI h.2 (x + 29) j w) (x + 30) j a) (x + 31) j b) (x + 32) j c (x + 28) 1 = nI j := by rw [upI_ne (by omega)]; exact u3
    unfold fX4_add kX4_add_0
    rw [if_pos s2, hl, if_neg (by rw [k64, nI_leI (by decide) (by omega)]; omega), o1, if_pos o2, o3, if_pos (inB_nI hj (by decide)), a1, if_pos a2, a3, nI_clamp (by omega), u1, if_pos (inB_nI hj (by decide)), nI_clamp (by omega), letH_s, b1, if_pos b2, b3, u2, if_pos (inB_nI hj (by decide)), c1, if_pos c2, c3, nI_clamp (by omega), u3, if_pos (inB_nI hj (by decide)), nI_clamp (by omega), letH_s, u4, nI_1]
  · show upI _ _ _ _ y = _
    rw [upI_ne (by omega), upI_ne (by omega), upI_ne (by omega), upI_ne (by omega), upI_ne (by omega)]
  · show upI _ _ _ _ (x + 27) i = _
    rw [upI_ne (by omega), upI_ne (by omega), upI_ne (by omega), upI_ne (by omega), upI_ne (by omega)]
  · show upI _ _ _ _ (x + 27) = _
    rw [upI_ne (by omega), upI_ne (by omega), upI_ne (by omega), upI_ne (by omega), upI_ne (by omega)]
  · show upI _ _ _ _ (x + 28) 1 = _
    rw [upI_at, if_pos rfl]
  · show upI _ _ _ _ (x + 28) 0 = _
    rw [upI_at, if_neg (by decide), upI_ne (by omega), upI_ne (by omega), upI_ne (by omega), upI_ne (by omega)]
  · show upI _ _ _ _ (x + 29) i = _
    rw [upI_ne (by omega), upI_ne (by omega), upI_ne (by omega), upI_ne (by omega), upI_at]
  · show upI _ _ _ _ (x + 30) i = _
    rw [upI_ne (by omega), upI_ne (by omega), upI_ne (by omega), upI_at, upI_ne (by omega)]
  · show upI _ _ _ _ (x + 31) i = _
    rw [upI_ne (by omega), upI_ne (by omega), upI_at, upI_ne (by omega), upI_ne (by omega)]
  · show upI _ _ _ _ (x + 32) i = _
    rw [upI_ne (by omega), upI_at, upI_ne (by omega), upI_ne (by omega), upI_ne (by omega)]
/-- what was added -/
def addd (h h' : Hp) (x j w : Nat) (v : Nat × Nat × Nat) : Prop := h'.2 (x + 28) 1 = nI (j + 1) ∧ h'.2 (x + 28) 0 = h.2 (x + 28) 0 ∧ (∀ i, h'.2 (x + 29) i = if i = j then nI w else h.2 (x + 29) i) ∧ (∀ i, h'.2 (x + 30) i = if i = j then nI v.1 else h.2 (x + 30) i) ∧ (∀ i, h'.2 (x + 31) i = if i = j then nI v.2.1 else h.2 (x + 31) i) ∧ (∀ i, h'.2 (x + 32) i = if i = j then nI v.2.2 else h.2 (x + 32) i)
/-- reading alone leaves the script -/
theorem c_nums_end {h g : Hp} (X : CSt g x T n s) (f : FrC h g x) {j w : Nat} (hj : j < 64) (hl : h.2 (x + 28) 1 = nI j) (v : Nat × Nat × Nat) (q : Nat) : ∃ h', gX3_readNumbers (q + 1) 194 [.ref (x + 27), .int (nI w), .int (nI v.1), .int (nI v.2.1), .int (nI v.2.2)] [] g = some (.inl none, h') ∧ FrS h h' x ∧ CSt h' x T n s ∧ addd h h' x j w v := by
  have C := X.cx.1
  obtain ⟨s1, s2, -⟩ := C.scr
  have e : ∀ a, a ≠ x + 27 → g.2 a = h.2 a := f.2.1
  obtain ⟨h', a1, a2, a3, a4, a5, a6, a7, a8, a9⟩ := c_add C hj (by rw [e _ (by omega)]; exact hl) (nI w) (nI v.1) (nI v.2.1) (nI v.2.2)
  refine ⟨h', ?_, f.s.trans a2, X.at a2 a3, a4, by rw [a5, e _ (by omega)], fun i => by rw [a6, e _ (by omega)], fun i => by rw [a7, e _ (by omega)], fun i => by rw [a8, e _ (by omega)], fun i => by rw [a9, e _ (by omega)]⟩
  rw [zX3_readNumbers_194]
  unfold kX3_readNumbers_194
  rw [if_pos X.cx.k, s1, if_pos s2, a1, bV_s]

theorem c_nums_0 (X : CSt h x T n s) {j : Nat} (hj : j < 64) (hl : h.2 (x + 28) 1 = nI j) : ∃ h', fX3_readNumbers (x + 27) (nI 0) h = some (.inl none, h') ∧ FrS h h' x ∧ CSt h' x T n (nums T n 0 s).2 ∧ addd h h' x j 0 (nums T n 0 s).1 := by
  unfold fX3_readNumbers kX3_readNumbers_0
  obtain ⟨z0, g0, a1, a2, a3, a4⟩ := cs_num X (lo := 0) (hi := 11) (by decide) (by decide)
  have a1 : fX3_readNumber (x + 27) 0 11 h = _ := a1
  rw [if_neg (by decide), if_neg (by decide), if_pos X.cx.k, a1, bI_s, a4, show FF = 999998 + 1 + 1 from rfl, zX3_readNumbers_25]
  unfold kX3_readNumbers_25
  rw [if_pos (show nI 0 = (0 : Int32) from rfl)]
  obtain ⟨z1, g1, b1, c1, d1, e1⟩ := cs_num a3 (lo := 1) (hi := 99) (by decide) (by decide)
  have b1 : fX3_readNumber (x + 27) 1 99 g0 = _ := b1
  rw [if_pos a3.cx.k, b1, bI_s, e1]
  exact c_nums_end d1 (a2.trans c1) hj hl (nums T n 0 s).1 999998
theorem c_nums_1 (X : CSt h x T n s) {j : Nat} (hj : j < 64) (hl : h.2 (x + 28) 1 = nI j) : ∃ h', fX3_readNumbers (x + 27) (nI 1) h = some (.inl none, h') ∧ FrS h h' x ∧ CSt h' x T n (nums T n 1 s).2 ∧ addd h h' x j 1 (nums T n 1 s).1 := by
  unfold fX3_readNumbers kX3_readNumbers_0
  obtain ⟨z0, g0, a1, a2, a3, a4⟩ := cs_num X (lo := 0) (hi := 11) (by decide) (by decide)
  have a1 : fX3_readNumber (x + 27) 0 11 h = _ := a1
  rw [if_neg (by decide), if_neg (by decide), if_pos X.cx.k, a1, bI_s, a4, show FF = 999998 + 1 + 1 from rfl, zX3_readNumbers_25]
  unfold kX3_readNumbers_25
  rw [if_neg (by decide), if_pos (show nI 1 = (1 : Int32) from rfl)]
  obtain ⟨z1, g1, b1, c1, d1, e1⟩ := cs_num a3 (lo := 1) (hi := 99) (by decide) (by decide)
  have b1 : fX3_readNumber (x + 27) 1 99 g0 = _ := b1
  rw [if_pos a3.cx.k, b1, bI_s, e1]
  exact c_nums_end d1 (a2.trans c1) hj hl (nums T n 1 s).1 999998
theorem c_nums_2 (X : CSt h x T n s) {j : Nat} (hj : j < 64) (hl : h.2 (x + 28) 1 = nI j) : ∃ h', fX3_readNumbers (x + 27) (nI 2) h = some (.inl none, h') ∧ FrS h h' x ∧ CSt h' x T n (nums T n 2 s).2 ∧ addd h h' x j 2 (nums T n 2 s).1 := by
  unfold fX3_readNumbers kX3_readNumbers_0
  obtain ⟨z0, g0, a1, a2, a3, a4⟩ := cs_num X (lo := 0) (hi := 11) (by decide) (by decide)
  have a1 : fX3_readNumber (x + 27) 0 11 h = _ := a1
  rw [if_neg (by decide), if_neg (by decide), if_pos X.cx.k, a1, bI_s, a4, show FF = 999998 + 1 + 1 from rfl, zX3_readNumbers_25]
  unfold kX3_readNumbers_25
  rw [if_neg (by decide), if_neg (by decide), if_pos (show nI 2 = (2 : Int32) from rfl)]
  obtain ⟨z1, g1, b1, c1, d1, e1⟩ := cs_num a3 (lo := 1) (hi := 99) (by decide) (by decide)
  have b1 : fX3_readNumber (x + 27) 1 99 g0 = _ := b1
  rw [if_pos a3.cx.k, b1, bI_s, e1]
  obtain ⟨z2, g2, b2, c2, d2, e2⟩ := cs_num d1 (lo := 0) (hi := 11) (by decide) (by decide)
  have b2 : fX3_readNumber (x + 27) 0 11 g1 = _ := b2
  rw [if_pos d1.cx.k, b2, bI_s, e2]
  exact c_nums_end d2 ((a2.trans c1).trans c2) hj hl (nums T n 2 s).1 999998
theorem c_nums_3 (X : CSt h x T n s) {j : Nat} (hj : j < 64) (hl : h.2 (x + 28) 1 = nI j) : ∃ h', fX3_readNumbers (x + 27) (nI 3) h = some (.inl none, h') ∧ FrS h h' x ∧ CSt h' x T n (nums T n 3 s).2 ∧ addd h h' x j 3 (nums T n 3 s).1 := by
  unfold fX3_readNumbers kX3_readNumbers_0
  obtain ⟨z0, g0, a1, a2, a3, a4⟩ := cs_num X (lo := 0) (hi := 11) (by decide) (by decide)
  have a1 : fX3_readNumber (x + 27) 0 11 h = _ := a1
  rw [if_neg (by decide), if_neg (by decide), if_pos X.cx.k, a1, bI_s, a4, show FF = 999998 + 1 + 1 from rfl, zX3_readNumbers_25]
  unfold kX3_readNumbers_25
  rw [if_neg (by decide), if_neg (by decide), if_neg (by decide), if_pos (show nI 3 = (3 : Int32) from rfl)]
  obtain ⟨z1, g1, b1, c1, d1, e1⟩ := cs_num a3 (lo := 0) (hi := 99) (by decide) (by decide)
  have b1 : fX3_readNumber (x + 27) 0 99 g0 = _ := b1
  rw [if_pos a3.cx.k, b1, bI_s, e1]
  exact c_nums_end d1 (a2.trans c1) hj hl (nums T n 3 s).1 999998
theorem c_nums_4 (X : CSt h x T n s) {j : Nat} (hj : j < 64) (hl : h.2 (x + 28) 1 = nI j) : ∃ h', fX3_readNumbers (x + 27) (nI 4) h = some (.inl none, h') ∧ FrS h h' x ∧ CSt h' x T n (nums T n 4 s).2 ∧ addd h h' x j 4 (nums T n 4 s).1 := by
  unfold fX3_readNumbers kX3_readNumbers_0
  obtain ⟨z0, g0, a1, a2, a3, a4⟩ := cs_num X (lo := 0) (hi := 11) (by decide) (by decide)
  have a1 : fX3_readNumber (x + 27) 0 11 h = _ := a1
  rw [if_neg (by decide), if_neg (by decide), if_pos X.cx.k, a1, bI_s, a4, show FF = 999998 + 1 + 1 from rfl, zX3_readNumbers_25]
  unfold kX3_readNumbers_25
  rw [if_neg (by decide), if_neg (by decide), if_neg (by decide), if_neg (by decide), if_pos (show nI 4 = (4 : Int32) from rfl)]
  obtain ⟨z1, g1, b1, c1, d1, e1⟩ := cs_num a3 (lo := 0) (hi := 31) (by decide) (by decide)
  have b1 : fX3_readNumber (x + 27) 0 31 g0 = _ := b1
  rw [if_pos a3.cx.k, b1, bI_s, e1]
  obtain ⟨z2, g2, b2, c2, d2, e2⟩ := cs_num d1 (lo := 0) (hi := 99) (by decide) (by decide)
  have b2 : fX3_readNumber (x + 27) 0 99 g1 = _ := b2
  rw [if_pos d1.cx.k, b2, bI_s, e2]
  exact c_nums_end d2 ((a2.trans c1).trans c2) hj hl (nums T n 4 s).1 999998
theorem c_nums_5 (X : CSt h x T n s) {j : Nat} (hj : j < 64) (hl : h.2 (x + 28) 1 = nI j) : ∃ h', fX3_readNumbers (x + 27) (nI 5) h = some (.inl none, h') ∧ FrS h h' x ∧ CSt h' x T n (nums T n 5 s).2 ∧ addd h h' x j 5 (nums T n 5 s).1 := by
  unfold fX3_readNumbers kX3_readNumbers_0
  obtain ⟨z0, g0, a1, a2, a3, a4⟩ := cs_num X (lo := 0) (hi := 11) (by decide) (by decide)
  have a1 : fX3_readNumber (x + 27) 0 11 h = _ := a1
  rw [if_neg (by decide), if_neg (by decide), if_pos X.cx.k, a1, bI_s, a4, show FF = 999998 + 1 + 1 from rfl, zX3_readNumbers_25]
  unfold kX3_readNumbers_25
  rw [if_neg (by decide), if_neg (by decide), if_neg (by decide), if_neg (by decide), if_neg (by decide), if_pos (show nI 5 = (5 : Int32) from rfl)]
  exact c_nums_end a3 a2 hj hl (nums T n 5 s).1 999998
theorem c_nums_6 (X : CSt h x T n s) {j : Nat} (hj : j < 64) (hl : h.2 (x + 28) 1 = nI j) : ∃ h', fX3_readNumbers (x + 27) (nI 6) h = some (.inl none, h') ∧ FrS h h' x ∧ CSt h' x T n (nums T n 6 s).2 ∧ addd h h' x j 6 (nums T n 6 s).1 := by
  unfold fX3_readNumbers kX3_readNumbers_0
  obtain ⟨z0, g0, a1, a2, a3, a4⟩ := cs_num X (lo := 0) (hi := 11) (by decide) (by decide)
  have a1 : fX3_readNumber (x + 27) 0 11 h = _ := a1
  rw [if_neg (by decide), if_neg (by decide), if_pos X.cx.k, a1, bI_s, a4, show FF = 999998 + 1 + 1 from rfl, zX3_readNumbers_25]
  unfold kX3_readNumbers_25
  rw [if_neg (by decide), if_neg (by decide), if_neg (by decide), if_neg (by decide), if_neg (by decide), if_neg (by decide), if_pos (show nI 6 = (6 : Int32) from rfl)]
  obtain ⟨z1, g1, b1, c1, d1, e1⟩ := cs_num a3 (lo := 1) (hi := 99) (by decide) (by decide)
  have b1 : fX3_readNumber (x + 27) 1 99 g0 = _ := b1
  rw [if_pos a3.cx.k, b1, bI_s, e1]
  exact c_nums_end d1 (a2.trans c1) hj hl (nums T n 6 s).1 999998
theorem c_nums_7 (X : CSt h x T n s) {j : Nat} (hj : j < 64) (hl : h.2 (x + 28) 1 = nI j) : ∃ h', fX3_readNumbers (x + 27) (nI 7) h = some (.inl none, h') ∧ FrS h h' x ∧ CSt h' x T n (nums T n 10 s).2 ∧ addd h h' x j 7 (nums T n 10 s).1 := by
  unfold fX3_readNumbers kX3_readNumbers_0
  rw [if_neg (by decide), if_pos (by decide), show FF = 999998 + 1 + 1 from rfl, zX3_readNumbers_25]
  unfold kX3_readNumbers_25
  rw [if_neg (by decide), if_neg (by decide), if_neg (by decide), if_neg (by decide), if_neg (by decide), if_neg (by decide), if_neg (by decide), if_pos (show nI 7 = (7 : Int32) from rfl)]
  exact c_nums_end X (FrC.refl h x) hj hl (nums T n 10 s).1 999998
theorem c_nums_8 (X : CSt h x T n s) {j : Nat} (hj : j < 64) (hl : h.2 (x + 28) 1 = nI j) : ∃ h', fX3_readNumbers (x + 27) (nI 8) h = some (.inl none, h') ∧ FrS h h' x ∧ CSt h' x T n (nums T n 7 s).2 ∧ addd h h' x j 8 (nums T n 7 s).1 := by
  unfold fX3_readNumbers kX3_readNumbers_0
  rw [if_neg (by decide), if_pos (by decide), show FF = 999998 + 1 + 1 from rfl, zX3_readNumbers_25]
  unfold kX3_readNumbers_25
  rw [if_neg (by decide), if_neg (by decide), if_neg (by decide), if_neg (by decide), if_neg (by decide), if_neg (by decide), if_neg (by decide), if_neg (by decide), if_pos (show nI 8 = (8 : Int32) from rfl)]
  obtain ⟨z1, g1, b1, c1, d1, e1⟩ := cs_num X (lo := 0) (hi := 15) (by decide) (by decide)
  have b1 : fX3_readNumber (x + 27) 0 15 h = _ := b1
  rw [if_pos X.cx.k, b1, bI_s, e1]
  exact c_nums_end d1 c1 hj hl (nums T n 7 s).1 999998
theorem c_nums_9 (X : CSt h x T n s) {j : Nat} (hj : j < 64) (hl : h.2 (x + 28) 1 = nI j) : ∃ h', fX3_readNumbers (x + 27) (nI 9) h = some (.inl none, h') ∧ FrS h h' x ∧ CSt h' x T n (nums T n 8 s).2 ∧ addd h h' x j 9 (nums T n 8 s).1 := by
  unfold fX3_readNumbers kX3_readNumbers_0
  rw [if_neg (by decide), if_pos (by decide), show FF = 999998 + 1 + 1 from rfl, zX3_readNumbers_25]
  unfold kX3_readNumbers_25
  rw [if_neg (by decide), if_neg (by decide), if_neg (by decide), if_neg (by decide), if_neg (by decide), if_neg (by decide), if_neg (by decide), if_neg (by decide), if_neg (by decide), if_pos (show nI 9 = (9 : Int32) from rfl)]
  exact c_nums_end X (FrC.refl h x) hj hl (nums T n 8 s).1 999998
theorem c_nums_10 (X : CSt h x T n s) {j : Nat} (hj : j < 64) (hl : h.2 (x + 28) 1 = nI j) : ∃ h', fX3_readNumbers (x + 27) (nI 10) h = some (.inl none, h') ∧ FrS h h' x ∧ CSt h' x T n (nums T n 9 s).2 ∧ addd h h' x j 10 (nums T n 9 s).1 := by
  unfold fX3_readNumbers kX3_readNumbers_0
  rw [if_neg (by decide), if_pos (by decide), show FF = 999998 + 1 + 1 from rfl, zX3_readNumbers_25]
  unfold kX3_readNumbers_25
  rw [if_neg (by decide), if_neg (by decide), if_neg (by decide), if_neg (by decide), if_neg (by decide), if_neg (by decide), if_neg (by decide), if_neg (by decide), if_neg (by decide), if_neg (by decide), if_pos (show nI 10 = (10 : Int32) from rfl)]
  exact c_nums_end X (FrC.refl h x) hj hl (nums T n 9 s).1 999998
theorem c_nums_11 (X : CSt h x T n s) {j : Nat} (hj : j < 64) (hl : h.2 (x + 28) 1 = nI j) : ∃ h', fX3_readNumbers (x + 27) (nI 11) h = some (.inl none, h') ∧ FrS h h' x ∧ CSt h' x T n (nums T n 11 s).2 ∧ addd h h' x j 11 (nums T n 11 s).1 := by
  unfold fX3_readNumbers kX3_readNumbers_0
  rw [if_neg (by decide), if_pos (by decide), show FF = 999998 + 1 + 1 from rfl, zX3_readNumbers_25]
  unfold kX3_readNumbers_25
  rw [if_neg (by decide), if_neg (by decide), if_neg (by decide), if_neg (by decide), if_neg (by decide), if_neg (by decide), if_neg (by decide), if_neg (by decide), if_neg (by decide), if_neg (by decide), if_neg (by decide), if_pos (show nI 11 = (11 : Int32) from rfl)]
  obtain ⟨z1, g1, b1, c1, d1, e1⟩ := cs_num X (lo := 0) (hi := 60) (by decide) (by decide)
  have b1 : fX3_readNumber (x + 27) 0 60 h = _ := b1
  rw [if_pos X.cx.k, b1, bI_s, e1]
  exact c_nums_end d1 c1 hj hl (nums T n 11 s).1 999998
theorem c_nums (X : CSt h x T n s) {w j : Nat} (hw : w ≤ 11) (hj : j < 64) (hl : h.2 (x + 28) 1 = nI j) : ∃ h', fX3_readNumbers (x + 27) (nI w) h = some (.inl none, h') ∧ FrS h h' x ∧ CSt h' x T n (nums T n (rop w) s).2 ∧ addd h h' x j w (nums T n (rop w) s).1 := by
  have hx : w = 0 ∨ w = 1 ∨ w = 2 ∨ w = 3 ∨ w = 4 ∨ w = 5 ∨ w = 6 ∨ w = 7 ∨ w = 8 ∨ w = 9 ∨ w = 10 ∨ w = 11 := by omega
  rcases hx with rfl | rfl | rfl | rfl | rfl | rfl | rfl | rfl | rfl | rfl | rfl | rfl
  · exact c_nums_0 X hj hl
  · exact c_nums_1 X hj hl
  · exact c_nums_2 X hj hl
  · exact c_nums_3 X hj hl
  · exact c_nums_4 X hj hl
  · exact c_nums_5 X hj hl
  · exact c_nums_6 X hj hl
  · exact c_nums_7 X hj hl
  · exact c_nums_8 X hj hl
  · exact c_nums_9 X hj hl
  · exact c_nums_10 X hj hl
  · exact c_nums_11 X hj hl
theorem c_size (X : CSt h x T n s) : ∃ h', fX3_readNumbers (x + 27) (nI 12) h = some (.inl none, h') ∧ FrS h h' x ∧ CSt h' x T n (pS T n 6 16 s).2 ∧ h'.2 (x + 28) 0 = nI (pS T n 6 16 s).1 ∧ h'.2 (x + 28) 1 = h.2 (x + 28) 1 ∧ (∀ a, x + 29 ≤ a → h'.2 a = h.2 a) := by
  obtain ⟨z1, g1, b1, c1, d1, e1⟩ := cs_num X (lo := 6) (hi := 16) (by decide) (by decide)
  have b1 : fX3_readNumber (x + 27) 6 16 h = _ := b1
  have C := d1.cx.1
  obtain ⟨s1, s2, -⟩ := C.scr
  have f2 : FrS g1 (g1.1, upI g1.2 (x + 28) 0 (nI (pS T n 6 16 s).1)) x := ⟨rfl, fun a q => upI_ne (by omega), fun j _ _ _ => by show upI _ _ _ _ (x + 27) j = _; rw [upI_ne (by omega)]⟩
  refine ⟨(g1.1, upI g1.2 (x + 28) 0 (nI (pS T n 6 16 s).1)), ?_, c1.s.trans f2, d1.at f2 (upI_ne (by omega)), ?_, ?_, fun a q => ?_⟩
  · unfold fX3_readNumbers kX3_readNumbers_0
    rw [if_neg (by decide), if_pos (by decide), show FF = 999999 + 1 from rfl, zX3_readNumbers_25]
    unfold kX3_readNumbers_25
    rw [if_neg (by decide), if_neg (by decide), if_neg (by decide), if_neg (by decide), if_neg (by decide), if_neg (by decide), if_neg (by decide), if_neg (by decide), if_neg (by decide), if_neg (by decide), if_neg (by decide), if_neg (by decide), if_pos (show nI 12 = (12 : Int32) from rfl), if_pos X.cx.k, b1, bI_s, if_pos d1.cx.k, s1, if_pos s2, e1]
  · show upI _ _ _ _ (x + 28) 0 = _
    rw [upI_at, if_pos rfl]
  · show upI _ _ _ _ (x + 28) 1 = _
    rw [upI_at, if_neg (by decide), c1.2.1 _ (by omega)]
  · show upI _ _ _ _ a = _
    rw [upI_ne (by omega), c1.2.1 _ (by omega)]
end NC
