/-! ===== answers: what both sides say to a question ===== -/
abbrev An : Type := Int32 ⊕ (String × Nat × Int32)
/-- the class refuses: counted, and an exception is made -/
def thr (h : Hp) (x i : Nat) : Hp := nwH (h.1, upI h.2 (x + 41) i (h.2 (x + 41) i + 1)) 30 0 (if i = 2 then 8 else 6)
/-- the reference refuses -/
def bdM (h : Hp) (m i : Nat) (w : Int32) : Hp := (h.1, upI (upI (upI h.2 m 0 0) m 0 w) (m + 2) i (h.2 (m + 2) i + 1))
def ClsA (r : RS) (h : Hp) (x : Nat) (a : An) : Prop := match a with
  | .inl v => ∃ h', r = some (.inl (some (.int v)), h') ∧ Scr h h' x
  | .inr (E, i, _) => r = some (.inr E, thr h x i)
def RefA (r : RS) (h : Hp) (m : Nat) (a : An) : Prop := match a with
  | .inl v => ∃ h', r = some (.inl (some (.int v)), h') ∧ ScM h h' m ∧ h'.2 m 0 = 0
  | .inr (_, i, w) => r = some (.inl (some (.int 0)), bdM h m i w)
def IA (w : Int32) : An := .inr (xIA, 1, w)
def IO3 (w : Int32) : An := .inr (xIO, 3, w)
def NS0 (w : Int32) : An := .inr (xNS, 0, w)
def NP2 (w : Int32) : An := .inr (xNP, 2, w)
theorem clsA_i {r : RS} {h h' : Hp} {x : Nat} {v : Int32} (e : r = some (.inl (some (.int v)), h')) (s : Scr h h' x) : ClsA r h x (.inl v) := ⟨h', e, s⟩
theorem refA_i {r : RS} {h h' : Hp} {m : Nat} {v : Int32} (e : r = some (.inl (some (.int v)), h')) (s : ScM h h' m) (t : h'.2 m 0 = 0) : RefA r h m (.inl v) := ⟨h', e, s, t⟩
/-- what a question to the class begins with -/
def CQ (h : Hp) (x : Nat) (S : St) (z : Nat) : Prop := CO h x ∧ Sta h (x + 1) S z
def RQ (h : Hp) (m : Nat) (S : St) (z : Nat) : Prop := MS h m ∧ Row h (m + 118) S ∧ h.2 m 11 = nI z
theorem CO.k {h : Hp} {x : Nat} (C : CO h x) : kH h x = 19 := C.1
theorem CO.r0 {h : Hp} {x : Nat} (C : CO h x) : rH h x 0 = x + 1 := C.2.1.1
theorem CO.so {h : Hp} {x : Nat} (C : CO h x) : SO h (x + 1) := C.2.1.2
theorem CO.r4 {h : Hp} {x : Nat} (C : CO h x) : rH h x 4 = x + 15 := C.2.2.2.2.2.1.1
theorem CO.pen {h : Hp} {x : Nat} (C : CO h x) : PO h (x + 15) := C.2.2.2.2.2.1.2
theorem CO.r5 {h : Hp} {x : Nat} (C : CO h x) : rH h x 5 = x + 20 := C.2.2.2.2.2.2.1.1
theorem CO.stp {h : Hp} {x : Nat} (C : CO h x) : TO h (x + 20) := C.2.2.2.2.2.2.1.2
theorem CO.tape {h : Hp} {x : Nat} (C : CO h x) : ARR h x 6 (x + 26) 2 600 := C.2.2.2.2.2.2.2.1
theorem CO.r7 {h : Hp} {x : Nat} (C : CO h x) : rH h x 7 = x + 27 := C.2.2.2.2.2.2.2.2.1.1
theorem CO.rdr {h : Hp} {x : Nat} (C : CO h x) : DO h (x + 27) := C.2.2.2.2.2.2.2.2.1.2
theorem CO.book {h : Hp} {x : Nat} (C : CO h x) : ARR h x 8 (x + 38) 1 16 := C.2.2.2.2.2.2.2.2.2.1
theorem CO.cps {h : Hp} {x : Nat} (C : CO h x) : ARR h x 9 (x + 39) 2 256 := C.2.2.2.2.2.2.2.2.2.2.1
theorem CO.rfd {h : Hp} {x : Nat} (C : CO h x) : ARR h x 10 (x + 41) 1 4 := C.2.2.2.2.2.2.2.2.2.2.2.1
theorem CO.kno {h : Hp} {x : Nat} (C : CO h x) : ARR h x 16 (x + 40) 1 12 := C.2.2.2.2.2.2.2.2.2.2.2.2
theorem CO.spa {h : Hp} {x : Nat} (C : CO h x) : ARR h x 3 (x + 14) 5 5 := C.2.2.2.2.1.1
theorem CO.spr {h : Hp} {x : Nat} (C : CO h x) {i : Nat} (hi : i < 5) : rH h (x + 14) i = x + 42 + 10 * i ∧ SO h (x + 42 + 10 * i) := C.2.2.2.2.1.2 i hi
theorem CO.his {h : Hp} {x : Nat} (C : CO h x) : (rH h x 1 = x + 11 ∧ kH h (x + 11) = 10) ∧ ARR h (x + 11) 0 (x + 12) 5 16 := C.2.2.1
theorem CO.img {h : Hp} {x : Nat} (C : CO h x) : ARR h x 2 (x + 13) 6 3 := C.2.2.2.1
theorem MS.mo {h : Hp} {m : Nat} (M : MS h m) : MO h m := M.1
theorem MS.k {h : Hp} {m : Nat} (M : MS h m) : kH h m = 18 := M.1.1
theorem MS.fed {h : Hp} {m : Nat} (M : MS h m) : ARR h m 9 (m + 1) 1 600 := M.2.1
theorem MS.rfd {h : Hp} {m : Nat} (M : MS h m) : ARR h m 10 (m + 2) 1 4 := M.2.2.1
theorem MS.lin {h : Hp} {m : Nat} (M : MS h m) : ARR h m 19 (m + 3) 7 16 ∧ ROWS h (m + 3) 16 2 := M.2.2.2.1
theorem MS.rdl {h : Hp} {m : Nat} (M : MS h m) : ARR h m 20 (m + 20) 7 16 ∧ ROWS h (m + 20) 16 2 := M.2.2.2.2.1
theorem MS.stp {h : Hp} {m : Nat} (M : MS h m) : ARR h m 21 (m + 37) 7 80 ∧ ROWS h (m + 37) 80 5 := M.2.2.2.2.2.1
theorem MS.now {h : Hp} {m : Nat} (M : MS h m) : ARR h m 22 (m + 118) 1 3398 := M.2.2.2.2.2.2.1
theorem MS.tri {h : Hp} {m : Nat} (M : MS h m) : ARR h m 23 (m + 119) 1 3398 := M.2.2.2.2.2.2.2.1
theorem MS.bef {h : Hp} {m : Nat} (M : MS h m) : ARR h m 24 (m + 120) 7 16 ∧ ROWS h (m + 120) 16 3398 := M.2.2.2.2.2.2.2.2.1
theorem MS.kep {h : Hp} {m : Nat} (M : MS h m) : ARR h m 25 (m + 137) 7 3 ∧ ROWS h (m + 137) 3 57767 := M.2.2.2.2.2.2.2.2.2.1
theorem MS.dee {h : Hp} {m : Nat} (M : MS h m) : ARR h m 26 (m + 141) 7 5 ∧ ROWS h (m + 141) 5 3398 := M.2.2.2.2.2.2.2.2.2.2.1
theorem MS.see {h : Hp} {m : Nat} (M : MS h m) : ARR h m 35 (m + 150) 1 256 := M.2.2.2.2.2.2.2.2.2.2.2.1
theorem MS.drw {h : Hp} {m : Nat} (M : MS h m) : ARR h m 37 (m + 151) 1 5 := M.2.2.2.2.2.2.2.2.2.2.2.2
/-- thrown is 0, first -/
abbrev th0 (h : Hp) (m : Nat) : Hp := (h.1, upI h.2 m 0 0)
section G1
variable {h : Hp} {x m z k : Nat} {S : St} {a b c d : Int32}
theorem RQ.th0 (Q : RQ h m S z) : RQ (th0 h m) m S z := by
  obtain ⟨q1, q2, q3⟩ := Q
  exact ⟨q1.eq rfl, q2.up (upI_ne (by omega)), by show upI h.2 m 0 0 m 11 = _; rw [upI_at, if_neg (by decide)]; exact q3⟩
theorem th0_0 (h : Hp) (m : Nat) : (th0 h m).2 m 0 = 0 := by show upI h.2 m 0 0 m 0 = 0; rw [upI_at, if_pos rfl]
theorem scm_th0 (h : Hp) (m : Nat) : ScM h (th0 h m) m := ⟨rfl, fun y hy => upI_ne (by unfold perM at hy; omega), fun j hj => by show upI h.2 m 0 0 m j = _; rw [upI_at, if_neg (by unfold perF at hj; omega)]⟩
theorem nn_of {a : Int32} (h : 0 ≤ a) : ∃ n : Nat, n < 2 ^ 31 ∧ a = nI n := by
  refine ⟨a.toNatClampNeg, ?_, ?_⟩
  · have := a.toBitVec.isLt
    unfold Int32.toNatClampNeg
    have h2 := Int32.toInt_lt a
    omega
  · apply Int32.toInt_inj.mp
    have h0 : 0 ≤ a.toInt := by
      have := Int32.le_iff_toInt_le.mp h
      simpa using this
    have h2 := Int32.toInt_lt a
    unfold nI Int32.toNatClampNeg
    rw [Int32.toInt_ofNat_of_lt (by omega)]
    omega
theorem rg_of {a : Int32} {n : Nat} (hn : n < 2 ^ 31) (h : 0 ≤ a ∧ a ≤ nI n) : ∃ k : Nat, k ≤ n ∧ a = nI k := by
  obtain ⟨k, h1, h2⟩ := nn_of h.1
  refine ⟨k, ?_, h2⟩
  have h3 := h.2
  rw [h2, nI_leI h1 hn] at h3
  exact h3
theorem rl_of {a : Int32} {n : Nat} (hn : n < 2 ^ 31) (h : 0 ≤ a ∧ a < nI n) : ∃ k : Nat, k < n ∧ a = nI k := by
  obtain ⟨k, h1, h2⟩ := nn_of h.1
  refine ⟨k, ?_, h2⟩
  have h3 := h.2
  rw [h2, nI_ltI h1 hn] at h3
  exact h3
theorem t_rng (C : CO h x) (a lo hi : Int32) : fX9_testRange x a lo hi h = if lo ≤ a ∧ a ≤ hi then some (.inl none, h) else some (.inr xIA, thr h x 1) := by
  obtain ⟨r1, r2, r3⟩ := C.rfd
  unfold fX9_testRange kX9_testRange_0
  rw [r1, r2, r3, C.k]
  by_cases h1 : a < lo
  · rw [if_pos h1, if_pos rfl, if_pos rfl, if_pos (by decide), if_neg (fun q => Int32.not_le.mpr h1 q.1)]
    rfl
  · rw [if_neg h1]
    by_cases h2 : a ≤ hi
    · rw [if_pos h2, if_pos ⟨Int32.not_lt.mp h1, h2⟩]
    · rw [if_neg h2, if_pos rfl, if_pos rfl, if_pos (by decide), if_neg (fun q => h2 q.2)]
      rfl
theorem t_wht (C : CO h x) (a hi : Int32) : fX9_testWhat x a hi h = if 0 ≤ a ∧ a ≤ hi then some (.inl none, h) else some (.inr xIA, thr h x 1) := by
  unfold fX9_testWhat kX9_testWhat_0
  rw [if_pos C.k, t_rng C]
  split <;> rfl
theorem t_whr (C : CO h x) (a : Int32) : fX9_testWhere x a h = if 0 ≤ a ∧ a ≤ nI 1 then some (.inl none, h) else some (.inr xIA, thr h x 1) := by
  unfold fX9_testWhere kX9_testWhere_0
  rw [if_pos C.k, t_rng C]
  show _ = if 0 ≤ a ∧ a ≤ (1 : Int32) then some (Sum.inl none, h) else some (Sum.inr xIA, thr h x 1)
  split <;> rfl
theorem t_blk (Q : CQ h x S z) (a : Int32) : fX9_testBlock x a h = if 0 ≤ a ∧ a < nI z then some (.inl none, h) else some (.inr xIO, thr h x 3) := by
  obtain ⟨C, R⟩ := Q
  obtain ⟨r1, r2, r3⟩ := C.rfd
  unfold fX9_testBlock kX9_testBlock_0
  rw [r1, r2, r3, C.k, C.r0, R.so.1, R.sz]
  by_cases h1 : a < 0
  · rw [if_pos h1, if_pos rfl, if_pos rfl, if_pos (by decide), if_neg (fun q => Int32.not_le.mpr h1 q.1)]
    rfl
  · rw [if_neg h1, if_pos rfl, if_pos rfl]
    by_cases h2 : a < nI z
    · rw [if_pos h2, if_pos ⟨Int32.not_lt.mp h1, h2⟩]
    · rw [if_neg h2, if_pos rfl, if_pos (by decide), if_neg (fun q => h2 q.2)]
      rfl
theorem t_plc (C : CO h x) (a : Int32) : fX9_testPlace x a h = if 0 ≤ a ∧ a < nI 16 then some (.inl none, h) else some (.inr xIO, thr h x 3) := by
  obtain ⟨r1, r2, r3⟩ := C.rfd
  unfold fX9_testPlace kX9_testPlace_0
  rw [r1, r2, r3, C.k]
  by_cases h1 : a < 0
  · rw [if_pos h1, if_pos rfl, if_pos rfl, if_pos (by decide), if_neg (fun q => Int32.not_le.mpr h1 q.1)]
    rfl
  · rw [if_neg h1]
    show (if a < nI 16 then _ else _) = _
    by_cases h2 : a < nI 16
    · rw [if_pos h2, if_pos ⟨Int32.not_lt.mp h1, h2⟩]
    · rw [if_neg h2, if_pos rfl, if_pos rfl, if_pos (by decide), if_neg (fun q => h2 q.2)]
      rfl
theorem m_in (a lo hi : Int32) (h : Hp) : fX10_in a lo hi h = some (.inl (some (.int (b2i (decide (lo ≤ a ∧ a ≤ hi))))), h) := by
  unfold fX10_in kX10_in_0
  by_cases h1 : a < lo
  · rw [if_pos h1, decide_eq_false (fun q => Int32.not_le.mpr h1 q.1)]
    rfl
  · rw [if_neg h1]
    by_cases h2 : hi < a
    · rw [if_pos h2, decide_eq_false (fun q => Int32.not_le.mpr h2 q.2)]
      rfl
    · rw [if_neg h2, decide_eq_true ⟨Int32.not_lt.mp h1, Int32.not_lt.mp h2⟩]
      rfl
theorem m_isWhere (a : Int32) (h : Hp) : fX10_isWhere a h = some (.inl (some (.int (b2i (decide (0 ≤ a ∧ a ≤ nI 1))))), h) := by
  unfold fX10_isWhere kX10_isWhere_0
  rw [m_in, bI_s, if_pos (by rw [b2i_0, b2i_1]; cases decide ((0 : Int32) ≤ a ∧ a ≤ 1) <;> simp)]
  rfl
theorem m_isNode (a : Int32) (h : Hp) : fX10_isNode a h = some (.inl (some (.int (b2i (decide (0 ≤ a ∧ a ≤ nI 11))))), h) := by
  unfold fX10_isNode kX10_isNode_0
  rw [m_in, bI_s, if_pos (by rw [b2i_0, b2i_1]; cases decide ((0 : Int32) ≤ a ∧ a ≤ 11) <;> simp)]
  rfl
theorem le_sub1 {a : Int32} {n : Nat} (hn : 1 ≤ n ∧ n < 2 ^ 31) (h0 : 0 ≤ a) : a ≤ nI n - 1 ↔ a < nI n := by
  obtain ⟨k, h1, rfl⟩ := nn_of h0
  rw [k1, pk_sub (by omega), nI_leI h1 (by omega), nI_ltI h1 hn.2]
  omega
theorem m_isBlock (hm : kH h m = 18) (hz : h.2 m 11 = nI z) (hz1 : 1 ≤ z ∧ z < 2 ^ 31) (a : Int32) : fX10_isBlock m a h = some (.inl (some (.int (b2i (decide (0 ≤ a ∧ a < nI z))))), h) := by
  unfold fX10_isBlock kX10_isBlock_0
  rw [if_pos hm, hz, m_in, bI_s, if_pos (by rw [b2i_0, b2i_1]; cases decide ((0 : Int32) ≤ a ∧ a ≤ nI z - 1) <;> simp)]
  have : decide ((0 : Int32) ≤ a ∧ a ≤ nI z - 1) = decide ((0 : Int32) ≤ a ∧ a < nI z) := by
    apply decide_eq_decide.mpr
    exact ⟨fun q => ⟨q.1, (le_sub1 hz1 q.1).mp q.2⟩, fun q => ⟨q.1, (le_sub1 hz1 q.1).mpr q.2⟩⟩
  rw [this]
theorem m_bad0 (hm : kH h m = 18) (h0 : h.2 m 0 = 0) (w i : Int32) : fX10_bad m 0 w i h = some (.inl (some (.int 0)), h) := by
  unfold fX10_bad kX10_bad_0
  rw [if_pos rfl, if_pos hm, h0, if_pos rfl]
theorem m_bad1 (M : MS h m) (h0 : h.2 m 0 = 0) {w : Int32} (hw : w ≠ 0) {i : Nat} (hi : i < 4) : fX10_bad m 1 w (nI i) h = some (.inl (some (.int 1)), (h.1, upI (upI h.2 m 0 w) (m + 2) i (h.2 (m + 2) i + 1))) := by
  obtain ⟨r1, r2, r3⟩ := M.rfd
  unfold fX10_bad kX10_bad_0
  rw [if_neg (by decide), if_pos M.k, h0, if_neg (by decide), r1, r2, if_pos rfl, r3, if_pos (inB_nI hi (by decide)), nI_clamp (by omega)]
  have e1 : (upI h.2 m 0 w) (m + 2) i = h.2 (m + 2) i := by rw [upI_ne (by omega)]
  have e2 : (upI (upI h.2 m 0 w) (m + 2) i ((upI h.2 m 0 w) (m + 2) i + 1)) m 0 = w := by rw [upI_ne (by omega), upI_at, if_pos rfl]
  rw [e2, if_neg hw, e1]
/-- thrown is 0, then it is refused -/
theorem m_badT (M : MS h m) {w : Int32} (hw : w ≠ 0) {i : Nat} (hi : i < 4) : fX10_bad m 1 w (nI i) (th0 h m) = some (.inl (some (.int 1)), bdM h m i w) := by
  rw [m_bad1 (h := th0 h m) (M.eq rfl) (th0_0 h m) hw hi]
  have : (th0 h m).2 (m + 2) i = h.2 (m + 2) i := by show upI h.2 m 0 0 (m + 2) i = _; rw [upI_ne (by omega)]
  rw [this]
  rfl
theorem m_whereOf {w : Nat} (hw : w ≤ 1) (h : Hp) : fX10_whereOf (nI w) h = some (.inl (some (.int (nI (256 * w)))), h) := by
  unfold fX10_whereOf kX10_whereOf_0
  have : w = 0 ∨ w = 1 := by omega
  rcases this with rfl | rfl
  · rw [if_neg (by decide)]; rfl
  · rw [if_pos (by decide)]; rfl
theorem sd_wf (I : Inv S z k) (w : Nat) : Wf (sd S w) := by
  by_cases e : w = 0
  · have : sd S w = mm S := by funext x; unfold sd; rw [if_pos e]
    rw [this]
    exact (inv_wfm I).1
  · have : sd S w = sD S := by funext x; unfold sd; rw [if_neg e]
    rw [this]
    exact (inv_wfd I).1
end G1
