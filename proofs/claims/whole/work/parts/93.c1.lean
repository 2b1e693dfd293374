/-! ===== the class's State holds an abstract store ===== -/
def SO (h : Hp) (s : Nat) : Prop := kH h s = 15 ∧ (rH h s 1 = s + 1 ∧ kH h (s + 1) = 2 ∧ lH h (s + 1) = 512) ∧ (rH h s 3 = s + 2 ∧ kH h (s + 2) = 1 ∧ lH h (s + 2) = 256) ∧ (rH h s 4 = s + 3 ∧ kH h (s + 3) = 1 ∧ lH h (s + 3) = 256) ∧ (rH h s 5 = s + 4 ∧ kH h (s + 4) = 1 ∧ lH h (s + 4) = 256) ∧
  (rH h s 6 = s + 5 ∧ kH h (s + 5) = 2 ∧ lH h (s + 5) = 4096) ∧ (rH h s 7 = s + 6 ∧ kH h (s + 6) = 1 ∧ lH h (s + 6) = 1024) ∧ (rH h s 8 = s + 7 ∧ kH h (s + 7) = 1 ∧ lH h (s + 7) = 256) ∧ (rH h s 10 = s + 8 ∧ kH h (s + 8) = 1 ∧ lH h (s + 8) = 64) ∧ (rH h s 11 = s + 9 ∧ kH h (s + 9) = 1 ∧ lH h (s + 9) = 64)
theorem SO.eq {h h' : Hp} {s : Nat} (e : h'.1 = h.1) (M : SO h s) : SO h' s := by
  unfold SO
  simp only [kh_eq e, lh_eq e, rh_eq e]
  exact M
def ndI (pre : List Ch) (f : Nat → Option Nat) : List Int := ((List.range 4).filterMap f).map (fun j => ((pre[j]?).map (fun e => (cI e : Int))).getD 0)
def prs (pre : List Ch) (c : Ch) : List Int := [c1 c, c2 c, c3 c, c4 c].filter (fun n => pre.any (fun e => (cI e : Int) == n))
def allB (c : Ch) : Option Nat := if c2 c < 0 then some (c2 c).natAbs else none
/-- what a change needs, by places -/
def Nds (N : Nat → Int32) (pre : List Ch) (c : Ch) : Prop := ∃ f : Nat → Option Nat, (∀ i, i < 4 → N (4 * pre.length + i) = oI (f i)) ∧ (∀ i, i < 4 → ∀ j, f i = some j → j < pre.length) ∧ (ndI pre f).Perm (prs pre c)
def Cst (I : Nat → Nat → Int32) (s : Nat) (d : Nat → Nat) (pre : List Ch) (c : Ch) : Prop :=
  I (s + 2) pre.length = nI (cB c) ∧ I (s + 3) pre.length = nI (cP c) ∧ I (s + 4) pre.length = nI (cV c) ∧ (∀ i, i < 16 → cP c = 16 ∨ cP c = i → I (s + 5) (16 * pre.length + i) = nI (vA d pre (16 * cB c + i))) ∧ Nds (I (s + 6)) pre c ∧ I (s + 7) pre.length = oI (allB c) ∧ (0 ≤ c1 c ∧ 0 ≤ c3 c ∧ 0 ≤ c4 c)
def Lst (I : Nat → Nat → Int32) (s : Nat) (cs : List Ch) (k : Nat) (e : La) : Prop := I (s + 9) k = nI (if e.1 = 0 then 100 + e.2.1 else e.2.1) ∧ ∃ P c T, cs = P ++ c :: T ∧ cI c = e.2.2 ∧ I (s + 8) k = nI P.length
def StaI (I : Nat → Nat → Int32) (s : Nat) (S : St) (z : Nat) : Prop :=
  I s 0 = nI z ∧ (∀ x, x < 256 → I (s + 1) x = nI (mm S x)) ∧ (∀ x, x < 256 → I (s + 1) (256 + x) = nI (sD S x)) ∧ I s 2 = nI (sC S).length ∧ I s 9 = nI (sL S).length ∧ I s 12 = sW S ∧ I s 13 = sH S ∧ I s 14 = sK S ∧ I s 15 = nI (sM S) ∧
  (∀ pre c l, sC S = pre ++ c :: l → Cst I s (sD S) pre c) ∧ (∀ pre e l, sL S = pre ++ e :: l → Lst I s (sC S) pre.length e)
def Sta (h : Hp) (s : Nat) (S : St) (z : Nat) : Prop := SO h s ∧ StaI h.2 s S z ∧ (6 ≤ z ∧ z ≤ 16) ∧ Bd S
/-- a side of a State -/
def CB (h : Hp) (s w : Nat) (B : Nat → Nat) : Prop := (kH h s = 15 ∧ rH h s 1 = s + 1 ∧ kH h (s + 1) = 2 ∧ lH h (s + 1) = 512) ∧ w ≤ 1 ∧ (∀ x, x < 256 → h.2 (s + 1) (256 * w + x) = nI (B x)) ∧ ∀ x, B x < 128
section C1
variable {h : Hp} {s w z : Nat} {B : Nat → Nat} {S : St}
theorem Sta.so (R : Sta h s S z) : SO h s := R.1
theorem Sta.un (R : Sta h s S z) : h.2 s 2 = nI (sC S).length := R.2.1.2.2.2.1
theorem Sta.wa (R : Sta h s S z) : h.2 s 9 = nI (sL S).length := R.2.1.2.2.2.2.1
theorem Sta.sz (R : Sta h s S z) : h.2 s 0 = nI z := R.2.1.1
theorem Sta.bd (R : Sta h s S z) : Bd S := R.2.2.2
theorem Sta.mem (R : Sta h s S z) {x : Nat} (hx : x < 256) : h.2 (s + 1) x = nI (mm S x) := R.2.1.2.1 x hx
theorem Sta.dsk (R : Sta h s S z) {x : Nat} (hx : x < 256) : h.2 (s + 1) (256 + x) = nI (sD S x) := R.2.1.2.2.1 x hx
theorem Sta.cst (R : Sta h s S z) {pre : List Ch} {c : Ch} {l : List Ch} (e : sC S = pre ++ c :: l) : Cst h.2 s (sD S) pre c := R.2.1.2.2.2.2.2.2.2.2.2.1 pre c l e
theorem Sta.lst (R : Sta h s S z) {pre : List La} {e : La} {l : List La} (q : sL S = pre ++ e :: l) : Lst h.2 s (sC S) pre.length e := R.2.1.2.2.2.2.2.2.2.2.2.2 pre e l q
theorem Sta.ch (R : Sta h s S z) {pre : List Ch} {c : Ch} {l : List Ch} (e : sC S = pre ++ c :: l) : chB (sM S) c ∧ pre.length + 1 + l.length ≤ 200 ∧ (sC S).length = pre.length + 1 + l.length := by
  have h1 := R.bd.1
  have h2 := R.bd.2.2.2.2.1 c (by rw [e]; simp)
  have h3 : (sC S).length = pre.length + 1 + l.length := by rw [e]; simp; omega
  exact ⟨h2, by omega, h3⟩
theorem Sta.cb (R : Sta h s S z) {w : Nat} (hw : w ≤ 1) : CB h s w (sd S w) := by
  refine ⟨⟨R.1.1, R.1.2.1⟩, hw, fun x hx => ?_, fun x => bd_sd R.bd w x⟩
  unfold sd
  by_cases e : w = 0
  · subst e
    rw [if_pos rfl, Nat.mul_zero, Nat.zero_add]
    exact R.mem hx
  · rw [if_neg e, show w = 1 by omega, Nat.mul_one]
    exact R.dsk hx
theorem Sta.cb0 (R : Sta h s S z) : CB h s 0 (mm S) := R.cb (w := 0) (by decide)
theorem Sta.cb1 (R : Sta h s S z) : CB h s 1 (sD S) := R.cb (w := 1) (by decide)
theorem c_nodeField (R : CB h s w B) {n f : Nat} (hn : n < 12) (hf : f < 4) : fX5_nodeField s (nI w) (nI n) (nI f) h = some (.inl (some (.int (nI (fd B n f)))), h) := by
  obtain ⟨⟨r1, r2, r3, r4⟩, hw, hx, hB⟩ := R
  have hr : h.2 (s + 1) (w * 256 + 16 + n * 4 + f) = nI (fd B n f) := by rw [show w * 256 + 16 + n * 4 + f = 256 * w + (16 + 4 * n + f) by omega]; exact hx _ (by omega)
  unfold fX5_nodeField
  simp (maxSteps := 3000000) (disch := omega) only [kX5_nodeField_0, r1, r2, r3, r4, ↓reduceIte, if_true, if_false, ite_not, not_true_eq_false, not_false_eq_true, ↓qqI_p, ↓qqR_p, ↓qqV_p, ↓qqIx_p, ↓qqRx_p, ↓qqVx_p, qqI_s, qqR_s, qqV_s, qqIx_s, qqRx_s, qqVx_s, qqIx_t, qqVx_t, ↓letH_s, inB_nI, nI_leI, nI_ltI, nI_eq, nI_eq0, nI_eqm, nI_eqn, nI_le0, nI_lt0, nI_0lt, nI_0le, nI_clamp, pk_mul, nI_add, pk_div, pk_sub, rem_n, z_add, add_z, m_cell, kmk, lmk, rmk, b2i_0, b2i_n1, bft, le_t, le_f, lt_t, lt_f, eq_t, eq_f, k1, k2, k3, k4, k5, k6, k7, k8, k9, k10, k11, k12, k13, k15, k16, k20, k24, k30, k60, k64, k99, k100, k200, k255, k256, k512, k2912, k3392, k3393, k3394, k3395, k3396, k3397, k3398, hr]
theorem c_at (R : CB h s w B) {b p : Nat} (hb : b < 16) (hp : p < 16) : fX5_at s (nI w) (nI b) (nI p) h = some (.inl (some (.int (nI (B (16 * b + p))))), h) := by
  obtain ⟨⟨r1, r2, r3, r4⟩, hw, hx, hB⟩ := R
  have hr : h.2 (s + 1) (w * 256 + b * 16 + p) = nI (B (16 * b + p)) := by rw [show w * 256 + b * 16 + p = 256 * w + (16 * b + p) by omega]; exact hx _ (by omega)
  unfold fX5_at
  simp (maxSteps := 3000000) (disch := omega) only [kX5_at_0, r1, r2, r3, r4, ↓reduceIte, if_true, if_false, ite_not, not_true_eq_false, not_false_eq_true, ↓qqI_p, ↓qqR_p, ↓qqV_p, ↓qqIx_p, ↓qqRx_p, ↓qqVx_p, qqI_s, qqR_s, qqV_s, qqIx_s, qqRx_s, qqVx_s, qqIx_t, qqVx_t, ↓letH_s, inB_nI, nI_leI, nI_ltI, nI_eq, nI_eq0, nI_eqm, nI_eqn, nI_le0, nI_lt0, nI_0lt, nI_0le, nI_clamp, pk_mul, nI_add, pk_div, pk_sub, rem_n, z_add, add_z, m_cell, kmk, lmk, rmk, b2i_0, b2i_n1, bft, le_t, le_f, lt_t, lt_f, eq_t, eq_f, k1, k2, k3, k4, k5, k6, k7, k8, k9, k10, k11, k12, k13, k15, k16, k20, k24, k30, k60, k64, k99, k100, k200, k255, k256, k512, k2912, k3392, k3393, k3394, k3395, k3396, k3397, k3398, hr]
theorem c_isDirectory (R : CB h s w B) {n : Nat} (hn : n < 12) : fX5_isDirectory s (nI w) (nI n) h = some (.inl (some (.int (b2i (isK B n 2)))), h) := by
  obtain ⟨⟨r1, r2, r3, r4⟩, hw, hx, hB⟩ := R
  have hr0 : h.2 (s + 1) (w * 256 + 16 + n * 4) = nI (fd B n 0) := by rw [show w * 256 + 16 + n * 4 = 256 * w + (16 + 4 * n + 0) by omega]; exact hx _ (by omega)
  have hr1 : h.2 (s + 1) (w * 256 + 16 + n * 4 + 1) = nI (fd B n 1) := by rw [show w * 256 + 16 + n * 4 + 1 = 256 * w + (16 + 4 * n + 1) by omega]; exact hx _ (by omega)
  have g0 : fd B n 0 < 128 := hB _
  have g1 : fd B n 1 < 128 := hB _
  unfold fX5_isDirectory
  simp (maxSteps := 3000000) (disch := omega) only [kX5_isDirectory_0, r1, r2, r3, r4, ↓reduceIte, if_true, if_false, ite_not, not_true_eq_false, not_false_eq_true, ↓qqI_p, ↓qqR_p, ↓qqV_p, ↓qqIx_p, ↓qqRx_p, ↓qqVx_p, qqI_s, qqR_s, qqV_s, qqIx_s, qqRx_s, qqVx_s, qqIx_t, qqVx_t, ↓letH_s, inB_nI, nI_leI, nI_ltI, nI_eq, nI_eq0, nI_eqm, nI_eqn, nI_le0, nI_lt0, nI_0lt, nI_0le, nI_clamp, pk_mul, nI_add, pk_div, pk_sub, rem_n, z_add, add_z, m_cell, kmk, lmk, rmk, b2i_0, b2i_n1, bft, le_t, le_f, lt_t, lt_f, eq_t, eq_f, k1, k2, k3, k4, k5, k6, k7, k8, k9, k10, k11, k12, k13, k15, k16, k20, k24, k30, k60, k64, k99, k100, k200, k255, k256, k512, k2912, k3392, k3393, k3394, k3395, k3396, k3397, k3398, hr0, hr1]
  unfold isK
  by_cases e0 : fd B n 0 = 0
  · simp [e0, b2i]
  · by_cases e1 : fd B n 1 = 2
    · have : 0 < fd B n 0 := by omega
      simp [e0, e1, this, b2i, ← k1]
    · have e2 : (fd B n 1 == 2) = false := by simpa using e1
      simp [e0, e1, e2, b2i]
theorem i8_t : ∀ v : Fin 128, (nI v.val).toInt8.toInt32 = nI v.val := by decide
theorem i8 {v : Nat} (h : v < 128) : (nI v).toInt8.toInt32 = nI v := i8_t ⟨v, h⟩
theorem c_same_go (R : Sta h s S z) {b p v x1 x2 x4 : Int32} {hi vv : Nat} (hhi : hi < 256) (hv : vv < 128) (e : v = nI vv) : ∀ (c j n : Nat) (a : Bool), j + c = hi + 1 → c < n →
    gX5_put n 76 [.ref s, .int x1, .int x2, .int v, .int x4, .int (nI hi), .int (b2i a), .int (nI j), uV] [] h = 
      if (a && (List.range' j c).all (fun x => mm S x == vv)) = true then some (.inl (some (.int (-1))), h) else gX5_put (n - c - 1) 129 [.ref s, .int x1, .int x2, .int v, uV, .int (nI hi), uV, .int (nI (sC S).length), .int x4] [] h := by
  subst e
  obtain ⟨r1, ⟨r2, r3, r4⟩, -⟩ := R.so
  have hun := R.un
  intro c
  induction c with
  | zero =>
    intro j n a hj hn
    obtain ⟨n, rfl⟩ := sc hn
    rw [zX5_put_76]
    simp (maxSteps := 3000000) (disch := omega) only [kX5_put_76, r1, ↓reduceIte, if_true, if_false, ite_not, not_true_eq_false, not_false_eq_true, ↓qqI_p, ↓qqR_p, ↓qqV_p, ↓qqIx_p, ↓qqRx_p, ↓qqVx_p, qqI_s, qqR_s, qqV_s, qqIx_s, qqRx_s, qqVx_s, qqIx_t, qqVx_t, ↓letH_s, inB_nI, nI_leI, nI_ltI, nI_eq, nI_eq0, nI_eqm, nI_eqn, nI_le0, nI_lt0, nI_0lt, nI_0le, nI_clamp, pk_mul, nI_add, pk_div, pk_sub, rem_n, z_add, add_z, m_cell, kmk, lmk, rmk, b2i_0, b2i_n1, bft, le_t, le_f, lt_t, lt_f, eq_t, eq_f, k1, k2, k3, k4, k5, k6, k7, k8, k9, k10, k11, k12, k13, k15, k16, k20, k24, k30, k60, k64, k99, k100, k200, k255, k256, k512, k2912, k3392, k3393, k3394, k3395, k3396, k3397, k3398, hun]
    cases a <;> simp
  | succ c ih =>
    intro j n a hj hn
    obtain ⟨n, rfl⟩ := sc hn
    have ih := fun a => ih (j + 1) n a (by omega) (by omega)
    have hm := R.mem (x := j) (by omega)
    have g := bd_mm R.bd j
    rw [zX5_put_76, List.range'_succ, List.all_cons, show n + 1 - (c + 1) - 1 = n - c - 1 by omega]
    have ihf := ih false
    have iht := ih true
    rw [b2i_f] at ihf
    rw [b2i_t1] at iht
    cases a with
    | false =>
      simp (maxSteps := 3000000) (disch := omega) only [kX5_put_76, r1, ↓reduceIte, if_true, if_false, ite_not, not_true_eq_false, not_false_eq_true, ↓qqI_p, ↓qqR_p, ↓qqV_p, ↓qqIx_p, ↓qqRx_p, ↓qqVx_p, qqI_s, qqR_s, qqV_s, qqIx_s, qqRx_s, qqVx_s, qqIx_t, qqVx_t, ↓letH_s, inB_nI, nI_leI, nI_ltI, nI_eq, nI_eq0, nI_eqm, nI_eqn, nI_le0, nI_lt0, nI_0lt, nI_0le, nI_clamp, pk_mul, nI_add, pk_div, pk_sub, rem_n, z_add, add_z, m_cell, kmk, lmk, rmk, b2i_0, b2i_n1, bft, le_t, le_f, lt_t, lt_f, eq_t, eq_f, k1, k2, k3, k4, k5, k6, k7, k8, k9, k10, k11, k12, k13, k15, k16, k20, k24, k30, k60, k64, k99, k100, k200, k255, k256, k512, k2912, k3392, k3393, k3394, k3395, k3396, k3397, k3398, ihf]
      simp
    | true =>
      simp (maxSteps := 3000000) (disch := omega) only [kX5_put_76, r1, r2, r3, r4, ↓reduceIte, if_true, if_false, ite_not, not_true_eq_false, not_false_eq_true, ↓qqI_p, ↓qqR_p, ↓qqV_p, ↓qqIx_p, ↓qqRx_p, ↓qqVx_p, qqI_s, qqR_s, qqV_s, qqIx_s, qqRx_s, qqVx_s, qqIx_t, qqVx_t, ↓letH_s, inB_nI, nI_leI, nI_ltI, nI_eq, nI_eq0, nI_eqm, nI_eqn, nI_le0, nI_lt0, nI_0lt, nI_0le, nI_clamp, pk_mul, nI_add, pk_div, pk_sub, rem_n, z_add, add_z, m_cell, kmk, lmk, rmk, b2i_0, b2i_n1, bft, le_t, le_f, lt_t, lt_f, eq_t, eq_f, k1, k2, k3, k4, k5, k6, k7, k8, k9, k10, k11, k12, k13, k15, k16, k20, k24, k30, k60, k64, k99, k100, k200, k255, k256, k512, k2912, k3392, k3393, k3394, k3395, k3396, k3397, k3398, hm, ihf, iht]
      by_cases e : mm S j = vv
      · have e'' : (mm S j == vv) = true := by simpa using e
        rw [e'']
        simp only [Bool.true_and, e, reduceCtorEq, if_false, if_true, not_true_eq_false]
      · have e' : (mm S j == vv) = false := by simpa using e
        simp [e, e']
end C1
