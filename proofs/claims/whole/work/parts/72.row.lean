/-! ===== a row of the reference holds an abstract store ===== -/
def nz (n : Int) : Int32 := Int32.ofInt n
def pack (w : Nat → Nat) (b : Nat) : Nat := w b + 256 * w (b + 1) + 65536 * w (b + 2) + 16777216 * w (b + 3)
/-- a change's cell, and what was there ahead of it -/
def Cel (A : Nat → Int32) (p : Nat) (c : Ch) (w : Nat → Nat) : Prop :=
  A p = nI (cI c) ∧ A (p + 1) = nI (cB c) ∧ A (p + 2) = nI (cP c) ∧ A (p + 3) = nI (cV c) ∧ A (p + 4) = nz (c1 c) ∧ A (p + 5) = nz (c2 c) ∧ A (p + 6) = nz (c3 c) ∧ A (p + 7) = nz (c4 c) ∧
  (cP c < 16 → A (p + 8) = nI (w (16 * cB c + cP c))) ∧ (cP c = 16 → ∀ i, i < 4 → A (p + 8 + i) = nI (pack w (16 * cB c + 4 * i)))
def RowA (A : Nat → Int32) (S : St) : Prop :=
  (∀ x, x < 256 → A x = nI (mm S x)) ∧ (∀ x, x < 256 → A (256 + x) = nI (sD S x)) ∧ A 3392 = nI (sC S).length ∧ A 3393 = nI (sL S).length ∧ A 3394 = nI (sM S) ∧ A 3395 = sW S ∧ A 3396 = sH S ∧ A 3397 = sK S ∧
  (∀ pre c l, sC S = pre ++ c :: l → Cel A (512 + 12 * pre.length) c (vA (sD S) pre)) ∧
  (∀ pre e l, sL S = pre ++ e :: l → A (2912 + 3 * pre.length) = nI e.1 ∧ A (2912 + 3 * pre.length + 1) = nI e.2.1 ∧ A (2912 + 3 * pre.length + 2) = nI e.2.2)
def Row (h : Hp) (r : Nat) (S : St) : Prop := kH h r = 1 ∧ lH h r = 3398 ∧ RowA (h.2 r) S ∧ Bd S
section RW
variable {h : Hp} {r : Nat} {S : St}
theorem Row.k (R : Row h r S) : kH h r = 1 := R.1
theorem Row.l (R : Row h r S) : lH h r = 3398 := R.2.1
theorem Row.many (R : Row h r S) : h.2 r 3392 = nI (sC S).length := R.2.2.1.2.2.1
theorem Row.put (R : Row h r S) : h.2 r 3393 = nI (sL S).length := R.2.2.1.2.2.2.1
theorem Row.mem (R : Row h r S) {x : Nat} (hx : x < 256) : h.2 r x = nI (mm S x) := R.2.2.1.1 x hx
theorem Row.dsk (R : Row h r S) {x : Nat} (hx : x < 256) : h.2 r (256 + x) = nI (sD S x) := R.2.2.1.2.1 x hx
theorem Row.bd (R : Row h r S) : Bd S := R.2.2.2
theorem Row.cel (R : Row h r S) {pre : List Ch} {c : Ch} {l : List Ch} (e : sC S = pre ++ c :: l) : Cel (h.2 r) (512 + 12 * pre.length) c (vA (sD S) pre) := R.2.2.1.2.2.2.2.2.2.2.2.1 pre c l e
theorem Row.lat (R : Row h r S) {pre : List La} {e : La} {l : List La} (q : sL S = pre ++ e :: l) : h.2 r (2912 + 3 * pre.length) = nI e.1 ∧ h.2 r (2912 + 3 * pre.length + 1) = nI e.2.1 ∧ h.2 r (2912 + 3 * pre.length + 2) = nI e.2.2 := R.2.2.1.2.2.2.2.2.2.2.2.2 pre e l q
theorem Row.ch (R : Row h r S) {pre : List Ch} {c : Ch} {l : List Ch} (e : sC S = pre ++ c :: l) : chB (sM S) c ∧ pre.length + 1 + l.length ≤ 200 ∧ (sC S).length = pre.length + 1 + l.length := by
  have h1 := R.bd.1
  have h2 := R.bd.2.2.2.2.1 c (by rw [e]; simp)
  have h3 : (sC S).length = pre.length + 1 + l.length := by rw [e]; simp; omega
  exact ⟨h2, by omega, h3⟩
end RW
