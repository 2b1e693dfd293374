/-! ===== mathematics: helpers ===== -/
def b2i (b : Bool) : Int32 := if b then 1 else 0
/-- over j, j+1, .. (c of them) -/
def anyF (p : Nat → Bool) : Nat → Nat → Bool
  | _, 0 => false
  | j, c + 1 => p j || anyF p (j + 1) c
def isRow (h : Hp) (r : Nat) : Prop := kH h r = 1 ∧ lH h r = 3398
theorem inB_nI {k n : Nat} (h : k < n) (hn : n < 2 ^ 31) : inB (nI k) n = true := decide_eq_true (vp_in_nI h hn)
theorem m_cell (x : Int32) (h : Hp) : fX10_cell x h = some (.inl (some (.int (512 + 12 * x))), h) := rfl
theorem bI_s {z : Int32} {h1 : Hp} {k : Int32 → Hp → RS} : bI (some (.inl (some (.int z)), h1)) k = k z h1 := rfl
theorem bV_s {h1 : Hp} {k : Hp → RS} : bV (some (.inl none, h1)) k = k h1 := rfl
theorem nI_cell (k : Nat) : (512 : Int32) + 12 * nI k = nI (512 + 12 * k) := by
  rw [show (512 : Int32) = nI 512 from rfl, show (12 : Int32) = nI 12 from rfl, pk_mul, nI_add]
theorem m_isDirty_go {h : Hp} {r : Nat} {b : Int32} (hr : isRow h r) {m : Nat} (hm : h.2 r 3392 = nI m) (hm2 : m ≤ 200) :
    ∀ (c j n : Nat), j + c = m → c < n → gX10_isDirty n 2 [.ref r, .int b, .int (nI j)] [] h = some (.inl (some (.int (b2i (anyF (fun k => decide (h.2 r (513 + 12 * k) = b)) j c)))), h) := by
  intro c
  induction c with
  | zero =>
    intro j n hj hn
    obtain ⟨n, rfl⟩ : ∃ n', n = n' + 1 := ⟨n - 1, by omega⟩
    rw [zX10_isDirty_2]
    unfold kX10_isDirty_2
    rw [if_pos hr.1, if_pos (by rw [hr.2]; decide), hm, if_pos (by rw [show j = m by omega]; exact Int32.le_refl _)]
    rfl
  | succ c ih =>
    intro j n hj hn
    obtain ⟨n, rfl⟩ : ∃ n', n = n' + 1 := ⟨n - 1, by omega⟩
    rw [zX10_isDirty_2]
    unfold kX10_isDirty_2
    rw [if_pos hr.1, if_pos (by rw [hr.2]; decide), hm, if_neg (nI_ge (by omega) (by omega)), m_cell, bI_s, if_pos hr.1, nI_cell, nI_1, if_pos (by rw [hr.2]; exact inB_nI (by omega) (by omega)), nI_clamp (by omega), show 512 + 12 * j + 1 = 513 + 12 * j by omega]
    by_cases e : h.2 r (513 + 12 * j) = b
    · rw [if_neg (fun q => q e)]
      simp [anyF, e, b2i]
    · rw [if_pos e, nI_1, ih (j + 1) n (by omega) (by omega)]
      simp [anyF, e]
