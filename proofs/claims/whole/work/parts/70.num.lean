/-! ===== mathematics: numbers, how a function runs ===== -/
theorem bI_s {z : Int32} {h1 : Hp} {k : Int32 → Hp → RS} : bI (some (.inl (some (.int z)), h1)) k = k z h1 := rfl
theorem bR_s {z : Nat} {h1 : Hp} {k : Nat → Hp → RS} : bR (some (.inl (some (.ref z)), h1)) k = k z h1 := rfl
theorem bV_s {h1 : Hp} {k : Hp → RS} : bV (some (.inl none, h1)) k = k h1 := rfl
theorem bIx_s {z : Int32} {h1 : Hp} {k : Int32 → Hp → RS} : bIx (some (.inl (some (.int z)), h1)) k = k z h1 := rfl
theorem bRx_s {z : Nat} {h1 : Hp} {k : Nat → Hp → RS} : bRx (some (.inl (some (.ref z)), h1)) k = k z h1 := rfl
theorem bVx_s {h1 : Hp} {k : Hp → RS} : bVx (some (.inl none, h1)) k = k h1 := rfl
theorem bIx_t {E : String} {h1 : Hp} {k : Int32 → Hp → RS} : bIx (some (.inr E, h1)) k = some (.inr E, h1) := rfl
theorem bVx_t {E : String} {h1 : Hp} {k : Hp → RS} : bVx (some (.inr E, h1)) k = some (.inr E, h1) := rfl
theorem letH_s {α β : Type} {x : α} {k : α → β} : letH x k = k x := rfl
def b2i (b : Bool) : Int32 := if b then 1 else 0
theorem b2i_t : b2i true = 1 := rfl
theorem b2i_f : b2i false = 0 := rfl
theorem b2i_0 (b : Bool) : b2i b = 0 ↔ b = false := by cases b <;> decide
theorem b2i_1 (b : Bool) : b2i b = 1 ↔ b = true := by cases b <;> decide
theorem inB_nI {k n : Nat} (h : k < n) (hn : n < 2 ^ 31) : inB (nI k) n = true := decide_eq_true (vp_in_nI h hn)
theorem nI_eq0 {a : Nat} (ha : a < 2 ^ 31) : nI a = 0 ↔ a = 0 := by rw [← nI_0, nI_eq ha (by decide)]
theorem nI_eqm {a : Nat} (ha : a < 2 ^ 31) : nI a = -1 ↔ False := by
  refine ⟨fun h => ?_, False.elim⟩
  have := nI_pos ha
  rw [h] at this
  exact this (by decide)
theorem nI_le0 {a : Nat} (ha : a < 2 ^ 31) : nI a ≤ 0 ↔ a = 0 := by rw [← nI_0, nI_leI ha (by decide)]; omega
theorem nI_lt0 {a : Nat} (ha : a < 2 ^ 31) : nI a < 0 ↔ False := ⟨fun h => nI_pos ha h, False.elim⟩
theorem nI_0lt {a : Nat} (ha : a < 2 ^ 31) : 0 < nI a ↔ 0 < a := by rw [← nI_0, nI_ltI (by decide) ha]
theorem nI_0le {a : Nat} (ha : a < 2 ^ 31) : 0 ≤ nI a ↔ True := ⟨fun _ => trivial, fun _ => nI_pos' ha⟩
theorem k1 : (1 : Int32) = nI 1 := rfl
theorem k2 : (2 : Int32) = nI 2 := rfl
theorem k3 : (3 : Int32) = nI 3 := rfl
theorem k4 : (4 : Int32) = nI 4 := rfl
theorem k5 : (5 : Int32) = nI 5 := rfl
theorem k6 : (6 : Int32) = nI 6 := rfl
theorem k7 : (7 : Int32) = nI 7 := rfl
theorem k8 : (8 : Int32) = nI 8 := rfl
theorem k9 : (9 : Int32) = nI 9 := rfl
theorem k10 : (10 : Int32) = nI 10 := rfl
theorem k11 : (11 : Int32) = nI 11 := rfl
theorem k12 : (12 : Int32) = nI 12 := rfl
theorem k13 : (13 : Int32) = nI 13 := rfl
theorem k15 : (15 : Int32) = nI 15 := rfl
theorem k16 : (16 : Int32) = nI 16 := rfl
theorem k20 : (20 : Int32) = nI 20 := rfl
theorem k24 : (24 : Int32) = nI 24 := rfl
theorem k30 : (30 : Int32) = nI 30 := rfl
theorem k60 : (60 : Int32) = nI 60 := rfl
theorem k64 : (64 : Int32) = nI 64 := rfl
theorem k99 : (99 : Int32) = nI 99 := rfl
theorem k100 : (100 : Int32) = nI 100 := rfl
theorem k200 : (200 : Int32) = nI 200 := rfl
theorem k255 : (255 : Int32) = nI 255 := rfl
theorem k256 : (256 : Int32) = nI 256 := rfl
theorem k512 : (512 : Int32) = nI 512 := rfl
theorem k2912 : (2912 : Int32) = nI 2912 := rfl
theorem k3392 : (3392 : Int32) = nI 3392 := rfl
theorem k3393 : (3393 : Int32) = nI 3393 := rfl
theorem k3394 : (3394 : Int32) = nI 3394 := rfl
theorem k3395 : (3395 : Int32) = nI 3395 := rfl
theorem k3396 : (3396 : Int32) = nI 3396 := rfl
theorem k3397 : (3397 : Int32) = nI 3397 := rfl
theorem k3398 : (3398 : Int32) = nI 3398 := rfl
theorem inB_lit {k n : Nat} (h : decide (k < n) = true) (hn : n < 2 ^ 31) : inB (nI k) n = true := inB_nI (of_decide_eq_true h) hn
/-! shifts and bits -/
theorem sh_smod : ∀ k : Fin 32, ((nI k.val).toBitVec.smod 32).toNat = k.val := by decide
theorem sh_and : ∀ k : Fin 32, nI k.val &&& 31 = nI k.val := by decide
theorem shl_nI {n k : Nat} (hk : k < 32) (h : n * 2 ^ k < 2 ^ 32) : nI n <<< (nI k &&& 31) = nI (n * 2 ^ k) := by
  rw [sh_and ⟨k, hk⟩]
  exact pk_shlN _ k (sh_smod ⟨k, hk⟩) h
theorem shr_nI {n k : Nat} (hk : k < 32) (h : n < 2 ^ 31) : nI n >>> (nI k &&& 31) = nI (n / 2 ^ k) := by
  rw [sh_and ⟨k, hk⟩]
  exact pk_shrN h _ k (sh_smod ⟨k, hk⟩)
theorem nI_bv (n : Nat) : (nI n).toBitVec = BitVec.ofNat 32 n := by
  apply BitVec.eq_of_toNat_eq
  rw [BitVec.toNat_ofNat]
  unfold nI
  simp
theorem nI_of_bv {x : Int32} {n : Nat} (h : x.toBitVec = BitVec.ofNat 32 n) : x = nI n := by
  apply Int32.toBitVec_inj.mp
  rw [h, nI_bv]
theorem or_nI {a b : Nat} (ha : a < 2 ^ 32) (hb : b < 2 ^ 32) : nI a ||| nI b = nI (a ||| b) := by
  apply nI_of_bv
  rw [Int32.toBitVec_or, nI_bv, nI_bv]
  apply BitVec.eq_of_toNat_eq
  rw [BitVec.toNat_or, BitVec.toNat_ofNat, BitVec.toNat_ofNat, BitVec.toNat_ofNat, Nat.mod_eq_of_lt ha, Nat.mod_eq_of_lt hb, Nat.mod_eq_of_lt (Nat.or_lt_two_pow ha hb)]
theorem and_nI {a b : Nat} (ha : a < 2 ^ 32) (hb : b < 2 ^ 32) : nI a &&& nI b = nI (a &&& b) := by
  apply nI_of_bv
  rw [Int32.toBitVec_and, nI_bv, nI_bv]
  apply BitVec.eq_of_toNat_eq
  rw [BitVec.toNat_and, BitVec.toNat_ofNat, BitVec.toNat_ofNat, BitVec.toNat_ofNat, Nat.mod_eq_of_lt ha, Nat.mod_eq_of_lt hb, Nat.mod_eq_of_lt (Nat.and_lt_two_pow a hb)]
theorem and1_nI {a : Nat} (ha : a < 2 ^ 32) : nI a &&& 1 = nI (a % 2) := by
  have := pk_andN ha (m := 1) 1 rfl
  simpa using this
theorem and255_nI {a : Nat} (ha : a < 2 ^ 32) : nI a &&& 255 = nI (a % 256) := by
  have := pk_andN ha (m := 255) 8 rfl
  simpa using this
theorem bit_nI {a k : Nat} (ha : a < 2 ^ 31) (hk : k < 32) : nI a >>> (nI k &&& 31) &&& 1 = b2i (a.testBit k) := by
  rw [shr_nI hk ha, and1_nI (by have := Nat.div_le_self a (2 ^ k); omega)]
  have h : (a / 2 ^ k) % 2 = (a.testBit k).toNat := (Nat.toNat_testBit a k).symm
  rw [h]
  cases a.testBit k <;> rfl
theorem rem_n (a d : Nat) : a - a / d * d = a % d := by
  have := Nat.div_add_mod a d
  rw [Nat.mul_comm] at this
  omega
theorem z_add (x : Int32) : (0 : Int32) + x = x := by simp
theorem add_z (x : Int32) : x + (0 : Int32) = x := by simp
theorem m_cell (x : Int32) (h : Hp) : fX10_cell x h = some (.inl (some (.int (512 + 12 * x))), h) := rfl
theorem sc {a n : Nat} (h : a < n) : ∃ m, n = m + 1 := ⟨n - 1, by omega⟩
theorem app1 {α : Type} {a : List α} {x : α} {l s : List α} (h : s = a ++ x :: l) : s = (a ++ [x]) ++ l := by rw [h]; simp
theorem len1 {α : Type} (a : List α) (x : α) : (a ++ [x]).length = a.length + 1 := by simp
theorem le_t {α : Type} {a b : Nat} {x y : α} [Decidable (a ≤ b)] (h : a ≤ b) : (if a ≤ b then x else y) = x := if_pos h
theorem le_f {α : Type} {a b : Nat} {x y : α} [Decidable (a ≤ b)] (h : b < a) : (if a ≤ b then x else y) = y := if_neg (by omega)
theorem lt_t {α : Type} {a b : Nat} {x y : α} [Decidable (a < b)] (h : a < b) : (if a < b then x else y) = x := if_pos h
theorem lt_f {α : Type} {a b : Nat} {x y : α} [Decidable (a < b)] (h : b ≤ a) : (if a < b then x else y) = y := if_neg (by omega)
theorem eq_t {α : Type} {a b : Nat} {x y : α} [Decidable (a = b)] (h : a = b) : (if a = b then x else y) = x := if_pos h
theorem eq_f {α : Type} {a b : Nat} {x y : α} [Decidable (a = b)] (h : a ≠ b) : (if a = b then x else y) = y := if_neg h
/-! binds whose continuations are left alone until they are reached -/
abbrev Tg {α : Type} (_ : α) : Type := RS
def qqI (k : Int32 → Hp → RS) (r : Tg k) : RS := bI r k
def qqR (k : Nat → Hp → RS) (r : Tg k) : RS := bR r k
def qqV (k : Hp → RS) (r : Tg k) : RS := bV r k
def qqIx (k : Int32 → Hp → RS) (r : Tg k) : RS := bIx r k
def qqRx (k : Nat → Hp → RS) (r : Tg k) : RS := bRx r k
def qqVx (k : Hp → RS) (r : Tg k) : RS := bVx r k
theorem qqI_p (r : RS) (k : Int32 → Hp → RS) : bI r k = qqI k r := rfl
theorem qqR_p (r : RS) (k : Nat → Hp → RS) : bR r k = qqR k r := rfl
theorem qqV_p (r : RS) (k : Hp → RS) : bV r k = qqV k r := rfl
theorem qqIx_p (r : RS) (k : Int32 → Hp → RS) : bIx r k = qqIx k r := rfl
theorem qqRx_p (r : RS) (k : Nat → Hp → RS) : bRx r k = qqRx k r := rfl
theorem qqVx_p (r : RS) (k : Hp → RS) : bVx r k = qqVx k r := rfl
theorem qqI_s {z : Int32} {h1 : Hp} {k : Int32 → Hp → RS} : qqI k (some (.inl (some (.int z)), h1)) = k z h1 := rfl
theorem qqR_s {z : Nat} {h1 : Hp} {k : Nat → Hp → RS} : qqR k (some (.inl (some (.ref z)), h1)) = k z h1 := rfl
theorem qqV_s {h1 : Hp} {k : Hp → RS} : qqV k (some (.inl none, h1)) = k h1 := rfl
theorem qqIx_s {z : Int32} {h1 : Hp} {k : Int32 → Hp → RS} : qqIx k (some (.inl (some (.int z)), h1)) = k z h1 := rfl
theorem qqRx_s {z : Nat} {h1 : Hp} {k : Nat → Hp → RS} : qqRx k (some (.inl (some (.ref z)), h1)) = k z h1 := rfl
theorem qqVx_s {h1 : Hp} {k : Hp → RS} : qqVx k (some (.inl none, h1)) = k h1 := rfl
theorem qqIx_t {E : String} {h1 : Hp} {k : Int32 → Hp → RS} : qqIx k (some (.inr E, h1)) = some (.inr E, h1) := rfl
theorem qqVx_t {E : String} {h1 : Hp} {k : Hp → RS} : qqVx k (some (.inr E, h1)) = some (.inr E, h1) := rfl
theorem nI_eqn {a : Nat} (ha : a < 2 ^ 31) : nI a = -nI 1 ↔ False := nI_eqm ha
theorem nI_cell (k : Nat) : (512 : Int32) + 12 * nI k = nI (512 + 12 * k) := by
  rw [k512, k12, pk_mul, nI_add]
theorem kmk (h : Hp) (I : Nat → Nat → Int32) : kH (h.1, I) = kH h := rfl
theorem lmk (h : Hp) (I : Nat → Nat → Int32) : lH (h.1, I) = lH h := rfl
theorem rmk (h : Hp) (I : Nat → Nat → Int32) : rH (h.1, I) = rH h := rfl
theorem b2i_n1 (b : Bool) : b2i b = nI 1 ↔ b = true := b2i_1 b
theorem bft (b : Bool) : (b = false ∨ b = true) ↔ True := by cases b <;> simp
theorem sp_get {α : Type} {L : List α} {F : Nat → α → Prop} : (∀ pre e l, L = pre ++ e :: l → F pre.length e) ↔ ∀ k e, L[k]? = some e → F k e := by
  constructor
  · intro h k e hk
    obtain ⟨h1, h2⟩ := List.getElem?_eq_some_iff.mp hk
    have h3 : L = L.take k ++ e :: L.drop (k + 1) := by rw [← h2, List.getElem_cons_drop, List.take_append_drop]
    have := h _ _ _ h3
    rwa [List.length_take, Nat.min_eq_left (by omega)] at this
  · intro h pre e l q
    refine h _ _ ?_
    rw [q]
    simp
