/-! ===== the book: fits, look ===== -/
/-- the lines of a book, place and value, as they were read -/
def bkF (ls : List (Nat × Nat)) (p : Nat) : Option Nat := (ls.find? (fun q => q.1 == p)).map Prod.snd
def Bk (ls : List (Nat × Nat)) : Prop := ls.length ≤ 16 ∧ (ls.map Prod.fst).Nodup ∧ ∀ q ∈ ls, q.1 < 16 ∧ q.2 < 256
def CBk (h : Hp) (x : Nat) (ls : List (Nat × Nat)) : Prop := Bk ls ∧ ∀ p, p < 16 → h.2 (x + 38) p = oI (bkF ls p)
def RBk (h : Hp) (m : Nat) (ls : List (Nat × Nat)) : Prop := Bk ls ∧ h.2 m 13 = nI ls.length ∧ ∀ k q, ls[k]? = some q → h.2 (m + 4 + k) 0 = nI q.1 ∧ h.2 (m + 4 + k) 1 = nI q.2
def cpy (S : St) (b p : Nat) : Nat := vA (sD S) (gone (goes b (sC S))) (16 * b + p)
def fitP (S : St) (ls : List (Nat × Nat)) (b p : Nat) : Bool := match bkF ls p with
  | none => true
  | some v => v == cpy S b p
def fitQ (S : St) (ls : List (Nat × Nat)) (b : Nat) : Bool := (List.range' 0 16).all (fitP S ls b)
def fitB (S : St) (ls : List (Nat × Nat)) (b : Nat) : Bool := dirt S b && fitQ S ls b
def fitN (S : St) (ls : List (Nat × Nat)) (z : Nat) : Nat := bitsOf (fitB S ls) z
theorem bkF_mem {ls : List (Nat × Nat)} {p v : Nat} (h : bkF ls p = some v) : (p, v) ∈ ls := by
  unfold bkF at h
  rw [Option.map_eq_some_iff] at h
  obtain ⟨q, h1, h2⟩ := h
  have e1 := List.find?_some h1
  have e2 := List.mem_of_find?_eq_some h1
  simp only [beq_iff_eq] at e1
  rw [← h2, ← e1]
  exact e2
theorem mem_bkF {ls : List (Nat × Nat)} (hn : (ls.map Prod.fst).Nodup) {q : Nat × Nat} (h : q ∈ ls) : bkF ls q.1 = some q.2 := by
  induction ls with
  | nil => cases h
  | cons a l ih =>
    rw [List.map_cons, List.nodup_cons] at hn
    unfold bkF
    rw [List.find?_cons]
    rcases List.mem_cons.mp h with rfl | h
    · simp
    · have : ¬ a.1 = q.1 := fun e => hn.1 (by rw [e]; exact List.mem_map_of_mem h)
      rw [show (a.1 == q.1) = false from beq_false_of_ne this]
      exact ih hn.2 h
theorem fitQ_all {S : St} {ls : List (Nat × Nat)} (B : Bk ls) (b : Nat) : fitQ S ls b = ls.all (fun q => cpy S b q.1 == q.2) := by
  unfold fitQ
  rw [Bool.eq_iff_iff, List.all_eq_true, List.all_eq_true]
  constructor
  · intro H q hq
    have := H q.1 (by rw [List.mem_range'_1]; have := (B.2.2 q hq).1; omega)
    unfold fitP at this
    rw [mem_bkF B.2.1 hq] at this
    simp only [beq_iff_eq] at this ⊢
    exact this.symm
  · intro H p hp
    unfold fitP
    cases e : bkF ls p with
    | none => rfl
    | some v =>
      have := H _ (bkF_mem e)
      simp only [beq_iff_eq] at this ⊢
      exact this.symm
theorem cpy_lt {S : St} (B : Bd S) (b p : Nat) : cpy S b p < 128 := vA_lt B.2.2.2.1 (fun c hc => (B.2.2.2.2.1 c ((gone_sub b (sC S)).subset hc)).2.2.2.2.1) _
theorem fitN_lt (S : St) (ls : List (Nat × Nat)) {z : Nat} (hz : z ≤ 16) : fitN S ls z < 2 ^ 16 := Nat.lt_of_lt_of_le (bitsOf_lt _ z) (Nat.pow_le_pow_right (by decide) hz)
theorem fitN_bit (S : St) (ls : List (Nat × Nat)) {z b : Nat} (hb : b < z) : (fitN S ls z).testBit b = fitB S ls b := by
  unfold fitN
  rw [bitsOf_bit, decide_eq_true hb, Bool.true_and]
/-! the most that are alike, counted in two ways -/
def cn1 (F : Nat → Bool) (V : Nat → Nat) (v b : Nat) : Nat := if (F b && (V b == v)) = true then 1 else 0
def cn (F : Nat → Bool) (V : Nat → Nat) (v d c : Nat) : Nat := sr (cn1 F V v) d c
def mxA (F : Nat → Bool) (V : Nat → Nat) : Nat → Nat → Nat → Nat
  | 0, _, m => m
  | c + 1, a, m => mxA F V c (a + 1) (if m < (if F a then cn F V (V a) a (c + 1) else 0) then (if F a then cn F V (V a) a (c + 1) else 0) else m)
def mxB (F : Nat → Bool) (V : Nat → Nat) : Nat → Nat → Nat → Nat
  | 0, _, m => m
  | c + 1, b, m => mxB F V c (b + 1) (if F b then (if cn F V (V b) 0 (b + 1) ≤ m then m else cn F V (V b) 0 (b + 1)) else m)
theorem sr_first (g : Nat → Nat) (c d : Nat) : sr g d c = 0 ∨ ∃ a, d ≤ a ∧ a < d + c ∧ g a ≠ 0 ∧ sr g d c = sr g a (d + c - a) := by
  induction c generalizing d with
  | zero => exact Or.inl rfl
  | succ c ih =>
    by_cases e : g d = 0
    · rw [sr_s, e, Nat.zero_add]
      rcases ih (d + 1) with h | ⟨a, h1, h2, h3, h4⟩
      · exact Or.inl h
      · exact Or.inr ⟨a, by omega, by omega, h3, by rw [h4, show d + 1 + c - a = d + (c + 1) - a by omega]⟩
    · exact Or.inr ⟨d, by omega, by omega, e, by rw [show d + (c + 1) - d = c + 1 by omega]⟩
theorem sr_last (g : Nat → Nat) (c : Nat) : sr g 0 c = 0 ∨ ∃ a, a < c ∧ g a ≠ 0 ∧ sr g 0 c = sr g 0 (a + 1) := by
  induction c with
  | zero => exact Or.inl rfl
  | succ c ih =>
    by_cases e : g c = 0
    · rw [sr_snoc, Nat.zero_add, e, Nat.add_zero]
      rcases ih with h | ⟨a, h1, h2, h3⟩
      · exact Or.inl h
      · exact Or.inr ⟨a, by omega, h2, h3⟩
    · exact Or.inr ⟨c, by omega, e, rfl⟩
theorem sr_tail (g : Nat → Nat) (a c : Nat) (h : a ≤ c) : sr g a (c - a) ≤ sr g 0 c := by
  have : ∀ a d, sr g (d + a) (c - a) ≤ sr g d c := by
    intro a
    induction a with
    | zero => intro d; exact Nat.le_refl _
    | succ a ih =>
      intro d
      by_cases e : a < c
      · have h1 := ih d
        rw [show c - a = (c - (a + 1)) + 1 by omega, sr_s] at h1
        rw [show d + (a + 1) = d + a + 1 by omega]
        omega
      · rw [show c - (a + 1) = 0 by omega, sr_0]
        omega
  have := this a 0
  rwa [Nat.zero_add] at this
theorem sr_head (g : Nat → Nat) (a c : Nat) : sr g 0 a ≤ sr g 0 (a + c) := by
  induction c with
  | zero => exact Nat.le_refl _
  | succ c ih => rw [show a + (c + 1) = a + c + 1 by omega, sr_snoc]; omega
section MX
variable {F : Nat → Bool} {V : Nat → Nat}
theorem cn1_nz {v b : Nat} (h : cn1 F V v b ≠ 0) : F b = true ∧ V b = v := by
  unfold cn1 at h
  by_cases e : (F b && (V b == v)) = true
  · rw [Bool.and_eq_true, beq_iff_eq] at e
    exact e
  · rw [if_neg e] at h
    exact absurd rfl h
theorem mxA_sp : ∀ (c a m z : Nat), a + c = z → m ≤ mxA F V c a m ∧ (∀ b, a ≤ b → b < z → F b = true → cn F V (V b) b (z - b) ≤ mxA F V c a m) ∧ (mxA F V c a m = m ∨ ∃ b, b < z ∧ F b = true ∧ mxA F V c a m = cn F V (V b) b (z - b)) := by
  intro c
  induction c with
  | zero => intro a m z hz; exact ⟨Nat.le_refl _, fun b h1 h2 => by omega, Or.inl rfl⟩
  | succ c ih =>
    intro a m z hz
    unfold mxA
    by_cases e : F a = true
    · simp only [e, if_true]
      by_cases q : m < cn F V (V a) a (c + 1)
      · simp only [q, if_true]
        obtain ⟨i1, i2, i3⟩ := ih (a + 1) (cn F V (V a) a (c + 1)) z (by omega)
        refine ⟨by omega, fun b h1 h2 h3 => ?_, Or.inr ?_⟩
        · by_cases hb : b = a
          · rw [hb, show z - a = c + 1 by omega]; exact i1
          · exact i2 b (by omega) h2 h3
        · rcases i3 with i3 | i3
          · exact ⟨a, by omega, e, by rw [i3, show z - a = c + 1 by omega]⟩
          · exact i3
      · simp only [q, if_false]
        obtain ⟨i1, i2, i3⟩ := ih (a + 1) m z (by omega)
        refine ⟨i1, fun b h1 h2 h3 => ?_, i3⟩
        by_cases hb : b = a
        · rw [hb, show z - a = c + 1 by omega]; omega
        · exact i2 b (by omega) h2 h3
    · simp only [e]
      rw [if_neg (by simp)]
      obtain ⟨i1, i2, i3⟩ := ih (a + 1) m z (by omega)
      refine ⟨i1, fun b h1 h2 h3 => ?_, i3⟩
      by_cases hb : b = a
      · rw [hb] at h3; exact absurd h3 e
      · exact i2 b (by omega) h2 h3
theorem mxB_sp : ∀ (c a m z : Nat), a + c = z → m ≤ mxB F V c a m ∧ (∀ b, a ≤ b → b < z → F b = true → cn F V (V b) 0 (b + 1) ≤ mxB F V c a m) ∧ (mxB F V c a m = m ∨ ∃ b, b < z ∧ F b = true ∧ mxB F V c a m = cn F V (V b) 0 (b + 1)) := by
  intro c
  induction c with
  | zero => intro a m z hz; exact ⟨Nat.le_refl _, fun b h1 h2 => by omega, Or.inl rfl⟩
  | succ c ih =>
    intro a m z hz
    unfold mxB
    by_cases e : F a = true
    · simp only [e, if_true]
      by_cases q : cn F V (V a) 0 (a + 1) ≤ m
      · simp only [q, if_true]
        obtain ⟨i1, i2, i3⟩ := ih (a + 1) m z (by omega)
        refine ⟨i1, fun b h1 h2 h3 => ?_, i3⟩
        by_cases hb : b = a
        · rw [hb]; omega
        · exact i2 b (by omega) h2 h3
      · simp only [q, if_false]
        obtain ⟨i1, i2, i3⟩ := ih (a + 1) (cn F V (V a) 0 (a + 1)) z (by omega)
        refine ⟨by omega, fun b h1 h2 h3 => ?_, Or.inr ?_⟩
        · by_cases hb : b = a
          · rw [hb]; exact i1
          · exact i2 b (by omega) h2 h3
        · rcases i3 with i3 | i3
          · exact ⟨a, by omega, e, i3⟩
          · exact i3
    · simp only [e]
      rw [if_neg (by simp)]
      obtain ⟨i1, i2, i3⟩ := ih (a + 1) m z (by omega)
      refine ⟨i1, fun b h1 h2 h3 => ?_, i3⟩
      by_cases hb : b = a
      · rw [hb] at h3; exact absurd h3 e
      · exact i2 b (by omega) h2 h3
theorem mxAB (z : Nat) : mxA F V z 0 0 = mxB F V z 0 0 := by
  obtain ⟨-, a2, a3⟩ := mxA_sp (F := F) (V := V) z 0 0 z (by omega)
  obtain ⟨-, b2, b3⟩ := mxB_sp (F := F) (V := V) z 0 0 z (by omega)
  have A : ∀ v, cn F V v 0 z ≤ mxA F V z 0 0 := fun v => by
    rcases sr_first (cn1 F V v) z 0 with h | ⟨a, h1, h2, h3, h4⟩
    · show sr _ _ _ ≤ _; omega
    · obtain ⟨h5, h6⟩ := cn1_nz h3
      have := a2 a (by omega) (by omega) h5
      rw [h6] at this
      show sr _ _ _ ≤ _
      rw [h4, Nat.zero_add]
      exact this
  have B : ∀ v, cn F V v 0 z ≤ mxB F V z 0 0 := fun v => by
    rcases sr_last (cn1 F V v) z with h | ⟨a, h1, h3, h4⟩
    · show sr _ _ _ ≤ _; omega
    · obtain ⟨h5, h6⟩ := cn1_nz h3
      have := b2 a (by omega) (by omega) h5
      rw [h6] at this
      show sr _ _ _ ≤ _
      rw [h4]
      exact this
  apply Nat.le_antisymm
  · rcases a3 with h | ⟨b, h1, h2, h3⟩
    · omega
    · have := sr_tail (cn1 F V (V b)) b z (by omega)
      have := B (V b)
      rw [h3]
      exact Nat.le_trans ‹sr _ b (z - b) ≤ _› this
  · rcases b3 with h | ⟨b, h1, h2, h3⟩
    · omega
    · have := sr_head (cn1 F V (V b)) (b + 1) (z - (b + 1))
      rw [show b + 1 + (z - (b + 1)) = z by omega] at this
      rw [h3]
      exact Nat.le_trans this (A (V b))
theorem cn_le (v d c : Nat) : cn F V v d c ≤ c := by
  have := sr_le (f := cn1 F V v) (M := 1) (fun i => by unfold cn1; split <;> omega) c d
  unfold cn
  omega
theorem mxA_le (z : Nat) : mxA F V z 0 0 ≤ z := by
  obtain ⟨-, -, a3⟩ := mxA_sp (F := F) (V := V) z 0 0 z (by omega)
  rcases a3 with h | ⟨b, h1, h2, h3⟩
  · omega
  · have := cn_le (F := F) (V := V) (V b) b (z - b)
    omega
end MX
def alk (S : St) (ls : List (Nat × Nat)) (z p : Nat) : Nat := mxA (fitB S ls) (fun b => cpy S b p) z 0 0
/-- the place to look at, and how many are alike there at most -/
def lkF (S : St) (ls : List (Nat × Nat)) (z : Nat) (o : Option (Nat × Nat)) (p : Nat) : Option (Nat × Nat) := if (bkF ls p).isSome then o else match o with
  | none => some (p, alk S ls z p)
  | some q => if q.2 ≤ alk S ls z p then some q else some (p, alk S ls z p)
def lkV (S : St) (ls : List (Nat × Nat)) (z : Nat) : Option (Nat × Nat) := (List.range' 0 16).foldl (lkF S ls z) none
def aFits (S : St) (ls : List (Nat × Nat)) (z : Nat) : An := .inl (nI (fitN S ls z))
def aLook (S : St) (ls : List (Nat × Nat)) (z : Nat) (a : Int32) : An := if 0 ≤ a ∧ a ≤ 1 then .inl (if a = 0 then oI ((lkV S ls z).map Prod.fst) else oI ((lkV S ls z).map Prod.snd)) else IA 1
section BK1
variable {h : Hp} {x m z k : Nat} {S : St} {ls : List (Nat × Nat)} {a b c d : Int32}
theorem bkF_lt (B : Bk ls) {p v : Nat} (h : bkF ls p = some v) : v < 256 := (B.2.2 _ (bkF_mem h)).2
theorem c_fitsBook (C : CO h x) (K : CBk h x ls) (B : Bd S) {b : Nat} (hb : b < 16) (hd : ∀ p, p < 16 → h.2 (x + 39) (16 * b + p) = nI (cpy S b p)) : ∀ (c p f : Nat), p + c = 16 → c < f → gX9_fitsBook f 2 [.ref x, .int (nI b), .int (nI p)] [] h = some (.inl (some (.int (b2i ((List.range' p c).all (fitP S ls b))))), h) := by
  obtain ⟨k1', k2', k3'⟩ := C.book
  obtain ⟨d1, d2, d3⟩ := C.cps
  intro c
  induction c with
  | zero =>
    intro p f hp hf
    obtain ⟨f, rfl⟩ := sc hf
    rw [zX9_fitsBook_2]
    unfold kX9_fitsBook_2
    rw [if_pos (by rw [k16, nI_leI (by decide) (by omega)]; omega)]
    rfl
  | succ c ih =>
    intro p f hp hf
    obtain ⟨f, rfl⟩ := sc hf
    have hi := ih (p + 1) f (by omega) (by omega)
    have hidx : nI b * 16 + nI p = nI (16 * b + p) := by rw [k16, pk_mul, nI_add, Nat.mul_comm b 16]
    rw [zX9_fitsBook_2]
    unfold kX9_fitsBook_2
    rw [if_neg (by rw [k16, nI_leI (by decide) (by omega)]; omega), if_pos C.k, k1', if_pos k2', k3', if_pos (inB_nI (by omega) (by decide)), nI_clamp (by omega), K.2 p (by omega), nI_1, hi, List.range'_succ, List.all_cons]
    cases e : bkF ls p with
    | none =>
      rw [oI_n, if_pos rfl, show fitP S ls b p = true by unfold fitP; rw [e], Bool.true_and]
    | some v =>
      have hv := bkF_lt K.1 e
      have hc := cpy_lt B b p
      rw [oI_s, if_neg (by rw [nI_eqm (by omega)]; exact id), d1, if_pos d2, d3, hidx, if_pos (inB_nI (by omega) (by decide)), nI_clamp (by omega), hd p (by omega), show fitP S ls b p = (v == cpy S b p) by unfold fitP; rw [e]]
      by_cases q : v = cpy S b p
      · rw [if_pos (by rw [q]), show (v == cpy S b p) = true by simp [q], Bool.true_and]
      · rw [if_neg (by rw [nI_eq (by omega) (by omega)]; exact q), show (v == cpy S b p) = false by simp [q], Bool.false_and]
        rfl
theorem CBk.scr {h h' : Hp} (K : CBk h x ls) (s : Scr h h' x) : CBk h' x ls := ⟨K.1, fun p hp => by rw [s.2 (x + 38) (by unfold pers; omega)]; exact K.2 p hp⟩
/-- what the class keeps of the copies of the blocks that fit -/
def Dft (h : Hp) (x : Nat) (S : St) (ls : List (Nat × Nat)) (z : Nat) : Prop := ∀ b, b < z → fitB S ls b = true → ∀ p, p < 16 → h.2 (x + 39) (16 * b + p) = nI (cpy S b p)
theorem c_fitting_go (hI : Inv S z k) : ∀ (c b f : Nat) (h : Hp), b + c = z → c < f → CQ h x S z → CBk h x ls → Dft h x S ls b →
    ∃ h', gX9_fittingBlocks f 12 [.ref x, .int (nI (dirtN S z)), .int (nI (fitN S ls b)), .int (nI b)] [] h = some (.inl (some (.int (nI (fitN S ls z)))), h') ∧ Scr h h' x ∧ Dft h' x S ls z := by
  intro c
  induction c with
  | zero =>
    intro b f h hb hf Q K D
    obtain ⟨f, rfl⟩ := sc hf
    obtain ⟨C, R⟩ := id Q
    obtain ⟨hz1, hz2⟩ := R.2.2.1
    have : b = z := by omega
    subst this
    refine ⟨h, ?_, Scr.refl h x, D⟩
    rw [zX9_fittingBlocks_12]
    unfold kX9_fittingBlocks_12
    rw [if_pos C.k, C.r0, if_pos R.so.1, R.sz, if_pos (by rw [nI_leI (by omega) (by omega)]; omega)]
  | succ c ih =>
    intro b f h hb hf Q K D
    obtain ⟨f, rfl⟩ := sc hf
    obtain ⟨C, R⟩ := id Q
    obtain ⟨hz1, hz2⟩ := R.2.2.1
    have hlt := fitN_lt S ls (z := b) (by omega)
    have hp2 : 2 ^ b < 2 ^ 31 := p2lt (by omega)
    have hfs : fitN S ls (b + 1) = fitN S ls b ||| (if fitB S ls b then 2 ^ b else 0) := rfl
    have hdl := dirtN_lt S hz2
    rw [zX9_fittingBlocks_12]
    unfold kX9_fittingBlocks_12
    rw [if_pos C.k, C.r0, if_pos R.so.1, R.sz, if_neg (by rw [nI_leI (by omega) (by omega)]; omega), bit_nI (by omega) (by omega), dirtN_bit S (by omega), nI_1]
    cases hd : dirt S b with
    | false =>
      have hF : fitB S ls b = false := by unfold fitB; rw [hd]; rfl
      rw [if_pos (by decide)]
      obtain ⟨h', i1, i2, i3⟩ := ih (b + 1) f h (by omega) (by omega) Q K (fun b' h1 h2 => by
        by_cases e : b' = b
        · rw [e, hF] at h2; cases h2
        · exact D b' (by omega) h2)
      rw [hfs, hF, if_neg (by decide), Nat.or_zero] at i1
      exact ⟨h', i1, i2, i3⟩
    | true =>
      rw [if_neg (by decide), C.r4, if_pos C.pen.1]
      obtain ⟨h1, a1, a2, a3, a4, a5, a6, a7, a8⟩ := c_draft (b := b) (p := x + 15) (by omega) (by omega) (inv_na hI) R C.pen
      have C1 := C.eq a2
      have s1 : Scr h h1 x := ⟨a2, fun y hy => a3 y (by unfold pers at hy; omega) (by unfold pers at hy; omega) (by unfold pers at hy; omega)⟩
      obtain ⟨p1, p2, p3, ⟨p4, p5, p6⟩, p7⟩ := C1.pen
      obtain ⟨d1, d2, d3⟩ := C1.cps
      have hm : (nI b * 16 : Int32) = nI (b * 16) := by rw [k16, pk_mul]
      rw [a1, bV_s, if_pos C1.k, C1.r4, if_pos p1, p4, if_pos p5, d1, if_pos d2, hm, if_pos (by rw [nI_lt0 (by omega)]; exact id), nI_clamp (by omega), p6, if_pos (by omega), d3, if_pos (by omega)]
      have s2 : Scr h1 (h1.1, cpI h1.2 (x + 15 + 3) (x + 39) 0 (b * 16) 16) x := ⟨rfl, fun y hy => cpI_ne (by unfold pers at hy; omega)⟩
      have s12 := s1.trans s2
      have Q2 := Q.scr s12
      have K2 := K.scr s12
      have v2 : ∀ p, p < 16 → (h1.1, cpI h1.2 (x + 15 + 3) (x + 39) 0 (b * 16) 16).2 (x + 39) (16 * b + p) = nI (cpy S b p) := fun p hp => by
        show cpI _ _ _ _ _ _ (x + 39) _ = _
        rw [cpI_at, if_pos (by omega), show 0 + (16 * b + p - b * 16) = p by omega]
        exact a8 p hp
      have fb : fX9_fitsBook x (nI b) (h1.1, cpI h1.2 (x + 15 + 3) (x + 39) 0 (b * 16) 16) = _ := c_fitsBook Q2.1 K2 R.bd (by omega) v2 16 0 FF rfl (by decide)
      have D2 : Dft (h1.1, cpI h1.2 (x + 15 + 3) (x + 39) 0 (b * 16) 16) x S ls (b + 1) := fun b' h1' h2 p hp => by
        by_cases e : b' = b
        · rw [e]; exact v2 p hp
        · show cpI _ _ _ _ _ _ (x + 39) _ = _
          rw [cpI_at, if_neg (by omega), a3 _ (by omega) (by omega) (by omega)]
          exact D b' (by omega) h2 p hp
      have hF : fitB S ls b = (List.range' 0 16).all (fitP S ls b) := by unfold fitB; rw [hd, Bool.true_and]; rfl
      rw [fb, bI_s, ← hF]
      obtain ⟨h', i1, i2, i3⟩ := ih (b + 1) f _ (by omega) (by omega) Q2 K2 D2
      refine ⟨h', ?_, s12.trans i2, i3⟩
      rw [← i1, hfs]
      cases fitB S ls b with
      | false => rw [if_pos (by decide), if_neg (by decide), Nat.or_zero]
      | true => rw [if_neg (by decide), if_pos rfl, k1, one_shl (by omega), or_nI31 (by omega) hp2]
theorem c_fitting (Q : CQ h x S z) (hI : Inv S z k) (K : CBk h x ls) : ∃ h', fX9_fittingBlocks x h = some (.inl (some (.int (nI (fitN S ls z)))), h') ∧ Scr h h' x ∧ Dft h' x S ls z := by
  obtain ⟨C, R⟩ := id Q
  obtain ⟨hz1, hz2⟩ := R.2.2.1
  obtain ⟨h', i1, i2, i3⟩ := c_fitting_go (ls := ls) hI z 0 FF h (by omega) (by show z < 1000000; omega) Q K (fun b h1 => by omega)
  refine ⟨h', ?_, i2, i3⟩
  unfold fX9_fittingBlocks kX9_fittingBlocks_0
  rw [if_pos C.k, C.r0, if_pos R.so.1, c_dirty R (inv_Zb hI), bI_s]
  exact i1
theorem cq_fits (Q : CQ h x S z) (hI : Inv S z k) (K : CBk h x ls) : ClsA (fX9_fits x h) h x (aFits S ls z) := by
  obtain ⟨h', i1, i2, -⟩ := c_fitting Q hI K
  unfold fX9_fits kX9_fits_0 aFits
  rw [if_pos Q.1.k, i1, bI_s]
  exact clsA_i rfl i2
/-! the most alike -/
theorem c_alike_in (Q : CQ h x S z) (D : Dft h x S ls z) {p : Nat} (hp : p < 16) {a : Nat} (ha : a < z) (hF : fitB S ls a = true) {x3 : Int32} : ∀ (c b n f : Nat), b + c = z → c < f → n + c < 2 ^ 30 →
    gX9_mostAlike f 24 [.ref x, .int (nI (fitN S ls z)), .int (nI p), .int x3, .int (nI a), .int (nI n), .int (nI b)] [] h = gX9_mostAlike (f - c - 1) 5 [.ref x, .int (nI (fitN S ls z)), .int (nI p), .int (if x3 < nI (n + cn (fitB S ls) (fun b => cpy S b p) (cpy S a p) b c) then nI (n + cn (fitB S ls) (fun b => cpy S b p) (cpy S a p) b c) else x3), .int (nI (a + 1)), uV, uV] [] h := by
  obtain ⟨C, R⟩ := id Q
  obtain ⟨hz1, hz2⟩ := R.2.2.1
  obtain ⟨d1, d2, d3⟩ := C.cps
  have hfl := fitN_lt S ls hz2
  intro c
  induction c with
  | zero =>
    intro b n f hb hf hn
    obtain ⟨f, rfl⟩ := sc hf
    rw [zX9_mostAlike_24]
    unfold kX9_mostAlike_24
    rw [bit_nI (by omega) (by omega), fitN_bit S ls ha, hF, if_neg (by decide), if_pos C.k, C.r0, if_pos R.so.1, R.sz, if_pos (by rw [nI_leI (by omega) (by omega)]; omega), nI_1]
    rfl
  | succ c ih =>
    intro b n f hb hf hn
    obtain ⟨f, rfl⟩ := sc hf
    have hidx : ∀ b, nI b * 16 + nI p = nI (16 * b + p) := fun b => by rw [k16, pk_mul, nI_add, Nat.mul_comm b 16]
    have hca := cpy_lt R.bd a p
    have hcb := cpy_lt R.bd b p
    rw [zX9_mostAlike_24]
    unfold kX9_mostAlike_24
    rw [bit_nI (by omega) (by omega), fitN_bit S ls ha, hF, if_neg (by decide), if_pos C.k, C.r0, if_pos R.so.1, R.sz, if_neg (by rw [nI_leI (by omega) (by omega)]; omega), bit_nI (by omega) (by omega), fitN_bit S ls (by omega), nI_1, nI_1]
    have hcn : cn (fitB S ls) (fun b => cpy S b p) (cpy S a p) b (c + 1) = cn1 (fitB S ls) (fun b => cpy S b p) (cpy S a p) b + cn (fitB S ls) (fun b => cpy S b p) (cpy S a p) (b + 1) c := sr_s _ _ _
    rw [show f + 1 - (c + 1) - 1 = f - c - 1 by omega, hcn]
    cases hb' : fitB S ls b with
    | false =>
      have : cn1 (fitB S ls) (fun b => cpy S b p) (cpy S a p) b = 0 := by unfold cn1; rw [hb', Bool.false_and, if_neg (by decide)]
      rw [if_pos (by decide), ih (b + 1) n f (by omega) (by omega) (by omega), this, Nat.zero_add]
    | true =>
      rw [if_neg (by decide), d1, if_pos d2, d3, hidx, hidx, if_pos (inB_nI (by omega) (by decide)), if_pos (inB_nI (by omega) (by decide)), nI_clamp (by omega), nI_clamp (by omega), D b (by omega) hb' p hp, D a ha hF p hp]
      by_cases q : cpy S b p = cpy S a p
      · have : cn1 (fitB S ls) (fun b => cpy S b p) (cpy S a p) b = 1 := by unfold cn1; rw [hb', Bool.true_and, if_pos (by simp [q])]
        rw [if_neg (fun w => w (by rw [q])), ih (b + 1) (n + 1) f (by omega) (by omega) (by omega), this, Nat.add_assoc]
      · have : cn1 (fitB S ls) (fun b => cpy S b p) (cpy S a p) b = 0 := by unfold cn1; rw [hb', Bool.true_and, if_neg (by simp [q])]
        rw [if_pos (by rw [nI_eq (by omega) (by omega)]; exact q), ih (b + 1) n f (by omega) (by omega) (by omega), this, Nat.zero_add]
theorem c_alike_go (Q : CQ h x S z) (D : Dft h x S ls z) {p : Nat} (hp : p < 16) : ∀ (c a n f : Nat), a + c = z → 20 * c < f → n ≤ 16 →
    gX9_mostAlike f 5 [.ref x, .int (nI (fitN S ls z)), .int (nI p), .int (nI n), .int (nI a), uV, uV] [] h = some (.inl (some (.int (nI (mxA (fitB S ls) (fun b => cpy S b p) c a n)))), h) := by
  obtain ⟨C, R⟩ := id Q
  obtain ⟨hz1, hz2⟩ := R.2.2.1
  have hfl := fitN_lt S ls hz2
  intro c
  induction c with
  | zero =>
    intro a n f ha hf hn
    obtain ⟨f, rfl⟩ := sc hf
    rw [zX9_mostAlike_5]
    unfold kX9_mostAlike_5
    rw [if_pos C.k, C.r0, if_pos R.so.1, R.sz, if_pos (by rw [nI_leI (by omega) (by omega)]; omega)]
    rfl
  | succ c ih =>
    intro a n f ha hf hn
    obtain ⟨f, rfl⟩ := sc hf
    rw [zX9_mostAlike_5]
    unfold kX9_mostAlike_5
    rw [if_pos C.k, C.r0, if_pos R.so.1, R.sz, if_neg (by rw [nI_leI (by omega) (by omega)]; omega)]
    unfold mxA
    cases hF : fitB S ls a with
    | false =>
      obtain ⟨f, rfl⟩ := sc (show 0 < f by omega)
      rw [zX9_mostAlike_24]
      unfold kX9_mostAlike_24
      rw [bit_nI (by omega) (by omega), fitN_bit S ls (by omega), hF, if_pos (by decide), nI_1, if_neg (by rw [show (0 : Int32) = nI 0 from rfl, nI_ltI (by omega) (by omega)]; omega), ih (a + 1) n f (by omega) (by omega) hn]
      rw [if_neg (show ¬ false = true by decide), if_neg (by omega)]
    | true =>
      have hcl := cn_le (F := fitB S ls) (V := fun b => cpy S b p) (cpy S a p) a (c + 1)
      have hin := c_alike_in Q D hp (a := a) (by omega) hF (x3 := nI n) (c + 1) a 0 f (by omega) (by omega) (by omega)
      have hin : gX9_mostAlike f 24 [.ref x, .int (nI (fitN S ls z)), .int (nI p), .int (nI n), .int (nI a), .int 0, .int (nI a)] [] h = _ := hin
      rw [hin, Nat.zero_add, if_pos rfl]
      have : (if nI n < nI (cn (fitB S ls) (fun b => cpy S b p) (cpy S a p) a (c + 1)) then nI (cn (fitB S ls) (fun b => cpy S b p) (cpy S a p) a (c + 1)) else nI n) = nI (if n < cn (fitB S ls) (fun b => cpy S b p) (cpy S a p) a (c + 1) then cn (fitB S ls) (fun b => cpy S b p) (cpy S a p) a (c + 1) else n) := by
        by_cases q : n < cn (fitB S ls) (fun b => cpy S b p) (cpy S a p) a (c + 1)
        · rw [if_pos q, if_pos (by rw [nI_ltI (by omega) (by omega)]; exact q)]
        · rw [if_neg q, if_neg (by rw [nI_ltI (by omega) (by omega)]; exact q)]
      rw [this]
      exact ih (a + 1) _ _ (by omega) (by omega) (by split <;> omega)
theorem c_alike (Q : CQ h x S z) (D : Dft h x S ls z) {p : Nat} (hp : p < 16) : fX9_mostAlike x (nI (fitN S ls z)) (nI p) h = some (.inl (some (.int (nI (alk S ls z p)))), h) := by
  obtain ⟨hz1, hz2⟩ := Q.2.2.2.1
  exact c_alike_go Q D hp z 0 0 FF (by omega) (by show _ < 1000000; omega) (by omega)
theorem alk_le (S : St) (ls : List (Nat × Nat)) (z p : Nat) : alk S ls z p ≤ z := mxA_le z
theorem lk_some {o : Option (Nat × Nat)} {p : Nat} (ho : ∀ q, o = some q → q.1 < 16 ∧ q.2 ≤ 16) (hp : p < 16) (hz : z ≤ 16) : ∀ q, lkF S ls z o p = some q → q.1 < 16 ∧ q.2 ≤ 16 := by
  intro q hq
  have := alk_le S ls z p
  unfold lkF at hq
  split at hq
  · exact ho q hq
  · cases o with
    | none => injection hq with hq; rw [← hq]; exact ⟨hp, by show alk S ls z p ≤ 16; omega⟩
    | some q0 =>
      have h0 := ho q0 rfl
      simp only at hq
      split at hq
      · injection hq with hq; rw [← hq]; exact h0
      · injection hq with hq; rw [← hq]; exact ⟨hp, by show alk S ls z p ≤ 16; omega⟩
theorem c_look_go (Q : CQ h x S z) (K : CBk h x ls) (D : Dft h x S ls z) {a : Int32} : ∀ (c p f : Nat) (o : Option (Nat × Nat)), p + c = 16 → c < f → (∀ q, o = some q → q.1 < 16 ∧ q.2 ≤ 16) →
    gX9_look f 19 [.ref x, .int a, .int (nI (fitN S ls z)), .int (oI (o.map Prod.fst)), .int (oI (o.map Prod.snd)), .int (nI p), uV] [] h = some (.inl (some (.int (if a = 0 then oI (((List.range' p c).foldl (lkF S ls z) o).map Prod.fst) else oI (((List.range' p c).foldl (lkF S ls z) o).map Prod.snd)))), h) := by
  obtain ⟨C, R⟩ := id Q
  obtain ⟨hz1, hz2⟩ := R.2.2.1
  obtain ⟨k1', k2', k3'⟩ := C.book
  intro c
  induction c with
  | zero =>
    intro p f o hp hf ho
    obtain ⟨f, rfl⟩ := sc hf
    rw [zX9_look_19]
    unfold kX9_look_19
    rw [if_pos (by rw [k16, nI_leI (by decide) (by omega)]; omega)]
    by_cases q : a = 0
    · rw [if_neg (fun w => w q), if_pos q]; rfl
    · rw [if_pos q, if_neg q]; rfl
  | succ c ih =>
    intro p f o hp hf ho
    obtain ⟨f, rfl⟩ := sc hf
    have hal := alk_le S ls z p
    have hi := ih (p + 1) f (lkF S ls z o p) (by omega) (by omega) (lk_some ho (by omega) hz2)
    rw [List.range'_succ, List.foldl_cons, ← hi]
    rw [zX9_look_19]
    unfold kX9_look_19
    rw [if_neg (by rw [k16, nI_leI (by decide) (by omega)]; omega), if_pos C.k, k1', if_pos k2', k3', if_pos (inB_nI (by omega) (by decide)), nI_clamp (by omega), K.2 p (by omega), nI_1]
    cases e : bkF ls p with
    | some v =>
      have hv := bkF_lt K.1 e
      rw [oI_s, if_pos (by rw [nI_eqm (by omega)]; exact id), show lkF S ls z o p = o by unfold lkF; rw [e]; rfl]
    | none =>
      rw [oI_n, if_neg (fun w => w rfl), c_alike Q D (by omega), bI_s]
      cases o with
      | none =>
        have : lkF S ls z none p = some (p, alk S ls z p) := by unfold lkF; rw [e]; rfl
        rw [this, if_pos (by rfl)]
        rfl
      | some q =>
        obtain ⟨q1, q2⟩ := ho q rfl
        show (if nI q.1 = -1 then _ else if nI q.2 ≤ nI (alk S ls z p) then _ else _) = _
        rw [if_neg (by rw [nI_eqm (by omega)]; exact id)]
        by_cases w : q.2 ≤ alk S ls z p
        · have : lkF S ls z (some q) p = some q := by unfold lkF; rw [e]; show (if q.2 ≤ alk S ls z p then _ else _) = _; rw [if_pos w]
          rw [this, if_pos (by rw [nI_leI (by omega) (by omega)]; exact w)]
        · have : lkF S ls z (some q) p = some (p, alk S ls z p) := by unfold lkF; rw [e]; show (if q.2 ≤ alk S ls z p then _ else _) = _; rw [if_neg w]
          rw [this, if_neg (by rw [nI_leI (by omega) (by omega)]; exact w)]
          rfl
theorem cq_look (Q : CQ h x S z) (hI : Inv S z k) (K : CBk h x ls) (a : Int32) : ClsA (fX9_look x a h) h x (aLook S ls z a) := by
  obtain ⟨C, R⟩ := id Q
  unfold fX9_look kX9_look_0 aLook
  rw [if_pos C.k, t_wht C]
  by_cases ha : 0 ≤ a ∧ a ≤ 1
  · rw [if_pos ha, if_pos ha, bVx_s, if_pos C.k]
    obtain ⟨h', i1, i2, i3⟩ := c_fitting Q hI K
    rw [i1, bI_s]
    exact clsA_i (c_look_go (Q.scr i2) (K.scr i2) i3 16 0 FF none rfl (by decide) (fun q hq => by cases hq)) i2
  · rw [if_neg ha, if_neg ha, bVx_t]
    rfl
end BK1
