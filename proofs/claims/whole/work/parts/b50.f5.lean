/-! ===== fewest, both sides ===== -/
def sf (z : Nat) : Nat → St → Bool
  | 0, S => decide (dirtN S z = 0)
  | n + 1, S => if dirtN S z = 0 then true else if n + 1 < onesN (dirtN S z) then false else (rng z).any (fun b => dirt S b && sf z n (wrs S b))
theorem sf_0 (z : Nat) (S : St) : sf z 0 S = decide (dirtN S z = 0) := rfl
theorem sf_s (z n : Nat) (S : St) : sf z (n + 1) S = if dirtN S z = 0 then true else if n + 1 < onesN (dirtN S z) then false else (rng z).any (fun b => dirt S b && sf z n (wrs S b)) := rfl
theorem ones_pos {y : Nat} (h0 : y ≠ 0) (h : y < 2 ^ 16) : 0 < onesN y := by
  obtain ⟨i, hi⟩ : ∃ i, y.testBit i = true := by
    rcases Classical.em (∃ i, y.testBit i = true) with q | q
    · exact q
    · exfalso
      apply h0
      apply Nat.eq_of_testBit_eq
      intro i
      rw [Nat.zero_testBit]
      cases e : y.testBit i with
      | false => rfl
      | true => exact absurd ⟨i, e⟩ q
  have hi16 : i < 16 := by
    rcases Nat.lt_or_ge i 16 with q | q
    · exact q
    · have := Nat.testBit_lt_two_pow (i := i) (Nat.lt_of_lt_of_le h (Nat.pow_le_pow_right (by decide) q))
      rw [this] at hi
      cases hi
  unfold onesN
  apply List.length_pos_of_mem (a := i)
  rw [List.mem_filter, List.mem_range'_1]
  exact ⟨by omega, hi⟩
theorem ones_0 : onesN 0 = 0 := by decide
theorem dirtN_bit (S : St) {z b : Nat} (hb : b < z) : (dirtN S z).testBit b = dirt S b := by
  have : (dirtN S z).testBit b = (decide (b < z) && dirt S b) := bitsOf_bit _ _ _
  rw [this, decide_eq_true hb, Bool.true_and]
def sfF (z : Nat) (S : St) : List Nat → Nat
  | [] => 5
  | n :: l => if sf z n S = true then n else sfF z S l
def aFewest (S : St) (z : Nat) : An := .inl (if sfF z S [0, 1, 2, 3, 4] = 5 then -1 else nI (sfF z S [0, 1, 2, 3, 4]))
def Fx (h h' : Hp) (x d : Nat) : Prop := h'.1 = h.1 ∧ ∀ a, (a < x + 15 ∨ x + 20 ≤ a) → (a < x + 52 + 10 * d ∨ x + 92 ≤ a) → h'.2 a = h.2 a
theorem Fx.refl (h : Hp) (x d : Nat) : Fx h h x d := ⟨rfl, fun _ _ _ => rfl⟩
theorem Fx.trans {h h1 h2 : Hp} {x d : Nat} (a : Fx h h1 x d) (b : Fx h1 h2 x d) : Fx h h2 x d := ⟨b.1.trans a.1, fun y q1 q2 => by rw [b.2 y q1 q2, a.2 y q1 q2]⟩
theorem Fx.up {h h1 : Hp} {x d : Nat} (a : Fx h h1 x (d + 1)) : Fx h h1 x d := ⟨a.1, fun y q1 q2 => a.2 y q1 (by omega)⟩
section F5
variable {h : Hp} {x m z k : Nat} {S : St}
theorem c_sf_go {n d : Nat} (hd : d + (n + 1) ≤ 4) {F : Nat → Int32 → Int32 → Hp → RS} (hF : ∀ (T : St) (g : Hp), Sta g (x + 42 + 10 * (d + 1)) T z → CO g x → Inv T z (k + 240 * n) → ∃ g', F x (nI n) (nI (d + 1)) g = some (.inl (some (.int (b2i (sf z n T)))), g') ∧ Fx g g' x (d + 1)) :
    ∀ (c b f : Nat) (h : Hp), b + c = z → Sta h (x + 42 + 10 * d) S z → CO h x → Inv S z (k + 240 * (n + 1)) →
    ∃ h', gX9_safeWithin F (f + c + 1) 45 [.ref x, .int (nI (n + 1)), .int (nI d), .ref (x + 42 + 10 * d), .int (nI (dirtN S z)), .int (nI b)] [] h = some (.inl (some (.int (b2i ((List.range' b c).any (fun b => dirt S b && sf z n (wrs S b)))))), h') ∧ Fx h h' x d := by
  intro c
  induction c with
  | zero =>
    intro b f h hb R C I
    obtain ⟨hz1, hz2⟩ := R.2.2.1
    refine ⟨h, ?_, Fx.refl h x d⟩
    rw [zX9_safeWithin_45]
    unfold kX9_safeWithin_45
    rw [if_pos R.so.1, R.sz, if_pos (by rw [nI_leI (by omega) (by omega)]; omega)]
    rfl
  | succ c ih =>
    intro b f h hb R C I
    obtain ⟨hz1, hz2⟩ := R.2.2.1
    have hlt := dirtN_lt S hz2
    rw [List.range'_succ, List.any_cons, show f + (c + 1) + 1 = (f + c + 1) + 1 by omega, zX9_safeWithin_45]
    unfold kX9_safeWithin_45
    rw [if_pos R.so.1, R.sz, if_neg (by rw [nI_leI (by omega) (by omega)]; omega), bit_nI (by omega) (by omega), dirtN_bit S (by omega), nI_1, nI_1]
    cases hdd : dirt S b with
    | false =>
      rw [if_pos (by decide), Bool.false_and, Bool.false_or]
      exact ih (b + 1) f h (by omega) R C I
    | true =>
      obtain ⟨s1, s2, s3⟩ := C.spa
      obtain ⟨t1, t2⟩ := C.spr (i := d + 1) (by omega)
      have h64 := inv_l60 I
      obtain ⟨h1, a1, a2, a3⟩ := c_copy R t2 (by omega) (by omega)
      have C1 := C.eq a2.1
      obtain ⟨u1, u2, u3⟩ := C1.spa
      obtain ⟨v1, v2⟩ := C1.spr (i := d + 1) (by omega)
      obtain ⟨h2, b1, b2, b3⟩ := c_write (p := x + 15) (by omega) (b := b) (by omega) a3 C1.pen (inv_Wc (k := k + 240 * n) (I.le (by omega)) b)
      have C2 := C1.eq b2.1
      obtain ⟨h3, f1, f2⟩ := hF (wrs S b) h2 b3 C2 (inv_wrs (I.le (by omega)) b)
      have C3 := C2.eq f2.1
      have F1 : Fx h h1 x d := ⟨a2.1, fun y q1 q2 => a2.2 y (by omega)⟩
      have F2 : Fx h1 h2 x d := ⟨b2.1, fun y q1 q2 => b2.2 y (by omega) (by omega)⟩
      have FF3 := (F1.trans F2).trans f2.up
      have hsub : nI (n + 1) - 1 = nI n := by rw [k1, pk_sub (by omega)]; rfl
      rw [if_neg (by decide), if_pos C.k, s1, if_pos s2, s3, if_pos (inB_nI (by omega) (by decide)), nI_clamp (by omega), t1, if_pos t2.1, a1, bV_s, if_pos C1.k, u1, if_pos u2, u3, if_pos (inB_nI (by omega) (by decide)), C1.r4, if_pos C1.pen.1, v1, b1, bI_s, if_pos C2.k, hsub, f1, bI_s, Bool.true_and]
      cases hs : sf z n (wrs S b) with
      | true =>
        rw [if_neg (by decide), Bool.true_or]
        exact ⟨h3, rfl, FF3⟩
      | false =>
        rw [if_pos (by decide), Bool.false_or]
        have R3 : Sta h3 (x + 42 + 10 * d) S z := R.eqs FF3.1 (fun y q1 q2 => FF3.2 y (by omega) (by omega))
        obtain ⟨h4, i1, i2⟩ := ih (b + 1) f h3 (by omega) R3 C3 I
        exact ⟨h4, i1, FF3.trans i2⟩
theorem c_sf : ∀ (n d q : Nat) (S : St) (h : Hp), d + n ≤ 4 → n < q → Sta h (x + 42 + 10 * d) S z → CO h x → Inv S z (k + 240 * n) →
    ∃ h', rX9_safeWithin q x (nI n) (nI d) h = some (.inl (some (.int (b2i (sf z n S)))), h') ∧ Fx h h' x d := by
  intro n
  induction n with
  | zero =>
    intro d q S h hd hq R C I
    obtain ⟨q, rfl⟩ := sc hq
    obtain ⟨hz1, hz2⟩ := R.2.2.1
    have hlt := dirtN_lt S hz2
    obtain ⟨s1, s2, s3⟩ := C.spa
    obtain ⟨t1, t2⟩ := C.spr (i := d) (by omega)
    refine ⟨h, ?_, Fx.refl h x d⟩
    show kX9_safeWithin_0 (gX9_safeWithin (rX9_safeWithin q) FF) (rX9_safeWithin q) x (nI 0) (nI d) h = _
    unfold kX9_safeWithin_0
    rw [if_pos C.k, s1, if_pos s2, s3, if_pos (inB_nI (by omega) (by decide)), nI_clamp (by omega), t1, if_pos t2.1, c_dirty R (inv_Zb I), bI_s, sf_0]
    by_cases e : dirtN S z = 0
    · rw [if_neg (by rw [nI_eq0 (by omega)]; exact fun w => w e), decide_eq_true e]
      rfl
    · have hp := ones_pos e hlt
      have hl := onesN_le (dirtN S z)
      rw [if_pos (by rw [nI_eq0 (by omega)]; exact e), t_bitCount hlt, bI_s, if_pos (by rw [nI_ltI (by decide) (by omega)]; exact hp), decide_eq_false e]
      rfl
  | succ n ih =>
    intro d q S h hd hq R C I
    obtain ⟨q, rfl⟩ := sc hq
    obtain ⟨hz1, hz2⟩ := R.2.2.1
    have hlt := dirtN_lt S hz2
    obtain ⟨s1, s2, s3⟩ := C.spa
    obtain ⟨t1, t2⟩ := C.spr (i := d) (by omega)
    show ∃ h', kX9_safeWithin_0 (gX9_safeWithin (rX9_safeWithin q) FF) (rX9_safeWithin q) x (nI (n + 1)) (nI d) h = _ ∧ _
    unfold kX9_safeWithin_0
    rw [if_pos C.k, s1, if_pos s2, s3, if_pos (inB_nI (by omega) (by decide)), nI_clamp (by omega), t1, if_pos t2.1, c_dirty R (inv_Zb I), bI_s, sf_s]
    by_cases e : dirtN S z = 0
    · rw [if_neg (by rw [nI_eq0 (by omega)]; exact fun w => w e), if_pos e]
      exact ⟨h, rfl, Fx.refl h x d⟩
    · have hl := onesN_le (dirtN S z)
      rw [if_pos (by rw [nI_eq0 (by omega)]; exact e), if_neg e, t_bitCount hlt, bI_s]
      by_cases e2 : n + 1 < onesN (dirtN S z)
      · rw [if_pos (by rw [nI_ltI (by omega) (by omega)]; exact e2), if_pos e2]
        exact ⟨h, rfl, Fx.refl h x d⟩
      · rw [if_neg (by rw [nI_ltI (by omega) (by omega)]; exact e2), if_neg e2, if_pos C.k, s1, if_pos s2, s3, nI_1, if_pos (show nI (d + 1) < Nat.toInt32 5 by show nI (d + 1) < nI 5; rw [nI_ltI (by omega) (by decide)]; omega)]
        obtain ⟨h', i1, i2⟩ := c_sf_go (x := x) (k := k) (z := z) (S := S) hd (fun T g r c i => ih (d + 1) q T g (by omega) (by omega) r c i) z 0 (1000000 - z - 1) h (by omega) R C I
        rw [show 1000000 - z - 1 + z + 1 = FF by unfold FF; omega] at i1
        exact ⟨h', i1, i2⟩
theorem sfF_lt {S : St} {z : Nat} : ∀ l : List Nat, sfF z S l = 5 ∨ sfF z S l ∈ l := by
  intro l
  induction l with
  | nil => exact Or.inl rfl
  | cons n l ih =>
    unfold sfF
    split
    · exact Or.inr List.mem_cons_self
    · rcases ih with q | q
      · exact Or.inl q
      · exact Or.inr (List.mem_cons_of_mem _ q)
theorem c_few_go : ∀ (c n f : Nat) (h : Hp), n + c = 5 → c < f → CQ h x S z → Inv S z (k + 1200) →
    ∃ h', gX9_fewest f 2 [.ref x, .int (nI n)] [] h = some (.inl (some (.int (if sfF z S (List.range' n c) = 5 then -1 else nI (sfF z S (List.range' n c))))), h') ∧ Scr h h' x := by
  intro c
  induction c with
  | zero =>
    intro n f h hn hf Q I
    obtain ⟨f, rfl⟩ := sc hf
    refine ⟨h, ?_, Scr.refl h x⟩
    rw [zX9_fewest_2]
    unfold kX9_fewest_2
    rw [if_pos (by rw [k4, nI_ltI (by decide) (by omega)]; omega)]
    rfl
  | succ c ih =>
    intro n f h hn hf Q I
    obtain ⟨f, rfl⟩ := sc hf
    obtain ⟨C, R⟩ := id Q
    obtain ⟨s1, s2, s3⟩ := C.spa
    obtain ⟨t1, t2⟩ := C.spr (i := 0) (by decide)
    obtain ⟨h1, a1, a2, a3⟩ := c_spare Q I (i := 0) (by decide)
    have t1 : rH h (x + 14) 0 = x + 42 := t1
    have t2 : SO h (x + 42) := t2
    have a1 : fX5_copyFrom (x + 42) (x + 1) h = some (.inl none, h1) := a1
    have a2 : Own h h1 (x + 42) := a2
    have C1 := C.eq a2.1
    obtain ⟨h2, b1, b2⟩ := c_sf (x := x) (k := k) n 0 40 S h1 (by omega) (by omega) a3 C1 (I.le (by omega))
    have b1 : fX9_safeWithin x (nI n) 0 h1 = _ := b1
    have sc1 : Scr h h1 x := scr_own (by omega) a2
    have sc2 : Scr h1 h2 x := ⟨b2.1, fun y hy => b2.2 y (by unfold pers at hy; omega) (by unfold pers at hy; omega)⟩
    rw [zX9_fewest_2, List.range'_succ]
    unfold kX9_fewest_2 sfF
    rw [if_neg (by rw [k4, nI_ltI (by decide) (by omega)]; omega), if_pos C.k, s1, if_pos s2, s3, if_pos (by decide), t1, if_pos t2.1, C.r0, a1, bV_s, if_pos C1.k, b1, bI_s]
    cases hs : sf z n S with
    | true =>
      rw [if_neg (by decide), if_pos rfl, if_neg (show ¬ n = 5 by omega)]
      exact ⟨h2, rfl, sc1.trans sc2⟩
    | false =>
      rw [if_pos (by decide), if_neg (show ¬ false = true by decide), nI_1]
      obtain ⟨h3, i1, i2⟩ := ih (n + 1) f h2 (by omega) (by omega) (Q.scr (sc1.trans sc2)) I
      exact ⟨h3, i1, (sc1.trans sc2).trans i2⟩
theorem cq_fewest (Q : CQ h x S z) (I : Inv S z (k + 1200)) : ClsA (fX9_fewest x h) h x (aFewest S z) := by
  obtain ⟨h1, a1, a2⟩ := c_few_go (k := k) 5 0 FF h rfl (by decide) Q I
  exact clsA_i a1 a2
/-! the reference -/
def Fy (h h' : Hp) (m d : Nat) : Prop := h'.1 = h.1 ∧ (∀ a, a ≠ m → a ≠ m + 147 → a ≠ m + 148 → a ≠ m + 149 → (a ≤ m + 142 + d ∨ m + 147 ≤ a) → h'.2 a = h.2 a) ∧ ∀ j, j ≠ 30 → h'.2 m j = h.2 m j
theorem Fy.refl (h : Hp) (m d : Nat) : Fy h h m d := ⟨rfl, fun _ _ _ _ _ _ => rfl, fun _ _ => rfl⟩
theorem Fy.trans {h h1 h2 : Hp} {m d : Nat} (a : Fy h h1 m d) (b : Fy h1 h2 m d) : Fy h h2 m d := ⟨b.1.trans a.1, fun y q1 q2 q3 q4 q5 => by rw [b.2.1 y q1 q2 q3 q4 q5, a.2.1 y q1 q2 q3 q4 q5], fun j hj => by rw [b.2.2 j hj, a.2.2 j hj]⟩
theorem Fy.up {h h1 : Hp} {m d : Nat} (a : Fy h h1 m (d + 1)) : Fy h h1 m d := ⟨a.1, fun y q1 q2 q3 q4 q5 => a.2.1 y q1 q2 q3 q4 (by omega), a.2.2⟩
def DRw (h : Hp) (m d : Nat) (S : St) (z : Nat) : Prop := MS h m ∧ Row h (m + 142 + d) S ∧ h.2 m 11 = nI z
theorem MS.dr {h : Hp} {m d : Nat} (M : MS h m) (hd : d < 5) : rH h m 26 = m + 141 ∧ kH h (m + 141) = 7 ∧ lH h (m + 141) = 5 ∧ rH h (m + 141) d = m + 142 + d ∧ kH h (m + 142 + d) = 1 ∧ lH h (m + 142 + d) = 3398 := by
  obtain ⟨⟨a1, a2, a3⟩, a4⟩ := M.dee
  obtain ⟨b1, b2, b3⟩ := a4 d hd
  have e : m + 141 + 1 + d = m + 142 + d := by omega
  rw [e] at b1 b2 b3
  exact ⟨a1, a2, a3, b1, b2, b3⟩
theorem m_sf_go {n d : Nat} (hd : d + n ≤ 4) (hz2 : z ≤ 16) {F : Nat → Int32 → Int32 → Hp → RS} (hF : ∀ (T : St) (g : Hp) (p : Nat), n = p + 1 → DRw g m (d + 1) T z → Inv T z (k + 240 * p) → ∃ g', F m (nI (d + 1)) (nI p) g = some (.inl (some (.int (b2i (sf z p T)))), g') ∧ Fy g g' m (d + 1))
    (hn : n = 0 → dirtN S z = 0) :
    ∀ (c b f : Nat) (h : Hp), b + c = z → DRw h m d S z → Inv S z (k + 240 * n) →
    ∃ h', gX10_isSafeBy F (f + c + 1) 24 [.ref m, .int (nI d), .int (nI n), .int (nI (dirtN S z)), .int (nI b)] [] h = some (.inl (some (.int (b2i ((List.range' b c).any (fun b => dirt S b && sf z (n - 1) (wrs S b)) || decide (dirtN S z = 0))))), h') ∧ Fy h h' m d := by
  intro c
  induction c with
  | zero =>
    intro b f h hb R I
    have hlt := dirtN_lt S hz2
    obtain ⟨M, R, Z⟩ := R
    refine ⟨h, ?_, Fy.refl h m d⟩
    rw [zX10_isSafeBy_24]
    unfold kX10_isSafeBy_24
    rw [if_pos M.k, Z, if_pos (by rw [nI_leI (by omega) (by omega)]; omega)]
    by_cases e : dirtN S z = 0
    · rw [if_neg (by rw [nI_eq0 (by omega)]; exact fun w => w e), decide_eq_true e]
      rfl
    · rw [if_pos (by rw [nI_eq0 (by omega)]; exact e), decide_eq_false e]
      rfl
  | succ c ih =>
    intro b f h hb D I
    obtain ⟨M, R, Z⟩ := id D
    have hlt := dirtN_lt S hz2
    rw [List.range'_succ, List.any_cons, show f + (c + 1) + 1 = (f + c + 1) + 1 by omega, zX10_isSafeBy_24]
    unfold kX10_isSafeBy_24
    have hh : fX10_has (nI (dirtN S z)) (nI b) h = some (.inl (some (.int (b2i (dirt S b)))), h) := by
      unfold fX10_has kX10_has_0
      rw [bit_nI (by omega) (by omega), dirtN_bit S (by omega)]
      cases dirt S b
      · rw [if_pos (by decide)]; rfl
      · rw [if_neg (by decide)]; rfl
    rw [if_pos M.k, Z, if_neg (by rw [nI_leI (by omega) (by omega)]; omega), hh, bI_s, nI_1, nI_1]
    cases hdd : dirt S b with
    | false =>
      rw [if_neg (by decide), Bool.false_and, Bool.false_or]
      exact ih (b + 1) f h (by omega) D I
    | true =>
      have hn0 : n ≠ 0 := fun q => by
        have h1 := dirtN_bit S (z := z) (b := b) (by omega)
        rw [hn q, Nat.zero_testBit, hdd] at h1
        cases h1
      obtain ⟨p, rfl⟩ : ∃ p, n = p + 1 := ⟨n - 1, by omega⟩
      obtain ⟨d1, d2, d3, d4, d5, d6⟩ := M.dr (d := d) (by omega)
      obtain ⟨e1, e2, e3, e4, e5, e6⟩ := M.dr (d := d + 1) (by omega)
      obtain ⟨h1, a1, a2, a3, a4⟩ := m_copies (r2 := m + 142 + (d + 1)) R (by omega) e5 e6
      have M1 := M.eq a2
      obtain ⟨g1, g2, g3, g4, g5, g6⟩ := M1.dr (d := d + 1) (by omega)
      obtain ⟨h2, b1, b2, b3, b4, b5⟩ := m_write1 (b := b) (m := m) (z := z) (k := k + 240 * p) (by omega) (by omega) a4 M1.mo (I.le (by omega))
      have M2 := M1.eq b2
      have Z2 : h2.2 m 11 = nI z := by rw [b4 11 (by decide), a3 m (by omega)]; exact Z
      obtain ⟨h3, f1, f2⟩ := hF (wrs S b) h2 p rfl ⟨M2, b5, Z2⟩ (inv_wrs (I.le (by omega)) b)
      have M3 := M2.eq f2.1
      have F1 : Fy h h1 m d := ⟨a2, fun y q1 q2 q3 q4 q5 => a3 y (by omega), fun j _ => by rw [a3 m (by omega)]⟩
      have F2 : Fy h1 h2 m d := ⟨b2, fun y q1 q2 q3 q4 q5 => b3 y (by omega) q1 q2 q3 q4, b4⟩
      have FF3 := (F1.trans F2).trans f2.up
      have hsub : nI (p + 1) - 1 = nI p := by rw [k1, pk_sub (by omega)]; rfl
      rw [if_pos (by decide), if_pos M.k, d1, if_pos d2, d3, if_pos (inB_nI (by omega) (by decide)), if_pos (inB_nI (by omega) (by decide)), nI_clamp (by omega), nI_clamp (by omega), d4, e4, a1, bV_s, if_pos M1.k, g1, if_pos g2, g3, if_pos (inB_nI (by omega) (by decide)), g4, b1, bI_s, if_pos M2.k, hsub, f1, bI_s, Bool.true_and, show p + 1 - 1 = p by omega]
      cases hs : sf z p (wrs S b) with
      | true =>
        rw [if_neg (by decide), Bool.true_or, Bool.true_or]
        exact ⟨h3, rfl, FF3⟩
      | false =>
        rw [if_pos (by decide), Bool.false_or]
        have D3 : DRw h3 m d S z := ⟨M3, R.eq FF3.1 (FF3.2.1 _ (by omega) (by omega) (by omega) (by omega) (by omega)), by rw [FF3.2.2 11 (by decide)]; exact Z⟩
        obtain ⟨h4, i1, i2⟩ := ih (b + 1) f h3 (by omega) D3 I
        exact ⟨h4, i1, FF3.trans i2⟩
theorem m_sf (hz2 : z ≤ 16) : ∀ (n d q : Nat) (S : St) (h : Hp), d + n ≤ 4 → n < q → DRw h m d S z → Inv S z (k + 240 * n) →
    ∃ h', rX10_isSafeBy q m (nI d) (nI n) h = some (.inl (some (.int (b2i (sf z n S)))), h') ∧ Fy h h' m d := by
  intro n
  induction n with
  | zero =>
    intro d q S h hd hq D I
    obtain ⟨M, R, Z⟩ := id D
    obtain ⟨q, rfl⟩ := sc hq
    have hlt := dirtN_lt S hz2
    obtain ⟨d1, d2, d3, d4, d5, d6⟩ := M.dr (d := d) (by omega)
    show ∃ h', kX10_isSafeBy_0 (gX10_isSafeBy (rX10_isSafeBy q) FF) (rX10_isSafeBy q) m (nI d) (nI 0) h = _ ∧ _
    unfold kX10_isSafeBy_0
    have hl := onesN_le (dirtN S z)
    rw [if_pos M.k, d1, if_pos d2, d3, if_pos (inB_nI (by omega) (by decide)), nI_clamp (by omega), d4, m_dirty R M.k Z hz2, bI_s, q_ones (by omega), bI_s, sf_0]
    by_cases e : dirtN S z = 0
    · rw [e, ones_0, if_pos (by decide), decide_eq_true rfl]
      obtain ⟨h', i1, i2⟩ := m_sf_go (m := m) (k := k) (z := z) (S := S) (n := 0) (F := rX10_isSafeBy q) hd hz2 (fun T g p hp => by omega) (fun _ => e) z 0 (1000000 - z - 1) h (by omega) D I
      have hz3 : z ≤ 16 := hz2
      rw [show 1000000 - z - 1 + z + 1 = FF by unfold FF; omega, e] at i1
      simp only [decide_true, Bool.or_true] at i1
      exact ⟨h', i1, i2⟩
    · have hp := ones_pos e hlt
      rw [if_neg (by rw [nI_leI (by omega) (by decide)]; omega), decide_eq_false e]
      exact ⟨h, rfl, Fy.refl h m d⟩
  | succ n ih =>
    intro d q S h hd hq D I
    obtain ⟨M, R, Z⟩ := id D
    obtain ⟨q, rfl⟩ := sc hq
    have hlt := dirtN_lt S hz2
    obtain ⟨d1, d2, d3, d4, d5, d6⟩ := M.dr (d := d) (by omega)
    show ∃ h', kX10_isSafeBy_0 (gX10_isSafeBy (rX10_isSafeBy q) FF) (rX10_isSafeBy q) m (nI d) (nI (n + 1)) h = _ ∧ _
    unfold kX10_isSafeBy_0
    have hl := onesN_le (dirtN S z)
    rw [if_pos M.k, d1, if_pos d2, d3, if_pos (inB_nI (by omega) (by decide)), nI_clamp (by omega), d4, m_dirty R M.k Z hz2, bI_s, q_ones (by omega), bI_s, sf_s]
    by_cases e2 : n + 1 < onesN (dirtN S z)
    · have e : dirtN S z ≠ 0 := fun q => by rw [q, ones_0] at e2; omega
      rw [if_neg (by rw [nI_leI (by omega) (by omega)]; omega), if_neg e, if_pos e2]
      exact ⟨h, rfl, Fy.refl h m d⟩
    · rw [if_pos (by rw [nI_leI (by omega) (by omega)]; omega)]
      obtain ⟨h', i1, i2⟩ := m_sf_go (m := m) (k := k) (z := z) (S := S) (n := n + 1) (F := rX10_isSafeBy q) hd hz2 (fun T g p hp r i => by
        have : p = n := by omega
        subst this
        exact ih (d + 1) q T g (by omega) (by omega) r i) (fun q => by omega) z 0 (1000000 - z - 1) h (by omega) D I
      rw [show 1000000 - z - 1 + z + 1 = FF by unfold FF; omega] at i1
      refine ⟨h', Eq.trans i1 ?_, i2⟩
      by_cases e : dirtN S z = 0
      · rw [if_pos e, decide_eq_true e, Bool.or_true]
      · rw [if_neg e, if_neg e2, decide_eq_false e, Bool.or_false]
        rfl
theorem m_few_go (hz2 : z ≤ 16) : ∀ (c n f : Nat) (h : Hp), n + c = 5 → c < f → DRw h m 0 S z → Inv S z (k + 1200) →
    ∃ h', gX10_fewest f 20 [.ref m, .int (nI n)] [] h = some (.inl (some (.int (if sfF z S (List.range' n c) = 5 then -1 else nI (sfF z S (List.range' n c))))), h') ∧ Fy h h' m 0 := by
  intro c
  induction c with
  | zero =>
    intro n f h hn hf D I
    obtain ⟨f, rfl⟩ := sc hf
    refine ⟨h, ?_, Fy.refl h m 0⟩
    rw [zX10_fewest_20]
    unfold kX10_fewest_20
    rw [if_pos (by rw [k4, nI_ltI (by decide) (by omega)]; omega)]
    rfl
  | succ c ih =>
    intro n f h hn hf D I
    obtain ⟨f, rfl⟩ := sc hf
    obtain ⟨M, R, Z⟩ := id D
    obtain ⟨h1, a1, a2⟩ := m_sf (m := m) (k := k) hz2 n 0 40 S h (by omega) (by omega) D (I.le (by omega))
    have a1 : fX10_isSafeBy m 0 (nI n) h = _ := a1
    rw [zX10_fewest_20, List.range'_succ]
    unfold kX10_fewest_20 sfF
    rw [if_neg (by rw [k4, nI_ltI (by decide) (by omega)]; omega), if_pos M.k, a1, bI_s]
    cases hs : sf z n S with
    | true =>
      rw [if_neg (by decide), if_pos rfl, if_neg (show ¬ n = 5 by omega)]
      exact ⟨h1, rfl, a2⟩
    | false =>
      rw [if_pos (by decide), if_neg (show ¬ false = true by decide), nI_1]
      have D1 : DRw h1 m 0 S z := ⟨M.eq a2.1, R.eq a2.1 (a2.2.1 _ (by omega) (by omega) (by omega) (by omega) (by omega)), by rw [a2.2.2 11 (by decide)]; exact Z⟩
      obtain ⟨h2, i1, i2⟩ := ih (n + 1) f h1 (by omega) (by omega) D1 I
      exact ⟨h2, i1, a2.trans i2⟩
theorem rq_fewest (Q : RQ h m S z) (I : Inv S z (k + 1200)) : RefA (fX10_fewest m h) h m (aFewest S z) := by
  obtain ⟨hz1, hz2⟩ := I.1
  obtain ⟨M0, -, -⟩ := id Q
  obtain ⟨M, R, Z⟩ := id Q.th0
  obtain ⟨d1, d2, d3, d4, d5, d6⟩ := M.dr (d := 0) (by decide)
  obtain ⟨h1, a1, a2, a3, a4⟩ := m_copies (r2 := m + 142 + 0) R (by omega) d5 d6
  have D1 : DRw h1 m 0 S z := ⟨M.eq a2, a4, by rw [a3 m (by omega)]; exact Z⟩
  obtain ⟨h2, b1, b2⟩ := m_few_go (m := m) (k := k) hz2 5 0 FF h1 rfl (by decide) D1 I
  obtain ⟨z1, z2, z3, z4, -, -⟩ := M0.dr (d := 0) (by decide)
  unfold fX10_fewest kX10_fewest_0
  rw [if_pos M0.k, M0.now.1, z1, if_pos z2, z3, if_pos (by decide), z4, a1, bV_s]
  have s1 : ScM (th0 h m) h1 m := ⟨a2, fun y hy => a3 y (by unfold perM at hy; omega), fun j _ => by rw [a3 m (by omega)]⟩
  have s2 : ScM h1 h2 m := ⟨b2.1, fun y hy => b2.2.1 y (by unfold perM at hy; omega) (by unfold perM at hy; omega) (by unfold perM at hy; omega) (by unfold perM at hy; omega) (by unfold perM at hy; omega), fun j hj => b2.2.2 j (by unfold perF at hj; omega)⟩
  refine refA_i b1 (((scm_th0 h m).trans s1).trans s2) ?_
  rw [b2.2.2 0 (by decide), a3 m (by omega)]
  exact th0_0 h m
end F5
