/-! ===== shapes by what they look at; blocks of states ===== -/
section SH
variable {h h' : Hp}
theorem ARR.cg {o f a k l : Nat} (er : rH h' o = rH h o) (ek : kH h' a = kH h a) (el : lH h' a = lH h a) (A : ARR h o f a k l) : ARR h' o f a k l := ⟨(congrFun er f).trans A.1, ek.trans A.2.1, el.trans A.2.2⟩
theorem SO.cg {s : Nat} (ek : ∀ a, s ≤ a → a < s + 10 → kH h' a = kH h a) (el : ∀ a, s ≤ a → a < s + 10 → lH h' a = lH h a) (er : rH h' s = rH h s) (A : SO h s) : SO h' s := by
  unfold SO at A ⊢
  simp only [er, ek s (by omega) (by omega), ek (s + 1) (by omega) (by omega), ek (s + 2) (by omega) (by omega), ek (s + 3) (by omega) (by omega), ek (s + 4) (by omega) (by omega), ek (s + 5) (by omega) (by omega), ek (s + 6) (by omega) (by omega), ek (s + 7) (by omega) (by omega), ek (s + 8) (by omega) (by omega), ek (s + 9) (by omega) (by omega),
    el (s + 1) (by omega) (by omega), el (s + 2) (by omega) (by omega), el (s + 3) (by omega) (by omega), el (s + 4) (by omega) (by omega), el (s + 5) (by omega) (by omega), el (s + 6) (by omega) (by omega), el (s + 7) (by omega) (by omega), el (s + 8) (by omega) (by omega), el (s + 9) (by omega) (by omega)]
  exact A
theorem PO.cg {s : Nat} (ek : ∀ a, s ≤ a → a < s + 5 → kH h' a = kH h a) (el : ∀ a, s ≤ a → a < s + 5 → lH h' a = lH h a) (er : rH h' s = rH h s) (A : PO h s) : PO h' s := by
  unfold PO at A ⊢
  simp only [er, ek s (by omega) (by omega), ek (s + 1) (by omega) (by omega), ek (s + 2) (by omega) (by omega), ek (s + 3) (by omega) (by omega), ek (s + 4) (by omega) (by omega), el (s + 1) (by omega) (by omega), el (s + 2) (by omega) (by omega), el (s + 3) (by omega) (by omega), el (s + 4) (by omega) (by omega)]
  exact A
theorem DO.cg {s : Nat} (ek : ∀ a, s ≤ a → a < s + 11 → kH h' a = kH h a) (el : ∀ a, s ≤ a → a < s + 11 → lH h' a = lH h a) (er : rH h' s = rH h s) (er1 : rH h' (s + 1) = rH h (s + 1)) (A : DO h s) : DO h' s := by
  obtain ⟨a1, a2, a3, a4, a5, a6⟩ := A
  exact ⟨(ek _ (by omega) (by omega)).trans a1, ⟨(congrFun er _).trans a2.1, (ek _ (by omega) (by omega)).trans a2.2⟩, fun i hi => (a3 i hi).cg er1 (ek _ (by omega) (by omega)) (el _ (by omega) (by omega)), a4.cg er (ek _ (by omega) (by omega)) (el _ (by omega) (by omega)), a5.cg er (ek _ (by omega) (by omega)) (el _ (by omega) (by omega)), a6.cg er (ek _ (by omega) (by omega)) (el _ (by omega) (by omega))⟩
theorem CO.cg {x : Nat} (ek : ∀ a, x ≤ a → a < x + 92 → kH h' a = kH h a) (el : ∀ a, x ≤ a → a < x + 92 → lH h' a = lH h a) (er : ∀ a, x ≤ a → a < x + 92 → a ≠ x + 12 → a ≠ x + 13 → rH h' a = rH h a) (A : CO h x) : CO h' x := by
  obtain ⟨a1, ⟨a2, a3⟩, ⟨⟨a4, a5⟩, a6⟩, a7, ⟨a8, a9⟩, ⟨a10, a11⟩, ⟨a12, ⟨a13, a13', a13''⟩⟩, a14, ⟨a15, a16⟩, a17, a18, a19, a20⟩ := A
  have e0 := er x (by omega) (by omega) (by omega) (by omega)
  have e14 := er (x + 14) (by omega) (by omega) (by omega) (by omega)
  have kk : ∀ a, x ≤ a → a < x + 92 → kH h' a = kH h a ∧ lH h' a = lH h a := fun a q1 q2 => ⟨ek a q1 q2, el a q1 q2⟩
  refine ⟨(ek _ (by omega) (by omega)).trans a1, ⟨(congrFun e0 _).trans a2, a3.cg (fun a q1 q2 => ek a (by omega) (by omega)) (fun a q1 q2 => el a (by omega) (by omega)) (er _ (by omega) (by omega) (by omega) (by omega))⟩, ⟨⟨(congrFun e0 _).trans a4, (ek _ (by omega) (by omega)).trans a5⟩, a6.cg (er _ (by omega) (by omega) (by omega) (by omega)) (ek _ (by omega) (by omega)) (el _ (by omega) (by omega))⟩, a7.cg e0 (ek _ (by omega) (by omega)) (el _ (by omega) (by omega)), ⟨a8.cg e0 (ek _ (by omega) (by omega)) (el _ (by omega) (by omega)), fun i hi => ⟨(congrFun e14 _).trans (a9 i hi).1, (a9 i hi).2.cg (fun a q1 q2 => ek a (by omega) (by omega)) (fun a q1 q2 => el a (by omega) (by omega)) (er _ (by omega) (by omega) (by omega) (by omega))⟩⟩, ⟨(congrFun e0 _).trans a10, a11.cg (fun a q1 q2 => ek a (by omega) (by omega)) (fun a q1 q2 => el a (by omega) (by omega)) (er _ (by omega) (by omega) (by omega) (by omega))⟩, ⟨(congrFun e0 _).trans a12, ?_⟩, a14.cg e0 (ek _ (by omega) (by omega)) (el _ (by omega) (by omega)), ⟨(congrFun e0 _).trans a15, a16.cg (fun a q1 q2 => ek a (by omega) (by omega)) (fun a q1 q2 => el a (by omega) (by omega)) (er _ (by omega) (by omega) (by omega) (by omega)) (er _ (by omega) (by omega) (by omega) (by omega))⟩, a17.cg e0 (ek _ (by omega) (by omega)) (el _ (by omega) (by omega)), a18.cg e0 (ek _ (by omega) (by omega)) (el _ (by omega) (by omega)), a19.cg e0 (ek _ (by omega) (by omega)) (el _ (by omega) (by omega)), a20.cg e0 (ek _ (by omega) (by omega)) (el _ (by omega) (by omega))⟩
  exact ⟨(ek _ (by omega) (by omega)).trans a13, (congrFun (er (x + 20) (by omega) (by omega) (by omega) (by omega)) _).trans a13', a13''.cg (fun a q1 q2 => ek a (by omega) (by omega)) (fun a q1 q2 => el a (by omega) (by omega)) (er _ (by omega) (by omega) (by omega) (by omega))⟩
theorem ROWS.cg {a n l : Nat} (er : rH h' a = rH h a) (ek : ∀ i, i < n → kH h' (a + 1 + i) = kH h (a + 1 + i)) (el : ∀ i, i < n → lH h' (a + 1 + i) = lH h (a + 1 + i)) (A : ROWS h a n l) : ROWS h' a n l := fun i hi => (A i hi).cg er (ek i hi) (el i hi)
theorem MS.cg {m : Nat} (ek : ∀ a, m ≤ a → a < m + 152 → kH h' a = kH h a) (el : ∀ a, m ≤ a → a < m + 152 → lH h' a = lH h a) (er : ∀ a, m ≤ a → a < m + 152 → rH h' a = rH h a) (A : MS h m) : MS h' m := by
  obtain ⟨a1, a2, a3, ⟨a4, a5⟩, ⟨a6, a7⟩, ⟨a8, a9⟩, a10, a11, ⟨a12, a13⟩, ⟨a14, a15⟩, ⟨a16, a17⟩, a18, a19⟩ := A
  have e0 := er m (by omega) (by omega)
  obtain ⟨b1, b2, b3, b4⟩ := a1
  refine ⟨⟨(ek _ (by omega) (by omega)).trans b1, ARR.cg e0 (ek _ (by omega) (by omega)) (el _ (by omega) (by omega)) b2, ARR.cg e0 (ek _ (by omega) (by omega)) (el _ (by omega) (by omega)) b3, ARR.cg e0 (ek _ (by omega) (by omega)) (el _ (by omega) (by omega)) b4⟩, a2.cg e0 (ek _ (by omega) (by omega)) (el _ (by omega) (by omega)), a3.cg e0 (ek _ (by omega) (by omega)) (el _ (by omega) (by omega)), ⟨a4.cg e0 (ek _ (by omega) (by omega)) (el _ (by omega) (by omega)), a5.cg (er _ (by omega) (by omega)) (fun i hi => ek _ (by omega) (by omega)) (fun i hi => el _ (by omega) (by omega))⟩, ⟨a6.cg e0 (ek _ (by omega) (by omega)) (el _ (by omega) (by omega)), a7.cg (er _ (by omega) (by omega)) (fun i hi => ek _ (by omega) (by omega)) (fun i hi => el _ (by omega) (by omega))⟩, ⟨a8.cg e0 (ek _ (by omega) (by omega)) (el _ (by omega) (by omega)), a9.cg (er _ (by omega) (by omega)) (fun i hi => ek _ (by omega) (by omega)) (fun i hi => el _ (by omega) (by omega))⟩, a10.cg e0 (ek _ (by omega) (by omega)) (el _ (by omega) (by omega)), a11.cg e0 (ek _ (by omega) (by omega)) (el _ (by omega) (by omega)), ⟨a12.cg e0 (ek _ (by omega) (by omega)) (el _ (by omega) (by omega)), a13.cg (er _ (by omega) (by omega)) (fun i hi => ek _ (by omega) (by omega)) (fun i hi => el _ (by omega) (by omega))⟩, ⟨a14.cg e0 (ek _ (by omega) (by omega)) (el _ (by omega) (by omega)), a15.cg (er _ (by omega) (by omega)) (fun i hi => ek _ (by omega) (by omega)) (fun i hi => el _ (by omega) (by omega))⟩, ⟨a16.cg e0 (ek _ (by omega) (by omega)) (el _ (by omega) (by omega)), a17.cg (er _ (by omega) (by omega)) (fun i hi => ek _ (by omega) (by omega)) (fun i hi => el _ (by omega) (by omega))⟩, a18.cg e0 (ek _ (by omega) (by omega)) (el _ (by omega) (by omega)), a19.cg e0 (ek _ (by omega) (by omega)) (el _ (by omega) (by omega))⟩
theorem Sta.cg {s z : Nat} {S : St} (ek : ∀ a, s ≤ a → a < s + 10 → kH h' a = kH h a) (el : ∀ a, s ≤ a → a < s + 10 → lH h' a = lH h a) (er : rH h' s = rH h s) (ei : ∀ a, s ≤ a → a < s + 10 → h'.2 a = h.2 a) (R : Sta h s S z) : Sta h' s S z := ⟨R.1.cg ek el er, R.2.1.cg ei, R.2.2⟩
end SH
/-- the heap may have grown; references of the cell e may be others -/
def Exe (h h' : Hp) (e : Nat) : Prop := nH h ≤ nH h' ∧ (∀ a, a < nH h → kH h' a = kH h a ∧ lH h' a = lH h a) ∧ ∀ a, a < nH h → a ≠ e → rH h' a = rH h a
theorem Ext.exe {h h' : Hp} (E : Ext h h') (e : Nat) : Exe h h' e := ⟨E.1, fun a ha => ⟨E.k ha, E.l ha⟩, fun a ha _ => (E.2 a ha).2.2⟩
theorem Exe.trans {h h1 h2 : Hp} {e : Nat} (a : Exe h h1 e) (b : Exe h1 h2 e) : Exe h h2 e := ⟨Nat.le_trans a.1 b.1, fun y hy => ⟨(b.2.1 y (Nat.lt_of_lt_of_le hy a.1)).1.trans (a.2.1 y hy).1, (b.2.1 y (Nat.lt_of_lt_of_le hy a.1)).2.trans (a.2.1 y hy).2⟩, fun y hy q => (b.2.2 y (Nat.lt_of_lt_of_le hy a.1) q).trans (a.2.2 y hy q)⟩
section XE
variable {h h' : Hp} {e : Nat}
theorem Sta.exe {s z : Nat} {S : St} (E : Exe h h' e) (hs : s + 10 ≤ nH h) (he : s ≠ e) (ei : ∀ a, s ≤ a → a < s + 10 → h'.2 a = h.2 a) (R : Sta h s S z) : Sta h' s S z := R.cg (fun a q1 q2 => (E.2.1 a (by omega)).1) (fun a q1 q2 => (E.2.1 a (by omega)).2) (E.2.2 s (by omega) he) ei
theorem SO.exe {s : Nat} (E : Exe h h' e) (hs : s + 10 ≤ nH h) (he : s ≠ e) (R : SO h s) : SO h' s := R.cg (fun a q1 q2 => (E.2.1 a (by omega)).1) (fun a q1 q2 => (E.2.1 a (by omega)).2) (E.2.2 s (by omega) he)
theorem CO.exe {x : Nat} (E : Exe h h' e) (hs : x + 92 ≤ nH h) (he : e = x + 12 ∨ e = x + 13 ∨ x + 92 ≤ e) (R : CO h x) : CO h' x := R.cg (fun a q1 q2 => (E.2.1 a (by omega)).1) (fun a q1 q2 => (E.2.1 a (by omega)).2) (fun a q1 q2 q3 q4 => E.2.2 a (by omega) (by omega))
theorem ARR.exe {o f a k l : Nat} (E : Exe h h' e) (ho : o < nH h) (ha : a < nH h) (he : o ≠ e) (A : ARR h o f a k l) : ARR h' o f a k l := A.cg (E.2.2 o ho he) (E.2.1 a ha).1 (E.2.1 a ha).2
end XE
/-! blocks: 64 states of histories (16 a history), 3 images -/
def bz (i : Nat) : Nat := if i < 64 then 10 else 13
theorem bz_s {i : Nat} (h : i < 64) : bz i = 10 := if_pos h
theorem bz_i (g : Nat) : bz (64 + g) = 13 := if_neg (by omega)
theorem bz_b (i : Nat) : 10 ≤ bz i ∧ bz i ≤ 13 := by unfold bz; split <;> omega
/-- an Image at a -/
def IM (h : Hp) (a : Nat) : Prop := kH h a = 11 ∧ rH h a 0 = a + 1 ∧ SO h (a + 1) ∧ rH h a 1 = a + 11 ∧ kH h (a + 11) = 10 ∧ ARR h (a + 11) 0 (a + 12) 5 16
def BS (h : Hp) (x B : Nat) (bl : Nat → Nat) : Prop := (x + 92 ≤ B ∧ B ≤ nH h) ∧ (∀ i, i < 67 → bl i ≠ 0 → B ≤ bl i ∧ bl i + bz i ≤ nH h) ∧ (∀ i j, i < 67 → j < 67 → i ≠ j → bl i ≠ 0 → bl j ≠ 0 → bl i + bz i ≤ bl j ∨ bl j + bz j ≤ bl i) ∧ (∀ i, i < 64 → bl i ≠ 0 → SO h (bl i)) ∧ (∀ j, j < 16 → rH h (x + 12) j = bl j) ∧ (∀ g, g < 3 → rH h (x + 13) g = bl (64 + g)) ∧ (∀ g, g < 3 → bl (64 + g) ≠ 0 → IM h (bl (64 + g)) ∧ ∀ j, j < 16 → rH h (bl (64 + g) + 12) j = bl (16 * (g + 1) + j)) ∧ (∀ g, g < 3 → bl (64 + g) = 0 → ∀ j, j < 16 → bl (16 * (g + 1) + j) = 0)
/-- the history object: of the object itself, or of an image -/
def hO (x : Nat) (bl : Nat → Nat) (g : Nat) : Nat := if g = 0 then x + 11 else bl (63 + g) + 11
def HO (h : Hp) (o : Nat) : Prop := kH h o = 10 ∧ ARR h o 0 (o + 1) 5 16
/-- how many blocks are not there yet -/
def nul (bl : Nat → Nat) : Nat → Nat
  | 0 => 0
  | n + 1 => nul bl n + if bl n = 0 then 1 else 0
def upB (bl : Nat → Nat) (i v : Nat) : Nat → Nat := fun j => if j = i then v else bl j
theorem upB_at (bl : Nat → Nat) (i v : Nat) : upB bl i v i = v := if_pos rfl
theorem upB_ne {bl : Nat → Nat} {i v j : Nat} (h : j ≠ i) : upB bl i v j = bl j := if_neg h
theorem nul_up {bl : Nat → Nat} {i v : Nat} (h0 : bl i = 0) (hv : v ≠ 0) : ∀ n, (n ≤ i → nul (upB bl i v) n = nul bl n) ∧ (i < n → nul (upB bl i v) n + 1 = nul bl n) := by
  intro n
  induction n with
  | zero => exact ⟨fun _ => rfl, fun q => by omega⟩
  | succ n ih =>
    refine ⟨fun q => ?_, fun q => ?_⟩
    · show nul (upB bl i v) n + (if upB bl i v n = 0 then 1 else 0) = nul bl n + if bl n = 0 then 1 else 0
      rw [upB_ne (by omega), ih.1 (by omega)]
    · show nul (upB bl i v) n + (if upB bl i v n = 0 then 1 else 0) + 1 = nul bl n + if bl n = 0 then 1 else 0
      by_cases e : n = i
      · subst e
        rw [upB_at, if_neg hv, if_pos h0, ih.1 (Nat.le_refl _)]
      · rw [upB_ne e]
        have := ih.2 (by omega)
        omega
theorem nul_le (bl : Nat → Nat) : ∀ n, nul bl n ≤ n := by
  intro n
  induction n with
  | zero => exact Nat.le_refl _
  | succ n ih =>
    show nul bl n + (if bl n = 0 then 1 else 0) ≤ n + 1
    split <;> omega
section BB
variable {h h' : Hp} {x B z : Nat} {bl : Nat → Nat}
theorem IM.ext {a : Nat} (E : Ext h h') (ha : a + 13 ≤ nH h) (A : IM h a) : IM h' a := by
  obtain ⟨a1, a2, a3, a4, a5, a6⟩ := A
  exact ⟨(E.k (by omega)).trans a1, (E.r (by omega) _).trans a2, a3.ext E (by omega), (E.r (by omega) _).trans a4, (E.k (by omega)).trans a5, a6.ext E (by omega) (by omega)⟩
theorem IM.exe {a e : Nat} (E : Exe h h' e) (ha : a + 13 ≤ nH h) (he : e < a ∨ a + 12 ≤ e) (A : IM h a) : IM h' a := by
  obtain ⟨a1, a2, a3, a4, a5, a6⟩ := A
  exact ⟨((E.2.1 a (by omega)).1).trans a1, (congrFun (E.2.2 a (by omega) (by omega)) _).trans a2, a3.exe E (by omega) (by omega), (congrFun (E.2.2 a (by omega) (by omega)) _).trans a4, ((E.2.1 _ (by omega)).1).trans a5, a6.exe E (by omega) (by omega) (by omega)⟩
theorem BS.ext (E : Ext h h') (b : BS h x B bl) : BS h' x B bl := by
  obtain ⟨b1, b2, b3, b4, b5, b6, b7, b8⟩ := b
  have hn := E.1
  refine ⟨⟨b1.1, by omega⟩, fun i hi q => ⟨(b2 i hi q).1, by have := (b2 i hi q).2; omega⟩, b3, fun i hi q => (b4 i hi q).ext E (by have := (b2 i (by omega) q).2; rw [bz_s hi] at this; exact this), fun j hj => (E.r (by omega) j).trans (b5 j hj), fun g hg => (E.r (by omega) g).trans (b6 g hg), fun g hg q => ?_, b8⟩
  have := (b2 (64 + g) (by omega) q).2
  rw [bz_i] at this
  exact ⟨(b7 g hg q).1.ext E this, fun j hj => (E.r (by omega) j).trans ((b7 g hg q).2 j hj)⟩
theorem BS.same (e : h'.1 = h.1) (b : BS h x B bl) : BS h' x B bl := b.ext (Ext.same e)
end BB
