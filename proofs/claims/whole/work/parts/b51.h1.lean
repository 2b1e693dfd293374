/-! ===== heaps that grow: what stood, stands ===== -/
def Ext (h h' : Hp) : Prop := nH h ≤ nH h' ∧ ∀ a, a < nH h → kH h' a = kH h a ∧ lH h' a = lH h a ∧ rH h' a = rH h a
theorem Ext.refl (h : Hp) : Ext h h := ⟨Nat.le_refl _, fun _ _ => ⟨rfl, rfl, rfl⟩⟩
theorem Ext.trans {h h1 h2 : Hp} (a : Ext h h1) (b : Ext h1 h2) : Ext h h2 := ⟨Nat.le_trans a.1 b.1, fun y hy => by
  obtain ⟨a1, a2, a3⟩ := a.2 y hy
  obtain ⟨b1, b2, b3⟩ := b.2 y (Nat.lt_of_lt_of_le hy a.1)
  exact ⟨b1.trans a1, b2.trans a2, b3.trans a3⟩⟩
theorem Ext.same {h h' : Hp} (e : h'.1 = h.1) : Ext h h' := ⟨by rw [nh_eq e]; exact Nat.le_refl _, fun a _ => ⟨kh_eq e a, lh_eq e a, funext (fun k => rh_eq e a k)⟩⟩
theorem ext_nw (h : Hp) (k len cnt : Nat) : Ext h (nwH h k len cnt) := ⟨by rw [nwH_n]; omega, fun a ha => by
  have hne : ¬ a = h.1.1 := by
    have : a < h.1.1 := ha
    omega
  exact ⟨if_neg hne, if_neg hne, if_neg hne⟩⟩
theorem nw_2 (h : Hp) (k len cnt : Nat) {a : Nat} (ha : a < nH h) : (nwH h k len cnt).2 a = h.2 a := by
  have hne : ¬ a = h.1.1 := by
    have : a < h.1.1 := ha
    omega
  exact if_neg hne
section H1
variable {h h' : Hp}
theorem Ext.k (E : Ext h h') {a : Nat} (ha : a < nH h) : kH h' a = kH h a := (E.2 a ha).1
theorem Ext.l (E : Ext h h') {a : Nat} (ha : a < nH h) : lH h' a = lH h a := (E.2 a ha).2.1
theorem Ext.r (E : Ext h h') {a : Nat} (ha : a < nH h) (i : Nat) : rH h' a i = rH h a i := congrFun (E.2 a ha).2.2 i
theorem ARR.ext {o f a k l : Nat} (E : Ext h h') (ho : o < nH h) (ha : a < nH h) (A : ARR h o f a k l) : ARR h' o f a k l := ⟨(E.r ho f).trans A.1, (E.k ha).trans A.2.1, (E.l ha).trans A.2.2⟩
theorem ROWS.ext {a n l : Nat} (E : Ext h h') (ha : a + 1 + n ≤ nH h) (A : ROWS h a n l) : ROWS h' a n l := fun i hi => (A i hi).ext E (by omega) (by omega)
theorem SO.ext {s : Nat} (E : Ext h h') (hs : s + 10 ≤ nH h) (A : SO h s) : SO h' s := by
  unfold SO at A ⊢
  simp only [E.k (show s < nH h by omega), E.r (show s < nH h by omega), E.k (show s + 1 < nH h by omega), E.k (show s + 2 < nH h by omega), E.k (show s + 3 < nH h by omega), E.k (show s + 4 < nH h by omega), E.k (show s + 5 < nH h by omega), E.k (show s + 6 < nH h by omega), E.k (show s + 7 < nH h by omega), E.k (show s + 8 < nH h by omega), E.k (show s + 9 < nH h by omega),
    E.l (show s + 1 < nH h by omega), E.l (show s + 2 < nH h by omega), E.l (show s + 3 < nH h by omega), E.l (show s + 4 < nH h by omega), E.l (show s + 5 < nH h by omega), E.l (show s + 6 < nH h by omega), E.l (show s + 7 < nH h by omega), E.l (show s + 8 < nH h by omega), E.l (show s + 9 < nH h by omega)]
  exact A
theorem PO.ext {s : Nat} (E : Ext h h') (hs : s + 5 ≤ nH h) (A : PO h s) : PO h' s := by
  unfold PO at A ⊢
  simp only [E.k (show s < nH h by omega), E.r (show s < nH h by omega), E.k (show s + 1 < nH h by omega), E.k (show s + 2 < nH h by omega), E.k (show s + 3 < nH h by omega), E.k (show s + 4 < nH h by omega), E.l (show s + 1 < nH h by omega), E.l (show s + 2 < nH h by omega), E.l (show s + 3 < nH h by omega), E.l (show s + 4 < nH h by omega)]
  exact A
theorem TO.ext {s : Nat} (E : Ext h h') (hs : s + 6 ≤ nH h) (A : TO h s) : TO h' s := ⟨(E.k (by omega)).trans A.1, (E.r (by omega) 0).trans A.2.1, A.2.2.ext E (by omega)⟩
theorem DO.ext {s : Nat} (E : Ext h h') (hs : s + 11 ≤ nH h) (A : DO h s) : DO h' s := by
  obtain ⟨a1, a2, a3, a4, a5, a6⟩ := A
  exact ⟨(E.k (by omega)).trans a1, ⟨(E.r (by omega) _).trans a2.1, (E.k (by omega)).trans a2.2⟩, fun i hi => (a3 i hi).ext E (by omega) (by omega), a4.ext E (by omega) (by omega), a5.ext E (by omega) (by omega), a6.ext E (by omega) (by omega)⟩
theorem CO.ext {x : Nat} (E : Ext h h') (hs : x + 92 ≤ nH h) (A : CO h x) : CO h' x := by
  obtain ⟨a1, ⟨a2, a3⟩, ⟨⟨a4, a5⟩, a6⟩, a7, ⟨a8, a9⟩, ⟨a10, a11⟩, ⟨a12, a13⟩, a14, ⟨a15, a16⟩, a17, a18, a19, a20⟩ := A
  exact ⟨(E.k (by omega)).trans a1, ⟨(E.r (by omega) _).trans a2, a3.ext E (by omega)⟩, ⟨⟨(E.r (by omega) _).trans a4, (E.k (by omega)).trans a5⟩, a6.ext E (by omega) (by omega)⟩, a7.ext E (by omega) (by omega), ⟨a8.ext E (by omega) (by omega), fun i hi => ⟨(E.r (by omega) _).trans (a9 i hi).1, (a9 i hi).2.ext E (by omega)⟩⟩, ⟨(E.r (by omega) _).trans a10, a11.ext E (by omega)⟩, ⟨(E.r (by omega) _).trans a12, a13.ext E (by omega)⟩, a14.ext E (by omega) (by omega), ⟨(E.r (by omega) _).trans a15, a16.ext E (by omega)⟩, a17.ext E (by omega) (by omega), a18.ext E (by omega) (by omega), a19.ext E (by omega) (by omega), a20.ext E (by omega) (by omega)⟩
theorem MO.ext {m : Nat} (E : Ext h h') (hs : m + 152 ≤ nH h) (A : MO h m) : MO h' m := by
  unfold MO at A ⊢
  simp only [E.k (show m < nH h by omega), E.r (show m < nH h by omega), E.k (show m + 147 < nH h by omega), E.k (show m + 148 < nH h by omega), E.k (show m + 149 < nH h by omega), E.l (show m + 147 < nH h by omega), E.l (show m + 148 < nH h by omega), E.l (show m + 149 < nH h by omega)]
  exact A
theorem MS.ext {m : Nat} (E : Ext h h') (hs : m + 152 ≤ nH h) (A : MS h m) : MS h' m := by
  obtain ⟨a1, a2, a3, ⟨a4, a5⟩, ⟨a6, a7⟩, ⟨a8, a9⟩, a10, a11, ⟨a12, a13⟩, ⟨a14, a15⟩, ⟨a16, a17⟩, a18, a19⟩ := A
  exact ⟨a1.ext E hs, a2.ext E (by omega) (by omega), a3.ext E (by omega) (by omega), ⟨a4.ext E (by omega) (by omega), a5.ext E (by omega)⟩, ⟨a6.ext E (by omega) (by omega), a7.ext E (by omega)⟩, ⟨a8.ext E (by omega) (by omega), a9.ext E (by omega)⟩, a10.ext E (by omega) (by omega), a11.ext E (by omega) (by omega), ⟨a12.ext E (by omega) (by omega), a13.ext E (by omega)⟩, ⟨a14.ext E (by omega) (by omega), a15.ext E (by omega)⟩, ⟨a16.ext E (by omega) (by omega), a17.ext E (by omega)⟩, a18.ext E (by omega) (by omega), a19.ext E (by omega) (by omega)⟩
theorem StaI.cg {I I' : Nat → Nat → Int32} {s z : Nat} {S : St} (e : ∀ a, s ≤ a → a < s + 10 → I' a = I a) (R : StaI I s S z) : StaI I' s S z := by
  have R2 : Sta ((0, 0, fun _ => 0, fun _ => 0, fun _ _ => 0), I) s S z → True := fun _ => trivial
  unfold StaI Cst Lst at *
  simp only [e s (by omega) (by omega), e (s + 1) (by omega) (by omega), e (s + 2) (by omega) (by omega), e (s + 3) (by omega) (by omega), e (s + 4) (by omega) (by omega), e (s + 5) (by omega) (by omega), e (s + 6) (by omega) (by omega), e (s + 7) (by omega) (by omega), e (s + 8) (by omega) (by omega), e (s + 9) (by omega) (by omega)]
  exact R
theorem Sta.ext {s z : Nat} {S : St} (E : Ext h h') (hs : s + 10 ≤ nH h) (e : ∀ a, s ≤ a → a < s + 10 → h'.2 a = h.2 a) (R : Sta h s S z) : Sta h' s S z := ⟨R.1.ext E hs, R.2.1.cg e, R.2.2⟩
theorem Row.ext {r : Nat} {S : St} (E : Ext h h') (hr : r < nH h) (e : h'.2 r = h.2 r) (R : Row h r S) : Row h' r S := ⟨(E.k hr).trans R.1, (E.l hr).trans R.2.1, by rw [e]; exact R.2.2.1, R.2.2.2⟩
/-- what a call of the class may do: grow, and change what is not kept -/
def Gr (h h' : Hp) (x : Nat) : Prop := Ext h h' ∧ (nH h' ≤ nH h + 5 ∧ zH h ≤ zH h' ∧ zH h' ≤ zH h + 20) ∧ ∀ a, a < nH h → pers x a → h'.2 a = h.2 a
theorem Scr.gr {x : Nat} (s : Scr h h' x) : Gr h h' x := ⟨Ext.same s.1, ⟨by rw [nh_eq s.1]; omega, by rw [zh_eq s.1]; exact Nat.le_refl _, by rw [zh_eq s.1]; omega⟩, fun a _ p => s.2 a p⟩
end H1
