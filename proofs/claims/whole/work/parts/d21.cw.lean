/-! ===== the class reads a WORK ===== -/
section CW
variable {h h' : Hp} {x n p j D : Nat} {T : Nat → Nat}
/-- the end of an again is added -/
theorem c_addEnd (C : CO h x) {g : Nat} (hj : j < 64) (hg : g < j) (hl : h.2 (x + 28) 1 = nI j) : ∃ h', fX4_addEnd (x + 28) (nI g) h = some (.inl none, h') ∧ h'.1 = h.1 ∧ (∀ a, a < x + 28 ∨ (x + 33 ≤ a ∧ a ≠ x + 34) → h'.2 a = h.2 a) ∧ addd h h' x j 13 (0, 0, 0) ∧ (∀ i, h'.2 (x + 34) i = if i = j then nI g else if i = g then nI j else h.2 (x + 34) i) := by
  obtain ⟨s1, s2, s3⟩ := C.scr
  obtain ⟨o1, o2, o3⟩ := s3 5 (by decide)
  have o1 : rH h (x + 28) 7 = x + 34 := o1
  have o2 : kH h (x + 34) = 1 := o2
  have o3 : lH h (x + 34) = 64 := o3
  have u1 : upI h.2 (x + 34) g (nI j) (x + 28) 1 = nI j := by rw [upI_ne (by omega)]; exact hl
  obtain ⟨h2, a1, a2, a3, a4, a5, a6, a7, a8, a9⟩ := c_add (h := (h.1, upI (upI h.2 (x + 34) g (nI j)) (x + 34) j (nI g))) (C.eq rfl) hj (by show upI _ _ _ _ (x + 28) 1 = _; rw [upI_ne (by omega)]; exact u1) 13 0 0 0
  have e : ∀ a, a ≠ x + 34 → (h.1, upI (upI h.2 (x + 34) g (nI j)) (x + 34) j (nI g)).2 a = h.2 a := fun a ha => by show upI _ _ _ _ a = _; rw [upI_ne ha, upI_ne ha]
  refine ⟨h2, ?_, a2.1, fun a ha => ?_, ⟨a4, by rw [a5, e _ (by omega)], fun i => by rw [a6, e _ (by omega)]; rfl, fun i => by rw [a7, e _ (by omega)]; rfl, fun i => by rw [a8, e _ (by omega)]; rfl, fun i => by rw [a9, e _ (by omega)]; rfl⟩, fun i => ?_⟩
  · unfold fX4_addEnd kX4_addEnd_0
    rw [if_pos s2, hl, if_neg (by rw [k64, nI_leI (by decide) (by omega)]; omega), if_neg (by rw [nI_lt0 (by omega)]; exact id), if_neg (by rw [nI_leI (by omega) (by omega)]; omega), o1, if_pos o2, o3, if_pos (inB_nI (by omega) (by decide)), nI_clamp (show g < 2 ^ 31 by omega), u1, if_pos (inB_nI hj (by decide)), nI_clamp (by omega), letH_s, a1, bV_s]
  · by_cases e27 : a = x + 27
    · rw [e27, a3, e _ (by omega)]
    · rw [a2.2.1 a (by omega), e a (by omega)]
  · rw [a2.2.1 (x + 34) (by omega)]
    show upI _ _ _ _ (x + 34) i = _
    rw [upI_at, upI_at]
/-- what the loop may change: nothing below j, nothing below D of what is open -/
def FrL (h h' : Hp) (x j D : Nat) : Prop := h'.1 = h.1 ∧ (∀ a, a < x + 27 ∨ (x + 33 ≤ a ∧ a ≠ x + 34 ∧ a ≠ x + 37) → h'.2 a = h.2 a) ∧ (∀ i, i ≠ 3 → i ≠ 4 → i ≠ 7 → i ≠ 9 → h'.2 (x + 27) i = h.2 (x + 27) i) ∧ h'.2 (x + 28) 0 = h.2 (x + 28) 0 ∧ (∀ a i, a = x + 29 ∨ a = x + 30 ∨ a = x + 31 ∨ a = x + 32 ∨ a = x + 34 → i < j → h'.2 a i = h.2 a i) ∧ (∀ i, i < D → h'.2 (x + 37) i = h.2 (x + 37) i)
theorem FrL.refl (h : Hp) (x j D : Nat) : FrL h h x j D := ⟨rfl, fun _ _ => rfl, fun _ _ _ _ _ => rfl, rfl, fun _ _ _ _ => rfl, fun _ _ => rfl⟩
theorem FrL.trans {h h1 h2 : Hp} {x j D j2 D2 : Nat} (a : FrL h h1 x j D) (b : FrL h1 h2 x j2 D2) (hj : j ≤ j2) (hD : D ≤ D2) : FrL h h2 x j D :=
  ⟨b.1.trans a.1, fun y q => by rw [b.2.1 y q, a.2.1 y q], fun i q1 q2 q3 q4 => by rw [b.2.2.1 i q1 q2 q3 q4, a.2.2.1 i q1 q2 q3 q4], b.2.2.2.1.trans a.2.2.2.1, fun y i q1 q2 => by rw [b.2.2.2.2.1 y i q1 (by omega), a.2.2.2.2.1 y i q1 q2], fun i q => by rw [b.2.2.2.2.2 i (by omega), a.2.2.2.2.2 i q]⟩
theorem FrC.l {h h' : Hp} {x : Nat} (f : FrC h h' x) (j D : Nat) : FrL h h' x j D := ⟨f.1, fun a q => f.2.1 a (by omega), fun i q1 q2 q3 _ => f.2.2 i q1 q2 q3, by rw [f.2.1 _ (by omega)], fun a i q _ => by rw [f.2.1 a (by omega)], fun i _ => by rw [f.2.1 _ (by omega)]⟩
theorem CX.frl (X : CX h x T n) (f : FrL h h' x j D) : CX h' x T n := ⟨X.1.eq f.1, (f.2.2.1 6 (by decide) (by decide) (by decide) (by decide)).trans X.2.1, X.2.2.1, fun i hi => by rw [f.2.1 (x + 36) (by omega)]; exact X.2.2.2.1 i hi, X.2.2.2.2⟩
/-- a fault ends the reading -/
theorem c_work_er {e : Ft} (X : CX h x T n) (E : CE h x e) {k : Nat} (hk : k ≤ n + 1) {d : Int32} (h9 : h.2 (x + 27) 9 = d) (f : Nat) : gX3_readWork (f + 1 + 1) 8 [.ref (x + 27), uV, uV, .int (nI k)] [] h = some (.inl (some (.int (nI e.1))), h) := by
  have hn := X.2.2.1
  have fin : gX3_readWork (f + 1) 106 [.ref (x + 27), uV, uV, uV] [] h = some (.inl (some (.int (nI e.1))), h) := by
    rw [zX3_readWork_106]
    unfold kX3_readWork_106
    rw [if_pos X.k, E.blame X.k, bV_s, if_pos X.k, E.2.1, ite_self]
  rw [zX3_readWork_8]
  unfold kX3_readWork_8
  rw [if_pos X.k, if_pos E.nz, fin, ite_self]
end CW
