/-! ===== the loop of the class's readWork ===== -/
def FrE (h h' : Hp) (x : Nat) : Prop := h'.1 = h.1 ∧ ∀ a, a < x + 27 ∨ x + 38 ≤ a → h'.2 a = h.2 a
theorem FrE.trans {h h1 h2 : Hp} {x : Nat} (a : FrE h h1 x) (b : FrE h1 h2 x) : FrE h h2 x := ⟨b.1.trans a.1, fun y q => by rw [b.2 y q, a.2 y q]⟩
theorem FrL.e {h h' : Hp} {x j D : Nat} (f : FrL h h' x j D) : FrE h h' x := ⟨f.1, fun a q => f.2.1 a (by omega)⟩
theorem FrW.e {h h' : Hp} {x : Nat} (f : FrW h h' x) : FrE h h' x := ⟨f.1, fun a q => f.2.1 a (by omega)⟩
theorem FrC.e {h h' : Hp} {x : Nat} (f : FrC h h' x) : FrE h h' x := ⟨f.1, fun a q => f.2.1 a (by omega)⟩
def outW (h : Hp) (x : Nat) (T : Nat → Nat) (n j D p k fl : Nat) (o : (Fo × Nat) ⊕ Ft) : Prop := match o with
  | .inl v => ∃ h' q' k' fl', gX3_readWork fl 8 [.ref (x + 27), uV, uV, .int (nI k)] [] h = gX3_readWork fl' 8 [.ref (x + 27), uV, uV, .int (nI k')] [] h' ∧ FrL h h' x j D ∧ CP h' x T n q' ∧ bk T n q' = v.2 ∧ (p ≤ q' ∧ k' ≤ q' ∧ fl + p ≤ fl' + q') ∧ h'.2 (x + 28) 1 = nI (j + (cof v.1).length) ∧ h'.2 (x + 27) 9 = nI D ∧ LayC h' x j (cof v.1) ∧ 4 * (j + (cof v.1).length) + 3 * D ≤ q'
  | .inr e => ∃ h', gX3_readWork fl 8 [.ref (x + 27), uV, uV, .int (nI k)] [] h = some (.inl (some (.int (nI e.1))), h') ∧ FrE h h' x ∧ CX h' x T n ∧ CE h' x e ∧ e.2 ≤ n
def LCf (T : Nat → Nat) (n f x : Nat) : Prop := ∀ (D p j k fl : Nat) (h : Hp), CP h x T n p → h.2 (x + 28) 1 = nI j → h.2 (x + 27) 9 = nI D → D ≤ 6 → 4 * j + 3 * D ≤ p → k ≤ p → n ≤ 150 → n - p < f → n + 3 ≤ fl + p → outW h x T n j D p k fl (pFo T n f D p)
section CW2
variable {h h1 : Hp} {x n p j D k fl f : Nat} {T : Nat → Nat}
/-- a step, then the others -/
theorem outW.co {q1 k1 fl1 : Nat} {C1 : List Ent} {d : Nd} (E : gX3_readWork fl 8 [.ref (x + 27), uV, uV, .int (nI k)] [] h = gX3_readWork fl1 8 [.ref (x + 27), uV, uV, .int (nI k1)] [] h1) (F : FrL h h1 x j D) (hp : p ≤ q1) (hfl : fl + p ≤ fl1 + q1) (L1 : LayC h1 x j C1) (hc : ∀ r, cof (fco d r) = C1 ++ cof r) (W : outW h1 x T n (j + C1.length) D q1 k1 fl1 (pFo T n f D q1)) :
    outW h x T n j D p k fl (match pFo T n f D q1 with
      | .inr e => .inr e
      | .inl (r, q2) => .inl (fco d r, q2)) := by
  cases e : pFo T n f D q1 with
  | inr er =>
    rw [e] at W
    obtain ⟨h', a1, a2, a3⟩ := W
    exact ⟨h', E.trans a1, F.e.trans a2, a3⟩
  | inl v =>
    obtain ⟨r, q2⟩ := v
    rw [e] at W
    obtain ⟨h', q', k', fl', a1, a2, a3, a4, ⟨a5, a6, a7⟩, a8, a9, a10, a11⟩ := W
    have el : (cof (fco d r)).length = C1.length + (cof r).length := by rw [hc, List.length_append]
    refine ⟨h', q', k', fl', E.trans a1, F.trans a2 (by omega) (Nat.le_refl _), a3, a4, ⟨by omega, a6, by omega⟩, ?_, a9, ?_, ?_⟩
    · rw [a8]
      show _ = nI (j + (cof (fco d r)).length)
      rw [el, Nat.add_assoc]
    · show LayC h' x j (cof (fco d r))
      rw [hc]
      exact LayC.app (L1.cg (fun a i q1 q2 q3 => a2.2.2.2.2.1 a i q1 q3)) a10
    · show 4 * (j + (cof (fco d r)).length) + 3 * D ≤ q'
      rw [el]
      have a11 : 4 * (j + C1.length + (cof r).length) + 3 * D ≤ q' := a11
      omega
/-- the loop's head where a step is read -/
theorem c_head (X : CP h x T n p) (h9 : h.2 (x + 27) 9 = nI D) (hD : D ≤ 6) (hk : k ≤ p) (hlt : bk T n p < n) (hb : D = 0 ∨ T (bk T n p) ≠ 93) : ∃ h4, FrC h h4 x ∧ CP h4 x T n (bk T n p) ∧ gX3_readWork (fl + 1) 8 [.ref (x + 27), uV, uV, .int (nI k)] [] h = (bV (fX3_readStep (x + 27) h4) fun h10 => gX3_readWork fl 8 [.ref (x + 27), uV, uV, .int (nI (k + 1))] [] h10) := by
  obtain ⟨h4, a1, a2, a3⟩ := c_atEnd X
  obtain ⟨t1, t2, t3⟩ := a3.tx
  have hn := X.1.2.2.1
  have hpn := X.2.2.2
  have n4 : h4.2 (x + 27) 9 = nI D := by rw [a2.2.2 9 (by decide) (by decide) (by decide)]; exact h9
  have ht := X.1.2.2.2.2 _ hlt
  refine ⟨h4, a2, a3, ?_⟩
  rw [zX3_readWork_8]
  unfold kX3_readWork_8
  rw [if_pos X.k, X.1.2.1, if_neg (by rw [nI_ltI (by omega) (by omega)]; omega), if_neg (fun q => q X.2.2.1), a1, bI_s, decide_eq_false (show ¬ n ≤ bk T n p by omega), if_neg (show ¬ ¬ b2i false = 0 by decide), if_pos a3.k, n4, nI_1]
  rcases hb with hb | hb
  · rw [if_pos (by rw [hb]; decide)]
  · by_cases e : D = 0
    · rw [if_pos (by rw [e]; decide)]
    · rw [if_neg (by rw [nI_le0 (by omega)]; exact e), t1, if_pos t2, t3, a3.2.1, if_pos (inB_nI (by omega) (by decide)), nI_clamp (by omega), a3.1.2.2.2.1 _ hlt, if_pos (show ¬ cby (T (bk T n p)) = 93 from fun q => hb ((cby_e ht (s := 93) (by omega)).mp q))]
/-- the loop's head where a bracket is closed -/
theorem c_close {g : Nat} (X : CP h x T n p) (h9 : h.2 (x + 27) 9 = nI (D + 1)) (hD : D + 1 ≤ 6) (hk : k ≤ p) (hlt : bk T n p < n) (hb : T (bk T n p) = 93) (hj : j < 64) (hl : h.2 (x + 28) 1 = nI j) (hg : g < j) (ho : h.2 (x + 37) D = nI g) :
    ∃ h6, gX3_readWork (fl + 1) 8 [.ref (x + 27), uV, uV, .int (nI k)] [] h = gX3_readWork fl 8 [.ref (x + 27), uV, uV, .int (nI (k + 1))] [] h6 ∧ h6.1 = h.1 ∧ (∀ a, a < x + 27 ∨ (x + 33 ≤ a ∧ a ≠ x + 34) → h6.2 a = h.2 a) ∧ (∀ i, i ≠ 3 → i ≠ 4 → i ≠ 7 → i ≠ 9 → h6.2 (x + 27) i = h.2 (x + 27) i) ∧ addd h h6 x j 13 (0, 0, 0) ∧ (∀ i, h6.2 (x + 34) i = if i = j then nI g else if i = g then nI j else h.2 (x + 34) i) ∧ h6.2 (x + 27) 9 = nI D ∧ CSt h6 x T n (pSig T n 59 (bk T n p + 1)) := by
  obtain ⟨h4, a1, a2, a3⟩ := c_atEnd X
  obtain ⟨t1, t2, t3⟩ := a3.tx
  have hn := X.1.2.2.1
  have hpn := X.2.2.2
  have n4 : h4.2 (x + 27) 9 = nI (D + 1) := by rw [a2.2.2 9 (by decide) (by decide) (by decide)]; exact h9
  have ht := X.1.2.2.2.2 _ hlt
  obtain ⟨o1, o2, o3⟩ := a3.1.1.rdr.2.2.2.2.2
  have o1 : rH h4 (x + 27) 8 = x + 37 := o1
  have o2 : kH h4 (x + 37) = 1 := o2
  have o3 : lH h4 (x + 37) = 6 := o3
  obtain ⟨s1, s2, -⟩ := a3.1.1.scr
  have e4 : ∀ a, a ≠ x + 27 → h4.2 a = h.2 a := a2.2.1
  -- the place behind the bracket, one open less
  have f5 : FrW h4 (h4.1, upI (upI h4.2 (x + 27) 7 (nI (bk T n p + 1))) (x + 27) 9 (nI D)) x := ⟨rfl, fun a q => by show upI _ _ _ _ a = _; rw [upI_ne (by omega), upI_ne (by omega)], fun i _ _ q1 q2 => by show upI _ _ _ _ (x + 27) i = _; rw [upI_at, if_neg q2, upI_at, if_neg q1]⟩
  have u9 : upI h4.2 (x + 27) 7 (nI (bk T n p + 1)) (x + 27) 9 = nI (D + 1) := by rw [upI_at, if_neg (by decide)]; exact n4
  have u9' : upI (upI h4.2 (x + 27) 7 (nI (bk T n p + 1))) (x + 27) 9 (nI D) (x + 27) 9 = nI D := by rw [upI_at, if_pos rfl]
  have uo : upI (upI h4.2 (x + 27) 7 (nI (bk T n p + 1))) (x + 27) 9 (nI D) (x + 37) D = nI g := by rw [upI_ne (by omega), upI_ne (by omega), e4 _ (by omega)]; exact ho
  obtain ⟨h5, b1, b2, b3, b4, b5⟩ := c_addEnd (h := (h4.1, upI (upI h4.2 (x + 27) 7 (nI (bk T n p + 1))) (x + 27) 9 (nI D))) (a3.1.1.eq rfl) hj hg (by show upI _ _ _ _ (x + 28) 1 = _; rw [upI_ne (by omega), upI_ne (by omega), e4 _ (by omega)]; exact hl)
  have X5 : CP h5 x T n (bk T n p + 1) := by
    have e27 : h5.2 (x + 27) = upI (upI h4.2 (x + 27) 7 (nI (bk T n p + 1))) (x + 27) 9 (nI D) (x + 27) := b3 _ (by omega)
    refine ⟨⟨(a3.1.1.eq rfl).eq b2, ?_, hn, fun i hi => ?_, X.1.2.2.2.2⟩, ?_, ?_, by omega⟩
    · rw [e27, upI_at, if_neg (by decide), upI_at, if_neg (by decide)]; exact a3.1.2.1
    · rw [b3 (x + 36) (by omega)]
      show upI _ _ _ _ (x + 36) i = _
      rw [upI_ne (by omega), upI_ne (by omega)]
      exact a3.1.2.2.2.1 i hi
    · rw [e27, upI_at, if_neg (by decide), upI_at, if_pos rfl]
    · rw [e27, upI_at, if_neg (by decide), upI_at, if_neg (by decide)]; exact a3.2.2.1
  obtain ⟨h6, c1, c2, c3⟩ := cs_sign (s := .inl (bk T n p + 1)) X5 (c := 59) (by omega)
  have c1 : fX3_readSign (x + 27) 59 h5 = _ := c1
  have up : ∀ a, a ≠ x + 27 → (h4.1, upI (upI h4.2 (x + 27) 7 (nI (bk T n p + 1))) (x + 27) 9 (nI D)).2 a = h.2 a := fun a ha => by
    show upI _ _ _ _ a = _
    rw [upI_ne ha, upI_ne ha, e4 a ha]
  refine ⟨h6, ?_, c2.1.trans (b2.trans a2.1), fun a q => ?_, fun i q1 q2 q3 q4 => ?_, addd.pre (fun a q1 q2 => up a (by omega)) (addd.post (fun a q1 q2 => c2.2.1 a (by omega)) b4), fun i => ?_, ?_, c3⟩
  · rw [zX3_readWork_8]
    unfold kX3_readWork_8
    rw [if_pos X.k, X.1.2.1, if_neg (by rw [nI_ltI (by omega) (by omega)]; omega), if_neg (fun q => q X.2.2.1), a1, bI_s, decide_eq_false (show ¬ n ≤ bk T n p by omega), if_neg (show ¬ ¬ b2i false = 0 by decide), if_pos a3.k, n4, if_neg (by rw [nI_le0 (by omega)]; omega), t1, if_pos t2, t3, a3.2.1, if_pos (inB_nI (by omega) (by decide)), nI_clamp (by omega), a3.1.2.2.2.1 _ hlt, if_neg (show ¬ ¬ cby (T (bk T n p)) = 93 from fun q => q ((cby_e ht (s := 93) (by omega)).mpr hb)), o1, if_pos o2, o3, nI_1, u9, sub8 (by omega), u9', if_pos (inB_nI (by omega) (by decide)), s1, if_pos s2, nI_clamp (by omega), uo, b1, bV_s, if_pos X5.k, c1, bV_s, nI_1]
  · rw [c2.2.1 a (by omega), b3 a (by omega), up a (by omega)]
  · rw [c2.2.2 i q1 q2 q3, b3 _ (by omega)]
    show upI _ _ _ _ (x + 27) i = _
    rw [upI_at, if_neg q4, upI_at, if_neg q3, a2.2.2 i q1 q2 q3]
  · rw [c2.2.1 _ (by omega), b5, up _ (by omega)]
  · rw [c2.2.2 9 (by decide) (by decide) (by decide), b3 _ (by omega)]
    exact u9'
end CW2
