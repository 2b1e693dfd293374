/-! ===== the class runs a script ===== -/
def Fk (h h' : Hp) (x j l : Nat) : Prop := h'.1 = h.1 ∧ (∀ a, a ≠ x → a < x + 1 ∨ x + 11 ≤ a → a < x + 21 ∨ x + 26 ≤ a → a ≠ x + 33 → h'.2 a = h.2 a) ∧ (∀ i, i ≠ 15 → h'.2 x i = h.2 x i) ∧ (∀ i, i < j ∨ j + l ≤ i → h'.2 (x + 33) i = h.2 (x + 33) i)
theorem Fk.refl (h : Hp) (x j l : Nat) : Fk h h x j l := ⟨rfl, fun _ _ _ _ _ => rfl, fun _ _ => rfl, fun _ _ => rfl⟩
theorem Fk.trans {h h1 h2 : Hp} {x j1 l1 j2 l2 j l : Nat} (a : Fk h h1 x j1 l1) (b : Fk h1 h2 x j2 l2) (q1 : j ≤ j1) (q2 : j ≤ j2) (q3 : j1 + l1 ≤ j + l) (q4 : j2 + l2 ≤ j + l) : Fk h h2 x j l := ⟨b.1.trans a.1, fun y w1 w2 w3 w4 => by rw [b.2.1 y w1 w2 w3 w4, a.2.1 y w1 w2 w3 w4], fun i w => by rw [b.2.2.1 i w, a.2.2.1 i w], fun i w => by rw [b.2.2.2 i (by omega), a.2.2.2 i (by omega)]⟩
theorem Fk.le {h h1 : Hp} {x j1 l1 j l : Nat} (a : Fk h h1 x j1 l1) (q1 : j ≤ j1) (q3 : j1 + l1 ≤ j + l) : Fk h h1 x j l := ⟨a.1, a.2.1, a.2.2.1, fun i w => a.2.2.2 i (by omega)⟩
def CG (h : Hp) (x z k : Nat) (p : Rp) : Prop := CO h x ∧ Sta h (x + 1) p.1 z ∧ h.2 x 15 = nI p.2.2.2 ∧ Ig z k p
/-- the class's loop at entry j, behind t turns -/
noncomputable def rS (x j t : Nat) (p : Rp) (h : Hp) : RS := gX9_runScript (1000000 - t) 15 [.ref x, .ref (x + 28), .int (nI p.2.2.1), .int (nI p.2.1), .int (nI j), .int (nI t), uV] [] h
section CR
variable {x z k L : Nat}
theorem cen.fk {h h' : Hp} {i j l : Nat} {v : Ent} (A : cen h x i v) (f : Fk h h' x j l) : cen h' x i v := A.cg (fun a q => by rw [f.2.1 a (by omega) (by omega) (by omega) (by omega)])
theorem LayC.fk {h h' : Hp} {i j l : Nat} {C : List Ent} (A : LayC h x i C) (f : Fk h h' x j l) : LayC h' x i C := A.cg (fun a _ q _ _ => by rw [f.2.1 a (by omega) (by omega) (by omega) (by omega)])
theorem Fk.len {h h' : Hp} {j l : Nat} {v : Int32} (f : Fk h h' x j l) (e : h.2 (x + 28) 1 = v) : h'.2 (x + 28) 1 = v := by rw [f.2.1 (x + 28) (by omega) (by omega) (by omega) (by omega)]; exact e
theorem nI_ne {a b : Nat} (ha : a < 2 ^ 31) (hb : b < 2 ^ 31) (h : a ≠ b) : ¬ nI a = nI b := by rw [nI_eq ha hb]; exact h
theorem cop_le {kd : Nat} (h : kd ≤ 10) : cop kd ≤ 10 := by
  unfold cop
  split
  · omega
  · split <;> omega
/-- the head of the loop -/
theorem rS_hd {h : Hp} {p : Rp} {j t : Nat} (G : CG h x z k p) (hp : ¬ 200 ≤ p.2.1) (hj : j < L) (hL : L ≤ 64) (hl : h.2 (x + 28) 1 = nI L) (ht : t < 100000) : rS x j t p h = (if ¬ (h.2 (x + 29) j) = 13 then (if ¬ (h.2 (x + 29) j) = 11 then (bI (fX6_take (x + 20) (x + 1) (h.2 (x + 29) j) (h.2 (x + 30) j) (h.2 (x + 31) j) (h.2 (x + 32) j) h) fun z17 h16 => (if z17 = 0 then (if kH h16 x = 19 then (gX9_runScript (1000000 - (t + 1)) 15 [.ref x, .ref (x + 28), .int (nI p.2.2.1), .int (nI (p.2.1 + 1)), .int (nI (j + 1)), .int (nI (t + 1)), uV] [] (h16.1, (upI h16.2 x 15 ((h16.2 x 15) + 1)))) else none) else (gX9_runScript (1000000 - (t + 1)) 15 [.ref x, .ref (x + 28), .int (nI (p.2.2.1 + 1)), .int (nI (p.2.1 + 1)), .int (nI (j + 1)), .int (nI (t + 1)), uV] [] h16))) else (bI (fX4_afterAgain (x + 28) (nI j) h) fun z23 h22 => (gX9_runScript (1000000 - (t + 1)) 15 [.ref x, .ref (x + 28), .int (nI p.2.2.1), .int (nI (p.2.1 + 1)), .int z23, .int (nI (t + 1)), uV] [] h22))) else (bI (fX4_afterEnd (x + 28) (nI j) h) fun z26 h25 => (gX9_runScript (1000000 - (t + 1)) 15 [.ref x, .ref (x + 28), .int (nI p.2.2.1), .int (nI p.2.1), .int z26, .int (nI (t + 1)), uV] [] h25))) := by
  obtain ⟨C, R, G3, G4⟩ := G
  obtain ⟨s1, s2, s3⟩ := C.scr
  have e2 := s3 0 (by decide)
  have e3 := s3 1 (by decide)
  have e4 := s3 2 (by decide)
  have e5 := s3 3 (by decide)
  obtain ⟨u2, u2', u2''⟩ : rH h (x + 28) 2 = x + 29 ∧ kH h (x + 29) = 1 ∧ lH h (x + 29) = 64 := e2
  obtain ⟨u3, u3', u3''⟩ : rH h (x + 28) 3 = x + 30 ∧ kH h (x + 30) = 1 ∧ lH h (x + 30) = 64 := e3
  obtain ⟨u4, u4', u4''⟩ : rH h (x + 28) 4 = x + 31 ∧ kH h (x + 31) = 1 ∧ lH h (x + 31) = 64 := e4
  obtain ⟨u5, u5', u5''⟩ : rH h (x + 28) 5 = x + 32 ∧ kH h (x + 32) = 1 ∧ lH h (x + 32) = 64 := e5
  have hb : inB (nI j) 64 = true := inB_nI (by omega) (by decide)
  unfold rS
  obtain ⟨g, hg⟩ : ∃ g, 1000000 - t = g + 1 := ⟨1000000 - t - 1, by omega⟩
  have hg2 : 1000000 - (t + 1) = g := by omega
  rw [hg, hg2, zX9_runScript_15]
  unfold kX9_runScript_15
  rw [if_neg (show ¬ (100000 : Int32) ≤ nI t by rw [show (100000 : Int32) = nI 100000 from rfl, nI_leI (by decide) (by omega)]; omega), if_pos s2, hl, if_neg (by rw [nI_leI (by omega) (by omega)]; omega), if_neg (by rw [k200, nI_leI (by decide) (by have := G4.1; omega)]; exact hp), u2, if_pos u2', u2'', if_pos hb, nI_clamp (by omega), if_pos C.k, u3, if_pos u3', u3'', if_pos hb, u4, if_pos u4', u4'', if_pos hb, u5, if_pos u5', u5'', if_pos hb, C.r5, if_pos C.stp.1, C.r0, nI_1, nI_1, nI_1, nI_1]
theorem c_run_st {h : Hp} {p : Rp} {j t : Nat} {v : Nat × Nat × Nat × Nat} (G : CG h x z k p) (hp : ¬ 200 ≤ p.2.1) (hj : j < L) (hL : L ≤ 64) (hl : h.2 (x + 28) 1 = nI L) (ht : t < 100000) (A : cen h x j (cop v.1, v.2.1, v.2.2.1, v.2.2.2, 0)) (ok : okS v.1 v.2.1 v.2.2.1 v.2.2.2) :
    ∃ h', rS x j t p h = rS x (j + 1) (t + 1) (rst z (v.1, v.2.1, v.2.2.1, v.2.2.2, 0) p) h' ∧ Fk h h' x j 0 ∧ CG h' x z k (rst z (v.1, v.2.1, v.2.2.1, v.2.2.2, 0) p) := by
  rw [rS_hd G hp hj hL hl ht]
  obtain ⟨C, R, G3, G4⟩ := G
  obtain ⟨A1, A2, A3, A4, -⟩ := A
  have A1 : h.2 (x + 29) j = nI (cop v.1) := A1
  have A2 : h.2 (x + 30) j = nI v.2.1 := A2
  have A3 : h.2 (x + 31) j = nI v.2.2.1 := A3
  have A4 : h.2 (x + 32) j = nI v.2.2.2 := A4
  have c10 := cop_le ok.1
  have I1 := ig_go G4 hp
  have I2 := ig_st (v := (v.1, v.2.1, v.2.2.1, v.2.2.2, 0)) G4 hp ok
  obtain ⟨h9, d1, d2, d3⟩ := c_take (t := x + 20) (k := v.1) R C.stp (by omega) ok (inv_RdC I1.1.1 _ _)
  have C9 : CO h9 x := C.eq d2.1
  have f9 : ∀ a, a < x + 1 ∨ x + 11 ≤ a → a < x + 21 ∨ x + 26 ≤ a → h9.2 a = h.2 a := fun a q1 q2 => d2.2 a (by omega) (by omega)
  rw [A1, A2, A3, A4, if_pos (show ¬ nI (cop v.1) = 13 from nI_ne (b := 13) (by omega) (by decide) (by omega)), if_pos (show ¬ nI (cop v.1) = 11 from nI_ne (b := 11) (by omega) (by decide) (by omega)), d1, bI_s]
  unfold rst at I2 ⊢
  cases hb : (sDo p.1 z v.1 v.2.1 v.2.2.1 v.2.2.2).1 with
  | false =>
    simp only [hb] at I2
    refine ⟨(h9.1, upI h9.2 x 15 (h9.2 x 15 + 1)), ?_, ⟨d2.1, fun a q1 q2 q3 q4 => ?_, fun i q => ?_, fun i q => ?_⟩, C9.eq rfl, ?_, ?_, I2⟩
    · rw [if_pos (show b2i false = 0 by decide), if_pos C9.k]
      rfl
    · show upI _ _ _ _ a = _
      rw [upI_ne q1]
      exact f9 a q2 q3
    · show upI _ _ _ _ x i = _
      rw [upI_at, if_neg q, f9 x (by omega) (by omega)]
    · show upI _ _ _ _ (x + 33) i = _
      rw [upI_ne (by omega), f9 (x + 33) (by omega) (by omega)]
    · exact d3.up (fun a q1 q2 => upI_ne (by omega))
    · show upI _ _ _ _ x 15 = nI (p.2.2.2 + 1)
      rw [upI_at, if_pos rfl, f9 x (by omega) (by omega), G3, nI_1]
  | true =>
    simp only [hb] at I2
    refine ⟨h9, ?_, ⟨d2.1, fun a q1 q2 q3 q4 => f9 a q2 q3, fun i q => by rw [f9 x (by omega) (by omega)], fun i q => by rw [f9 (x + 33) (by omega) (by omega)]⟩, C9, d3, ?_, I2⟩
    · rw [if_neg (show ¬ b2i true = 0 by decide)]
      rfl
    · show h9.2 x 15 = nI (p.2.2.2 + 0)
      rw [f9 x (by omega) (by omega), G3]
      rfl
/-- what running the entries of F from j on does -/
def PK (x z k L : Nat) (F : Fo) : Prop := ∀ (j t : Nat) (h : Hp) (p : Rp), CG h x z k p → h.2 (x + 28) 1 = nI L → LayC h x j (cof F) → j + (cof F).length ≤ L → t + 61 * (200 - p.2.1) ≤ 12200 →
  ∃ h' t' j', rS x j t p h = rS x j' t' (run z F p) h' ∧ t' + 61 * (200 - (run z F p).2.1) ≤ t + 61 * (200 - p.2.1) ∧ (¬ 200 ≤ (run z F p).2.1 → j' = j + (cof F).length) ∧ Fk h h' x j (cof F).length ∧ CG h' x z k (run z F p)
theorem pk_nil : PK x z k L [] := fun j t h p G hl A hj ht => ⟨h, t, j, rfl, Nat.le_refl _, fun _ => rfl, Fk.refl _ _ _ _, G⟩
theorem LayC.hd {h : Hp} {j : Nat} {v : Ent} {C : List Ent} (R : LayC h x j (v :: C)) : cen h x j v ∧ LayC h x (j + 1) C := ⟨R 0 v rfl, fun i w hw => by
  have := R (i + 1) w hw
  rw [show j + (i + 1) = j + 1 + i by omega] at this
  exact this⟩
theorem LayC.ap {h : Hp} {j : Nat} {A B : List Ent} (R : LayC h x j (A ++ B)) : LayC h x j A ∧ LayC h x (j + A.length) B := ⟨fun i w hw => R i w (by
  have hi : i < A.length := (List.getElem?_eq_some_iff.mp hw).1
  rw [List.getElem?_append_left hi]
  exact hw), fun i w hw => by
  have := R (A.length + i) w (by
    rw [List.getElem?_append_right (by omega), show A.length + i - A.length = i by omega]
    exact hw)
  rw [← Nat.add_assoc] at this
  exact this⟩
theorem pk_st (hL : L ≤ 64) (v : Nat × Nat × Nat × Nat) (r : Fo) (ok : okS v.1 v.2.1 v.2.2.1 v.2.2.2) (P : PK x z k L r) : PK x z k L (fco (.inl v) r) := fun j t h p G hl A hj ht => by
  have v10 := ok.1
  rw [run_st z v r (by omega)]
  have ec := cof_st v r (by omega)
  rw [ec] at A hj ⊢
  rw [List.length_cons] at hj ⊢
  by_cases e : 200 ≤ p.2.1
  · rw [if_pos e]
    exact ⟨h, t, j, rfl, Nat.le_refl _, fun w => absurd e w, Fk.refl _ _ _ _, G⟩
  · rw [if_neg e]
    obtain ⟨A1, A2⟩ := A.hd
    obtain ⟨h1, a1, a2, a3⟩ := c_run_st (t := t) G e (show j < L by omega) hL hl (by omega) A1 ok
    have eb : (rst z (v.1, v.2.1, v.2.2.1, v.2.2.2, 0) p).2.1 = p.2.1 + 1 := rfl
    obtain ⟨h', t', j', b1, b2, b3, b4, b5⟩ := P (j + 1) (t + 1) h1 _ a3 (a2.len hl) (A2.fk a2) (by omega) (by rw [eb]; omega)
    rw [eb] at b2
    exact ⟨h', t', j', a1.trans b1, by omega, fun w => by rw [b3 w]; omega, a2.trans b4 (by omega) (by omega) (by omega) (by omega), b5⟩
/-- the end of an again -/
theorem c_aend {h : Hp} {p : Rp} {j e t w l : Nat} (G : CG h x z k p) (hp : ¬ 200 ≤ p.2.1) (hj : e < L) (hL : L ≤ 64) (hl : h.2 (x + 28) 1 = nI L) (ht : t < 100000) (A : cen h x e (13, 0, 0, 0, l)) (he : e = j + l) (hl0 : 0 < l) (hw : h.2 (x + 33) j = nI (w + 1)) (hw6 : w < 60) :
    ∃ h', rS x e t p h = rS x (if w = 0 then e + 1 else j + 1) (t + 1) p h' ∧ Fk h h' x j 1 ∧ CG h' x z k p ∧ h'.2 (x + 33) j = nI w := by
  rw [rS_hd G hp hj hL hl ht]
  obtain ⟨C, R, G3, G4⟩ := G
  obtain ⟨A1, -, -, -, -, A6⟩ := A
  have A1 : h.2 (x + 29) e = nI 13 := A1
  have A6 : h.2 (x + 34) e = nI j := by
    have := A6 rfl
    rw [this]
    show nI (e - l) = nI j
    rw [show e - l = j by omega]
  obtain ⟨s1, s2, s3⟩ := C.scr
  obtain ⟨u6, u6', u6''⟩ : rH h (x + 28) 6 = x + 33 ∧ kH h (x + 33) = 1 ∧ lH h (x + 33) = 64 := s3 4 (by decide)
  obtain ⟨u7, u7', u7''⟩ : rH h (x + 28) 7 = x + 34 ∧ kH h (x + 34) = 1 ∧ lH h (x + 34) = 64 := s3 5 (by decide)
  have ew : nI (w + 1) - 1 = nI w := sub8 (by omega)
  refine ⟨(h.1, upI h.2 (x + 33) j (nI w)), ?_, ⟨rfl, fun a q1 q2 q3 q4 => upI_ne q4, fun i q => by show upI _ _ _ _ x i = _; rw [upI_ne (by omega)], fun i q => by show upI _ _ _ _ (x + 33) i = _; rw [upI_at, if_neg (by omega)]⟩, ⟨C.eq rfl, R.up (fun a q1 q2 => upI_ne (by omega)), by show upI _ _ _ _ x 15 = _; rw [upI_ne (by omega)]; exact G3, G4⟩, by show upI _ _ _ _ (x + 33) j = _; rw [upI_at, if_pos rfl]⟩
  rw [A1, if_neg (show ¬ ¬ nI 13 = 13 from fun q => q rfl)]
  unfold fX4_afterEnd kX4_afterEnd_0
  rw [if_pos s2, u7, if_pos u7', u7'', if_pos (inB_nI (by omega) (by decide)), u6, if_pos u6', nI_clamp (by omega), A6, u6'', if_pos (inB_nI (by omega) (by decide)), nI_clamp (by omega), hw, ew, letH_s, upI_at, if_pos rfl]
  by_cases e0 : w = 0
  · rw [if_pos e0, if_pos (by rw [nI_le0 (by omega)]; exact e0), bI_s, nI_1]
    rfl
  · rw [if_neg e0, if_neg (by rw [nI_le0 (by omega)]; exact e0), bI_s, nI_1]
    rfl
theorem c_loop {b : Fo} {j e l : Nat} (hL : L ≤ 64) (B : PK x z k L b) (hl : l = (cof b).length) (he : e = j + 1 + l) (heL : e < L) : ∀ (w t : Nat) (h : Hp) (p : Rp), w < 60 → CG h x z k p → h.2 (x + 28) 1 = nI L → h.2 (x + 33) j = nI (w + 1) → LayC h x (j + 1) (cof b) → cen h x e (13, 0, 0, 0, l + 1) → t + (w + 1) + 61 * (200 - p.2.1) ≤ 12200 →
    ∃ h' t' j', rS x (j + 1) t p h = rS x j' t' (itr (run z b) (w + 1) p) h' ∧ t' + 61 * (200 - (itr (run z b) (w + 1) p).2.1) ≤ t + (w + 1) + 61 * (200 - p.2.1) ∧ (¬ 200 ≤ (itr (run z b) (w + 1) p).2.1 → j' = e + 1) ∧ Fk h h' x j (l + 2) ∧ CG h' x z k (itr (run z b) (w + 1) p) := by
  intro w
  induction w with
  | zero =>
    intro t h p hw G hlen hleft A E ht
    obtain ⟨h1, t1, j1, a1, a2, a3, a4, a5⟩ := B (j + 1) t h p G hlen A (by omega) (by omega)
    rw [← hl] at a3 a4
    rw [itr_s, itr_0]
    by_cases e2 : 200 ≤ (run z b p).2.1
    · exact ⟨h1, t1, j1, a1, by omega, fun q => absurd e2 q, a4.le (by omega) (by omega), a5⟩
    · obtain ⟨h2, b1, b2, b3, b4⟩ := c_aend (w := 0) (t := t1) a5 e2 heL hL (a4.len hlen) (by omega) (E.fk a4) (show e = j + (l + 1) by omega) (by omega) (by rw [a4.2.2.2 j (by omega)]; exact hleft) (by omega)
      rw [a3 e2, show j + 1 + l = e by omega] at a1
      rw [if_pos rfl] at b1
      exact ⟨h2, t1 + 1, e + 1, a1.trans b1, by omega, fun _ => rfl, a4.trans b2 (by omega) (by omega) (by omega) (by omega), b3⟩
  | succ w ih =>
    intro t h p hw G hlen hleft A E ht
    obtain ⟨h1, t1, j1, a1, a2, a3, a4, a5⟩ := B (j + 1) t h p G hlen A (by omega) (by omega)
    rw [← hl] at a3 a4
    rw [itr_s]
    by_cases e2 : 200 ≤ (run z b p).2.1
    · rw [itr_end _ _ e2]
      exact ⟨h1, t1, j1, a1, by omega, fun q => absurd e2 q, a4.le (by omega) (by omega), a5⟩
    · obtain ⟨h2, b1, b2, b3, b4⟩ := c_aend (w := w + 1) (t := t1) a5 e2 heL hL (a4.len hlen) (by omega) (E.fk a4) (show e = j + (l + 1) by omega) (by omega) (by rw [a4.2.2.2 j (by omega)]; exact hleft) (by omega)
      rw [a3 e2, show j + 1 + l = e by omega] at a1
      rw [if_neg (by omega)] at b1
      have f2 : Fk h h2 x j (l + 2) := a4.trans b2 (by omega) (by omega) (by omega) (by omega)
      obtain ⟨h', t', j', c1, c2, c3, c4, c5⟩ := ih (t1 + 1) h2 (run z b p) (by omega) b3 (f2.len hlen) b4 (A.fk f2) (E.fk f2) (by omega)
      exact ⟨h', t', j', (a1.trans b1).trans c1, by omega, c3, f2.trans c4 (by omega) (by omega) (by omega) (by omega), c5⟩
theorem pk_ag (hL : L ≤ 64) (c : Nat) (b r : Fo) (hc : c ≤ 60) (B : PK x z k L b) (P : PK x z k L r) : PK x z k L (fco (.inr (c, b)) r) := fun j t h p G hl A hj ht => by
  rw [run_ag]
  have ec := cof_ag c b r
  rw [ec] at A hj ⊢
  rw [List.length_cons, List.length_append, List.length_cons] at hj ⊢
  by_cases e : 200 ≤ p.2.1
  · rw [if_pos e]
    exact ⟨h, t, j, rfl, Nat.le_refl _, fun w => absurd e w, Fk.refl _ _ _ _, G⟩
  · rw [if_neg e]
    obtain ⟨A1, A2⟩ := A.hd
    obtain ⟨A3, A4⟩ := A2.ap
    obtain ⟨A5, A6⟩ := A4.hd
    obtain ⟨l, hll⟩ : ∃ l, l = (cof b).length := ⟨_, rfl⟩
    rw [← hll] at hj A1 A4 A5 A6 ⊢
    obtain ⟨C, R, G3, G4⟩ := id G
    obtain ⟨s1, s2, s3⟩ := C.scr
    obtain ⟨u3, u3', u3''⟩ : rH h (x + 28) 3 = x + 30 ∧ kH h (x + 30) = 1 ∧ lH h (x + 30) = 64 := s3 1 (by decide)
    obtain ⟨u6, u6', u6''⟩ : rH h (x + 28) 6 = x + 33 ∧ kH h (x + 33) = 1 ∧ lH h (x + 33) = 64 := s3 4 (by decide)
    obtain ⟨u7, u7', u7''⟩ : rH h (x + 28) 7 = x + 34 ∧ kH h (x + 34) = 1 ∧ lH h (x + 34) = 64 := s3 5 (by decide)
    obtain ⟨a1, a2, -, -, a5, -⟩ := A1
    have a1 : h.2 (x + 29) j = nI 11 := a1
    have a2 : h.2 (x + 30) j = nI c := a2
    have a5 : h.2 (x + 34) j = nI (j + (l + 1)) := a5 rfl
    have ef : inB (nI j) 64 = true := inB_nI (by omega) (by decide)
    let h1 : Hp := (h.1, upI h.2 (x + 33) j (nI c))
    have f1 : Fk h h1 x j 1 := ⟨rfl, fun a q1 q2 q3 q4 => upI_ne q4, fun i q => by show upI _ _ _ _ x i = _; rw [upI_ne (by omega)], fun i q => by show upI _ _ _ _ (x + 33) i = _; rw [upI_at, if_neg (by omega)]⟩
    have g1 : CG h1 x z k (beg1 p) := ⟨C.eq rfl, R.up (fun a q1 q2 => upI_ne (by omega)), by show upI _ _ _ _ x 15 = _; rw [upI_ne (by omega)]; exact G3, ig_b1 G4 e⟩
    have l1 : h1.2 (x + 33) j = nI c := by show upI _ _ _ _ (x + 33) j = _; rw [upI_at, if_pos rfl]
    have st : rS x j t p h = rS x (if c = 0 then j + (l + 1) + 1 else j + 1) (t + 1) (beg1 p) h1 := by
      rw [rS_hd G e (show j < L by omega) hL hl (by omega), a1, if_pos (show ¬ nI 11 = 13 by decide), if_neg (show ¬ ¬ nI 11 = 11 from fun q => q rfl)]
      unfold fX4_afterAgain kX4_afterAgain_0
      rw [if_pos s2, u3, if_pos u3', u3'', if_pos ef, u6, if_pos u6', u6'', if_pos ef, nI_clamp (by omega), a2, upI_at, if_pos rfl]
      by_cases e0 : c = 0
      · rw [if_pos e0, if_neg (show ¬ ¬ nI c = 0 from fun q => q (by rw [e0]; rfl)), u7, if_pos u7', u7'', if_pos ef, upI_ne (by omega), a5, bI_s, nI_1]
        rfl
      · rw [if_neg e0, if_pos (show ¬ nI c = 0 by rw [nI_eq0 (by omega)]; exact e0), bI_s, nI_1]
        rfl
    have eb : (beg1 p).2.1 = p.2.1 + 1 := rfl
    by_cases e0 : c = 0
    · rw [if_pos e0] at st
      obtain ⟨h', t', j', b1, b2, b3, b4, b5⟩ := P (j + 1 + l + 1) (t + 1) h1 _ g1 (f1.len hl) (A6.fk f1) (by omega) (by rw [eb]; omega)
      rw [show j + (l + 1) + 1 = j + 1 + l + 1 by omega] at st
      rw [eb] at b2
      rw [e0, itr_0]
      exact ⟨h', t', j', st.trans b1, by omega, fun w => by rw [b3 w]; omega, f1.trans b4 (by omega) (by omega) (by omega) (by omega), b5⟩
    · rw [if_neg e0] at st
      obtain ⟨w, rfl⟩ : ∃ w, c = w + 1 := ⟨c - 1, by omega⟩
      obtain ⟨h2, t2, j2, b1, b2, b3, b4, b5⟩ := c_loop (e := j + 1 + l) hL B hll rfl (by omega) w (t + 1) h1 (beg1 p) (by omega) g1 (f1.len hl) l1 (A3.fk f1) (A5.fk f1) (by rw [eb]; omega)
      rw [eb] at b2
      have f2 : Fk h h2 x j (l + 2) := f1.trans b4 (by omega) (by omega) (by omega) (by omega)
      by_cases e3 : 200 ≤ (itr (run z b) (w + 1) (beg1 p)).2.1
      · rw [show run z r (itr (run z b) (w + 1) (beg1 p)) = itr (run z b) (w + 1) (beg1 p) from run_end z _ _ _ e3]
        exact ⟨h2, t2, j2, st.trans b1, by omega, fun q => absurd e3 q, f2.le (by omega) (by omega), b5⟩
      · rw [b3 e3] at b1
        obtain ⟨h', t', j', c1, c2, c3, c4, c5⟩ := P (j + 1 + l + 1) t2 h2 _ b5 (f2.len hl) (A6.fk f2) (by omega) (by omega)
        exact ⟨h', t', j', (st.trans b1).trans c1, by omega, fun q => by rw [c3 q]; omega, f2.trans c4 (by omega) (by omega) (by omega) (by omega), c5⟩
/-- the class runs what it read -/
theorem c_run {T : Nat → Nat} {n f q : Nat} {F : Fo} {h : Hp} {S : St} (e : pFo T n f 0 0 = .inl (F, q)) (hF : (cof F).length ≤ 37) (C : CO h x) (R : Sta h (x + 1) S z) (I : Inx S z (k + 768000)) (hl : h.2 (x + 28) 1 = nI (cof F).length) (A : LayC h x 0 (cof F)) :
    ∃ h', fX9_runScript x (x + 28) h = some (.inl (some (.int (nI (run z F (S, 0, 0, 0)).2.2.1))), h') ∧ Fk h h' x 0 64 ∧ CG h' x z k (run z F (S, 0, 0, 0)) := by
  have P : PK x z k (cof F).length F := pFo_ind (PK x z k (cof F).length) pk_nil (pk_st (by omega)) (pk_ag (by omega)) f 0 0 F q (Nat.zero_le _) e
  let h1 : Hp := (h.1, upI h.2 x 15 0)
  have f1 : Fk h h1 x 0 0 := ⟨rfl, fun a q1 q2 q3 q4 => upI_ne q1, fun i q => by show upI _ _ _ _ x i = _; rw [upI_at, if_neg q], fun i q => by show upI _ _ _ _ (x + 33) i = _; rw [upI_ne (by omega)]⟩
  have g1 : CG h1 x z k (S, 0, 0, 0) := ⟨C.eq rfl, R.up (fun a q1 q2 => upI_ne (by omega)), by show upI _ _ _ _ x 15 = nI 0; rw [upI_at, if_pos rfl]; rfl, Nat.zero_le _, Nat.le_refl _, I⟩
  obtain ⟨h', t', j', b1, b2, b3, b4, b5⟩ := P 0 0 h1 _ g1 (f1.len hl) (A.fk f1) (by omega) (by show 0 + 61 * (200 - 0) ≤ 12200; omega)
  have b2 : t' + 61 * (200 - (run z F (S, 0, 0, 0)).2.1) ≤ 0 + 61 * (200 - 0) := b2
  have f2 : Fk h h' x 0 64 := f1.trans b4 (by omega) (by omega) (by omega) (by omega)
  refine ⟨h', ?_, f2, b5⟩
  have st : fX9_runScript x (x + 28) h = rS x 0 0 (S, 0, 0, 0) h1 := by
    unfold fX9_runScript kX9_runScript_0
    rw [if_pos C.k]
    rfl
  rw [st, b1]
  unfold rS
  obtain ⟨g, hg⟩ : ∃ g, 1000000 - t' = g + 1 := ⟨1000000 - t' - 1, by omega⟩
  obtain ⟨s1, s2, s3⟩ := b5.1.scr
  rw [hg, zX9_runScript_15]
  unfold kX9_runScript_15
  rw [if_neg (show ¬ (100000 : Int32) ≤ nI t' by rw [show (100000 : Int32) = nI 100000 from rfl, nI_leI (by decide) (by omega)]; omega), if_pos s2, f2.len hl]
  have b200 := b5.2.2.2.1
  by_cases e2 : 200 ≤ (run z F (S, 0, 0, 0)).2.1
  · by_cases e3 : nI (cof F).length ≤ nI j'
    · rw [if_pos e3]
    · rw [if_neg e3, if_pos (by rw [k200, nI_leI (by decide) (by omega)]; exact e2)]
  · rw [b3 e2, if_pos (by rw [nI_leI (by omega) (by omega)]; omega)]
end CR
