/-! ===== storms, the reference ===== -/
def Sy (h h' : Hp) (m : Nat) : Prop := h'.1 = h.1 ∧ (∀ a, a ≠ m + 119 → a ≠ m → a ≠ m + 147 → a ≠ m + 148 → a ≠ m + 149 → a ≠ m + 151 → h'.2 a = h.2 a) ∧ (∀ j, j ≠ 30 → j ≠ 36 → h'.2 m j = h.2 m j)
theorem Sy.refl (h : Hp) (m : Nat) : Sy h h m := ⟨rfl, fun _ _ _ _ _ _ _ => rfl, fun _ _ _ => rfl⟩
theorem Sy.trans {h h1 h2 : Hp} {m : Nat} (a : Sy h h1 m) (b : Sy h1 h2 m) : Sy h h2 m :=
  ⟨b.1.trans a.1, fun y q1 q2 q3 q4 q5 q6 => by rw [b.2.1 y q1 q2 q3 q4 q5 q6, a.2.1 y q1 q2 q3 q4 q5 q6], fun j q1 q2 => by rw [b.2.2 j q1 q2, a.2.2 j q1 q2]⟩
theorem Sy.scm {h h' : Hp} {m : Nat} (a : Sy h h' m) : ScM h h' m := ⟨a.1, fun y hy => a.2.1 y (by unfold perM at hy; omega) (by unfold perM at hy; omega) (by unfold perM at hy; omega) (by unfold perM at hy; omega) (by unfold perM at hy; omega) (by unfold perM at hy; omega), fun j hj => a.2.2 j (by unfold perF at hj; omega) (by unfold perF at hj; omega)⟩
theorem sy_36 (h : Hp) (m : Nat) (v : Int32) : Sy h (h.1, upI h.2 m 36 v) m := ⟨rfl, fun a _ q _ _ _ _ => upI_ne q, fun j _ q => by show upI _ _ _ _ m j = _; rw [upI_at, if_neg q]⟩
theorem sy_151 (h : Hp) (m i : Nat) (v : Int32) : Sy h (h.1, upI h.2 (m + 151) i v) m := ⟨rfl, fun a _ _ _ _ _ q => upI_ne q, fun j _ _ => by show upI _ _ _ _ m j = _; rw [upI_ne (by omega)]⟩
section ST
variable {h : Hp} {x m z k : Nat} {S : St}
theorem sy_2 {h h' : Hp} {v : Int32} (s : Sy h h' m) (e : h.2 m 11 = v) : h'.2 m 11 = v := by rw [s.2.2 11 (by decide) (by decide)]; exact e
theorem Row.u36 {r : Nat} {v : Int32} (hr : r ≠ m) (R : Row h r S) : Row (h.1, upI h.2 m 36 v) r S := R.up (upI_ne hr)
theorem m_st_tail {g : Hp} {kd a b q many u f : Nat} {s2 : Int32} (hq : q ≤ 16) (hm : many ≤ 96) (hu : u < many) (R : Row g (m + 119) S) (M : MS g m) (Z : g.2 m 11 = nI z) (d0 : g.2 (m + 151) 0 = nI kd) (d1 : g.2 (m + 151) 1 = nI a) (d2 : g.2 (m + 151) 2 = nI b) (sd0 : g.2 m 36 = s2) (hok : ∀ c, okS kd a b c) (h2 : kd ≠ 2) (h4 : kd ≠ 4) (I : Inx S z (k + 3840)) :
    ∃ h', (bI (fX10_does m (m + 119) (m + 151) g) fun _ h8 => (if kH h8 m = 18 then (bI (fX10_draw m 16 h8) fun z12 h11 => (if nI q ≤ z12 then (gX10_stormBy f 19 [.ref m, uV, .int (nI many), .int (nI q), .int (nI u + 1), uV] [] h11) else (if kH h11 m = 18 then (bI (fX10_crashes (rH h11 m 23) h11) fun _ h17 => (gX10_stormBy f 19 [.ref m, uV, .int (nI many), .int (nI q), .int (nI u + 1), uV] [] h17)) else none))) else none)) =
      gX10_stormBy f 19 [.ref m, uV, .int (nI many), .int (nI q), .int (nI (u + 1)), uV] [] h' ∧ Sy g h' m ∧ Row h' (m + 119) (stE z q (seedN s2) (drw (seedN s2) % 16) kd a b S).2 ∧ h'.2 m 36 = seedN s2 := by
  obtain ⟨hz1, hz2⟩ := I.1.1.1
  obtain ⟨t1, t2, t3⟩ := M.tri
  obtain ⟨w1, w2, w3⟩ := M.drw
  obtain ⟨h1, a1, a2, a3, a4, a5⟩ := m_does (s := m + 151) (k := kd) (a := a) (b := b) (c := (g.2 (m + 151) 3).toBitVec.toNat) R M.mo (by omega) Z hz1 hz2 w2 w3 d0 d1 d2 (x_nI _) (hok _) (inv_Rdy I.1.1 _ _)
  rw [sDo_c h2 h4] at a1 a5
  have y1 : Sy g h1 m := ⟨a2, fun c q1 q2 q3 q4 q5 q6 => a3 c q1 q2 q3 q4 q5, fun j q1 q2 => a4 j q1⟩
  have M1 := M.eq a2
  have dr := q_draw (h := h1) M1.k (n := 16) (by decide) (by decide)
  have e36 : h1.2 m 36 = s2 := (a4 36 (by decide)).trans sd0
  rw [e36] at dr
  have dr : fX10_draw m 16 h1 = _ := dr
  have y2 := y1.trans (sy_36 h1 m (seedN s2))
  have M2 : MS (h1.1, upI h1.2 m 36 (seedN s2)) m := M1.eq rfl
  have R2 : Row (h1.1, upI h1.2 m 36 (seedN s2)) (m + 119) (sDo S z kd a b 0).2 := a5.u36 (by omega)
  have s36 : (h1.1, upI h1.2 m 36 (seedN s2)).2 m 36 = seedN s2 := by show upI _ _ _ _ m 36 = _; rw [upI_at, if_pos rfl]
  have hlt := Nat.mod_lt (drw (seedN s2)) (show 0 < 16 by decide)
  rw [a1, bI_s, if_pos M1.k, dr, bI_s, nI_1]
  unfold stE
  by_cases e : drw (seedN s2) % 16 < q
  · obtain ⟨h3, c1, c2, c3, c4⟩ := m_crashes R2
    have tr : rH (h1.1, upI h1.2 m 36 (seedN s2)) m 23 = m + 119 := M2.tri.1
    refine ⟨h3, ?_, y2.trans ⟨c2, fun a q1 q2 _ _ _ _ => c3 a q1, fun j _ _ => by rw [c3 m (by omega)]⟩, ?_, ?_⟩
    · rw [if_neg (by rw [nI_leI (by omega) (by omega)]; omega), if_pos M2.k, tr, c1, bI_s]
    · show Row _ _ (if _ then _ else _)
      rw [if_pos e]
      exact c4
    · rw [c3 m (by omega)]
      exact s36
  · refine ⟨_, ?_, y2, ?_, s36⟩
    · rw [if_pos (by rw [nI_leI (by omega) (by omega)]; omega)]
    · show Row _ _ (if _ then _ else _)
      rw [if_neg e]
      exact R2
theorem up_36 (I : Nat → Nat → Int32) (m : Nat) (v : Int32) : upI I m 36 v m 36 = v := by rw [upI_at, if_pos rfl]
theorem m_st_1 {q many u f : Nat} (hq : q ≤ 16) (hm : many ≤ 96) (hu : u < many) {p : Int32 × St} {h : Hp} (R : Row h (m + 119) p.2) (M : MS h m) (Z : h.2 m 11 = nI z) (sd0 : h.2 m 36 = p.1) (I : Inx p.2 z (k + 3840)) :
    ∃ h', gX10_stormBy (f + 1 + 1 + 1) 19 [.ref m, uV, .int (nI many), .int (nI q), .int (nI u), uV] [] h = gX10_stormBy f 19 [.ref m, uV, .int (nI many), .int (nI q), .int (nI (u + 1)), uV] [] h' ∧ Sy h h' m ∧ Row h' (m + 119) (stS z q p).2 ∧ h'.2 m 36 = (stS z q p).1 := by
  obtain ⟨hz1, hz2⟩ := I.1.1.1
  obtain ⟨t1, t2, t3⟩ := M.tri
  obtain ⟨w1, w2, w3⟩ := M.drw
  have hk : ∀ I' : Nat → Nat → Int32, kH (h.1, I') m = 18 := fun _ => M.k
  have hw1 : ∀ I' : Nat → Nat → Int32, rH (h.1, I') m 37 = m + 151 := fun _ => w1
  have hw2 : ∀ I' : Nat → Nat → Int32, kH (h.1, I') (m + 151) = 1 := fun _ => w2
  have hw3 : ∀ I' : Nat → Nat → Int32, lH (h.1, I') (m + 151) = 5 := fun _ => w3
  have ht1 : ∀ I' : Nat → Nat → Int32, rH (h.1, I') m 23 = m + 119 := fun _ => t1
  have d8 := q_draw (h := h) M.k (n := 8) (by decide) (by decide)
  rw [sd0] at d8
  have d8 : fX10_draw m 8 h = _ := d8
  have hk8 := Nat.mod_lt (drw (seedN p.1)) (show 0 < 8 by decide)
  have i0 : inB 0 5 = true := by decide
  have i1 : inB 1 5 = true := by decide
  have i2 : inB 2 5 = true := by decide
  obtain ⟨o1, -, o3, o4, -⟩ := dst_ok p.1 (z := z) (by omega) 0
  have ok : ∀ c, okS (dk (dst p.1 z)) (dst p.1 z).2.2.1 (dst p.1 z).2.2.2 c := fun c => (dst_ok p.1 (z := z) (by omega) c).1
  -- the heap behind a draw and the writes of the step
  have fin : ∀ (g : Hp) (s2 : Int32), s2 = (dst p.1 z).1 → Sy h g m → g.2 (m + 151) 0 = nI (dk (dst p.1 z)) → g.2 (m + 151) 1 = nI (dst p.1 z).2.2.1 → g.2 (m + 151) 2 = nI (dst p.1 z).2.2.2 → g.2 m 36 = s2 → Row g (m + 119) p.2 →
      ∃ h', (bI (fX10_does m (m + 119) (m + 151) g) fun _ h8 => (if kH h8 m = 18 then (bI (fX10_draw m 16 h8) fun z12 h11 => (if nI q ≤ z12 then (gX10_stormBy f 19 [.ref m, uV, .int (nI many), .int (nI q), .int (nI u + 1), uV] [] h11) else (if kH h11 m = 18 then (bI (fX10_crashes (rH h11 m 23) h11) fun _ h17 => (gX10_stormBy f 19 [.ref m, uV, .int (nI many), .int (nI q), .int (nI u + 1), uV] [] h17)) else none))) else none)) =
        gX10_stormBy f 19 [.ref m, uV, .int (nI many), .int (nI q), .int (nI (u + 1)), uV] [] h' ∧ Sy h h' m ∧ Row h' (m + 119) (stS z q p).2 ∧ h'.2 m 36 = (stS z q p).1 := by
    intro g s2 e sy e0 e1 e2 e3 Rg
    obtain ⟨h', j1, j2, j3, j4⟩ := m_st_tail (f := f) hq hm hu Rg (M.eq sy.1) (sy_2 sy Z) e0 e1 e2 e3 ok o3 o4 I
    refine ⟨h', j1, sy.trans j2, ?_, ?_⟩
    · rw [e] at j3
      exact j3
    · rw [j4, e]
      rfl
  rw [dst_G] at fin
  rw [zX10_stormBy_19]
  unfold kX10_stormBy_19
  rw [if_neg (by rw [nI_leI (by omega) (by omega)]; omega), if_pos M.k, d8, bI_s, if_pos (hk _), hw1]
  generalize hkd : drw (seedN p.1) % 8 = kk at hk8 fin ⊢
  have R1 : Row (h.1, upI h.2 m 36 (seedN p.1)) (m + 119) p.2 := R.u36 (by omega)
  have y1 := sy_36 h m (seedN p.1)
  have z1 : upI h.2 m 36 (seedN p.1) m 11 = nI z := sy_2 y1 Z
  have nmw : m ≠ m + 151 := by omega
  have mn2 : m + 119 ≠ m := by omega
  have mn3 : m + 119 ≠ m + 151 := by omega
  have dS := fun (n : Nat) (g : Hp) (hg : kH g m = 18) (n0 : 0 < n) (n1 : n < 2 ^ 31) => q_draw (h := g) hg n0 n1
  have c0 : ∀ j : Nat, (nI j).toNatClampNeg = j ∨ 2 ^ 31 ≤ j := fun j => by by_cases e : j < 2 ^ 31; exact Or.inl (nI_clamp e); exact Or.inr (by omega)
  have tc0 : (0 : Int32).toNatClampNeg = 0 := rfl
  have tc1 : (1 : Int32).toNatClampNeg = 1 := rfl
  by_cases q2 : kk ≤ 2
  · -- a new directory or file
    have s0 : ∀ sv : Int32, ∃ g, gX10_stormBy (f + 1 + 1) 81 [.ref m, uV, .int (nI many), .int (nI q), .int (nI u), .int (nI kk)] [.int sv, .int 0, .ref (m + 151)] (h.1, upI h.2 m 36 (seedN p.1)) = (bI (fX10_does m (m + 119) (m + 151) g) fun _ h8 => (if kH h8 m = 18 then (bI (fX10_draw m 16 h8) fun z12 h11 => (if nI q ≤ z12 then (gX10_stormBy f 19 [.ref m, uV, .int (nI many), .int (nI q), .int (nI u + 1), uV] [] h11) else (if kH h11 m = 18 then (bI (fX10_crashes (rH h11 m 23) h11) fun _ h17 => (gX10_stormBy f 19 [.ref m, uV, .int (nI many), .int (nI q), .int (nI u + 1), uV] [] h17)) else none))) else none)) ∧ Sy h g m ∧ g.2 (m + 151) 0 = sv ∧ g.2 (m + 151) 1 = nI 0 ∧ g.2 (m + 151) 2 = nI (1 + drw (seedN (seedN p.1)) % 9) ∧ g.2 m 36 = seedN (seedN p.1) ∧ Row g (m + 119) p.2 := fun sv => by
      have hd := q_draw (h := (h.1, upI (upI (upI h.2 m 36 (seedN p.1)) (m + 151) 0 sv) (m + 151) 1 0)) (hk _) (n := 9) (by decide) (by decide)
      have es : (h.1, upI (upI (upI h.2 m 36 (seedN p.1)) (m + 151) 0 sv) (m + 151) 1 0).2 m 36 = seedN p.1 := by show upI _ _ _ _ m 36 = _; rw [upI_ne nmw, upI_ne nmw, up_36]
      rw [es] at hd
      have hd : fX10_draw m 9 (h.1, upI (upI (upI h.2 m 36 (seedN p.1)) (m + 151) 0 sv) (m + 151) 1 0) = _ := hd
      refine ⟨(h.1, upI (upI (upI (upI (upI h.2 m 36 (seedN p.1)) (m + 151) 0 sv) (m + 151) 1 0) m 36 (seedN (seedN p.1))) (m + 151) 2 (nI (1 + drw (seedN (seedN p.1)) % 9))), ?_, ?_, ?_, ?_, ?_, ?_, ?_⟩
      · rw [zX10_stormBy_81]
        unfold kX10_stormBy_81
        rw [if_pos (hw2 _), hw3, if_pos i0, if_pos (hk _), if_neg (by rw [k3, nI_leI (by decide) (by omega)]; omega), hw1, zX10_stormBy_116]
        unfold kX10_stormBy_116
        rw [if_pos (hw2 _), hw3, if_pos i1, if_pos (hk _), if_neg (by rw [k3, nI_leI (by decide) (by omega)]; omega), tc0, tc1]
        show bI (fX10_draw m 9 (h.1, upI (upI (upI h.2 m 36 (seedN p.1)) (m + 151) 0 sv) (m + 151) 1 0)) _ = _
        rw [hd, bI_s, hw1, if_pos (hw2 _), hw3, if_pos i2, if_pos (hk _), ht1, k1, nI_add]
      · exact (((y1.trans (sy_151 _ m 0 sv)).trans (sy_151 _ m 1 0)).trans (sy_36 _ m _)).trans (sy_151 _ m 2 _)
      · show upI _ _ _ _ (m + 151) 0 = sv
        rw [upI_at, if_neg (by decide), upI_ne (by omega), upI_at, if_neg (by decide), upI_at, if_pos rfl]
      · show upI _ _ _ _ (m + 151) 1 = _
        rw [upI_at, if_neg (by decide), upI_ne (by omega), upI_at, if_pos rfl]
        rfl
      · show upI _ _ _ _ (m + 151) 2 = _
        rw [upI_at, if_pos rfl]
      · show upI _ _ _ _ m 36 = _
        rw [upI_ne nmw, up_36]
      · exact R.up (by show upI _ _ _ _ _ = _; rw [upI_ne mn3, upI_ne mn2, upI_ne mn3, upI_ne mn3, upI_ne mn2])
    by_cases q22 : kk = 2
    · obtain ⟨g, g1, g2, g3, g4, g5, g6, g7⟩ := s0 6
      rw [if_pos (by rw [k2, nI_leI (by decide) (by omega)]; omega), if_neg (fun w => w (by rw [q22]; rfl)), g1]
      unfold dstG at fin
      simp only [if_pos q2, if_pos q22, dk] at fin
      exact fin g _ rfl g2 g3 g4 g5 g6 g7
    · obtain ⟨g, g1, g2, g3, g4, g5, g6, g7⟩ := s0 0
      rw [if_neg (by rw [k2, nI_leI (by decide) (by omega)]; omega), g1]
      unfold dstG at fin
      simp only [if_pos q2, if_neg q22, dk] at fin
      exact fin g _ rfl g2 g3 g4 g5 g6 g7
  · rw [if_pos (by rw [k2, nI_leI (by decide) (by omega)]; omega), if_pos (show ¬ nI kk = 2 by rw [k2, nI_eq (by omega) (by decide)]; omega)]
    by_cases q3 : kk = 3
    · -- bytes of a file
      rw [if_neg (fun w => w (by rw [q3]; rfl))]
      unfold dstG at fin
      simp only [if_neg q2, if_pos q3, dk] at fin
      have hd := q_draw (h := (h.1, upI (upI h.2 m 36 (seedN p.1)) (m + 151) 0 3)) (hk _) (n := 12) (by decide) (by decide)
      have es : (h.1, upI (upI h.2 m 36 (seedN p.1)) (m + 151) 0 3).2 m 36 = seedN p.1 := by show upI _ _ _ _ m 36 = _; rw [upI_ne nmw, up_36]
      rw [es] at hd
      have hd : fX10_draw m 12 (h.1, upI (upI h.2 m 36 (seedN p.1)) (m + 151) 0 3) = _ := hd
      have he := q_draw (h := (h.1, upI (upI (upI (upI h.2 m 36 (seedN p.1)) (m + 151) 0 3) m 36 (seedN (seedN p.1))) (m + 151) 1 (nI (drw (seedN (seedN p.1)) % 12)))) (hk _) (n := 100) (by decide) (by decide)
      have es2 : (h.1, upI (upI (upI (upI h.2 m 36 (seedN p.1)) (m + 151) 0 3) m 36 (seedN (seedN p.1))) (m + 151) 1 (nI (drw (seedN (seedN p.1)) % 12))).2 m 36 = seedN (seedN p.1) := by show upI _ _ _ _ m 36 = _; rw [upI_ne nmw, up_36]
      rw [es2] at he
      have he : fX10_draw m 100 (h.1, upI (upI (upI (upI h.2 m 36 (seedN p.1)) (m + 151) 0 3) m 36 (seedN (seedN p.1))) (m + 151) 1 (nI (drw (seedN (seedN p.1)) % 12))) = _ := he
      have F := fin (h.1, upI (upI (upI (upI (upI (upI h.2 m 36 (seedN p.1)) (m + 151) 0 3) m 36 (seedN (seedN p.1))) (m + 151) 1 (nI (drw (seedN (seedN p.1)) % 12))) m 36 (seedN (seedN (seedN p.1)))) (m + 151) 2 (nI (drw (seedN (seedN (seedN p.1))) % 100))) _ rfl ?_ ?_ ?_ ?_ ?_ ?_
      · obtain ⟨h', F1, F2⟩ := F
        refine ⟨h', ?_, F2⟩
        rw [← F1, zX10_stormBy_81]
        unfold kX10_stormBy_81
        rw [if_pos (hw2 _), hw3, if_pos i0, if_pos (hk _), if_pos (by rw [k3, nI_leI (by decide) (by omega)]; omega), if_neg (by rw [k5, nI_leI (by decide) (by omega)]; omega), hw1, tc0]
        show bI (fX10_draw m 12 (h.1, upI (upI h.2 m 36 (seedN p.1)) (m + 151) 0 3)) _ = _
        rw [hd, bI_s, zX10_stormBy_116]
        unfold kX10_stormBy_116
        rw [if_pos (hw2 _), hw3, if_pos i1, if_pos (hk _), if_pos (by rw [k3, nI_leI (by decide) (by omega)]; omega), if_neg (fun w => w (by rw [q3]; rfl)), tc1]
        show bI (fX10_draw m 100 (h.1, upI (upI (upI (upI h.2 m 36 (seedN p.1)) (m + 151) 0 3) m 36 (seedN (seedN p.1))) (m + 151) 1 (nI (drw (seedN (seedN p.1)) % 12)))) _ = _
        rw [he, bI_s, hw1, if_pos (hw2 _), hw3, if_pos i2, if_pos (hk _), ht1]
      · exact ((((y1.trans (sy_151 _ m 0 3)).trans (sy_36 _ m _)).trans (sy_151 _ m 1 _)).trans (sy_36 _ m _)).trans (sy_151 _ m 2 _)
      · show upI _ _ _ _ (m + 151) 0 = _
        rw [upI_at, if_neg (by decide), upI_ne (by omega), upI_at, if_neg (by decide), upI_ne (by omega), upI_at, if_pos rfl]
        rfl
      · show upI _ _ _ _ (m + 151) 1 = _
        rw [upI_at, if_neg (by decide), upI_ne (by omega), upI_at, if_pos rfl]
      · show upI _ _ _ _ (m + 151) 2 = _
        rw [upI_at, if_pos rfl]
      · show upI _ _ _ _ m 36 = _
        rw [upI_ne nmw, up_36]
      · exact R.up (by show upI _ _ _ _ _ = _; rw [upI_ne mn3, upI_ne mn2, upI_ne mn3, upI_ne mn2, upI_ne mn3, upI_ne mn2])
    · -- a node is removed, or a block is written
      rw [if_pos (show ¬ nI kk = 3 by rw [k3, nI_eq (by omega) (by decide)]; omega)]
      unfold dstG at fin
      have s0 : ∀ (sv nn : Int32) (n : Nat), nn = nI n → 0 < n → n < 2 ^ 31 → (if 5 ≤ nI kk then upI (upI h.2 m 36 (seedN p.1)) (m + 151) 0 sv m 11 else 12) = nn → ∃ g, gX10_stormBy (f + 1 + 1) 81 [.ref m, uV, .int (nI many), .int (nI q), .int (nI u), .int (nI kk)] [.int sv, .int 0, .ref (m + 151)] (h.1, upI h.2 m 36 (seedN p.1)) = (bI (fX10_does m (m + 119) (m + 151) g) fun _ h8 => (if kH h8 m = 18 then (bI (fX10_draw m 16 h8) fun z12 h11 => (if nI q ≤ z12 then (gX10_stormBy f 19 [.ref m, uV, .int (nI many), .int (nI q), .int (nI u + 1), uV] [] h11) else (if kH h11 m = 18 then (bI (fX10_crashes (rH h11 m 23) h11) fun _ h17 => (gX10_stormBy f 19 [.ref m, uV, .int (nI many), .int (nI q), .int (nI u + 1), uV] [] h17)) else none))) else none)) ∧ Sy h g m ∧ g.2 (m + 151) 0 = sv ∧ g.2 (m + 151) 1 = nI (drw (seedN (seedN p.1)) % n) ∧ g.2 (m + 151) 2 = nI 0 ∧ g.2 m 36 = seedN (seedN p.1) ∧ Row g (m + 119) p.2 := fun sv nn n hn hn0 hn1 hnn => by
        have hd := q_draw (h := (h.1, upI (upI h.2 m 36 (seedN p.1)) (m + 151) 0 sv)) (hk _) (n := n) hn0 hn1
        have es : (h.1, upI (upI h.2 m 36 (seedN p.1)) (m + 151) 0 sv).2 m 36 = seedN p.1 := by show upI _ _ _ _ m 36 = _; rw [upI_ne nmw, up_36]
        rw [es, ← hn, ← hnn] at hd
        refine ⟨(h.1, upI (upI (upI (upI (upI h.2 m 36 (seedN p.1)) (m + 151) 0 sv) m 36 (seedN (seedN p.1))) (m + 151) 1 (nI (drw (seedN (seedN p.1)) % n))) (m + 151) 2 0), ?_, ?_, ?_, ?_, ?_, ?_, ?_⟩
        · have l116 : ∀ g : Hp, g = (h.1, upI (upI (upI h.2 m 36 (seedN p.1)) (m + 151) 0 sv) m 36 (seedN (seedN p.1))) → gX10_stormBy (f + 1) 116 [.ref m, uV, .int (nI many), .int (nI q), .int (nI u), .int (nI kk)] [.int (nI (drw (seedN (seedN p.1)) % n)), .int 1, .ref (m + 151)] g = (bI (fX10_does m (m + 119) (m + 151) (h.1, upI (upI (upI (upI (upI h.2 m 36 (seedN p.1)) (m + 151) 0 sv) m 36 (seedN (seedN p.1))) (m + 151) 1 (nI (drw (seedN (seedN p.1)) % n))) (m + 151) 2 0)) fun _ h8 => (if kH h8 m = 18 then (bI (fX10_draw m 16 h8) fun z12 h11 => (if nI q ≤ z12 then (gX10_stormBy f 19 [.ref m, uV, .int (nI many), .int (nI q), .int (nI u + 1), uV] [] h11) else (if kH h11 m = 18 then (bI (fX10_crashes (rH h11 m 23) h11) fun _ h17 => (gX10_stormBy f 19 [.ref m, uV, .int (nI many), .int (nI q), .int (nI u + 1), uV] [] h17)) else none))) else none)) := fun g hg => by
            rw [zX10_stormBy_116]
            unfold kX10_stormBy_116
            rw [hg, if_pos (hw2 _), hw3, if_pos i1, if_pos (hk _), if_pos (by rw [k3, nI_leI (by decide) (by omega)]; omega), if_pos (show ¬ nI kk = 3 by rw [k3, nI_eq (by omega) (by decide)]; omega), hw1, if_pos (hw2 _), hw3, if_pos i2, ht1, tc1]
          rw [zX10_stormBy_81]
          unfold kX10_stormBy_81
          rw [if_pos (hw2 _), hw3, if_pos i0, if_pos (hk _), if_pos (by rw [k3, nI_leI (by decide) (by omega)]; omega), hw1, tc0]
          by_cases q5 : 5 ≤ nI kk
          · rw [if_pos q5] at hd
            rw [if_pos q5]
            show bI (fX10_draw m (upI (upI h.2 m 36 (seedN p.1)) (m + 151) 0 sv m 11) (h.1, upI (upI h.2 m 36 (seedN p.1)) (m + 151) 0 sv)) _ = _
            rw [hd, bI_s]
            exact l116 _ rfl
          · rw [if_neg q5] at hd
            rw [if_neg q5]
            show bI (fX10_draw m 12 (h.1, upI (upI h.2 m 36 (seedN p.1)) (m + 151) 0 sv)) _ = _
            rw [hd, bI_s]
            exact l116 _ rfl
        · exact (((y1.trans (sy_151 _ m 0 sv)).trans (sy_36 _ m _)).trans (sy_151 _ m 1 _)).trans (sy_151 _ m 2 0)
        · show upI _ _ _ _ (m + 151) 0 = sv
          rw [upI_at, if_neg (by decide), upI_at, if_neg (by decide), upI_ne (by omega), upI_at, if_pos rfl]
        · show upI _ _ _ _ (m + 151) 1 = _
          rw [upI_at, if_neg (by decide), upI_at, if_pos rfl]
        · show upI _ _ _ _ (m + 151) 2 = _
          rw [upI_at, if_pos rfl]
          rfl
        · show upI _ _ _ _ m 36 = _
          rw [upI_ne nmw, upI_ne nmw, up_36]
        · exact R.up (by show upI _ _ _ _ _ = _; rw [upI_ne mn3, upI_ne mn3, upI_ne mn2, upI_ne mn3, upI_ne mn2])
      have u11 : ∀ sv, upI (upI h.2 m 36 (seedN p.1)) (m + 151) 0 sv m 11 = nI z := fun sv => by rw [upI_ne nmw]; exact z1
      by_cases q4 : kk = 4
      · obtain ⟨g, g1, g2, g3, g4, g5, g6, g7⟩ := s0 5 12 12 rfl (by decide) (by decide) (by rw [if_neg (by rw [k5, nI_leI (by decide) (by omega)]; omega)])
        rw [if_neg (fun w => w (by rw [q4]; rfl)), g1]
        simp only [if_neg q2, if_neg q3, if_pos q4, dk] at fin
        exact fin g _ rfl g2 g3 g4 g5 g6 g7
      · obtain ⟨g, g1, g2, g3, g4, g5, g6, g7⟩ := s0 7 (nI z) z rfl (by omega) (by omega) (by rw [if_pos (by rw [k5, nI_leI (by decide) (by omega)]; omega)]; exact u11 7)
        rw [if_pos (show ¬ nI kk = 4 by rw [k4, nI_eq (by omega) (by decide)]; omega), g1]
        simp only [if_neg q2, if_neg q3, if_neg q4, dk] at fin
        exact fin g _ rfl g2 g3 g4 g5 g6 g7
theorem m_st_go {q many : Nat} (hq : q ≤ 16) (hm : many ≤ 96) : ∀ (c u f : Nat) (p : Int32 × St) (h : Hp), u + c = many → 3 * c < f → Row h (m + 119) p.2 → MS h m → h.2 m 11 = nI z → h.2 m 36 = p.1 → Inx p.2 z (k + 3840 * c) →
    ∃ h', gX10_stormBy f 19 [.ref m, uV, .int (nI many), .int (nI q), .int (nI u), uV] [] h = some (.inl none, h') ∧ Sy h h' m ∧ Row h' (m + 119) (stm z q c p).2 := by
  intro c
  induction c with
  | zero =>
    intro u f p h hu hf R M Z sd0 I
    obtain ⟨f, rfl⟩ := sc hf
    refine ⟨h, ?_, Sy.refl h m, by rw [stm_0]; exact R⟩
    rw [zX10_stormBy_19]
    unfold kX10_stormBy_19
    rw [if_pos (by rw [nI_leI (by omega) (by omega)]; omega)]
  | succ c ih =>
    intro u f p h hu hf R M Z sd0 I
    obtain ⟨f, rfl⟩ : ∃ g, f = g + 1 + 1 + 1 := ⟨f - 3, by omega⟩
    obtain ⟨h1, a1, a2, a3, a4⟩ := m_st_1 (k := k + 3840 * c) (q := q) (many := many) (u := u) (f := f) hq hm (by omega) R M Z sd0 (I.le (by omega))
    obtain ⟨h2, b1, b2, b3⟩ := ih (u + 1) f (stS z q p) h1 (by omega) (by omega) a3 (M.eq a2.1) (sy_2 a2 Z) a4 (inx_stS (I.le (by omega)))
    rw [stm_s]
    exact ⟨h2, a1.trans b1, a2.trans b2, b3⟩
theorem m_storm {q many : Nat} (Q : RQ h m S z) (hq : q ≤ 16) (hm : many ≤ 96) (sd0 : Int32) (I : Inx S z (k + 3840 * 96)) :
    ∃ h', fX10_stormBy m sd0 (nI many) (nI q) h = some (.inl none, h') ∧ ScM h h' m ∧ h'.2 m 0 = h.2 m 0 ∧ Row h' (m + 119) (stm z q many (sd0, S)).2 := by
  obtain ⟨M, R, Z⟩ := id Q
  obtain ⟨h1, a1, a2, a3, a4⟩ := m_trial Q
  have M1 := M.eq a2.1
  have y1 := sy_36 h1 m sd0
  obtain ⟨h2, b1, b2, b3⟩ := m_st_go (k := k + 3840 * (96 - many)) hq hm many 0 FF (sd0, S) (h1.1, upI h1.2 m 36 sd0) (by omega) (by show _ < 1000000; omega) (a3.u36 (by omega)) (M1.eq rfl) (sy_2 y1 (by rw [a4]; exact Z)) (by show upI _ _ _ _ m 36 = _; rw [up_36]) (I.le (by omega))
  refine ⟨h2, ?_, a2.trans (y1.scm.trans b2.scm), ?_, b3⟩
  · unfold fX10_stormBy kX10_stormBy_0
    rw [if_pos M.k, M.now.1, M.tri.1, a1, bV_s, if_pos M1.k]
    exact b1
  · rw [b2.2.2 0 (by decide) (by decide), y1.2.2 0 (by decide) (by decide), a4]
end ST
