/-! ===== the reference reads a step: all of it ===== -/
section RS4
variable {h h' : Hp} {m n p i d : Nat} {T : Nat → Nat}
theorem outS.pre {h1 : Hp} {o : (Nd × Nat) ⊕ Ft} (F : Fq h h1 m i) (O : outS h1 h' m T n d i o) : outS h h' m T n d i o := ⟨F.trans O.1 (Nat.le_refl _), O.2⟩
theorem m_reads {f q0 : Nat} (L : LPf T n f) (X : RP h m T n p) (h18 : h.2 m 18 = nI i) (h8 : h.2 m 8 = nI d) (hd : d ≤ 6) (hi : i < 80) (hb : kwd (lts T n (bk T n p)) = some 11 → i + (n - bk T n p) / 4 < 80) (hf : n - bk T n p ≤ f) (hff : f < 999999) (hq0 : d ≤ 5 → 2 * (6 - d) + 1 ≤ q0) :
    ∃ h', (rX10_again_X10_readsStep (q0 + 1)).2 m h = some (.inl none, h') ∧ outS h h' m T n d i (pOne T n d (pFo T n f (d + 1)) (bk T n p)) := by
  obtain ⟨h1, a1, a2, a3⟩ := m_stepHere X
  obtain ⟨b1, b2⟩ := bk_le (T := T) X.2.2.2
  have hn := X.1.2.2.1
  have f18 : h1.2 m 18 = nI i := by rw [a2.2.2 18 (by decide) (by decide) (by decide)]; exact h18
  have f8 : h1.2 m 8 = nI d := by rw [a2.2.2 8 (by decide) (by decide) (by decide)]; exact h8
  have F1 := a2.q i
  rw [rb_s]
  unfold kX10_readsStep_0
  rw [if_pos X.k, a1, bI_s, show FF = 999998 + 1 + 1 from rfl]
  cases e : hdW T n d (bk T n p) with
  | inr er =>
    have ep : pOne T n d (pFo T n f (d + 1)) (bk T n p) = .inr er := by unfold pOne; rw [e]
    obtain ⟨g1, g2⟩ := hdW_er e
    have fin : ∀ (g : Hp) (z : Int32), RX g m T n → RE g m er → gX10_readsStep (rX10_again_X10_readsStep q0).1 (rX10_again_X10_readsStep q0).2 (999998 + 1 + 1) 46 [.ref m, .int z, uV] [] g = some (.inl none, g) := fun g z Y E => by
      rw [zX10_readsStep_46]
      unfold kX10_readsStep_46
      rw [if_pos Y.1.k, if_neg E.nz]
    rw [ep]
    rcases g2 with ⟨g3, g4⟩ | ⟨g3, g4, g5⟩
    · obtain ⟨h2, c1, c2, c3, -⟩ := m_wrong a3 (e := er) (by omega)
      have c1 : fX10_wrong m (nI er.1) (nI er.2) h1 = _ := c1
      rw [g3, g1, show nI 1 = (1 : Int32) from rfl] at c1
      rw [g4, if_neg (fun w => w rfl), if_pos a3.k, a3.2.1, c1, bV_s, fin h2 _ (a3.1.fr c2) c3]
      exact ⟨h2, rfl, F1.trans (c2.q i) (Nat.le_refl _), a3.1.fr c2, c3, by rw [g1]; exact b2⟩
    · obtain ⟨h2, c1, c2, c3, -⟩ := m_wrong a3 (e := er) (by omega)
      have c1 : fX10_wrong m (nI er.1) (nI er.2) h1 = _ := c1
      rw [g3, g1, show nI 3 = (3 : Int32) from rfl] at c1
      rw [g4, if_pos (show ¬ nI 11 = -1 by decide), if_neg (show ¬ ¬ nI 11 = 11 from fun w => w rfl), if_pos a3.k, f8, g5, if_neg (show ¬ ¬ nI 6 = 6 from fun w => w rfl), a3.2.1, c1, bV_s, fin h2 _ (a3.1.fr c2) c3]
      exact ⟨h2, rfl, F1.trans (c2.q i) (Nat.le_refl _), a3.1.fr c2, c3, by rw [g1]; exact b2⟩
  | inl v =>
    obtain ⟨k, q1⟩ := v
    obtain ⟨g1, g2, g3, g4, g5, g6, w, g7, g8⟩ := hdW_adv b2 e
    have hw := (kwd_lt g7).1
    obtain ⟨-, r2, -⟩ := rop_tab ⟨w, hw⟩
    have r2 : rop w = 11 ↔ w = 11 := r2
    have st46 : (if ¬ nI k = -1 then (if ¬ nI k = 11 then (gX10_readsStep (rX10_again_X10_readsStep q0).1 (rX10_again_X10_readsStep q0).2 (999998 + 1 + 1) 46 [.ref m, .int (nI k), uV] [] h1) else (if kH h1 m = 18 then (if ¬ (h1.2 m 8) = 6 then (gX10_readsStep (rX10_again_X10_readsStep q0).1 (rX10_again_X10_readsStep q0).2 (999998 + 1 + 1) 46 [.ref m, .int (nI k), uV] [] h1) else (bV (fX10_wrong m 3 (h1.2 m 4) h1) fun h9 => (gX10_readsStep (rX10_again_X10_readsStep q0).1 (rX10_again_X10_readsStep q0).2 (999998 + 1 + 1) 46 [.ref m, .int (nI k), uV] [] h9))) else none)) else (if kH h1 m = 18 then (bV (fX10_wrong m 1 (h1.2 m 4) h1) fun h12 => (gX10_readsStep (rX10_again_X10_readsStep q0).1 (rX10_again_X10_readsStep q0).2 (999998 + 1 + 1) 46 [.ref m, .int (nI k), uV] [] h12)) else none) : RS) = gX10_readsStep (rX10_again_X10_readsStep q0).1 (rX10_again_X10_readsStep q0).2 (999998 + 1 + 1) 46 [.ref m, .int (nI k), uV] [] h1 := by
      rw [if_pos (show ¬ nI k = -1 by rw [nI_eqm (by omega)]; exact id)]
      by_cases e11 : k = 11
      · have := (g4 e11).2
        rw [if_neg (show ¬ ¬ nI k = 11 from fun w => w (by rw [e11]; rfl)), if_pos a3.k, f8, if_pos (show ¬ nI d = 6 by rw [k6, nI_eq (by omega) (by decide)]; omega)]
      · rw [if_pos (show ¬ nI k = 11 by rw [k11, nI_eq (by omega) (by decide)]; exact e11)]
    rw [g6, st46, zX10_readsStep_46]
    unfold kX10_readsStep_46
    have st70 : (if ¬ nI k = 11 then (gX10_readsStep (rX10_again_X10_readsStep q0).1 (rX10_again_X10_readsStep q0).2 (999998 + 1) 70 [.ref m, .int (nI k), uV] [.int 0, .int (h1.2 m 8), .ref m] h1) else (gX10_readsStep (rX10_again_X10_readsStep q0).1 (rX10_again_X10_readsStep q0).2 (999998 + 1) 70 [.ref m, .int (nI k), uV] [.int 1, .int (h1.2 m 8), .ref m] h1)) = gX10_readsStep (rX10_again_X10_readsStep q0).1 (rX10_again_X10_readsStep q0).2 (999998 + 1) 70 [.ref m, .int (nI k), uV] [.int (if k = 11 then 1 else 0), .int (nI d), .ref m] h1 := by
      rw [f8]
      by_cases e11 : k = 11
      · rw [if_neg (show ¬ ¬ nI k = 11 from fun w => w (by rw [e11]; rfl)), if_pos e11]
      · rw [if_pos (show ¬ nI k = 11 by rw [k11, nI_eq (by omega) (by decide)]; exact e11), if_neg e11]
    rw [if_pos a3.k, if_pos a3.2.2.1, st70]
    have hA : k = 11 → ∀ g : Hp, RP g m T n q1 → g.2 m 18 = nI (i + 1) → g.2 m 8 = nI (d + 1) → ∃ g', (rX10_again_X10_readsStep q0).1 m (m + 38 + i) g = some (.inl none, g') ∧ outA g g' m T n d i f q1 := fun e11 g Y y18 y8 => by
      obtain ⟨u1, u2⟩ := g4 e11
      have hq := hq0 (by omega)
      obtain ⟨q0', rfl⟩ : ∃ q', q0 = q' + 1 := ⟨q0 - 1, by omega⟩
      have hb' := hb (by rw [g7, r2.mp (by omega)])
      exact m_again L Y y18 y8 (by omega) hi (by omega) (fun q2 hq2 => by
        have : (n - q2) / 4 + 1 ≤ (n - bk T n p) / 4 ∨ (n - bk T n p) / 4 = 0 := by omega
        omega) (by omega) hff
    obtain ⟨h', c1, c2⟩ := m_step70 (A := (rX10_again_X10_readsStep q0).1) (B := (rX10_again_X10_readsStep q0).2) (s0 := if k = 11 then 1 else 0) a3 f18 f8 hi g3 g5 (by
      by_cases e11 : k = 11
      · rw [if_pos e11, if_pos e11, nI_1]
      · rw [if_neg e11, if_neg e11, add_z]) hA 999998
    refine ⟨h', c1, outS.pre F1 ?_⟩
    unfold pOne
    rw [e]
    exact c2
/-- the loop between brackets -/
theorem lp_all : ∀ f, f < 999998 → LPf T n f := by
  intro f
  induction f with
  | zero => intro _ q0 D p j fl m h _ _ _ h0 _ _ _ _ _ _; omega
  | succ f ih =>
    intro hff q0 D p j fl m h hfl X hp hnf h18 h8 hD1 hD6 hb hq0
    have L := ih (by omega)
    obtain ⟨b1, b2⟩ := bk_le (T := T) hp
    have hn := X.1.2.2.1
    obtain ⟨fl, rfl⟩ := sc (show 0 < fl by omega)
    rw [zX10_again_20]
    unfold kX10_again_20 pFo
    rw [if_pos X.k, if_neg (fun w => w X.2.2.1), X.2.1, m_byteAt X.1 (by omega), bI_s]
    by_cases e0 : bk T n p < n ∧ T (bk T n p) = 93
    · -- the bracket
      have ho : ovr T n D (bk T n p) = true := decide_eq_true (Or.inr ⟨by omega, e0.1, e0.2⟩)
      obtain ⟨h3, c1, c2, c3⟩ := m_sign X (s := 93) (by decide)
      have c1 : fX10_sign m 93 h = _ := c1
      have es : pSig T n 93 (bk T n p) = .inl (bk T n p + 1) := by unfold pSig; rw [bk_bk, if_pos e0]
      rw [es] at c3
      have c3 : RP h3 m T n (bk T n p + 1) := c3
      have z8 : h3.2 m 8 = nI D := by rw [c2.2.2 8 (by decide) (by decide) (by decide)]; exact h8
      have F3 := (c2.q j).trans (fq_8 h3 m j (h3.2 m 8 - 1)) (Nat.le_refl _)
      rw [if_pos (show byN T n (bk T n p) = 93 from (byN_eq X.1 _ (s := 93) (by decide)).mpr e0), if_pos X.k, c1, bV_s, if_pos c3.k, if_pos ho]
      refine ⟨_, rfl, F3, ⟨c3.1.fq (fq_8 h3 m j _), ?_, ?_, c3.2.2.2⟩, ?_, ?_, ?_⟩
      · show upI _ _ _ _ m 4 = _
        rw [upI_at, if_neg (by decide)]
        exact c3.2.1
      · show upI _ _ _ _ m 5 = _
        rw [upI_at, if_neg (by decide)]
        exact c3.2.2.1
      · show upI _ _ _ _ m 18 = nI (j + 0)
        rw [upI_at, if_neg (by decide), c2.2.2 18 (by decide) (by decide) (by decide)]
        exact h18
      · show upI _ _ _ _ m 8 = _
        rw [upI_at, if_pos rfl, z8]
        obtain ⟨D, rfl⟩ : ∃ D', D = D' + 1 := ⟨D - 1, by omega⟩
        rw [sub8 (by omega), Nat.add_sub_cancel]
      · intro y v hv
        simp at hv
    · have ho : ¬ ovr T n D (bk T n p) = true := fun w => by
        rcases of_decide_eq_true w with w | w
        · omega
        · exact e0 ⟨w.2.1, w.2.2⟩
      rw [if_neg (show ¬ byN T n (bk T n p) = 93 from fun w => e0 ((byN_eq X.1 _ (s := 93) (by decide)).mp w)), if_pos X.k, if_neg ho]
      obtain ⟨q0', rfl⟩ : ∃ q', q0 = q' + 1 := ⟨q0 - 1, by omega⟩
      have hj : j < 80 := by omega
      obtain ⟨h2, c1, c2⟩ := m_reads (q0 := q0') (i := j) (d := D) L X h18 h8 hD6 hj (fun _ => by rw [bk_bk]; have : (n - bk T n p) / 4 ≤ (n - p) / 4 := Nat.div_le_div_right (by omega); omega) (by rw [bk_bk]; omega) (by omega) (fun _ => by omega)
      rw [bk_bk] at c2
      rw [c1, bV_s]
      obtain ⟨c3, c4⟩ := c2
      have km2 : kH h2 m = 18 := (kh_eq c3.1 m).trans X.k
      rw [if_pos km2]
      cases e1 : pOne T n D (pFo T n f (D + 1)) (bk T n p) with
      | inr er =>
        rw [e1] at c4
        have c4 : RX h2 m T n ∧ RE h2 m er ∧ er.2 ≤ n := c4
        obtain ⟨h3, d1, d2, d3⟩ := c4.2.1.blanks c4.1
        obtain ⟨fl', rfl⟩ : ∃ fl', fl = fl' + 1 := ⟨fl - 1, by omega⟩
        obtain ⟨h', x1, x2, x3, x4⟩ := m_loop_er (A := (rX10_again_X10_readsStep (q0' + 1)).1) (B := (rX10_again_X10_readsStep (q0' + 1)).2) (c4.1.fr d2) d3 fl'
        rw [d1, bV_s]
        exact ⟨h', x1, (c3.trans (d2.q j) (Nat.le_refl _)).trans (x4 j) (Nat.le_refl _), x2, x3, c4.2.2⟩
      | inl v =>
        obtain ⟨x, q⟩ := v
        rw [e1] at c4
        obtain ⟨y1, y2, y3, y4⟩ := c4
        have y1 : RP h2 m T n q := y1
        have y2 : h2.2 m 18 = nI (j + nsz x) := y2
        have y4 : LayN h2 m j x := y4
        obtain ⟨z1, z2⟩ := pOne_adv (fun p F q hp hq => by obtain ⟨i1, i2, i3⟩ := pFo_adv f (D + 1) p F q hp hq; exact ⟨i1, (i3 (by omega)).1⟩) b2 e1
        have nz : 1 ≤ nsz x := by
          cases x with
          | inl v => exact Nat.le_refl _
          | inr v => show 1 ≤ 1 + _; omega
        obtain ⟨h3, d1, d2, d3⟩ := m_blanks y1
        obtain ⟨h', x1, x2⟩ := L (q0' + 1) D q (j + nsz x) fl m h3 (by omega) d3 z2 (by omega) (by rw [d2.2.2 18 (by decide) (by decide) (by decide)]; exact y2) (by rw [d2.2.2 8 (by decide) (by decide) (by decide)]; exact y3) hD1 hD6 (by omega) hq0
        rw [d1, bV_s]
        refine ⟨h', x1, (c3.trans (d2.q j) (Nat.le_refl _)).trans x2.1 (by omega), ?_⟩
        obtain ⟨x3, x4⟩ := x2
        simp only
        cases e2 : pFo T n f D q with
        | inr er =>
          rw [e2] at x4
          exact x4
        | inl v2 =>
          obtain ⟨r, q2⟩ := v2
          rw [e2] at x4
          obtain ⟨u1, u2, u3, u4⟩ := x4
          refine ⟨u1, ?_, u3, ?_⟩
          · show h'.2 m 18 = nI (j + fsz (fco x r))
            rw [fsz_co, ← Nat.add_assoc]
            exact u2
          · refine LayN.co (y4.cg (fun a h1 h2' => ?_)) u4
            rw [x3.2.1 a (by omega) (by omega), d2.2.1 a (by omega)]
end RS4
