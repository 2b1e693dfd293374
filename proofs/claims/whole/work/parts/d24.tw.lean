/-! ===== a WORK is read: the reference's loop, the class's answer ===== -/
section TW
variable {n x : Nat} {T : Nat → Nat}
/-- what the reference's loop leaves -/
def outT (h h' : Hp) (m : Nat) (T : Nat → Nat) (n i : Nat) (o : (Fo × Nat) ⊕ Ft) : Prop := Fq h h' m i ∧ match o with
  | .inr e => RX h' m T n ∧ RE h' m e ∧ e.2 ≤ n
  | .inl v => RP h' m T n v.2 ∧ h'.2 m 18 = nI (i + fsz v.1) ∧ h'.2 m 8 = nI 0 ∧ LayR h' m i v.1
theorem m_work_go : ∀ (f p j fl m : Nat) (h : Hp), f < 999998 → f < fl → RP h m T n (bk T n p) → p ≤ n → n - p < f → h.2 m 18 = nI j → h.2 m 8 = nI 0 → j + (n - p) / 4 < 80 →
    ∃ h' fl', gX10_work fl 72 [.ref m, uV] [] h = gX10_work fl' 101 [.ref m, uV] [] h' ∧ fl ≤ fl' + f + 1 ∧ outT h h' m T n j (pFo T n f 0 p) := by
  intro f
  induction f with
  | zero => intro p j fl m h _ _ _ _ h0 _ _ _; omega
  | succ f ih =>
    intro p j fl m h hff hfl X hp hnf h18 h8 hb
    have L : LPf T n f := lp_all f (by omega)
    obtain ⟨b1, b2⟩ := bk_le (T := T) hp
    have hn := X.1.2.2.1
    obtain ⟨fl, rfl⟩ := sc (show 0 < fl by omega)
    rw [zX10_work_72]
    unfold kX10_work_72 pFo
    rw [if_pos X.k, if_neg (fun w => w X.2.2.1), X.1.2.1, X.2.1]
    by_cases e0 : n ≤ bk T n p
    · have ho : ovr T n 0 (bk T n p) = true := decide_eq_true (Or.inl ⟨rfl, e0⟩)
      rw [if_pos (by rw [nI_leI (by omega) (by omega)]; exact e0), if_pos ho]
      exact ⟨h, fl, rfl, by omega, Fq.refl h m j, X, h18, h8, fun i v hv => by simp at hv⟩
    · have ho : ¬ ovr T n 0 (bk T n p) = true := fun w => by
        rcases of_decide_eq_true w with w | w
        · exact e0 w.2
        · omega
      rw [if_neg (by rw [nI_leI (by omega) (by omega)]; exact e0), if_neg ho]
      obtain ⟨h2, c1, c2⟩ := m_reads (q0 := 39) (i := j) (d := 0) L X h18 h8 (by omega) (by omega) (fun _ => by rw [bk_bk]; have : (n - bk T n p) / 4 ≤ (n - p) / 4 := Nat.div_le_div_right (by omega); omega) (by rw [bk_bk]; omega) (by omega) (fun _ => by omega)
      have c1 : fX10_readsStep m h = _ := c1
      rw [bk_bk] at c2
      rw [c1, bV_s]
      obtain ⟨c3, c4⟩ := c2
      have km2 : kH h2 m = 18 := (kh_eq c3.1 m).trans X.k
      rw [if_pos km2]
      cases e1 : pOne T n 0 (pFo T n f (0 + 1)) (bk T n p) with
      | inr er =>
        rw [e1] at c4
        have c4 : RX h2 m T n ∧ RE h2 m er ∧ er.2 ≤ n := c4
        obtain ⟨h3, d1, d2, d3⟩ := c4.2.1.blanks c4.1
        obtain ⟨fl', rfl⟩ : ∃ fl', fl = fl' + 1 := ⟨fl - 1, by omega⟩
        rw [d1, bV_s, zX10_work_72]
        unfold kX10_work_72
        rw [if_pos (c4.1.fr d2).1.k, if_pos d3.nz]
        exact ⟨h3, fl', rfl, by omega, c3.trans (d2.q j) (Nat.le_refl _), c4.1.fr d2, d3, c4.2.2⟩
      | inl v =>
        obtain ⟨y, q⟩ := v
        rw [e1] at c4
        obtain ⟨y1, y2, y3, y4⟩ := c4
        have y1 : RP h2 m T n q := y1
        have y2 : h2.2 m 18 = nI (j + nsz y) := y2
        have y4 : LayN h2 m j y := y4
        obtain ⟨z1, z2⟩ := pOne_adv (fun p F q hp hq => by obtain ⟨i1, i2, i3⟩ := pFo_adv f (0 + 1) p F q hp hq; exact ⟨i1, (i3 (by omega)).1⟩) b2 e1
        have nz : 1 ≤ nsz y := by
          cases y with
          | inl v => exact Nat.le_refl _
          | inr v => show 1 ≤ 1 + _; omega
        obtain ⟨h3, d1, d2, d3⟩ := m_blanks y1
        obtain ⟨h', fl', x1, x0, x2⟩ := ih q (j + nsz y) fl m h3 (by omega) (by omega) d3 z2 (by omega) (by rw [d2.2.2 18 (by decide) (by decide) (by decide)]; exact y2) (by rw [d2.2.2 8 (by decide) (by decide) (by decide)]; exact y3) (by omega)
        rw [d1, bV_s]
        refine ⟨h', fl', x1, by omega, (c3.trans (d2.q j) (Nat.le_refl _)).trans x2.1 (by omega), ?_⟩
        obtain ⟨x3, x4⟩ := x2
        simp only
        cases e2 : pFo T n f 0 q with
        | inr er =>
          rw [e2] at x4
          exact x4
        | inl v2 =>
          obtain ⟨r, q2⟩ := v2
          rw [e2] at x4
          obtain ⟨u1, u2, u3, u4⟩ := x4
          refine ⟨u1, ?_, u3, ?_⟩
          · show h'.2 m 18 = nI (j + fsz (fco y r))
            rw [fsz_co, ← Nat.add_assoc]
            exact u2
          · refine LayN.co (y4.cg (fun a h1 h2' => ?_)) u4
            rw [x3.2.1 a (by omega) (by omega), d2.2.1 a (by omega)]
theorem pFo_end : ∀ (f p : Nat) (F : Fo) (q : Nat), p ≤ n → pFo T n f 0 p = .inl (F, q) → n ≤ q := by
  intro f
  induction f with
  | zero => intro p F q _ h; cases h
  | succ f ih =>
    intro p F q hp h
    obtain ⟨b1, b2⟩ := bk_le (T := T) hp
    unfold pFo at h
    by_cases e0 : ovr T n 0 (bk T n p) = true
    · rw [if_pos e0] at h
      injection h with h
      injection h with h1 h2
      rcases of_decide_eq_true e0 with w | w
      · rw [← h2]; exact w.2
      · omega
    · rw [if_neg e0] at h
      cases e1 : pOne T n 0 (pFo T n f (0 + 1)) (bk T n p) with
      | inr e' => rw [e1] at h; cases h
      | inl v =>
        obtain ⟨y, q1⟩ := v
        rw [e1] at h
        simp only at h
        obtain ⟨a1, a2⟩ := pOne_adv (fun p F q hp hq => by obtain ⟨i1, i2, i3⟩ := pFo_adv f (0 + 1) p F q hp hq; exact ⟨i1, (i3 (by omega)).1⟩) b2 e1
        cases e2 : pFo T n f 0 q1 with
        | inr e' => rw [e2] at h; cases h
        | inl v2 =>
          obtain ⟨r, q2⟩ := v2
          rw [e2] at h
          simp only at h
          injection h with h
          injection h with h1 h2
          rw [← h2]
          exact ih q1 r q2 a2 e2
/-- the class's loop, from the start: script and fault -/
theorem c_work_all {h : Hp} (X : CP h x T n 0) (hl : h.2 (x + 28) 1 = nI 0) (h9 : h.2 (x + 27) 9 = nI 0) (hn : n ≤ 150) : ∃ h', gX3_readWork FF 8 [.ref (x + 27), uV, uV, .int 0] [] h = some (.inl (some (.int (match pFo T n (n + 1) 0 0 with
      | .inl _ => 0
      | .inr e => nI e.1))), h') ∧ FrE h h' x ∧ CX h' x T n ∧ (match pFo T n (n + 1) 0 0 with
      | .inl v => h'.2 (x + 27) 4 = 0 ∧ h'.2 (x + 28) 1 = nI (cof v.1).length ∧ LayC h' x 0 (cof v.1) ∧ (cof v.1).length ≤ 37 ∧ h'.2 (x + 28) 0 = h.2 (x + 28) 0
      | .inr e => CE h' x e ∧ e.2 ≤ n) := by
  have W := lc_all (T := T) (n := n) (x := x) (n + 1) 0 0 0 0 FF h X hl h9 (by omega) (by omega) (by omega) hn (by omega) (by show n + 3 ≤ 1000000 + 0; omega)
  cases e : pFo T n (n + 1) 0 0 with
  | inr er =>
    rw [e] at W
    obtain ⟨h', a1, a2, a3, a4, a5⟩ := W
    exact ⟨h', a1, a2, a3, a4, a5⟩
  | inl v =>
    rw [e] at W
    obtain ⟨h', q', k', fl', a1, a2, a3, a4, ⟨a5, a6, a7⟩, a8, a9, a10, a11⟩ := W
    obtain ⟨z1, z2, -⟩ := pFo_adv (n + 1) 0 0 v.1 v.2 (by omega) e
    have hq := a3.2.2.2
    have a7 : 1000000 + 0 ≤ fl' + q' := a7
    obtain ⟨fl', rfl⟩ : ∃ g, fl' = g + 1 + 1 := ⟨fl' - 2, by omega⟩
    obtain ⟨h4, b1, b2, b3⟩ := c_atEnd a3
    have hend : n ≤ bk T n q' := by
      rw [a4]
      exact pFo_end (n + 1) 0 v.1 v.2 (by omega) e
    have n4 : h4.2 (x + 27) 9 = nI 0 := by rw [b2.2.2 9 (by decide) (by decide) (by decide)]; exact a9
    have el : ∀ m, 0 + m = m := Nat.zero_add
    refine ⟨h4, ?_, a2.e.trans b2.e, b3.1, b3.2.2.1, ?_, ?_, ?_, ?_⟩
    · refine a1.trans ?_
      rw [zX3_readWork_8]
      unfold kX3_readWork_8
      rw [if_pos a3.k, a3.1.2.1, if_neg (by rw [nI_ltI (by omega) (by omega)]; omega), if_neg (fun q => q a3.2.2.1), b1, bI_s, decide_eq_true hend, if_pos (show ¬ b2i true = 0 by decide), zX3_readWork_106]
      unfold kX3_readWork_106
      rw [if_pos b3.k, n4, if_pos (by decide), b3.2.2.1]
    · rw [b2.2.1 _ (by omega), a8, Nat.zero_add]
    · exact a10.cg (fun a i q1 _ _ => by rw [b2.2.1 a (by omega)])
    · omega
    · rw [b2.2.1 _ (by omega)]
      exact a2.2.2.2.1
end TW
