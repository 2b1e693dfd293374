/-! ===== a STORE is read: the reference ===== -/
section SM
variable {h h' : Hp} {m n : Nat} {T : Nat → Nat}
def Fs (h h' : Hp) (m : Nat) : Prop := h'.1 = h.1 ∧ (∀ a, a ≠ m → a < m + 38 ∨ m + 118 ≤ a → h'.2 a = h.2 a) ∧ (∀ j, j ≠ 4 → j ≠ 5 → j ≠ 6 → j ≠ 7 → j ≠ 8 → j ≠ 12 → j ≠ 18 → h'.2 m j = h.2 m j)
theorem Fs.refl (h : Hp) (m : Nat) : Fs h h m := ⟨rfl, fun _ _ _ => rfl, fun _ _ _ _ _ _ _ _ => rfl⟩
theorem Fs.trans {h h1 h2 : Hp} {m : Nat} (a : Fs h h1 m) (b : Fs h1 h2 m) : Fs h h2 m := ⟨b.1.trans a.1, fun y q1 q2 => by rw [b.2.1 y q1 q2, a.2.1 y q1 q2], fun j q1 q2 q3 q4 q5 q6 q7 => by rw [b.2.2 j q1 q2 q3 q4 q5 q6 q7, a.2.2 j q1 q2 q3 q4 q5 q6 q7]⟩
theorem Frx.s {h h' : Hp} {m : Nat} (f : Frx h h' m) : Fs h h' m := ⟨f.1, fun a q _ => f.2.1 a q, fun j q1 q2 q3 _ _ _ _ => f.2.2 j q1 q2 q3⟩
theorem Fq.s {h h' : Hp} {m i : Nat} (f : Fq h h' m i) : Fs h h' m := ⟨f.1, fun a q1 q2 => f.2.1 a q1 (by omega), fun j q1 q2 q3 _ q5 _ q7 => f.2.2 j q1 q2 q3 q5 q7⟩
theorem fs_7 (h : Hp) (m : Nat) (v : Int32) : Fs h (h.1, upI h.2 m 7 v) m := ⟨rfl, fun a q _ => upI_ne q, fun j _ _ _ q _ _ _ => by show upI _ _ _ _ m j = _; rw [upI_at, if_neg q]⟩
theorem fs_12 (h : Hp) (m : Nat) (v : Int32) : Fs h (h.1, upI h.2 m 12 v) m := ⟨rfl, fun a q _ => upI_ne q, fun j _ _ _ _ _ q _ => by show upI _ _ _ _ m j = _; rw [upI_at, if_neg q]⟩
/-- what the reference has read of a STORE -/
def SLr (h : Hp) (m c : Nat) (v : Nat × Fo) : Prop := h.2 m 7 = nI c ∧ h.2 m 12 = nI v.1 ∧ h.2 m 18 = nI v.2.length ∧ h.2 m 8 = nI 0 ∧ LayR h m 0 v.2
theorem SLr.fr {c : Nat} {v : Nat × Fo} (A : SLr h m c v) (f : Frx h h' m) : SLr h' m c v := by
  obtain ⟨a1, a2, a3, a4, a5⟩ := A
  exact ⟨by rw [f.2.2 7 (by decide) (by decide) (by decide)]; exact a1, by rw [f.2.2 12 (by decide) (by decide) (by decide)]; exact a2, by rw [f.2.2 18 (by decide) (by decide) (by decide)]; exact a3, by rw [f.2.2 8 (by decide) (by decide) (by decide)]; exact a4, a5.cg v.2 0 (fun a q1 q2 => f.2.1 a (by omega))⟩
theorem RP.up7 {p : Nat} (X : RP h m T n p) (j : Nat) (hj : j ≠ 2 ∧ j ≠ 4 ∧ j ≠ 5) (v : Int32) : RP (h.1, upI h.2 m j v) m T n p := by
  obtain ⟨⟨y1, y2, y3, y4, y5⟩, y6, y7, y8⟩ := X
  exact ⟨⟨y1.eq rfl, by show upI _ _ _ _ m 2 = _; rw [upI_at, if_neg (by omega)]; exact y2, y3, fun i hi => by show upI _ _ _ _ (m + 1) i = _; rw [upI_ne (by omega)]; exact y4 i hi, y5⟩, by show upI _ _ _ _ m 4 = _; rw [upI_at, if_neg (by omega)]; exact y6, by show upI _ _ _ _ m 5 = _; rw [upI_at, if_neg (by omega)]; exact y7, y8⟩
theorem RSt.up12 {s : Rd} (X : RSt h m T n s) (v : Int32) : RSt (h.1, upI h.2 m 12 v) m T n s := by
  cases s with
  | inl p => exact RP.up7 (show RP h m T n p from X) 12 (by omega) v
  | inr e =>
    obtain ⟨⟨y1, y2, y3, y4, y5⟩, ⟨e1, e2, e3, p, e4, e5⟩, he⟩ : RX h m T n ∧ RE h m e ∧ e.2 ≤ n := X
    exact ⟨⟨y1.eq rfl, by show upI _ _ _ _ m 2 = _; rw [upI_at, if_neg (by omega)]; exact y2, y3, fun i hi => by show upI _ _ _ _ (m + 1) i = _; rw [upI_ne (by omega)]; exact y4 i hi, y5⟩, ⟨e1, by show upI _ _ _ _ m 5 = _; rw [upI_at, if_neg (by omega)]; exact e2, by show upI _ _ _ _ m 6 = _; rw [upI_at, if_neg (by omega)]; exact e3, p, e4, by show upI _ _ _ _ m 4 = _; rw [upI_at, if_neg (by omega)]; exact e5⟩, he⟩
/-- what a clause leaves -/
def outL (h h' : Hp) (m : Nat) (T : Nat → Nat) (n c : Nat) (o : ((Nat × Fo) × Nat) ⊕ Ft) : Prop := Fs h h' m ∧ match o with
  | .inr e => RX h' m T n ∧ RE h' m e ∧ e.2 ≤ n
  | .inl v => RP h' m T n v.2 ∧ SLr h' m (c + 1) v.1
theorem cl62_er {e : Ft} (X : RX h m T n) (E : RE h m e) (z2 : Int32) (f : Nat) : gX10_clause (f + 1) 62 [.ref m, .int z2, uV] [] h = some (.inl none, h) := by
  rw [zX10_clause_62]
  unfold kX10_clause_62
  rw [if_pos X.1.k, if_neg E.nz]
theorem m_clause {c q : Nat} {v : Nat × Fo} (X : RP h m T n q) (hb : bk T n q = q) (A : SLr h m c v) (O : okF v) (hc : v.2.length ≤ c) (h60 : c ≤ 60) : ∃ h', fX10_clause m h = some (.inl none, h') ∧ outL h h' m T n c (clS T n c v q) := by
  have hn := X.1.2.2.1
  have hq := X.2.2.2
  obtain ⟨h1, a1, a2, a3⟩ := m_isSize X
  rw [hb] at a1 a3
  obtain ⟨h5, b1, b2, b3⟩ := m_stepHere a3
  rw [hb] at b1 b3
  have f5 := a2.trans b2
  have A5 := A.fr f5
  have a1 : fX10_isWord m 19 9 26 5 0 0 h = _ := a1
  have c7 : h5.2 m 7 = nI c := A5.1
  have c4 : h5.2 m 4 = nI q := b3.2.1
  have hsz : lts T n q = Wd.getD 12 [] ↔ kwd (lts T n q) = some 12 := by
    constructor
    · intro e
      rw [e]
      decide
    · intro e
      exact (kwd_lt e).2
  unfold fX10_clause kX10_clause_0
  rw [if_pos X.k, a1, bI_s, if_pos a3.k, b1, bI_s]
  -- a fault
  have bad : ∀ (e : Ft) (z2 : Int32), 1 ≤ e.1 ∧ e.1 ≤ 3 → e.2 = q → clS T n c v q = .inr e → ∃ h12, fX10_wrong m (nI e.1) (nI q) h5 = some (.inl none, h12) ∧ ∃ h', gX10_clause FF 62 [.ref m, .int z2, uV] [] h12 = some (.inl none, h') ∧ outL h h' m T n c (clS T n c v q) := by
    intro e z2 he e2 ec
    obtain ⟨h12, g1, g2, g3, g4⟩ := m_wrong b3 (e := e) he
    rw [e2] at g1
    refine ⟨h12, g1, h12, cl62_er (b3.1.fr g2) g3 z2 999999, ?_⟩
    rw [ec]
    exact ⟨(f5.trans g2).s, b3.1.fr g2, g3, by omega⟩
  cases ew : kwd (lts T n q) with
  | none =>
    have ec : clS T n c v q = .inr (1, q) := by unfold clS hdS; rw [ew]
    obtain ⟨h12, g1, h', g2, g3⟩ := bad (1, q) 0 (show 1 ≤ 1 ∧ 1 ≤ 3 by decide) rfl ec
    have g1 : fX10_wrong m 1 (nI q) h5 = _ := g1
    have k6 : kwr (lts T n q) = -1 := by unfold kwr; rw [ew]
    rw [decide_eq_false (fun q => by rw [hsz, ew] at q; cases q), if_neg (show ¬ ¬ b2i false = 0 from fun q => q rfl), k6, m_in, bI_s, decide_eq_false (show ¬ ((0 : Int32) ≤ -1 ∧ (-1 : Int32) ≤ 4) by decide), if_neg (show ¬ ¬ b2i false = 0 from fun q => q rfl), if_pos b3.k, c4, g1, bV_s]
    exact ⟨h', g2, g3⟩
  | some w =>
    obtain ⟨k1, k2⟩ := kwd_lt ew
    by_cases w5 : 4 < w ∧ w ≠ 12
    · have ec : clS T n c v q = .inr (1, q) := by unfold clS hdS; rw [ew]; simp only; rw [if_pos w5]
      obtain ⟨h12, g1, h', g2, g3⟩ := bad (1, q) 0 (show 1 ≤ 1 ∧ 1 ≤ 3 by decide) rfl ec
      have g1 : fX10_wrong m 1 (nI q) h5 = _ := g1
      have k6 : kwr (lts T n q) = nI (rop w) := by unfold kwr; rw [ew]; simp only; rw [if_neg w5.2]
      have r5 : 5 ≤ rop w ∧ rop w ≤ 12 := by
        have : ∀ u : Fin 13, 4 < u.1 → 5 ≤ rop u.1 ∧ rop u.1 ≤ 12 := by decide
        exact this ⟨w, k1⟩ w5.1
      rw [decide_eq_false (fun q => by rw [hsz, ew] at q; injection q with q; omega), if_neg (show ¬ ¬ b2i false = 0 from fun q => q rfl), k6, m_in, bI_s, decide_eq_false (show ¬ ((0 : Int32) ≤ nI (rop w) ∧ nI (rop w) ≤ 4) from fun q => by rw [k4, nI_leI (by omega) (by decide)] at q; omega), if_neg (show ¬ ¬ b2i false = 0 from fun q => q rfl), if_pos b3.k, c4, g1, bV_s]
      exact ⟨h', g2, g3⟩
    · by_cases e60 : c = 60
      · have ec : clS T n c v q = .inr (3, q) := by unfold clS hdS; rw [ew]; simp only; rw [if_neg w5, if_pos e60]
        have n60 : ¬ ¬ h5.2 m 7 = 60 := fun q => q (by rw [c7, e60]; rfl)
        by_cases e12 : w = 12
        · obtain ⟨h12, g1, h', g2, g3⟩ := bad (3, q) 1 (show 1 ≤ 3 ∧ 3 ≤ 3 by decide) rfl ec
          have g1 : fX10_wrong m 3 (nI q) h5 = _ := g1
          rw [decide_eq_true (hsz.mpr (by rw [ew, e12])), if_pos (show ¬ b2i true = 0 by decide), if_pos b3.k, if_neg n60, c4, g1, bV_s]
          exact ⟨h', g2, g3⟩
        · obtain ⟨h12, g1, h', g2, g3⟩ := bad (3, q) 0 (show 1 ≤ 3 ∧ 3 ≤ 3 by decide) rfl ec
          have g1 : fX10_wrong m 3 (nI q) h5 = _ := g1
          have k6 : kwr (lts T n q) = nI w := by unfold kwr; rw [ew]; simp only; rw [if_neg e12]; unfold rop; rw [if_neg (by omega), if_neg (by omega)]
          rw [decide_eq_false (fun q => by rw [hsz, ew] at q; injection q with q; omega), if_neg (show ¬ ¬ b2i false = 0 from fun q => q rfl), k6, m_in, bI_s, decide_eq_true (show (0 : Int32) ≤ nI w ∧ nI w ≤ 4 from ⟨nI_pos' (by omega), by rw [k4, nI_leI (by omega) (by decide)]; omega⟩), if_pos (show ¬ b2i true = 0 by decide), if_pos b3.k, if_neg n60, c4, g1, bV_s]
          exact ⟨h', g2, g3⟩
      · have hd : hdS T n c q = .inl (w, q + (lts T n q).length) := by unfold hdS; rw [ew]; simp only; rw [if_neg w5, if_neg e60]
        have ec : clS T n c v q = clB T n v w (q + (lts T n q).length) := by unfold clS; rw [hd]
        have n60 : ¬ h5.2 m 7 = 60 := by rw [c7, k60, nI_eq (by omega) (by decide)]; exact e60
        obtain ⟨d1, d2, d3, d4, d5, d6⟩ := hdS_ok hq hd
        obtain ⟨q1, hq1⟩ : ∃ q1, q1 = q + (lts T n q).length := ⟨_, rfl⟩
        rw [ec]
        let g : Hp := (h5.1, upI h5.2 m 7 (nI (c + 1)))
        have Xg : RP g m T n q := b3.up7 7 (by omega) _
        have fg : Fs h g m := f5.s.trans (fs_7 h5 m _)
        have Ag : SLr g m (c + 1) v := by
          obtain ⟨y1, y2, y3, y4, y5⟩ := A5
          exact ⟨by show upI _ _ _ _ m 7 = _; rw [upI_at, if_pos rfl], by show upI _ _ _ _ m 12 = _; rw [upI_at, if_neg (by decide)]; exact y2, by show upI _ _ _ _ m 18 = _; rw [upI_at, if_neg (by decide)]; exact y3, by show upI _ _ _ _ m 8 = _; rw [upI_at, if_neg (by decide)]; exact y4, y5.cg v.2 0 (fun a w1 w2 => upI_ne (by omega))⟩
        have h5k : h5.2 m 5 = 0 := b3.2.2.1
        by_cases e12 : w = 12
        · subst e12
          rw [decide_eq_true (hsz.mpr ew), if_pos (show ¬ b2i true = 0 by decide), if_pos b3.k, if_pos n60]
          show ∃ h', gX10_clause (999999 + 1) 62 [.ref m, .int (b2i true), uV] [] h5 = _ ∧ _
          rw [zX10_clause_62]
          unfold kX10_clause_62
          obtain ⟨h4, i1, i2, i3⟩ := m_skipWord Xg
          rw [← hq1] at i3 d4 ⊢
          have i1 : fX10_skipWord m (h5.1, upI h5.2 m 7 (nI (c + 1))) = _ := i1
          obtain ⟨z7, h6, j1, j2, j3, j4⟩ := ms_num (s := .inl q1) (show RSt h4 m T n (.inl q1) from i3) (lo := 6) (hi := 16) (by decide) (by decide)
          have j1 : fX10_number m 6 16 h4 = _ := j1
          obtain ⟨h11, l1, l2, l3⟩ := ms_sign (j3.up12 z7) (c := 59) (by decide)
          have l1 : fX10_sign m 59 (h6.1, upI h6.2 m 12 z7) = _ := l1
          rw [if_pos b3.k, if_pos h5k, if_pos (show ¬ b2i true = 0 by decide), c7, nI_1, i1, bV_s, if_pos i3.k, j1, bI_s, if_pos j3.rx.1.k, l1, bV_s]
          have F11 : Fs h h11 m := fg.trans ((i2.trans j2).s.trans ((fs_12 h6 m z7).trans l2.s))
          have ek : clB T n v 12 q1 = (match gS T n 59 (pS T n 6 16 (.inl q1)).2 with
            | .inr e => .inr e
            | .inl q2 => .inl (((pS T n 6 16 (.inl q1)).1, v.2), q2)) := by unfold clB; exact if_pos rfl
          refine ⟨h11, rfl, ?_⟩
          rw [ek]
          cases e4 : gS T n 59 (pS T n 6 16 (.inl q1)).2 with
          | inr er =>
            rw [e4] at l3
            exact ⟨F11, l3⟩
          | inl q2 =>
            rw [e4] at l3
            have l3 : RP h11 m T n q2 := l3
            obtain ⟨p1, y1, y2, y3⟩ := gS_adv (pS_le (fun p hp => by injection hp with hp; omega)) e4
            have z7v := j4 ⟨p1, y1⟩
            have A6 := (Ag.fr i2).fr j2
            have A6' : SLr (h6.1, upI h6.2 m 12 z7) m (c + 1) ((pS T n 6 16 (.inl q1)).1, v.2) := by
              obtain ⟨y1, y2, y3, y4, y5⟩ := A6
              exact ⟨by show upI _ _ _ _ m 7 = _; rw [upI_at, if_neg (by decide)]; exact y1, by show upI _ _ _ _ m 12 = _; rw [upI_at, if_pos rfl]; exact z7v, by show upI _ _ _ _ m 18 = _; rw [upI_at, if_neg (by decide)]; exact y3, by show upI _ _ _ _ m 8 = _; rw [upI_at, if_neg (by decide)]; exact y4, y5.cg v.2 0 (fun a w1 w2 => upI_ne (by omega))⟩
            exact ⟨F11, l3, A6'.fr l2⟩
        · have w4 : w ≤ 4 := by omega
          have rw4 : rop w = w := by unfold rop; rw [if_neg (by omega), if_neg (by omega)]
          have k6 : kwr (lts T n q) = nI w := by unfold kwr; rw [ew]; simp only; rw [if_neg e12, rw4]
          rw [decide_eq_false (fun q => by rw [hsz, ew] at q; injection q with q; omega), if_neg (show ¬ ¬ b2i false = 0 from fun q => q rfl), k6, m_in, bI_s, decide_eq_true (show (0 : Int32) ≤ nI w ∧ nI w ≤ 4 from ⟨nI_pos' (by omega), by rw [k4, nI_leI (by omega) (by decide)]; omega⟩), if_pos (show ¬ b2i true = 0 by decide), if_pos b3.k, if_pos n60]
          show ∃ h', gX10_clause (999999 + 1) 62 [.ref m, .int (b2i false), uV] [] h5 = _ ∧ _
          rw [zX10_clause_62]
          unfold kX10_clause_62
          obtain ⟨h13, i1, i2⟩ := m_reads (q0 := 39) (f := n) (i := v.2.length) (d := 0) (lp_all n (by omega)) Xg Ag.2.2.1 Ag.2.2.2.1 (by omega) (by omega) (fun e => by rw [hb, ew] at e; injection e with e; omega) (by omega) (by omega) (fun _ => by omega)
          have i1 : fX10_readsStep m (h5.1, upI h5.2 m 7 (nI (c + 1))) = _ := i1
          rw [hb] at i2
          rw [if_pos b3.k, if_pos h5k, if_neg (show ¬ ¬ b2i false = 0 from fun q => q rfl), c7, nI_1, i1, bV_s]
          refine ⟨h13, rfl, ?_⟩
          rw [← hq1]
          have hW : hdW T n 0 q = .inl (w, q1) := by
            unfold hdW
            rw [ew]
            simp only
            rw [if_neg e12, if_neg (by omega), rw4, hq1]
          have eo : pOne T n 0 (pFo T n n (0 + 1)) q = (match gS T n 59 (nums T n w (.inl q1)).2 with
            | .inr e => .inr e
            | .inl q2 => .inl (.inl (w, (nums T n w (.inl q1)).1), q2)) := by
            unfold pOne
            rw [hW]
            simp only
            rw [if_neg (by omega)]
            rfl
          have ek : clB T n v w q1 = (match gS T n 59 (nums T n w (.inl q1)).2 with
            | .inr e => .inr e
            | .inl q2 => .inl ((v.1, v.2 ++ [(w, (nums T n w (.inl q1)).1.1, (nums T n w (.inl q1)).1.2.1, (nums T n w (.inl q1)).1.2.2, 0)]), q2)) := by unfold clB; exact if_neg e12
          rw [ek]
          rw [eo] at i2
          obtain ⟨i3, i4⟩ := i2
          have F13 : Fs h h13 m := fg.trans i3.s
          cases e4 : gS T n 59 (nums T n w (.inl q1)).2 with
          | inr er =>
            rw [e4] at i4
            exact ⟨F13, i4⟩
          | inl q2 =>
            rw [e4] at i4
            obtain ⟨u1, u2, u3, u4⟩ := i4
            have u1 : RP h13 m T n q2 := u1
            have u2 : h13.2 m 18 = nI (v.2.length + 1) := u2
            have u4 : rwT h13 m v.2.length w (nums T n w (.inl q1)).1 (v.2.length + 1) := u4
            refine ⟨F13, u1, ?_, ?_, ?_, u3, fun j u hu => ?_⟩
            · rw [i3.2.2 7 (by decide) (by decide) (by decide) (by decide) (by decide)]; exact Ag.1
            · rw [i3.2.2 12 (by decide) (by decide) (by decide) (by decide) (by decide)]; exact Ag.2.1
            · show _ = nI (v.2 ++ _).length
              rw [List.length_append, List.length_singleton]
              exact u2
            · have hu : (v.2 ++ [(w, (nums T n w (.inl q1)).1.1, (nums T n w (.inl q1)).1.2.1, (nums T n w (.inl q1)).1.2.2, 0)])[j]? = some u := hu
              by_cases ej : j = v.2.length
              · rw [ej, List.getElem?_append_right (Nat.le_refl _), Nat.sub_self] at hu
                injection hu with hu
                rw [ej, ← hu, Nat.zero_add]
                exact u4
              · have hk : j < (v.2 ++ [(w, (nums T n w (.inl q1)).1.1, (nums T n w (.inl q1)).1.2.1, (nums T n w (.inl q1)).1.2.2, 0)]).length := (List.getElem?_eq_some_iff.mp hu).1
                rw [List.length_append, List.length_singleton] at hk
                rw [List.getElem?_append_left (by omega)] at hu
                have := Ag.2.2.2.2 j u hu
                exact this.cg (i3.2.1 _ (by omega) (by omega))
/-- the reference's loop over a STORE's text -/
theorem m_st_read : ∀ (f p c fl : Nat) (v : Nat × Fo) (h : Hp), RP h m T n (bk T n p) → p ≤ n → SLr h m c v → okF v → v.2.length ≤ c → c ≤ 60 → n - p < f → f + 1 < fl →
    ∃ h' fl', gX10_store fl 49 [.ref m, uV] [] h = gX10_store (fl' + 1) 49 [.ref m, uV] [] h' ∧ Fs h h' m ∧ RX h' m T n ∧ (match stP T n f c v p with
      | .inl l => h'.2 m 5 = 0 ∧ h'.2 m 2 ≤ h'.2 m 4 ∧ (∃ c', SLr h' m c' l)
      | .inr e => RE h' m e ∧ e.2 ≤ n) := by
  intro f
  induction f with
  | zero => intro p c fl v h _ _ _ _ _ _ h0 _; omega
  | succ f ih =>
    intro p c fl v h X hp A O hc h60 hf hfl
    have hn := X.1.2.2.1
    obtain ⟨b1, b2⟩ := bk_le (T := T) hp
    obtain ⟨fl, rfl⟩ : ∃ g, fl = g + 1 := ⟨fl - 1, by omega⟩
    unfold stP
    by_cases e0 : n ≤ bk T n p
    · rw [if_pos e0]
      exact ⟨h, fl, rfl, Fs.refl h m, X.1, X.2.2.1, by rw [X.1.2.1, X.2.1, nI_leI (by omega) (by omega)]; exact e0, c, A⟩
    · rw [if_neg e0]
      obtain ⟨h18, c1, c2⟩ := m_clause X (bk_bk p) A O hc h60
      have st : ∀ h20, fX10_blanks m h18 = some (.inl none, h20) → kH h18 m = 18 → gX10_store (fl + 1) 49 [.ref m, uV] [] h = gX10_store fl 49 [.ref m, uV] [] h20 := fun h20 hh hk => by
        rw [zX10_store_49]
        unfold kX10_store_49
        rw [if_pos X.k, if_neg (show ¬ ¬ h.2 m 5 = 0 from fun q => q X.2.2.1), if_neg (show ¬ h.2 m 2 ≤ h.2 m 4 by rw [X.1.2.1, X.2.1, nI_leI (by omega) (by omega)]; exact e0), c1, bV_s, if_pos hk, hh, bV_s]
      cases e1 : clS T n c v (bk T n p) with
      | inr er =>
        rw [e1] at c2
        obtain ⟨f1, f2, f3, f4⟩ := c2
        obtain ⟨h20, g1, g2, g3⟩ := f3.blanks f2
        obtain ⟨fl, rfl⟩ : ∃ g, fl = g + 1 := ⟨fl - 1, by omega⟩
        exact ⟨h20, fl, st h20 g1 f2.1.k, f1.trans g2.s, f2.fr g2, g3, f4⟩
      | inl u =>
        obtain ⟨v', q'⟩ := u
        rw [e1] at c2
        obtain ⟨f1, f2, f3⟩ := c2
        have f2 : RP h18 m T n q' := f2
        obtain ⟨r1, r2, r3, r4, r5⟩ := clS_ok b2 e1 O hc
        obtain ⟨h20, g1, g2, g3⟩ := m_blanks f2
        obtain ⟨h', fl', i1, i2, i3, i4⟩ := ih q' (c + 1) fl v' h20 g3 r2 (f3.fr g2) r3 r4 (by omega) (by omega) (by omega)
        exact ⟨h', fl', (st h20 g1 f2.k).trans i1, f1.trans (g2.s.trans i2), i3, i4⟩
end SM
