/-! ===== the reference reads a step, and what is between brackets ===== -/
section RS3
variable {h h' : Hp} {m n p i d : Nat} {T : Nat → Nat} {s : Rd}
/-- behind the word: the row is written -/
theorem m_step70 {A : Nat → Nat → Hp → RS} {B : Nat → Hp → RS} {k q f q1 : Nat} {s0 : Int32} (X : RP h m T n q) (h18 : h.2 m 18 = nI i) (h8 : h.2 m 8 = nI d) (hi : i < 80) (hk : k ≤ 11) (hq1 : q1 = q + (lts T n q).length) (hs0 : nI d + s0 = if k = 11 then nI (d + 1) else nI d)
    (hA : k = 11 → ∀ g : Hp, RP g m T n q1 → g.2 m 18 = nI (i + 1) → g.2 m 8 = nI (d + 1) → ∃ g', A m (m + 38 + i) g = some (.inl none, g') ∧ outA g g' m T n d i f q1) (fl : Nat) :
    ∃ h', gX10_readsStep A B (fl + 1) 70 [.ref m, .int (nI k), uV] [.int s0, .int (nI d), .ref m] h = some (.inl none, h') ∧ outS h h' m T n d i (if k = 11 then (match gS T n 91 (pS T n 0 60 (.inl q1)).2 with
      | .inr e => .inr e
      | .inl q2 => match pFo T n f (d + 1) q2 with
        | .inr e => .inr e
        | .inl (F, q3) => match pSig T n 59 (q3 + 1) with
          | .inr e => .inr e
          | .inl q4 => .inl (.inr ((pS T n 0 60 (.inl q1)).1, F), q4))
    else (match gS T n 59 (nums T n k (.inl q1)).2 with
      | .inr e => .inr e
      | .inl q2 => .inl (.inl (k, (nums T n k (.inl q1)).1), q2))) := by
  -- the count of what is open, the word
  have F1 := fq_8 h m i (if k = 11 then nI (d + 1) else nI d)
  have X1 : RP (h.1, upI h.2 m 8 (if k = 11 then nI (d + 1) else nI d)) m T n q := ⟨X.1.fq F1, by show upI _ _ _ _ m 4 = _; rw [upI_at, if_neg (by decide)]; exact X.2.1, by show upI _ _ _ _ m 5 = _; rw [upI_at, if_neg (by decide)]; exact X.2.2.1, X.2.2.2⟩
  obtain ⟨h2, a1, a2, a3⟩ := m_skipWord X1
  rw [← hq1] at a3
  have e2 : h2.1 = h.1 := a2.1
  obtain ⟨w1, w2, w3, w4, w5, w6⟩ := a3.1.1.stepRow hi
  have f18 : h2.2 m 18 = nI i := by rw [a2.2.2 18 (by decide) (by decide) (by decide)]; show upI _ _ _ _ m 18 = _; rw [upI_at, if_neg (by decide)]; exact h18
  have f8 : h2.2 m 8 = if k = 11 then nI (d + 1) else nI d := by rw [a2.2.2 8 (by decide) (by decide) (by decide)]; show upI _ _ _ _ m 8 = _; rw [upI_at, if_pos rfl]
  have F2 : Fq h h2 m i := F1.trans (a2.q i) (Nat.le_refl _)
  -- the row is taken
  have fq3 : Fq h2 (h2.1, upI (upI h2.2 m 18 (nI (i + 1))) (m + 38 + i) 0 (nI k)) m i := ⟨rfl, fun a q1 q2 => by show upI _ _ _ _ a = _; rw [upI_ne (by omega), upI_ne q1], fun j _ _ _ _ q => by show upI _ _ _ _ m j = _; rw [upI_ne (by omega), upI_at, if_neg q]⟩
  have g4 : (h2.1, upI (upI h2.2 m 18 (nI (i + 1))) (m + 38 + i) 0 (nI k)).2 m 4 = h2.2 m 4 := by show upI _ _ _ _ m 4 = _; rw [upI_ne (by omega), upI_at, if_neg (by decide)]
  have g5 : (h2.1, upI (upI h2.2 m 18 (nI (i + 1))) (m + 38 + i) 0 (nI k)).2 m 5 = h2.2 m 5 := by show upI _ _ _ _ m 5 = _; rw [upI_ne (by omega), upI_at, if_neg (by decide)]
  have g6 : (h2.1, upI (upI h2.2 m 18 (nI (i + 1))) (m + 38 + i) 0 (nI k)).2 m 6 = h2.2 m 6 := by show upI _ _ _ _ m 6 = _; rw [upI_ne (by omega), upI_at, if_neg (by decide)]
  have g18 : (h2.1, upI (upI h2.2 m 18 (nI (i + 1))) (m + 38 + i) 0 (nI k)).2 m 18 = nI (i + 1) := by show upI _ _ _ _ m 18 = _; rw [upI_ne (by omega), upI_at, if_pos rfl]
  have g8 : (h2.1, upI (upI h2.2 m 18 (nI (i + 1))) (m + 38 + i) 0 (nI k)).2 m 8 = if k = 11 then nI (d + 1) else nI d := by show upI _ _ _ _ m 8 = _; rw [upI_ne (by omega), upI_at, if_neg (by decide)]; exact f8
  have g0 : (h2.1, upI (upI h2.2 m 18 (nI (i + 1))) (m + 38 + i) 0 (nI k)).2 (m + 38 + i) 0 = nI k := by show upI _ _ _ _ (m + 38 + i) 0 = _; rw [upI_at, if_pos rfl]
  have X3 : RSt (h2.1, upI (upI h2.2 m 18 (nI (i + 1))) (m + 38 + i) 0 (nI k)) m T n (.inl q1) := RSt.fq (s := .inl q1) a3 fq3 g4 g5 g6
  have F3 := F2.trans fq3 (Nat.le_refl _)
  rw [zX10_readsStep_70]
  unfold kX10_readsStep_70
  rw [if_pos X.k, if_pos X.k, hs0, a1, bV_s, if_pos a3.k, w1, if_pos w2, w3, f18, if_pos (inB_nI hi (by decide)), nI_clamp (by omega), w4, if_pos w5, w6, if_pos (show inB 0 5 = true by decide), nI_1]
  by_cases e11 : k = 11
  · -- again
    have hno := m_numbers_11 (h := (h2.1, upI (upI h2.2 m 18 (nI (i + 1))) (m + 38 + i) 0 (nI k))) (m := m) (r := m + 38 + i) w5 w6 (by rw [g0, e11])
    rw [if_pos e11] at g8
    obtain ⟨h4, b1, b2, b3⟩ := hA e11 _ X3 g18 g8
    have km4 : kH h4 m = 18 := (kh_eq b2.1 m).trans a3.k
    have k4' : kH h4 (m + 38 + i) = 1 := (kh_eq b2.1 _).trans w5
    have l4' : lH h4 (m + 38 + i) = 5 := (lh_eq b2.1 _).trans w6
    have kM : kH (h2.1, upI (upI h2.2 m 18 (nI (i + 1))) (m + 38 + i) 0 (nI k)) m = 18 := a3.k
    rw [hno, bV_s, if_neg (show ¬ ¬ nI k = 11 from fun w => w (by rw [e11]; rfl)), if_pos kM, b1, bV_s, if_pos km4, if_pos k4', l4', if_pos (show inB 4 5 = true by decide), if_pos e11]
    have F4 := F3.trans b2 (Nat.le_refl _)
    have up4 := fq_r (h := h4) (m := m) hi 4 (h4.2 m 18)
    have F5 := F4.trans up4 (Nat.le_refl _)
    have er : ∀ e : Ft, RX h4 m T n ∧ RE h4 m e ∧ e.2 ≤ n → ∃ h', (bV (fX10_sign m 59 (h4.1, upI h4.2 (m + 38 + i) 4 (h4.2 m 18))) fun h24 => some (.inl none, h24)) = some (.inl none, h') ∧ Fq h h' m i ∧ RX h' m T n ∧ RE h' m e ∧ e.2 ≤ n := fun e E => by
      have Y : RSt (h4.1, upI h4.2 (m + 38 + i) 4 (h4.2 m 18)) m T n (.inr e) := RSt.row (s := .inr e) E (by omega)
      have Y : RX (h4.1, upI h4.2 (m + 38 + i) 4 (h4.2 m 18)) m T n ∧ RE (h4.1, upI h4.2 (m + 38 + i) 4 (h4.2 m 18)) m e ∧ e.2 ≤ n := Y
      rw [Y.2.1.sign Y.1.1.k, bV_s]
      exact ⟨_, rfl, F5, Y⟩
    cases e2' : gS T n 91 (pS T n 0 60 (.inl q1)).2 with
    | inr e =>
      rw [e2'] at b3
      obtain ⟨h', c1, c2, c3⟩ := er e b3
      exact ⟨h', c1, c2, c3⟩
    | inl q2 =>
      rw [e2'] at b3
      simp only at b3 ⊢
      cases e3 : pFo T n f (d + 1) q2 with
      | inr e =>
        rw [e3] at b3
        obtain ⟨h', c1, c2, c3⟩ := er e b3
        exact ⟨h', c1, c2, c3⟩
      | inl v =>
        obtain ⟨F, q3⟩ := v
        rw [e3] at b3
        simp only at b3 ⊢
        obtain ⟨x1, x2, x3, x4, x5, x6⟩ := b3
        have Y : RSt (h4.1, upI h4.2 (m + 38 + i) 4 (h4.2 m 18)) m T n (.inl (q3 + 1)) := RSt.row (s := .inl (q3 + 1)) x1 (by omega)
        obtain ⟨h5, y1, y2, y3⟩ := ms_sign Y (c := 59) (by decide)
        have y1 : fX10_sign m 59 (h4.1, upI h4.2 (m + 38 + i) 4 (h4.2 m 18)) = _ := y1
        rw [y1, bV_s]
        have F6 := F5.trans (y2.q i) (Nat.le_refl _)
        have eg : gS T n 59 (.inl (q3 + 1)) = pSig T n 59 (q3 + 1) := rfl
        rw [eg] at y3
        cases e4 : pSig T n 59 (q3 + 1) with
        | inr e =>
          rw [e4] at y3
          exact ⟨h5, rfl, F6, y3⟩
        | inl q4 =>
          rw [e4] at y3
          have r5 : ∀ j, h5.2 (m + 38 + i) j = if j = 4 then nI (i + 1 + fsz F) else h4.2 (m + 38 + i) j := fun j => by
            rw [y2.2.1 _ (by omega)]
            show upI _ _ _ _ (m + 38 + i) j = _
            rw [upI_at, x2]
          refine ⟨h5, rfl, F6, y3, ?_, ?_, ⟨?_, ⟨fun _ => ?_, fun w => by omega, fun w => by omega⟩, ?_⟩, ?_⟩
          · rw [y2.2.2 18 (by decide) (by decide) (by decide)]
            show upI _ _ _ _ m 18 = nI (i + (1 + fsz F))
            rw [upI_ne (by omega), x2, Nat.add_assoc]
          · rw [y2.2.2 8 (by decide) (by decide) (by decide)]
            show upI _ _ _ _ m 8 = _
            rw [upI_ne (by omega), x3]
          · rw [r5, if_neg (by decide), x5, upI_at, if_pos rfl, e11]
          · rw [r5, if_neg (by decide), x6]
          · rw [r5, if_pos rfl]
          · exact LayR.cg F (i + 1) x4 (fun y h1 h2 => by rw [y2.2.1 y (by omega)]; show upI _ _ _ _ y = _; rw [upI_ne (by omega)])
  · -- any other step
    obtain ⟨h4, b1, b2, b3, b4, b5⟩ := m_numbers X3 (r := m + 38 + i) (k := k) (by omega) w5 w6 g0 (by omega)
    have km4 : kH h4 m = 18 := (kh_eq b2.1 m).trans a3.k
    have k4' : kH h4 (m + 38 + i) = 1 := (kh_eq b2.1 _).trans w5
    have l4' : lH h4 (m + 38 + i) = 5 := (lh_eq b2.1 _).trans w6
    have e18 : h4.2 m 18 = nI (i + 1) := by rw [b2.2.2 18 (by decide) (by decide) (by decide)]; exact g18
    have Y : RSt (h4.1, upI h4.2 (m + 38 + i) 4 (nI (i + 1))) m T n (nums T n k (.inl q1)).2 := b4.row (by omega)
    obtain ⟨h5, y1, y2, y3⟩ := ms_sign Y (c := 59) (by decide)
    have y1 : fX10_sign m 59 (h4.1, upI h4.2 (m + 38 + i) 4 (nI (i + 1))) = _ := y1
    rw [b1, bV_s, if_pos (show ¬ nI k = 11 by rw [k11, nI_eq (by omega) (by decide)]; exact e11), if_pos km4, if_pos k4', l4', if_pos (show inB 4 5 = true by decide), e18, y1, bV_s, if_neg e11]
    have F4 := F3.trans (Frr.q hi b2) (Nat.le_refl _)
    have F5 := F4.trans (fq_r (h := h4) (m := m) hi 4 (nI (i + 1))) (Nat.le_refl _)
    have F6 := F5.trans (y2.q i) (Nat.le_refl _)
    cases e2' : gS T n 59 (nums T n k (.inl q1)).2 with
    | inr e =>
      rw [e2'] at y3
      exact ⟨h5, rfl, F6, y3⟩
    | inl q2 =>
      rw [e2'] at y3
      have okn : okR (nums T n k (.inl q1)).2 := by
        cases e9 : (nums T n k (.inl q1)).2 with
        | inl p9 => exact ⟨p9, rfl⟩
        | inr e => rw [e9] at e2'; cases e2'
      have r5 : ∀ j, h5.2 (m + 38 + i) j = if j = 4 then nI (i + 1) else h4.2 (m + 38 + i) j := fun j => by
        rw [y2.2.1 _ (by omega)]
        show upI _ _ _ _ (m + 38 + i) j = _
        rw [upI_at]
      obtain ⟨z1, z2, z3⟩ := b5 okn
      refine ⟨h5, rfl, F6, y3, ?_, ?_, ?_, ⟨fun w => ?_, fun w => ?_, fun w => ?_⟩, ?_⟩
      · rw [y2.2.2 18 (by decide) (by decide) (by decide)]
        show upI _ _ _ _ m 18 = nI (i + 1)
        rw [upI_ne (by omega), e18]
      · rw [y2.2.2 8 (by decide) (by decide) (by decide)]
        show upI _ _ _ _ m 8 = _
        rw [upI_ne (by omega), b2.2.2 8 (by decide) (by decide) (by decide), g8, if_neg e11]
      · rw [r5, if_neg (by decide)]
        exact b3
      · rw [r5, if_neg (by decide)]
        exact z1 w
      · rw [r5, if_neg (by decide)]
        exact z2 w
      · rw [r5, if_neg (by decide)]
        exact z3 w
      · rw [r5, if_pos rfl]
end RS3
