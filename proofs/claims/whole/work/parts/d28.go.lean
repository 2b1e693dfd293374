/-! ===== induction over what was read; the reference runs it ===== -/
section PI
variable {T : Nat → Nat} {n : Nat}
theorem nums_ok {k q : Nat} {s : Rd} (hs : ∀ p, s = .inl p → p ≤ n) (hk : k ≤ 10) (h : (nums T n k s).2 = .inl q) : okS k (nums T n k s).1.1 (nums T n k s).1.2.1 (nums T n k s).1.2.2 := by
  have t1 : ∀ lo hi, ∀ q, (pS T n lo hi s).2 = .inl q → q ≤ n := fun lo hi => pS_le hs
  have t2 : ∀ lo hi lo2 hi2, ∀ q, (pS T n lo2 hi2 (pS T n lo hi s).2).2 = .inl q → q ≤ n := fun lo hi lo2 hi2 => pS_le (t1 lo hi)
  have hx : k = 0 ∨ k = 1 ∨ k = 2 ∨ k = 3 ∨ k = 4 ∨ k = 5 ∨ k = 6 ∨ k = 7 ∨ k = 8 ∨ k = 9 ∨ k = 10 := by omega
  have two : ∀ lo hi lo2 hi2 q, (pS T n lo2 hi2 (pS T n lo hi s).2).2 = .inl q → (pS T n lo hi s).1 ≤ hi ∧ lo2 ≤ (pS T n lo2 hi2 (pS T n lo hi s).2).1 ∧ (pS T n lo2 hi2 (pS T n lo hi s).2).1 ≤ hi2 := fun lo hi lo2 hi2 q e => by
    obtain ⟨p, a1, a2, a3, a4, a5⟩ := pS_adv (t1 lo hi) e
    obtain ⟨p0, b1, b2, b3, b4, b5⟩ := pS_adv hs a1
    exact ⟨b5, a4, a5⟩
  have thr3 : ∀ lo hi lo2 hi2 lo3 hi3 q, (pS T n lo3 hi3 (pS T n lo2 hi2 (pS T n lo hi s).2).2).2 = .inl q → (pS T n lo hi s).1 ≤ hi ∧ lo2 ≤ (pS T n lo2 hi2 (pS T n lo hi s).2).1 ∧ (pS T n lo2 hi2 (pS T n lo hi s).2).1 ≤ hi2 ∧ (pS T n lo3 hi3 (pS T n lo2 hi2 (pS T n lo hi s).2).2).1 ≤ hi3 := fun lo hi lo2 hi2 lo3 hi3 q e => by
    obtain ⟨p, a1, a2, a3, a4, a5⟩ := pS_adv (t2 lo hi lo2 hi2) e
    obtain ⟨b1, b2, b3⟩ := two lo hi lo2 hi2 p a1
    exact ⟨b1, b2, b3, a5⟩
  unfold okS
  rcases hx with rfl | rfl | rfl | rfl | rfl | rfl | rfl | rfl | rfl | rfl | rfl
  · have := two 0 11 1 99 q h
    have e : (nums T n 0 s).1 = ((pS T n 0 11 s).1, (pS T n 1 99 (pS T n 0 11 s).2).1, 0) := rfl
    simp only [e]
    refine ⟨by omega, ?_, ?_, ?_, ?_, ?_, ?_⟩ <;> intro w <;> omega
  · have := two 0 11 1 99 q h
    have e : (nums T n 1 s).1 = ((pS T n 0 11 s).1, (pS T n 1 99 (pS T n 0 11 s).2).1, 0) := rfl
    simp only [e]
    refine ⟨by omega, ?_, ?_, ?_, ?_, ?_, ?_⟩ <;> intro w <;> omega
  · have := thr3 0 11 1 99 0 11 q h
    have e : (nums T n 2 s).1 = ((pS T n 0 11 s).1, (pS T n 1 99 (pS T n 0 11 s).2).1, (pS T n 0 11 (pS T n 1 99 (pS T n 0 11 s).2).2).1) := rfl
    simp only [e]
    refine ⟨by omega, ?_, ?_, ?_, ?_, ?_, ?_⟩ <;> intro w <;> omega
  · have := two 0 11 0 99 q h
    have e : (nums T n 3 s).1 = ((pS T n 0 11 s).1, (pS T n 0 99 (pS T n 0 11 s).2).1, 0) := rfl
    simp only [e]
    refine ⟨by omega, ?_, ?_, ?_, ?_, ?_, ?_⟩ <;> intro w <;> omega
  · have := thr3 0 11 0 31 0 99 q h
    have e : (nums T n 4 s).1 = ((pS T n 0 11 s).1, (pS T n 0 31 (pS T n 0 11 s).2).1, (pS T n 0 99 (pS T n 0 31 (pS T n 0 11 s).2).2).1) := rfl
    simp only [e]
    refine ⟨by omega, ?_, ?_, ?_, ?_, ?_, ?_⟩ <;> intro w <;> omega
  · obtain ⟨p, a1, a2, a3, a4, a5⟩ := pS_adv hs (show (pS T n 0 11 s).2 = .inl q from h)
    have e : (nums T n 5 s).1 = ((pS T n 0 11 s).1, 0, 0) := rfl
    simp only [e]
    refine ⟨by omega, ?_, ?_, ?_, ?_, ?_, ?_⟩ <;> intro w <;> omega
  · have := two 0 11 1 99 q h
    have e : (nums T n 6 s).1 = ((pS T n 0 11 s).1, (pS T n 1 99 (pS T n 0 11 s).2).1, 0) := rfl
    simp only [e]
    refine ⟨by omega, ?_, ?_, ?_, ?_, ?_, ?_⟩ <;> intro w <;> omega
  · obtain ⟨p, a1, a2, a3, a4, a5⟩ := pS_adv hs (show (pS T n 0 15 s).2 = .inl q from h)
    have e : (nums T n 7 s).1 = ((pS T n 0 15 s).1, 0, 0) := rfl
    simp only [e]
    refine ⟨by omega, ?_, ?_, ?_, ?_, ?_, ?_⟩ <;> intro w <;> omega
  all_goals refine ⟨by omega, ?_, ?_, ?_, ?_, ?_, ?_⟩ <;> intro w <;> (exfalso; omega)
/-- what holds of all that can be read -/
theorem pFo_ind (P : Fo → Prop) (p0 : P []) (p1 : ∀ (v : Nat × Nat × Nat × Nat) r, okS v.1 v.2.1 v.2.2.1 v.2.2.2 → P r → P (fco (.inl v) r)) (p2 : ∀ c b r, c ≤ 60 → P b → P r → P (fco (.inr (c, b)) r)) : ∀ (f d p : Nat) (F : Fo) (q : Nat), p ≤ n → pFo T n f d p = .inl (F, q) → P F := by
  intro f
  induction f with
  | zero => intro d p F q _ h; cases h
  | succ f ih =>
    intro d p F q hp h
    obtain ⟨b1, b2⟩ := bk_le (T := T) hp
    unfold pFo at h
    by_cases e0 : ovr T n d (bk T n p) = true
    · rw [if_pos e0] at h
      injection h with h
      injection h with h1 h2
      rw [← h1]
      exact p0
    · rw [if_neg e0] at h
      cases e1 : pOne T n d (pFo T n f (d + 1)) (bk T n p) with
      | inr e' => rw [e1] at h; cases h
      | inl v =>
        obtain ⟨x, q1⟩ := v
        rw [e1] at h
        simp only at h
        obtain ⟨a1, a2⟩ := pOne_adv (fun p F q hp hq => by obtain ⟨i1, i2, i3⟩ := pFo_adv f (d + 1) p F q hp hq; exact ⟨i1, (i3 (by omega)).1⟩) b2 e1
        cases e2 : pFo T n f d q1 with
        | inr e' => rw [e2] at h; cases h
        | inl v2 =>
          obtain ⟨r, q2⟩ := v2
          rw [e2] at h
          simp only at h
          have Pr : P r := ih d q1 r q2 a2 e2
          injection h with h
          injection h with h1 h2
          rw [← h1]
          unfold pOne at e1
          cases e3 : hdW T n d (bk T n p) with
          | inr e' => rw [e3] at e1; cases e1
          | inl v3 =>
            obtain ⟨k, q3⟩ := v3
            rw [e3] at e1
            obtain ⟨g1, g2, g3, g4, -⟩ := hdW_adv b2 e3
            have hs1 : ∀ p, (Sum.inl q3 : Rd) = .inl p → p ≤ n := fun p hp => by injection hp with hp; omega
            simp only at e1
            by_cases e11 : k = 11
            · rw [if_pos e11] at e1
              cases e4 : gS T n 91 (pS T n 0 60 (.inl q3)).2 with
              | inr e' => rw [e4] at e1; cases e1
              | inl q4 =>
                rw [e4] at e1
                simp only at e1
                obtain ⟨p1', c1, c2, c3⟩ := gS_adv (pS_le hs1) e4
                obtain ⟨p0', d1, d2, d3, d4, d5⟩ := pS_adv hs1 c1
                cases e5 : pFo T n f (d + 1) q4 with
                | inr e' => rw [e5] at e1; cases e1
                | inl v5 =>
                  obtain ⟨F5, q5⟩ := v5
                  rw [e5] at e1
                  simp only at e1
                  have P5 : P F5 := ih (d + 1) q4 F5 q5 c3 e5
                  cases e6 : pSig T n 59 (q5 + 1) with
                  | inr e' => rw [e6] at e1; cases e1
                  | inl q6 =>
                    rw [e6] at e1
                    simp only at e1
                    injection e1 with e1
                    injection e1 with e1 e1'
                    rw [← e1]
                    exact p2 _ _ _ d5 P5 Pr
            · rw [if_neg e11] at e1
              cases e4 : gS T n 59 (nums T n k (.inl q3)).2 with
              | inr e' => rw [e4] at e1; cases e1
              | inl q4 =>
                rw [e4] at e1
                simp only at e1
                obtain ⟨p1', c1, c2, c3⟩ := gS_adv (fun q hq => by obtain ⟨p0, c1, c2, c3⟩ := nums_adv hs1 hq; exact c3) e4
                injection e1 with e1
                injection e1 with e1 e1'
                rw [← e1]
                exact p1 _ _ (nums_ok hs1 (by omega) c1) Pr
end PI
/-! what runs: the invariant of the count -/
def Ig (z k : Nat) (p : Rp) : Prop := p.2.1 ≤ 200 ∧ p.2.2.1 + p.2.2.2 ≤ p.2.1 ∧ Inx p.1 z (k + 3840 * (200 - p.2.1))
theorem ig_st {z k : Nat} {p : Rp} {v : Ro} (g : Ig z k p) (h : ¬ 200 ≤ p.2.1) (ok : okS v.1 v.2.1 v.2.2.1 v.2.2.2.1) : Ig z k (rst z v p) := by
  obtain ⟨g1, g2, g3⟩ := g
  refine ⟨?_, ?_, ?_⟩
  · show p.2.1 + 1 ≤ 200
    omega
  · show p.2.2.1 + (if _ then 1 else 0) + (p.2.2.2 + (if _ then 0 else 1)) ≤ p.2.1 + 1
    split <;> omega
  · refine inx_step (S := p.1) ?_ ok
    have e : k + 3840 * (200 - (rst z v p).2.1) + 3840 = k + 3840 * (200 - p.2.1) := by
      show k + 3840 * (200 - (p.2.1 + 1)) + 3840 = _
      omega
    rw [e]
    exact g3
theorem ig_b1 {z k : Nat} {p : Rp} (g : Ig z k p) (h : ¬ 200 ≤ p.2.1) : Ig z k (beg1 p) := by
  obtain ⟨g1, g2, g3⟩ := g
  refine ⟨?_, ?_, g3.le ?_⟩
  · show p.2.1 + 1 ≤ 200
    omega
  · show p.2.2.1 + p.2.2.2 ≤ p.2.1 + 1
    omega
  · show k + 3840 * (200 - (p.2.1 + 1)) ≤ _
    omega
theorem ig_go {z k : Nat} {p : Rp} (g : Ig z k p) (h : ¬ 200 ≤ p.2.1) : Inx p.1 z (k + 3840) := g.2.2.le (by omega)
theorem itr_end {z : Nat} {b : Fo} : ∀ (c : Nat) (p : Rp), 200 ≤ p.2.1 → itr (run z b) c p = p := by
  intro c
  induction c with
  | zero => intro p _; rfl
  | succ c ih =>
    intro p hp
    rw [itr_s, show run z b p = p from run_end z _ _ _ hp]
    exact ih p hp
/-! the reference's goes -/
def Fg (h h' : Hp) (m : Nat) : Prop := h'.1 = h.1 ∧ (∀ a, a ≠ m → a ≠ m + 118 → a ≠ m + 147 → a ≠ m + 148 → a ≠ m + 149 → h'.2 a = h.2 a) ∧ (∀ j, j ≠ 15 → j ≠ 30 → j ≠ 31 → j ≠ 32 → h'.2 m j = h.2 m j)
theorem Fg.refl (h : Hp) (m : Nat) : Fg h h m := ⟨rfl, fun _ _ _ _ _ _ => rfl, fun _ _ _ _ _ => rfl⟩
theorem Fg.trans {h h1 h2 : Hp} {m : Nat} (a : Fg h h1 m) (b : Fg h1 h2 m) : Fg h h2 m := ⟨b.1.trans a.1, fun y q1 q2 q3 q4 q5 => by rw [b.2.1 y q1 q2 q3 q4 q5, a.2.1 y q1 q2 q3 q4 q5], fun j q1 q2 q3 q4 => by rw [b.2.2 j q1 q2 q3 q4, a.2.2 j q1 q2 q3 q4]⟩
def RG (h : Hp) (m z k : Nat) (p : Rp) : Prop := MS h m ∧ Row h (m + 118) p.1 ∧ h.2 m 11 = nI z ∧ h.2 m 31 = nI p.2.1 ∧ h.2 m 32 = nI p.2.2.1 ∧ h.2 m 15 = nI p.2.2.2 ∧ Ig z k p
section MG
variable {m z k : Nat}
theorem rwT.fg {h h' : Hp} {i kd e : Nat} {v : Nat × Nat × Nat} (R : rwT h m i kd v e) (hi : i < 80) (f : Fg h h' m) : rwT h' m i kd v e := R.cg (f.2.1 _ (by omega) (by omega) (by omega) (by omega) (by omega))
theorem LayR.fg {h h' : Hp} {i : Nat} {F : Fo} (R : LayR h m i F) (hi : i + fsz F ≤ 80) (f : Fg h h' m) : LayR h' m i F := R.cg F i (fun a q1 q2 => f.2.1 a (by omega) (by omega) (by omega) (by omega) (by omega))
theorem m_doesR {h : Hp} {S : St} {i kd a b c : Nat} (R : Row h (m + 118) S) (M : MS h m) (Z : h.2 m 11 = nI z) (hi : i < 80) (h0 : h.2 (m + 38 + i) 0 = nI kd) (A : rwA h (m + 38 + i) kd (a, b, c)) (ok : okS kd a b c) (I : Inx S z (k + 3840)) : Rez (fX10_does m (m + 118) (m + 38 + i) h) (some (.int (b2i (sDo S z kd a b c).1))) h m (m + 118) (sDo S z kd a b c).2 := by
  obtain ⟨hz1, hz2⟩ := I.1.1.1
  obtain ⟨A1, A2, A3⟩ := A
  have A1 : kd < 8 ∨ kd = 11 → h.2 (m + 38 + i) 1 = nI a := A1
  have A2 : kd < 5 ∨ kd = 6 → h.2 (m + 38 + i) 2 = nI b := A2
  have A3 : kd = 2 ∨ kd = 4 → h.2 (m + 38 + i) 3 = nI c := A3
  have r := M.stp.2 i hi
  have er : m + 37 + 1 + i = m + 38 + i := by omega
  rw [er] at r
  obtain ⟨o1, o2, o3, o4, o5, o6, o7⟩ := ok
  obtain ⟨a', ha1, ha2⟩ : ∃ a', h.2 (m + 38 + i) 1 = nI a' ∧ (kd < 8 → a' = a) := by
    by_cases e : kd < 8
    · exact ⟨a, A1 (Or.inl e), fun _ => rfl⟩
    · exact ⟨_, x_nI _, fun w => absurd w e⟩
  obtain ⟨b', hb1, hb2⟩ : ∃ b', h.2 (m + 38 + i) 2 = nI b' ∧ (kd < 5 ∨ kd = 6 → b' = b) := by
    by_cases e : kd < 5 ∨ kd = 6
    · exact ⟨b, A2 e, fun _ => rfl⟩
    · exact ⟨_, x_nI _, fun w => absurd w e⟩
  obtain ⟨c', hc1, hc2⟩ : ∃ c', h.2 (m + 38 + i) 3 = nI c' ∧ (kd = 2 ∨ kd = 4 → c' = c) := by
    by_cases e : kd = 2 ∨ kd = 4
    · exact ⟨c, A3 e, fun _ => rfl⟩
    · exact ⟨_, x_nI _, fun w => absurd w e⟩
  have D := m_does (s := m + 38 + i) (k := kd) (a := a') (b := b') (c := c') R M.mo (by omega) Z hz1 hz2 r.2.1 r.2.2 h0 ha1 hb1 hc1 ⟨o1, fun w => by rw [ha2 (by omega)]; exact o2 w, fun w => by rw [ha2 (by omega)]; exact o3 w, fun w => by rw [hb2 (by omega)]; exact o4 w, fun w => by rw [hc2 (by omega)]; exact o5 w, fun w => by rw [hb2 (by omega)]; exact o6 w, fun w => by rw [hb2 (by omega), hc2 (by omega)]; exact o7 w⟩ (inv_Rdy I.1.1 _ _)
  have e1 : (if kd < 8 then a' else 0) = (if kd < 8 then a else 0) := by
    by_cases e : kd < 8
    · rw [if_pos e, if_pos e, ha2 e]
    · rw [if_neg e, if_neg e]
  have e2 : (if kd < 5 ∨ kd = 6 then b' else 0) = (if kd < 5 ∨ kd = 6 then b else 0) := by
    by_cases e : kd < 5 ∨ kd = 6
    · rw [if_pos e, if_pos e, hb2 e]
    · rw [if_neg e, if_neg e]
  have e3 : (if kd = 2 ∨ kd = 4 then c' else 0) = (if kd = 2 ∨ kd = 4 then c else 0) := by
    by_cases e : kd = 2 ∨ kd = 4
    · rw [if_pos e, if_pos e, hc2 e]
    · rw [if_neg e, if_neg e]
  have es : sDo S z kd a' b' c' = sDo S z kd a b c := by
    rw [sDo_u (a := a') (b := b') (c := c') o1, sDo_u (a := a) (b := b) (c := c) o1, e1, e2, e3]
  rw [es] at D
  exact D
theorem m_goes_end {FX : Nat → Int32 → Int32 → Hp → RS} {h : Hp} {p : Rp} {i to f : Nat} (G : RG h m z k p) (ht : to ≤ 80) (hi : i ≤ 80) (he : to ≤ i ∨ 200 ≤ p.2.1) : gX10_goes FX (f + 1) 2 [.ref m, uV, .int (nI to), .int (nI i), uV] [] h = some (.inl none, h) := by
  rw [zX10_goes_2]
  unfold kX10_goes_2
  by_cases e : to ≤ i
  · rw [if_pos (by rw [nI_leI (by omega) (by omega)]; exact e)]
  · have g31 := G.2.2.2.1
    have g2 := G.2.2.2.2.2.2.1
    rw [if_neg (by rw [nI_leI (by omega) (by omega)]; exact e), if_pos G.1.k, g31, if_pos (by rw [k200, nI_leI (by decide) (by omega)]; omega)]
theorem m_goes_st {FX : Nat → Int32 → Int32 → Hp → RS} {h : Hp} {p : Rp} {i e to f : Nat} {v : Nat × Nat × Nat × Nat} (G : RG h m z k p) (hp : ¬ 200 ≤ p.2.1) (hto : i < to) (ht : to ≤ 80) (A : rwT h m i v.1 v.2 e) (ok : okS v.1 v.2.1 v.2.2.1 v.2.2.2) :
    ∃ h', gX10_goes FX (f + 1 + 1) 2 [.ref m, uV, .int (nI to), .int (nI i), uV] [] h = gX10_goes FX f 2 [.ref m, uV, .int (nI to), .int (nI e), uV] [] h' ∧ Fg h h' m ∧ RG h' m z k (rst z (v.1, v.2.1, v.2.2.1, v.2.2.2, 0) p) := by
  obtain ⟨G1, G2, G3, G4, G5, G6, G7⟩ := G
  obtain ⟨A1, A2, A3⟩ := A
  have v10 := ok.1
  have r := G1.stp.2 i (by omega)
  have er : m + 37 + 1 + i = m + 38 + i := by omega
  rw [er] at r
  obtain ⟨r1, r2, r3⟩ := r
  obtain ⟨s1, s2, s3⟩ := G1.stp.1
  obtain ⟨n1, n2, n3⟩ := G1.now
  have I1 := ig_go G7 hp
  have I2 := ig_st (v := (v.1, v.2.1, v.2.2.1, v.2.2.2, 0)) G7 hp ok
  have hcl : (nI i).toNatClampNeg = i := nI_clamp (by omega)
  let g : Hp := (h.1, upI h.2 m 31 (h.2 m 31 + 1))
  have D := m_doesR (m := m) (z := z) (k := k) (h := g) (S := p.1) (i := i) (kd := v.1) (a := v.2.1) (b := v.2.2.1) (c := v.2.2.2) (G2.up (upI_ne (by omega))) (G1.eq rfl) (by show upI _ _ _ _ m 11 = _; rw [upI_at, if_neg (by decide)]; exact G3) (by omega) (by show upI _ _ _ _ (m + 38 + i) 0 = _; rw [upI_ne (by omega)]; exact A1) (by
    show rwA (h.1, upI h.2 m 31 (h.2 m 31 + 1)) _ _ _
    unfold rwA at A2 ⊢
    show _ ∧ _ ∧ _
    have eu : upI h.2 m 31 (h.2 m 31 + 1) (m + 38 + i) = h.2 (m + 38 + i) := upI_ne (by omega)
    simp only [eu]
    exact A2) ok I1
  obtain ⟨h9, d1, d2, d3, d4, d5⟩ := D
  have d2 : h9.1 = h.1 := d2
  have M9 : MS h9 m := G1.eq d2
  have f9 : ∀ a, a ≠ m → a ≠ m + 118 → a ≠ m + 147 → a ≠ m + 148 → a ≠ m + 149 → h9.2 a = h.2 a := fun a q1 q2 q3 q4 q5 => by
    rw [d3 a q2 q1 q3 q4 q5]
    exact upI_ne q1
  have j9 : ∀ j, j ≠ 30 → j ≠ 31 → h9.2 m j = h.2 m j := fun j q1 q2 => by
    rw [d4 j q1]
    show upI _ _ _ _ m j = _
    rw [upI_at, if_neg q2]
  have b9 : h9.2 m 31 = nI (p.2.1 + 1) := by
    rw [d4 31 (by decide)]
    show upI _ _ _ _ m 31 = _
    rw [upI_at, if_pos rfl, G4, nI_1]
  obtain ⟨b, hb0⟩ : ∃ b, b = (sDo p.1 z v.1 v.2.1 v.2.2.1 v.2.2.2).1 := ⟨_, rfl⟩
  rw [← hb0] at d1
  obtain ⟨w0, hw0⟩ : ∃ w0 : Nat, w0 = if (sDo p.1 z v.1 v.2.1 v.2.2.1 v.2.2.2).1 = true then 1 else 0 := ⟨_, rfl⟩
  obtain ⟨w1, hw1⟩ : ∃ w1 : Nat, w1 = if (sDo p.1 z v.1 v.2.1 v.2.2.1 v.2.2.2).1 = true then 0 else 1 := ⟨_, rfl⟩
  let h' : Hp := (h9.1, upI (upI h9.2 m 32 (h9.2 m 32 + nI w0)) m 15 (upI h9.2 m 32 (h9.2 m 32 + nI w0) m 15 + nI w1))
  have row4 : h'.2 (m + 38 + i) 4 = nI e := by
    show upI _ _ _ _ (m + 38 + i) 4 = _
    rw [upI_ne (by omega), upI_ne (by omega), f9 _ (by omega) (by omega) (by omega) (by omega) (by omega)]
    exact A3
  refine ⟨h', ?_, ⟨d2, fun a q1 q2 q3 q4 q5 => ?_, fun j q1 q2 q3 q4 => ?_⟩, ⟨M9.eq rfl, ?_, ?_, ?_, ?_, ?_, I2⟩⟩
  · have L1 : gX10_goes FX (f + 1 + 1) 2 [.ref m, uV, .int (nI to), .int (nI i), uV] [] h = gX10_goes FX (f + 1) 121 [.ref m, uV, .int (nI to), .int (nI i), .int (b2i b)] [.int (nI w0), .int (h9.2 m 32), .ref m] h9 := by
      rw [zX10_goes_2]
      unfold kX10_goes_2
      rw [if_neg (by rw [nI_leI (by omega) (by omega)]; omega), if_pos G1.k, if_neg (by rw [G4, k200, nI_leI (by decide) (by omega)]; exact hp), s1, if_pos s2, s3, if_pos (inB_nI (by omega) (by decide)), hcl, r1, if_pos r2, r3, if_pos (by decide), upI_ne (by omega), A1, if_pos (show ¬ nI v.1 = 11 from by rw [k11, nI_eq (by omega) (by decide)]; omega), n1, d1, bI_s, if_pos M9.k]
      cases hb : b with
      | false =>
        have e0 : w0 = 0 := by rw [hw0, ← hb0, hb]; rfl
        rw [if_pos (by decide), e0]
        rfl
      | true =>
        have e0 : w0 = 1 := by rw [hw0, ← hb0, hb]; rfl
        rw [if_neg (by decide), e0]
        rfl
    rw [L1, zX10_goes_121]
    unfold kX10_goes_121
    obtain ⟨s1', s2', s3'⟩ := M9.stp.1
    have r9 := M9.stp.2 i (by omega)
    rw [er] at r9
    obtain ⟨r1', r2', r3'⟩ := r9
    rw [if_pos M9.k, if_pos M9.k, s1', if_pos s2', s3', if_pos (show inB (nI i) 80 = true from inB_nI (by omega) (by decide)), hcl, r1', if_pos r2', r3', if_pos (show inB 4 5 = true by decide)]
    cases hb : b with
    | false =>
      have e0 : w1 = 1 := by rw [hw1, ← hb0, hb]; rfl
      rw [if_pos (show b2i false = 0 by decide)]
      show gX10_goes FX f 2 [.ref m, uV, .int (nI to), .int ((upI (upI h9.2 m 32 (h9.2 m 32 + nI w0)) m 15 (upI h9.2 m 32 (h9.2 m 32 + nI w0) m 15 + nI 1)) (m + 38 + i) 4), uV] [] (h9.1, (upI (upI h9.2 m 32 (h9.2 m 32 + nI w0)) m 15 (upI h9.2 m 32 (h9.2 m 32 + nI w0) m 15 + nI 1))) = _
      rw [← e0]
      show gX10_goes FX f 2 [.ref m, uV, .int (nI to), .int (h'.2 (m + 38 + i) 4), uV] [] h' = _
      rw [row4]
    | true =>
      have e0 : w1 = 0 := by rw [hw1, ← hb0, hb]; rfl
      rw [if_neg (show ¬ b2i true = 0 by decide), if_pos s2', if_pos (show inB (nI i) 80 = true from inB_nI (by omega) (by decide)), if_pos r2', if_pos (show inB 4 5 = true by decide)]
      show gX10_goes FX f 2 [.ref m, uV, .int (nI to), .int ((upI (upI h9.2 m 32 (h9.2 m 32 + nI w0)) m 15 (upI h9.2 m 32 (h9.2 m 32 + nI w0) m 15 + nI 0)) (m + 38 + i) 4), uV] [] (h9.1, (upI (upI h9.2 m 32 (h9.2 m 32 + nI w0)) m 15 (upI h9.2 m 32 (h9.2 m 32 + nI w0) m 15 + nI 0))) = _
      rw [← e0]
      show gX10_goes FX f 2 [.ref m, uV, .int (nI to), .int (h'.2 (m + 38 + i) 4), uV] [] h' = _
      rw [row4]
  · show upI _ _ _ _ a = _
    rw [upI_ne q1, upI_ne q1]
    exact f9 a q1 q2 q3 q4 q5
  · show upI _ _ _ _ m j = _
    rw [upI_at, if_neg q1, upI_at, if_neg q4]
    exact j9 j q2 q3
  · exact d5.up (by rw [upI_ne (by omega), upI_ne (by omega)])
  · show upI _ _ _ _ m 11 = _
    rw [upI_at, if_neg (by decide), upI_at, if_neg (by decide), j9 11 (by decide) (by decide)]
    exact G3
  · show upI _ _ _ _ m 31 = nI (p.2.1 + 1)
    rw [upI_at, if_neg (by decide), upI_at, if_neg (by decide)]
    exact b9
  · show upI _ _ _ _ m 32 = nI (p.2.2.1 + if _ then 1 else 0)
    rw [← hw0, upI_at, if_neg (by decide), upI_at, if_pos rfl, j9 32 (by decide) (by decide), G5, nI_add]
  · show upI _ _ _ _ m 15 = nI (p.2.2.2 + if _ then 0 else 1)
    rw [← hw1, upI_at, if_pos rfl, upI_at, if_neg (by decide), j9 15 (by decide) (by decide), G6, nI_add]
/-- what running the steps F from row i on does -/
def PG (m z k : Nat) (F : Fo) : Prop := ∀ (i q fl : Nat) (h : Hp) (p : Rp), RG h m z k p → LayR h m i F → i + fsz F ≤ 80 → fsz F ≤ q → 64 * fsz F < fl → ∃ h', gX10_goes (rX10_goes q) fl 2 [.ref m, uV, .int (nI (i + fsz F)), .int (nI i), uV] [] h = some (.inl none, h') ∧ Fg h h' m ∧ RG h' m z k (run z F p)
theorem rX10_goes_u {q : Nat} {a b : Int32} {h : Hp} : rX10_goes (q + 1) m a b h = kX10_goes_0 (gX10_goes (rX10_goes q) FF) (rX10_goes q) m a b h := rfl
theorem rX10_goes_s {q : Nat} {a b : Int32} {h : Hp} : rX10_goes (q + 1) m a b h = gX10_goes (rX10_goes q) FF 2 [.ref m, uV, .int b, .int a, uV] [] h := by
  rw [rX10_goes_u]
  unfold kX10_goes_0
  rfl
theorem m_goes_43 {b : Fo} {c i e q to : Nat} (P : PG m z k b) (hi : i + 1 + fsz b ≤ 80) (he : e = i + 1 + fsz b) (hq : fsz b < q) (hc : c ≤ 60) (hto : to ≤ 80) : ∀ (w u fl : Nat) (h : Hp) (p : Rp), u + w = c → w < fl → RG h m z k p → rwT h m i 11 (c, 0, 0) e → LayR h m (i + 1) b →
    ∃ h' fl', gX10_goes (rX10_goes q) fl 43 [.ref m, uV, .int (nI to), .int (nI i), .int (nI u)] [] h = gX10_goes (rX10_goes q) fl' 2 [.ref m, uV, .int (nI to), .int (nI e), uV] [] h' ∧ fl ≤ fl' + w + 1 ∧ Fg h h' m ∧ RG h' m z k (itr (run z b) w p) := by
  intro w
  induction w with
  | zero =>
    intro u fl h p hu hfl G A L
    obtain ⟨fl, rfl⟩ := sc (show 0 < fl by omega)
    obtain ⟨G1, G2, G3, G4, G5, G6, G7⟩ := id G
    obtain ⟨A1, A2, A3⟩ := A
    have A21 : h.2 (m + 38 + i) 1 = nI c := A2.1 (Or.inr rfl)
    have r := G1.stp.2 i (by omega)
    have er : m + 37 + 1 + i = m + 38 + i := by omega
    rw [er] at r
    obtain ⟨r1, r2, r3⟩ := r
    obtain ⟨s1, s2, s3⟩ := G1.stp.1
    refine ⟨h, fl, ?_, by omega, Fg.refl h m, G⟩
    rw [zX10_goes_43]
    unfold kX10_goes_43
    rw [if_pos G1.k, s1, if_pos s2, s3, if_pos (inB_nI (by omega) (by decide)), nI_clamp (by omega), r1, if_pos r2, r3, if_pos (by decide), A21, if_pos (by rw [nI_leI (by omega) (by omega)]; omega), if_pos (by decide), A3]
  | succ w ih =>
    intro u fl h p hu hfl G A L
    obtain ⟨fl, rfl⟩ := sc (show 0 < fl by omega)
    obtain ⟨G1, G2, G3, G4, G5, G6, G7⟩ := id G
    obtain ⟨A1, A2, A3⟩ := id A
    have A21 : h.2 (m + 38 + i) 1 = nI c := A2.1 (Or.inr rfl)
    have r := G1.stp.2 i (by omega)
    have er : m + 37 + 1 + i = m + 38 + i := by omega
    rw [er] at r
    obtain ⟨r1, r2, r3⟩ := r
    obtain ⟨s1, s2, s3⟩ := G1.stp.1
    have g2 := G7.1
    by_cases e2 : 200 ≤ p.2.1
    · refine ⟨h, fl, ?_, by omega, Fg.refl h m, ?_⟩
      · rw [zX10_goes_43]
        unfold kX10_goes_43
        rw [if_pos G1.k, s1, if_pos s2, s3, if_pos (inB_nI (by omega) (by decide)), nI_clamp (by omega), r1, if_pos r2, r3, if_pos (by decide), A21, if_neg (by rw [nI_leI (by omega) (by omega)]; omega), if_pos (by rw [G4, k200, nI_leI (by decide) (by omega)]; exact e2), if_pos (by decide), A3]
      · rw [itr_end _ _ e2]
        exact G
    · obtain ⟨q', rfl⟩ := sc (show 0 < q by omega)
      obtain ⟨h1, b1, b2, b3⟩ := P (i + 1) q' FF h p G L (by omega) (by omega) (show 64 * fsz b < 1000000 by omega)
      obtain ⟨h', fl', c1, c2, c3, c4⟩ := ih (u + 1) fl h1 (run z b p) (by omega) (by omega) b3 (A.fg (by omega) b2) (L.fg (by omega) b2)
      refine ⟨h', fl', ?_, by omega, b2.trans c3, c4⟩
      rw [zX10_goes_43]
      unfold kX10_goes_43
      rw [if_pos G1.k, s1, if_pos s2, s3, if_pos (inB_nI (by omega) (by decide)), nI_clamp (by omega), r1, if_pos r2, r3, if_pos (by decide), A21, if_neg (by rw [nI_leI (by omega) (by omega)]; omega), if_neg (by rw [G4, k200, nI_leI (by decide) (by omega)]; exact e2), if_pos (by decide), A3, rX10_goes_s, nI_1, he, b1, bV_s, nI_1, ← he]
      exact c1
theorem pg_nil : PG m z k [] := fun i q fl h p G L hi hq hfl => by
  obtain ⟨fl, rfl⟩ := sc (show 0 < fl by omega)
  have hi : i + 0 ≤ 80 := hi
  exact ⟨h, m_goes_end G hi (by omega) (Or.inl (Nat.le_refl _)), Fg.refl h m, G⟩
theorem LayR.nd {h : Hp} {i : Nat} {d : Nd} {r : Fo} (R : LayR h m i (fco d r)) : LayN h m i d ∧ LayR h m (i + nsz d) r := by
  cases d with
  | inl v =>
    refine ⟨R 0 (v.1, v.2.1, v.2.2.1, v.2.2.2, 0) rfl, fun j w hw => ?_⟩
    have := R (j + 1) w hw
    have e : i + nsz (.inl v) + j = i + (j + 1) := by show i + 1 + j = _; omega
    rw [e]
    exact this
  | inr v =>
    refine ⟨⟨R 0 (11, v.1, 0, 0, fsz v.2) rfl, fun j w hw => ?_⟩, fun j w hw => ?_⟩
    · have hj : j < v.2.length := (List.getElem?_eq_some_iff.mp hw).1
      have := R (j + 1) w (by
        show ((11, v.1, 0, 0, fsz v.2) :: (v.2 ++ r) : Fo)[j + 1]? = some w
        rw [List.getElem?_cons_succ, List.getElem?_append_left hj]
        exact hw)
      rw [show i + 1 + j = i + (j + 1) by omega]
      exact this
    · have := R (1 + v.2.length + j) w (by
        show ((11, v.1, 0, 0, fsz v.2) :: (v.2 ++ r) : Fo)[1 + v.2.length + j]? = some w
        rw [show 1 + v.2.length + j = (v.2.length + j) + 1 by omega, List.getElem?_cons_succ, List.getElem?_append_right (by omega), show v.2.length + j - v.2.length = j by omega]
        exact hw)
      have e : i + nsz (.inr v) + j = i + (1 + v.2.length + j) := by show i + (1 + v.2.length) + j = _; omega
      rw [e]
      exact this
theorem pg_st (v : Nat × Nat × Nat × Nat) (r : Fo) (ok : okS v.1 v.2.1 v.2.2.1 v.2.2.2) (P : PG m z k r) : PG m z k (fco (.inl v) r) := fun i q fl h p G L hi hq hfl => by
  have es : fsz (fco (.inl v) r) = 1 + fsz r := fsz_co _ _
  rw [es] at hi hq hfl ⊢
  have v10 := ok.1
  rw [run_st z v r (by omega)]
  by_cases e : 200 ≤ p.2.1
  · obtain ⟨fl, rfl⟩ := sc (show 0 < fl by omega)
    rw [if_pos e]
    exact ⟨h, m_goes_end G hi (by omega) (Or.inr e), Fg.refl h m, G⟩
  · rw [if_neg e]
    obtain ⟨L1, L2⟩ := L.nd
    have L1 : rwT h m i v.1 v.2 (i + 1) := L1
    have L2 : LayR h m (i + 1) r := L2
    obtain ⟨fl, rfl⟩ : ∃ g, fl = g + 1 + 1 := ⟨fl - 2, by omega⟩
    obtain ⟨h1, a1, a2, a3⟩ := m_goes_st (FX := rX10_goes q) (f := fl) G e (show i < i + (1 + fsz r) by omega) hi L1 ok
    obtain ⟨h', b1, b2, b3⟩ := P (i + 1) q fl h1 _ a3 (L2.fg (by omega) a2) (by omega) (by omega) (by omega)
    refine ⟨h', ?_, a2.trans b2, b3⟩
    rw [a1, ← b1, Nat.add_assoc]
theorem pg_ag (c : Nat) (b r : Fo) (hc : c ≤ 60) (B : PG m z k b) (P : PG m z k r) : PG m z k (fco (.inr (c, b)) r) := fun i q fl h p G L hi hq hfl => by
  have es : fsz (fco (.inr (c, b)) r) = 1 + fsz b + fsz r := fsz_co _ _
  rw [es] at hi hq hfl ⊢
  rw [run_ag]
  by_cases e : 200 ≤ p.2.1
  · obtain ⟨fl, rfl⟩ := sc (show 0 < fl by omega)
    rw [if_pos e]
    exact ⟨h, m_goes_end G hi (by omega) (Or.inr e), Fg.refl h m, G⟩
  · rw [if_neg e]
    obtain ⟨⟨L1, L3⟩, L2⟩ := L.nd
    have L1 : rwT h m i 11 (c, 0, 0) (i + 1 + fsz b) := L1
    have L2 : LayR h m (i + (1 + fsz b)) r := L2
    have L3 : LayR h m (i + 1) b := L3
    obtain ⟨fl, rfl⟩ : ∃ g, fl = g + 1 := ⟨fl - 1, by omega⟩
    obtain ⟨G1, G2, G3, G4, G5, G6, G7⟩ := id G
    let h1 : Hp := (h.1, upI h.2 m 31 (h.2 m 31 + 1))
    have f1 : Fg h h1 m := ⟨rfl, fun a q1 _ _ _ _ => upI_ne q1, fun j _ _ q3 _ => by show upI _ _ _ _ m j = _; rw [upI_at, if_neg q3]⟩
    have g1 : RG h1 m z k (beg1 p) := ⟨G1.eq rfl, G2.up (upI_ne (by omega)), by show upI _ _ _ _ m 11 = _; rw [upI_at, if_neg (by decide)]; exact G3, by show upI _ _ _ _ m 31 = nI (p.2.1 + 1); rw [upI_at, if_pos rfl, G4, nI_1], by show upI _ _ _ _ m 32 = _; rw [upI_at, if_neg (by decide)]; exact G5, by show upI _ _ _ _ m 15 = _; rw [upI_at, if_neg (by decide)]; exact G6, ig_b1 G7 e⟩
    have rr := G1.stp.2 i (by omega)
    have er : m + 37 + 1 + i = m + 38 + i := by omega
    rw [er] at rr
    obtain ⟨r1, r2, r3⟩ := rr
    obtain ⟨s1, s2, s3⟩ := G1.stp.1
    obtain ⟨h2, fl2, a1, a2, a3, a4⟩ := m_goes_43 (q := q) (to := i + (1 + fsz b + fsz r)) B (by omega) rfl (by omega) hc hi c 0 fl h1 (beg1 p) (by omega) (by omega) g1 (L1.fg (by omega) f1) (L3.fg (by omega) f1)
    have f2 := f1.trans a3
    obtain ⟨h', b1, b2, b3⟩ := P (i + 1 + fsz b) q fl2 h2 _ a4 (by rw [Nat.add_assoc]; exact L2.fg (by omega) f2) (by omega) (by omega) (by omega)
    refine ⟨h', ?_, f2.trans b2, b3⟩
    rw [zX10_goes_2]
    unfold kX10_goes_2
    rw [if_neg (by rw [nI_leI (by omega) (by omega)]; omega), if_pos G1.k, if_neg (by rw [G4, k200, nI_leI (by decide) (by have := G7.1; omega)]; exact e), s1, if_pos s2, s3, if_pos (inB_nI (by omega) (by decide)), nI_clamp (by omega), r1, if_pos r2, r3, if_pos (by decide), upI_ne (by omega), L1.1, if_neg (show ¬ ¬ nI 11 = 11 from fun q => q rfl)]
    show gX10_goes (rX10_goes q) fl 43 [.ref m, uV, .int (nI (i + (1 + fsz b + fsz r))), .int (nI i), .int (nI 0)] [] h1 = _
    rw [a1, ← b1, show i + (1 + fsz b + fsz r) = i + 1 + fsz b + fsz r by omega]
/-- the reference runs what it read -/
theorem m_goes {T : Nat → Nat} {n f q : Nat} {F : Fo} {h : Hp} {p : Rp} (e : pFo T n f 0 0 = .inl (F, q)) (hF : fsz F ≤ 37) (G : RG h m z k p) (L : LayR h m 0 F) : ∃ h', fX10_goes m 0 (nI (fsz F)) h = some (.inl none, h') ∧ Fg h h' m ∧ RG h' m z k (run z F p) := by
  have P : PG m z k F := pFo_ind (PG m z k) pg_nil pg_st pg_ag f 0 0 F q (Nat.zero_le _) e
  obtain ⟨h', a1, a2, a3⟩ := P 0 39 FF h p G L (by omega) (by omega) (show 64 * fsz F < 1000000 by omega)
  rw [Nat.zero_add] at a1
  refine ⟨h', ?_, a2, a3⟩
  show rX10_goes (39 + 1) m (nI 0) (nI (fsz F)) h = _
  rw [rX10_goes_s]
  exact a1
end MG
