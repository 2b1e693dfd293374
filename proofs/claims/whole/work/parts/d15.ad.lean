/-! ===== how far a step goes; the reference reads a step ===== -/
theorem wd_len : ∀ w : Fin 13, 3 ≤ (Wd.getD w.1 []).length ∧ (w.1 = 11 → 5 ≤ (Wd.getD w.1 []).length) := by decide +kernel
section AD
variable {T : Nat → Nat} {n d p : Nat}
theorem hdW_adv (hp : p ≤ n) {k q : Nat} (h : hdW T n d p = .inl (k, q)) : p + 3 ≤ q ∧ q ≤ n ∧ k ≤ 11 ∧ (k = 11 → p + 5 ≤ q ∧ d ≠ 6) ∧ q = p + (lts T n p).length ∧ kwr (lts T n p) = nI k ∧ ∃ w, kwd (lts T n p) = some w ∧ rop w = k := by
  unfold hdW at h
  have hl : p + (lts T n p).length ≤ n := ltr_len (n - p) p hp
  cases e : kwd (lts T n p) with
  | none => rw [e] at h; cases h
  | some w =>
    rw [e] at h
    obtain ⟨w1, w2⟩ := kwd_lt e
    obtain ⟨w3, w4⟩ := wd_len ⟨w, w1⟩
    obtain ⟨r1, r2, r3⟩ := rop_tab ⟨w, w1⟩
    have w3 : 3 ≤ (Wd.getD w []).length := w3
    have w4 : w = 11 → 5 ≤ (Wd.getD w []).length := w4
    have r1 : rop w ≤ 12 := r1
    have r2 : rop w = 11 ↔ w = 11 := r2
    have r3 : rop w = 12 ↔ w = 12 := r3
    rw [← w2] at w3 w4
    by_cases e12 : w = 12
    · simp only [e12, if_true] at h
      cases h
    · simp only [e12, if_false] at h
      by_cases e6 : w = 11 ∧ d = 6
      · simp only [e6, and_self, if_true] at h
        cases h
      · simp only [e6, if_false] at h
        injection h with h
        injection h with h1 h2
        refine ⟨by omega, by omega, by omega, fun q => ⟨?_, fun q6 => e6 ⟨r2.mp (by omega), q6⟩⟩, h2.symm, ?_, w, rfl, h1⟩
        · have := w4 (r2.mp (by omega))
          omega
        · unfold kwr
          rw [e]
          show (if w = 12 then (-1 : Int32) else nI (rop w)) = nI k
          rw [if_neg e12, h1]
theorem hdW_er {e : Ft} (h : hdW T n d p = .inr e) : e.2 = p ∧ ((e.1 = 1 ∧ kwr (lts T n p) = -1) ∨ (e.1 = 3 ∧ kwr (lts T n p) = nI 11 ∧ d = 6)) := by
  unfold hdW at h
  unfold kwr
  cases e0 : kwd (lts T n p) with
  | none =>
    rw [e0] at h
    injection h with h
    rw [← h]
    exact ⟨rfl, Or.inl ⟨rfl, rfl⟩⟩
  | some w =>
    rw [e0] at h
    by_cases e12 : w = 12
    · simp only [e12, if_true] at h ⊢
      injection h with h
      rw [← h]
      exact ⟨rfl, Or.inl ⟨rfl, trivial⟩⟩
    · simp only [e12, if_false] at h ⊢
      by_cases e6 : w = 11 ∧ d = 6
      · simp only [e6, and_self, if_true] at h
        injection h with h
        rw [← h, e6.1]
        exact ⟨rfl, Or.inr ⟨rfl, rfl, e6.2⟩⟩
      · simp only [e6, if_false] at h
        cases h
theorem pS_adv {lo hi q : Nat} {s : Rd} (hs : ∀ p, s = .inl p → p ≤ n) (h : (pS T n lo hi s).2 = .inl q) : ∃ p, s = .inl p ∧ p < q ∧ q ≤ n ∧ lo ≤ (pS T n lo hi s).1 ∧ (pS T n lo hi s).1 ≤ hi := by
  cases s with
  | inr e => cases h
  | inl p =>
    cases e : pNum T n lo hi p with
    | inl v =>
      rw [pS_i e] at h ⊢
      injection h with h
      have := pNum_ok (q := v.2) (v := v.1) (hs p rfl) e
      exact ⟨p, rfl, by omega, by omega, this.1.1, this.1.2⟩
    | inr e' =>
      rw [pS_e e] at h
      cases h
theorem gS_adv {c q : Nat} {s : Rd} (hs : ∀ p, s = .inl p → p ≤ n) (h : gS T n c s = .inl q) : ∃ p, s = .inl p ∧ p < q ∧ q ≤ n := by
  cases s with
  | inr e => cases h
  | inl p =>
    have := pSig_ok (hs p rfl) (show pSig T n c p = .inl q from h)
    exact ⟨p, rfl, this⟩
theorem pS_le {lo hi : Nat} {s : Rd} (hs : ∀ p, s = .inl p → p ≤ n) : ∀ q, (pS T n lo hi s).2 = .inl q → q ≤ n := fun q h => by
  obtain ⟨p, h1, h2, h3, -⟩ := pS_adv hs h
  exact h3
theorem nums_adv {k q : Nat} {s : Rd} (hs : ∀ p, s = .inl p → p ≤ n) (h : (nums T n k s).2 = .inl q) : ∃ p, s = .inl p ∧ p ≤ q ∧ q ≤ n := by
  unfold nums at h
  have t1 : ∀ lo hi, ∀ q, (pS T n lo hi s).2 = .inl q → q ≤ n := fun lo hi => pS_le hs
  have t2 : ∀ lo hi lo2 hi2, ∀ q, (pS T n lo2 hi2 (pS T n lo hi s).2).2 = .inl q → q ≤ n := fun lo hi lo2 hi2 => pS_le (t1 lo hi)
  have one : ∀ lo hi q, (pS T n lo hi s).2 = .inl q → ∃ p, s = .inl p ∧ p ≤ q ∧ q ≤ n := fun lo hi q e => by
    obtain ⟨p, a1, a2, a3, -⟩ := pS_adv hs e
    exact ⟨p, a1, by omega, a3⟩
  have two : ∀ lo hi lo2 hi2 q, (pS T n lo2 hi2 (pS T n lo hi s).2).2 = .inl q → ∃ p, s = .inl p ∧ p ≤ q ∧ q ≤ n := fun lo hi lo2 hi2 q e => by
    obtain ⟨p, a1, a2, a3, -⟩ := pS_adv (t1 lo hi) e
    obtain ⟨p0, b1, b2, b3⟩ := one lo hi p a1
    exact ⟨p0, b1, by omega, a3⟩
  have thr3 : ∀ lo hi lo2 hi2 lo3 hi3 q, (pS T n lo3 hi3 (pS T n lo2 hi2 (pS T n lo hi s).2).2).2 = .inl q → ∃ p, s = .inl p ∧ p ≤ q ∧ q ≤ n := fun lo hi lo2 hi2 lo3 hi3 q e => by
    obtain ⟨p, a1, a2, a3, -⟩ := pS_adv (t2 lo hi lo2 hi2) e
    obtain ⟨p0, b1, b2, b3⟩ := two lo hi lo2 hi2 p a1
    exact ⟨p0, b1, by omega, a3⟩
  split at h
  · split at h
    · exact thr3 _ _ _ _ _ _ _ h
    · exact two _ _ _ _ _ h
  · split at h
    · exact two _ _ _ _ _ h
    · split at h
      · exact thr3 _ _ _ _ _ _ _ h
      · split at h
        · exact one _ _ _ h
        · split at h
          · exact one _ _ _ h
          · split at h
            · exact one _ _ _ h
            · exact ⟨q, h, Nat.le_refl _, hs q h⟩
theorem pOne_adv {B : Nat → (Fo × Nat) ⊕ Ft} (hB : ∀ p F q, p ≤ n → B p = .inl (F, q) → p + 4 * fsz F ≤ q ∧ q < n) (hp : p ≤ n) {x : Nd} {q : Nat} (h : pOne T n d B p = .inl (x, q)) : p + 4 * nsz x ≤ q ∧ q ≤ n := by
  unfold pOne at h
  cases e : hdW T n d p with
  | inr e' => rw [e] at h; cases h
  | inl v =>
    obtain ⟨k, q1⟩ := v
    rw [e] at h
    obtain ⟨a1, a2, a3, a4, -⟩ := hdW_adv hp e
    have hs1 : ∀ p, (Sum.inl q1 : Rd) = .inl p → p ≤ n := fun p hp => by injection hp with hp; omega
    simp only at h
    by_cases e11 : k = 11
    · rw [if_pos e11] at h
      cases e2 : gS T n 91 (pS T n 0 60 (.inl q1)).2 with
      | inr e' => rw [e2] at h; cases h
      | inl q2 =>
        rw [e2] at h
        simp only at h
        obtain ⟨p1, b1, b2, b3⟩ := gS_adv (pS_le hs1) e2
        obtain ⟨p0, c1, c2, c3, -⟩ := pS_adv hs1 b1
        injection c1 with c1
        cases e3 : B q2 with
        | inr e' => rw [e3] at h; cases h
        | inl v3 =>
          obtain ⟨F, q3⟩ := v3
          rw [e3] at h
          simp only at h
          obtain ⟨f1, f2⟩ := hB q2 F q3 b3 e3
          cases e4 : pSig T n 59 (q3 + 1) with
          | inr e' => rw [e4] at h; cases h
          | inl q4 =>
            rw [e4] at h
            simp only at h
            obtain ⟨g1, g2⟩ := pSig_ok (by omega) e4
            injection h with h
            injection h with h1 h2
            have := a4 e11
            rw [← h1]
            have e5 : nsz (.inr ((pS T n 0 60 (.inl q1)).1, F) : Nd) = 1 + fsz F := rfl
            rw [e5]
            omega
    · rw [if_neg e11] at h
      cases e2 : gS T n 59 (nums T n k (.inl q1)).2 with
      | inr e' => rw [e2] at h; cases h
      | inl q2 =>
        rw [e2] at h
        simp only at h
        obtain ⟨p1, b1, b2, b3⟩ := gS_adv (fun q hq => by obtain ⟨p0, c1, c2, c3⟩ := nums_adv hs1 hq; exact c3) e2
        obtain ⟨p0, c1, c2, c3⟩ := nums_adv hs1 b1
        injection c1 with c1
        injection h with h
        injection h with h1 h2
        rw [← h1]
        have e5 : nsz (.inl (k, (nums T n k (.inl q1)).1) : Nd) = 1 := rfl
        rw [e5]
        omega
theorem pFo_adv : ∀ (f d p : Nat) (F : Fo) (q : Nat), p ≤ n → pFo T n f d p = .inl (F, q) → p + 4 * fsz F ≤ q ∧ q ≤ n ∧ (0 < d → q < n ∧ T q = 93) := by
  intro f
  induction f with
  | zero => intro d p F q _ h; cases h
  | succ f ih =>
    intro d p F q hp h
    obtain ⟨b1, b2⟩ := bk_le (T := T) hp
    unfold pFo at h
    by_cases e0 : ovr T n d (bk T n p) = true
    · rw [if_pos e0] at h
      injection h with h
      injection h with h1 h2
      have e0 := of_decide_eq_true e0
      rw [← h1]
      have : fsz [] = 0 := rfl
      rw [this, ← h2]
      exact ⟨by omega, b2, fun hd => by rcases e0 with e0 | e0; omega; exact ⟨e0.2.1, e0.2.2⟩⟩
    · rw [if_neg e0] at h
      cases e1 : pOne T n d (pFo T n f (d + 1)) (bk T n p) with
      | inr e' => rw [e1] at h; cases h
      | inl v =>
        obtain ⟨x, q1⟩ := v
        rw [e1] at h
        simp only at h
        obtain ⟨a1, a2⟩ := pOne_adv (fun p F q hp hq => by obtain ⟨i1, i2, i3⟩ := ih (d + 1) p F q hp hq; exact ⟨i1, (i3 (by omega)).1⟩) b2 e1
        cases e2 : pFo T n f d q1 with
        | inr e' => rw [e2] at h; cases h
        | inl v2 =>
          obtain ⟨r, q2⟩ := v2
          rw [e2] at h
          simp only at h
          obtain ⟨i1, i2, i3⟩ := ih d q1 r q2 a2 e2
          injection h with h
          injection h with h1 h2
          rw [← h1, ← h2, fsz_co]
          exact ⟨by omega, i2, i3⟩
end AD
