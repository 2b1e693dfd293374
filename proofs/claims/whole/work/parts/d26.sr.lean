/-! ===== the reference begins to read; steps whose numbers are not used ===== -/
section SR
variable {h : Hp} {m n : Nat} {T : Nat → Nat}
theorem m_starts (M : MS h m) (hn : n ≤ 600) (ht : ∀ i, i < n → h.2 (m + 1) i = nI (T i)) (hT : ∀ i, i < n → T i < 256) : ∃ h', fX10_starts m (nI n) h = some (.inl none, h') ∧ h'.1 = h.1 ∧ (∀ a, a ≠ m → h'.2 a = h.2 a) ∧ (∀ j, j ≠ 1 → j ≠ 2 → j ≠ 4 → j ≠ 5 → j ≠ 6 → j ≠ 7 → j ≠ 8 → h'.2 m j = h.2 m j) ∧ RP h' m T n (bk T n 0) ∧ h'.2 m 1 = 0 ∧ h'.2 m 7 = nI 0 ∧ h'.2 m 8 = nI 0 := by
  have X : RP (h.1, upI (upI (upI (upI (upI (upI (upI h.2 m 1 0) m 2 (nI n)) m 4 0) m 5 0) m 6 (-1)) m 7 0) m 8 0) m T n 0 := by
    refine ⟨⟨M.eq rfl, ?_, hn, fun i hi => ?_, hT⟩, ?_, ?_, Nat.zero_le _⟩
    · show upI _ _ _ _ m 2 = _
      rw [upI_at, if_neg (by decide), upI_at, if_neg (by decide), upI_at, if_neg (by decide), upI_at, if_neg (by decide), upI_at, if_neg (by decide), upI_at, if_pos rfl]
    · show upI _ _ _ _ (m + 1) i = _
      rw [upI_ne (by omega), upI_ne (by omega), upI_ne (by omega), upI_ne (by omega), upI_ne (by omega), upI_ne (by omega), upI_ne (by omega)]
      exact ht i hi
    · show upI _ _ _ _ m 4 = _
      rw [upI_at, if_neg (by decide), upI_at, if_neg (by decide), upI_at, if_neg (by decide), upI_at, if_neg (by decide), upI_at, if_pos rfl]
      rfl
    · show upI _ _ _ _ m 5 = _
      rw [upI_at, if_neg (by decide), upI_at, if_neg (by decide), upI_at, if_neg (by decide), upI_at, if_pos rfl]
  obtain ⟨h', a1, a2, a3⟩ := m_blanks X
  refine ⟨h', ?_, a2.1, fun a q => ?_, fun j q1 q2 q4 q5 q6 q7 q8 => ?_, a3, ?_, ?_, ?_⟩
  · unfold fX10_starts kX10_starts_0
    rw [if_pos M.k, a1, bV_s]
  · rw [a2.2.1 a q]
    show upI _ _ _ _ a = _
    rw [upI_ne q, upI_ne q, upI_ne q, upI_ne q, upI_ne q, upI_ne q, upI_ne q]
  · rw [a2.2.2 j q4 q5 q6]
    show upI _ _ _ _ m j = _
    rw [upI_at, if_neg q8, upI_at, if_neg q7, upI_at, if_neg q6, upI_at, if_neg q5, upI_at, if_neg q4, upI_at, if_neg q2, upI_at, if_neg q1]
  · rw [a2.2.2 1 (by decide) (by decide) (by decide)]
    show upI _ _ _ _ m 1 = _
    rw [upI_at, if_neg (by decide), upI_at, if_neg (by decide), upI_at, if_neg (by decide), upI_at, if_neg (by decide), upI_at, if_neg (by decide), upI_at, if_neg (by decide), upI_at, if_pos rfl]
  · rw [a2.2.2 7 (by decide) (by decide) (by decide)]
    show upI _ _ _ _ m 7 = _
    rw [upI_at, if_neg (by decide), upI_at, if_pos rfl]
    rfl
  · rw [a2.2.2 8 (by decide) (by decide) (by decide)]
    show upI _ _ _ _ m 8 = _
    rw [upI_at, if_pos rfl]
    rfl
end SR
/-- numbers that a kind of step does not use -/
theorem sDo_u {S : St} {z k a b c : Nat} (hk : k ≤ 10) : sDo S z k a b c = sDo S z k (if k < 8 then a else 0) (if k < 5 ∨ k = 6 then b else 0) (if k = 2 ∨ k = 4 then c else 0) := by
  have hx : k = 0 ∨ k = 1 ∨ k = 2 ∨ k = 3 ∨ k = 4 ∨ k = 5 ∨ k = 6 ∨ k = 7 ∨ k = 8 ∨ k = 9 ∨ k = 10 := by omega
  rcases hx with rfl | rfl | rfl | rfl | rfl | rfl | rfl | rfl | rfl | rfl | rfl <;> rfl
