/-! ===== numbers, by the reference ===== -/
section TX3
variable {h h' : Hp} {m n p : Nat} {T : Nat → Nat}
theorem m_num_end (X : RP h m T n p) {lo hi b v : Nat} (hlo : lo < 2 ^ 20) (hhi : hi ≤ 99) : ∃ h', ((bI (fX10_in (nI (if v ≤ 100000 then v else 100000)) (nI lo) (nI hi) h) fun z10 h9 => (if ¬ z10 = 0 then (if kH h9 m = 18 then (if ¬ (h9.2 m 5) = 0 then (some (.inl (some (.int 0)), h9)) else (some (.inl (some (.int (nI (if v ≤ 100000 then v else 100000)))), h9))) else none) else (if kH h9 m = 18 then (bV (fX10_wrong m 2 (nI b) h9) fun h15 => (if kH h15 m = 18 then (if ¬ (h15.2 m 5) = 0 then (some (.inl (some (.int 0)), h15)) else (some (.inl (some (.int (nI (if v ≤ 100000 then v else 100000)))), h15))) else none)) else none))) : RS) =
      some (.inl (some (.int (if lo ≤ v ∧ v ≤ hi then nI v else 0))), h') ∧ Frx h h' m ∧ (if lo ≤ v ∧ v ≤ hi then RP h' m T n p else RE h' m (2, b)) := by
  rw [m_in, bI_s]
  have hv : (nI lo ≤ nI (if v ≤ 100000 then v else 100000) ∧ nI (if v ≤ 100000 then v else 100000) ≤ nI hi) ↔ (lo ≤ v ∧ v ≤ hi) := by
    by_cases q : v ≤ 100000
    · rw [if_pos q, nI_leI (by omega) (by omega), nI_leI (by omega) (by omega)]
    · rw [if_neg q, nI_leI (by omega) (by omega), nI_leI (by omega) (by omega)]; omega
  by_cases e : lo ≤ v ∧ v ≤ hi
  · rw [decide_eq_true (hv.mpr e), b2i_t, if_pos (show ¬ (1 : Int32) = 0 by decide), if_pos X.k, if_neg (fun q => q X.2.2.1), if_pos e]
    refine ⟨h, ?_, Frx.refl h m, by rw [if_pos e]; exact X⟩
    rw [if_pos (show v ≤ 100000 by omega)]
  · obtain ⟨h2, c1, c2, c3, c4⟩ := m_wrong (e := (2, b)) X (show (1 : Nat) ≤ 2 ∧ 2 ≤ 3 by decide)
    have c1 : fX10_wrong m 2 (nI b) h = _ := c1
    have k2' : kH h2 m = 18 := (kh_eq c2.1 m).trans X.k
    rw [decide_eq_false (fun q => e (hv.mp q)), b2i_f, if_neg (show ¬ ¬ (0 : Int32) = 0 by decide), if_pos X.k, c1, bV_s, if_pos k2', if_pos c3.nz, if_neg e]
    exact ⟨h2, rfl, c2, by rw [if_neg e]; exact c3⟩
theorem m_num_go {lo hi b : Nat} (hlo : lo < 2 ^ 20) (hhi : hi ≤ 99) : ∀ (c p v f : Nat) (h : Hp), n - p ≤ c → c < f → RP h m T n p → ∃ h', gX10_number f 44 [.ref m, .int (nI lo), .int (nI hi), .int (nI b), .int (nI (if v ≤ 100000 then v else 100000))] [] h =
      some (.inl (some (.int (if lo ≤ (dgs T n c p v).1 ∧ (dgs T n c p v).1 ≤ hi then nI (dgs T n c p v).1 else 0))), h') ∧ Frx h h' m ∧ (if lo ≤ (dgs T n c p v).1 ∧ (dgs T n c p v).1 ≤ hi then RP h' m T n (dgs T n c p v).2 else RE h' m (2, b)) := by
  intro c
  induction c with
  | zero =>
    intro p v f h hp hf X
    obtain ⟨f, rfl⟩ := sc hf
    have hpn := X.2.2.2
    have := X.1.2.2.1
    have hd : dgB T n p = false := decide_eq_false (by omega)
    rw [zX10_number_44]
    unfold kX10_number_44
    rw [if_pos X.k, X.2.1, m_byteAt X.1 (by omega), bI_s, m_isDigit X.1, bI_s, hd, if_pos (show b2i false = 0 by decide)]
    exact m_num_end X hlo hhi
  | succ c ih =>
    intro p v f h hp hf X
    obtain ⟨f, rfl⟩ := sc hf
    have hpn := X.2.2.2
    have hn := X.1.2.2.1
    unfold dgs
    cases hd : dgB T n p with
    | false =>
      rw [if_neg (show ¬ false = true by decide)]
      rw [zX10_number_44]
      unfold kX10_number_44
      rw [if_pos X.k, X.2.1, m_byteAt X.1 (by omega), bI_s, m_isDigit X.1, bI_s, hd, if_pos (show b2i false = 0 by decide)]
      exact m_num_end X hlo hhi
    | true =>
      have hdd := of_decide_eq_true hd
      have ht := X.1.2.2.2.2 p hdd.1
      rw [if_pos rfl]
      obtain ⟨h', i1, i2, i3⟩ := ih (p + 1) (10 * v + (T p - 48)) f _ (by omega) (by omega) (X.to (q := p + 1) (by omega))
      refine ⟨h', ?_, (fr_4 h m _).trans i2, i3⟩
      rw [← i1, zX10_number_44]
      unfold kX10_number_44
      have eB : byN T n p = nI (T p) := by unfold byN; rw [if_pos hdd.1]
      have eV : 10 * nI (if v ≤ 100000 then v else 100000) + nI (T p) - 48 = nI (10 * (if v ≤ 100000 then v else 100000) + (T p - 48)) := by
        rw [show (10 : Int32) = nI 10 from rfl, show (48 : Int32) = nI 48 from rfl, pk_mul, nI_add, pk_sub (by omega), show 10 * (if v ≤ 100000 then v else 100000) + T p - 48 = 10 * (if v ≤ 100000 then v else 100000) + (T p - 48) by omega]
      rw [if_pos X.k, X.2.1, m_byteAt X.1 (by omega), bI_s, m_isDigit X.1, bI_s, hd, if_neg (show ¬ b2i true = 0 by decide), if_pos X.k, X.2.1, m_byteAt X.1 (by omega), bI_s, eB, eV, if_pos X.k, X.2.1, nI_1]
      by_cases q : v ≤ 100000
      · rw [if_pos q]
        by_cases q2 : 10 * v + (T p - 48) ≤ 100000
        · rw [if_pos (by rw [show (100000 : Int32) = nI 100000 from rfl, nI_leI (by omega) (by decide)]; exact q2), if_pos q2]
        · rw [if_neg (by rw [show (100000 : Int32) = nI 100000 from rfl, nI_leI (by omega) (by decide)]; exact q2), if_neg q2, if_pos X.k]
          rfl
      · rw [if_neg q, if_neg (by rw [show (100000 : Int32) = nI 100000 from rfl, nI_leI (by omega) (by decide)]; omega), if_neg (show ¬ 10 * v + (T p - 48) ≤ 100000 by omega), if_pos X.k]
        rfl
theorem m_number (X : RP h m T n p) {lo hi : Nat} (hlo : lo < 2 ^ 20) (hhi : hi ≤ 99) : ∃ z h', fX10_number m (nI lo) (nI hi) h = some (.inl (some (.int z)), h') ∧ Frx h h' m ∧ match pNum T n lo hi p with
    | .inl q => z = nI q.1 ∧ RP h' m T n q.2
    | .inr e => z = 0 ∧ RE h' m e := by
  obtain ⟨h1, a1, a2, a3⟩ := m_blanks X
  have hn := X.1.2.2.1
  obtain ⟨b1, b2⟩ := bk_le (T := T) X.2.2.2
  unfold fX10_number kX10_number_0 pNum
  rw [if_pos X.k, if_pos X.2.2.1, a1, bV_s, if_pos a3.k, a3.2.1, m_byteAt a3.1 (by omega), bI_s, m_isDigit a3.1, bI_s]
  cases hd : dgB T n (bk T n p) with
  | true =>
    obtain ⟨h2, c1, c2, c3⟩ := m_num_go (b := bk T n p) hlo hhi (n - bk T n p) (bk T n p) 0 FF h1 (Nat.le_refl _) (by show _ < 1000000; omega) a3
    rw [if_pos (Nat.zero_le _), show nI 0 = (0 : Int32) from rfl] at c1
    rw [if_pos (by decide), c1, if_pos rfl]
    refine ⟨_, h2, rfl, a2.trans c2, ?_⟩
    by_cases e : lo ≤ (dgs T n (n - bk T n p) (bk T n p) 0).1 ∧ (dgs T n (n - bk T n p) (bk T n p) 0).1 ≤ hi
    · rw [if_pos e] at c3
      rw [if_pos e, if_pos e]
      exact ⟨rfl, c3⟩
    · rw [if_neg e] at c3
      rw [if_neg e, if_neg e]
      exact ⟨rfl, c3⟩
  | false =>
    obtain ⟨h2, c1, c2, c3, c4⟩ := m_wrong (e := (1, bk T n p)) a3 (show (1 : Nat) ≤ 1 ∧ 1 ≤ 3 by decide)
    have c1 : fX10_wrong m 1 (nI (bk T n p)) h1 = _ := c1
    have X2 : RX h2 m T n := a3.1.fr c2
    -- no digit: the number is 0, and nothing else is told
    have fin : gX10_number FF 44 [.ref m, .int (nI lo), .int (nI hi), .int (nI (bk T n p)), .int 0] [] h2 = some (.inl (some (.int 0)), h2) := by
      have e4 : h2.2 m 4 = nI (bk T n p) := c4
      rw [show FF = 999999 + 1 from rfl, zX10_number_44]
      unfold kX10_number_44
      rw [if_pos X2.1.k, e4, m_byteAt X2 (by omega), bI_s, m_isDigit X2, bI_s, hd, if_pos (by decide), m_in, bI_s]
      by_cases e : nI lo ≤ 0 ∧ (0 : Int32) ≤ nI hi
      · rw [decide_eq_true e, b2i_t, if_pos (show ¬ (1 : Int32) = 0 by decide), if_pos X2.1.k, if_pos c3.nz]
      · rw [decide_eq_false e, b2i_f, if_neg (show ¬ ¬ (0 : Int32) = 0 by decide), if_pos X2.1.k, c3.wrong X2.1.k, bV_s, if_pos X2.1.k, if_pos c3.nz]
    rw [if_neg (by decide), if_pos a3.k, a3.2.1, c1, bV_s, fin, if_neg (by decide)]
    exact ⟨0, h2, rfl, a2.trans c2, rfl, c3⟩
end TX3
