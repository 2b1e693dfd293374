/-! ===== questions: the reference ===== -/
section G3
variable {h : Hp} {x m z k : Nat} {S : St} {a b c d : Int32}
theorem rq_told (Q : RQ h m S z) (hz : z ≤ 16) (a : Int32) : RefA (fX10_told m a h) h m (aTold S z (h.2 m 13) (h.2 m 15) a) := by
  obtain ⟨M0, -, -⟩ := id Q
  obtain ⟨M, R, Z⟩ := id Q.th0
  have hk : kH (th0 h m) m = 18 := M.k
  have e13 : (th0 h m).2 m 13 = h.2 m 13 := by show upI h.2 m 0 0 m 13 = _; rw [upI_at, if_neg (by decide)]
  have e15 : (th0 h m).2 m 15 = h.2 m 15 := by show upI h.2 m 0 0 m 15 = _; rw [upI_at, if_neg (by decide)]
  unfold fX10_told kX10_told_0 aTold
  rw [if_pos M0.k, m_in, bI_s]
  by_cases ha : 0 ≤ a ∧ a ≤ 9
  · rw [decide_eq_true ha, b2i_t, if_pos (show ¬ (1 : Int32) = 0 by decide), if_pos ha, show FF = 999999 + 1 from rfl, zX10_told_21]
    unfold kX10_told_21
    obtain ⟨n1, n2, n3⟩ := M.now
    obtain ⟨-, -, r3, r4, r5, r6, r7, r8, -⟩ := R.2.2.1
    have b0 : fX10_bad m 0 1 1 (th0 h m) = _ := m_bad0 M.k (th0_0 h m) 1 1
    have hr : rH (th0 h m) m 22 = m + 118 := n1
    have hk2 : kH (th0 h m) (m + 118) = 1 := n2
    have hl2 : lH (th0 h m) (m + 118) = 3398 := n3
    rw [if_pos hk, b0, bI_s, if_pos rfl, hk, hr, hk2, hl2]
    refine refA_i (h' := th0 h m) ?_ (scm_th0 h m) (th0_0 h m)
    by_cases q0 : a = 0
    · rw [if_pos q0, if_pos q0, if_pos rfl, Z]
    rw [if_neg q0, if_neg q0]
    by_cases q1 : a = 1
    · rw [if_pos q1, if_pos q1, if_pos rfl, if_pos rfl, if_pos (by decide), r3]
    rw [if_neg q1, if_neg q1]
    by_cases q2 : a = 2
    · rw [if_pos q2, if_pos q2, if_pos rfl, if_pos rfl, if_pos (by decide), r4]
    rw [if_neg q2, if_neg q2]
    by_cases q3 : a = 3
    · rw [if_pos q3, if_pos q3, if_pos rfl, m_dirty R hk Z hz, bI_s]
    rw [if_neg q3, if_neg q3]
    by_cases q4 : a = 4
    · rw [if_pos q4, if_pos q4, if_pos rfl, if_pos rfl, if_pos (by decide), r6]
    rw [if_neg q4, if_neg q4]
    by_cases q5 : a = 5
    · rw [if_pos q5, if_pos q5, if_pos rfl, if_pos rfl, if_pos (by decide), r7]
    rw [if_neg q5, if_neg q5]
    by_cases q6 : a = 6
    · rw [if_pos q6, if_pos q6, if_pos rfl, if_pos rfl, if_pos (by decide), r8]
    rw [if_neg q6, if_neg q6]
    by_cases q7 : a = 7
    · rw [if_pos q7, if_pos q7, if_pos rfl, e13]
    rw [if_neg q7, if_neg q7]
    by_cases q8 : a = 8
    · rw [if_pos q8, if_pos q8, if_pos rfl, e15]
    rw [if_neg q8, if_neg q8, if_pos rfl, if_pos rfl, if_pos (by decide), r5]
  · rw [decide_eq_false ha, b2i_f, if_neg (show ¬ ¬ (0 : Int32) = 0 by decide), if_neg ha, show FF = 999999 + 1 from rfl, zX10_told_21]
    unfold kX10_told_21
    have b1 : fX10_bad m 1 1 1 (th0 h m) = _ := m_badT M0 (w := 1) (by decide) (i := 1) (by decide)
    rw [if_pos hk, b1, bI_s, if_neg (by decide)]
    rfl
theorem rq_peek (Q : RQ h m S z) (hz1 : 6 ≤ z) (hz2 : z ≤ 16) (b i w : Int32) : RefA (fX10_peek m b i w h) h m (aPeek S z b i w) := by
  obtain ⟨M0, -, -⟩ := id Q
  obtain ⟨M, R, Z⟩ := id Q.th0
  have hk : kH (th0 h m) m = 18 := M.k
  obtain ⟨n1, n2, n3⟩ := M.now
  unfold fX10_peek kX10_peek_0 aPeek
  rw [if_pos M0.k, m_isWhere, bI_s]
  by_cases hw : 0 ≤ w ∧ w ≤ nI 1
  · rw [decide_eq_true hw, b2i_t, if_pos (show ¬ (1 : Int32) = 0 by decide), if_pos hw, show FF = 999999 + 1 from rfl, zX10_peek_18]
    unfold kX10_peek_18
    have b0 : fX10_bad m 0 1 1 (th0 h m) = _ := m_bad0 M.k (th0_0 h m) 1 1
    have b2 : fX10_bad m 0 2 3 (th0 h m) = _ := m_bad0 M.k (th0_0 h m) 2 3
    have b1 : fX10_bad m 1 2 3 (th0 h m) = _ := m_badT M0 (w := 2) (by decide) (i := 3) (by decide)
    rw [if_pos hk, b0, bI_s, if_neg (show ¬ ¬ (0 : Int32) = 0 by decide), if_pos hk, m_isBlock hk Z (by omega), bI_s]
    by_cases hb : 0 ≤ b ∧ b < nI z
    · rw [decide_eq_true hb, b2i_t, if_neg (show ¬ (1 : Int32) = 0 by decide), m_in, bI_s]
      by_cases hi : 0 ≤ i ∧ i < nI 16
      · have hi' : 0 ≤ i ∧ i ≤ 15 := ⟨hi.1, by have := (le_sub1 (n := 16) (by decide) hi.1).mpr hi.2; exact this⟩
        rw [decide_eq_true hi', b2i_t, if_pos (show ¬ (1 : Int32) = 0 by decide), if_pos hk, b2, bI_s, if_pos rfl, if_pos hk, if_pos ⟨hb, hi⟩]
        obtain ⟨w, w1, rfl⟩ := rg_of (by decide) hw
        obtain ⟨b, c1, rfl⟩ := rl_of (by omega) hb
        obtain ⟨i, i1, rfl⟩ := rl_of (by decide) hi
        have hidx : nI (256 * w) + 16 * nI b + nI i = nI (256 * w + (16 * b + i)) := by
          rw [show (16 : Int32) = nI 16 from rfl, pk_mul, nI_add, nI_add, Nat.add_assoc]
        rw [m_whereOf w1, bI_s, n1, n2, if_pos rfl, n3, hidx, if_pos (inB_nI (by omega) (by decide)), nI_clamp (by omega), R.sdx w1 (by omega), tn_n (by omega), tn_n (by omega), tn_n (by omega)]
        exact refA_i rfl (scm_th0 h m) (th0_0 h m)
      · have hi' : ¬ (0 ≤ i ∧ i ≤ 15) := fun q => hi ⟨q.1, (le_sub1 (n := 16) (by decide) q.1).mp q.2⟩
        rw [decide_eq_false hi', b2i_f, if_neg (show ¬ ¬ (0 : Int32) = 0 by decide), if_pos hk, b1, bI_s, if_neg (by decide), if_neg (fun q => hi q.2)]
        rfl
    · rw [decide_eq_false hb, b2i_f, if_pos rfl, if_pos hk, b1, bI_s, if_neg (by decide), if_neg (fun q => hb q.1)]
      rfl
  · rw [decide_eq_false hw, b2i_f, if_neg (show ¬ ¬ (0 : Int32) = 0 by decide), if_neg hw, show FF = 999999 + 1 from rfl, zX10_peek_18]
    unfold kX10_peek_18
    have b1 : fX10_bad m 1 1 1 (th0 h m) = _ := m_badT M0 (w := 1) (by decide) (i := 1) (by decide)
    rw [if_pos hk, b1, bI_s, if_pos (by decide)]
    rfl
theorem m_used_go (M : MS h m) (R : Row h (m + 118) S) (Z : h.2 m 11 = nI z) (hz2 : z ≤ 16) {w : Nat} (hw : w ≤ 1) : ∀ (c b q : Nat), b + c = z → c < q →
    gX10_used q 32 [.ref m, .int (nI w), .int (nI (usdN (sd S w) b)), .int (nI b)] [] h = some (.inl (some (.int (nI (usdN (sd S w) z)))), h) := by
  obtain ⟨n1, n2, n3⟩ := M.now
  intro c
  induction c with
  | zero =>
    intro b q hb hq
    obtain ⟨q, rfl⟩ := sc hq
    rw [zX10_used_32]
    unfold kX10_used_32
    rw [if_pos M.k, Z, if_pos (by rw [nI_leI (by omega) (by omega)]; omega), show b = z by omega]
  | succ c ih =>
    intro b q hb hq
    obtain ⟨q, rfl⟩ := sc hq
    have ih := ih (b + 1) q (by omega) (by omega)
    have hlt : usdN (sd S w) b < 2 ^ 16 := Nat.lt_of_lt_of_le (bitsOf_lt _ b) (Nat.pow_le_pow_right (by decide) (by omega))
    have hp : 2 ^ b < 2 ^ 31 := p2lt (by omega)
    have hd : usdN (sd S w) (b + 1) = usdN (sd S w) b ||| (if !(sd S w b == 0) then 2 ^ b else 0) := rfl
    have hv := bd_sd R.bd w b
    rw [zX10_used_32]
    unfold kX10_used_32
    rw [if_pos M.k, Z, if_neg (by rw [nI_leI (by omega) (by omega)]; omega), m_whereOf hw, bI_s, n1, n2, if_pos rfl, n3, nI_add, if_pos (inB_nI (by omega) (by decide)), nI_clamp (by omega), R.sdx hw (by omega), nI_1]
    by_cases e : sd S w b = 0
    · rw [if_pos (by rw [e]; rfl), or_z]
      rw [hd, e] at ih
      simp only [beq_self_eq_true, Bool.not_true, Bool.false_eq_true, if_false, Nat.or_zero] at ih
      exact ih
    · rw [if_neg (by rw [nI_eq0 (by omega)]; exact e), k1, one_shl (by omega), or_nI31 (by omega) hp]
      have e2 : (!(sd S w b == 0)) = true := by simpa using e
      rw [hd, e2, if_pos rfl] at ih
      exact ih
theorem rq_used (Q : RQ h m S z) (hz2 : z ≤ 16) (w : Int32) : RefA (fX10_used m w h) h m (aUsed S z w) := by
  obtain ⟨M0, -, -⟩ := id Q
  obtain ⟨M, R, Z⟩ := id Q.th0
  have hk : kH (th0 h m) m = 18 := M.k
  unfold fX10_used kX10_used_0 aUsed
  rw [if_pos M0.k, m_isWhere, bI_s]
  by_cases hw : 0 ≤ w ∧ w ≤ nI 1
  · have b0 : fX10_bad m 0 1 1 (th0 h m) = _ := m_bad0 M.k (th0_0 h m) 1 1
    rw [decide_eq_true hw, b2i_t, if_pos (show ¬ (1 : Int32) = 0 by decide), if_pos hw, if_pos hk, b0, bI_s, if_pos rfl]
    obtain ⟨w, w1, rfl⟩ := rg_of (by decide) hw
    rw [tn_n (by omega)]
    exact refA_i (m_used_go M R Z hz2 w1 z 0 FF (by omega) (by show _ < 1000000; omega)) (scm_th0 h m) (th0_0 h m)
  · have b1 : fX10_bad m 1 1 1 (th0 h m) = _ := m_badT M0 (w := 1) (by decide) (i := 1) (by decide)
    rw [decide_eq_false hw, b2i_f, if_neg (show ¬ ¬ (0 : Int32) = 0 by decide), if_neg hw, if_pos hk, b1, bI_s, if_neg (by decide)]
    rfl
theorem rq_leaks (Q : RQ h m S z) (I : Inv S z k) (w : Int32) : RefA (fX10_leaks m w h) h m (aLeaks S z w) := by
  obtain ⟨hz1, hz2⟩ := I.1
  obtain ⟨M0, -, -⟩ := id Q
  obtain ⟨M, R, Z⟩ := id Q.th0
  have hk : kH (th0 h m) m = 18 := M.k
  obtain ⟨n1, n2, n3⟩ := M.now
  unfold fX10_leaks kX10_leaks_0 aLeaks
  rw [if_pos M0.k, m_isWhere, bI_s]
  by_cases hw : 0 ≤ w ∧ w ≤ nI 1
  · have b0 : fX10_bad m 0 1 1 (th0 h m) = _ := m_bad0 M.k (th0_0 h m) 1 1
    rw [decide_eq_true hw, b2i_t, if_pos (show ¬ (1 : Int32) = 0 by decide), if_pos hw, if_pos hk, b0, bI_s, if_pos rfl, if_pos hk]
    obtain ⟨w, w1, rfl⟩ := rg_of (by decide) hw
    rw [tn_n (by omega), m_whereOf w1, bI_s, if_pos hk, n1, q_leaking (R.rb w1) (sd_wf I w) hk Z hz1 hz2, bI_s]
    exact refA_i rfl (scm_th0 h m) (th0_0 h m)
  · have b1 : fX10_bad m 1 1 1 (th0 h m) = _ := m_badT M0 (w := 1) (by decide) (i := 1) (by decide)
    rw [decide_eq_false hw, b2i_f, if_neg (show ¬ ¬ (0 : Int32) = 0 by decide), if_neg hw, if_pos hk, b1, bI_s, if_neg (by decide)]
    rfl
theorem rq_lost (Q : RQ h m S z) (I : Inv S z k) (w : Int32) : RefA (fX10_lost m w h) h m (aLost S w) := by
  obtain ⟨hz1, hz2⟩ := I.1
  obtain ⟨M0, -, -⟩ := id Q
  obtain ⟨M, R, Z⟩ := id Q.th0
  have hk : kH (th0 h m) m = 18 := M.k
  obtain ⟨n1, n2, n3⟩ := M.now
  unfold fX10_lost kX10_lost_0 aLost
  rw [if_pos M0.k, m_isWhere, bI_s]
  by_cases hw : 0 ≤ w ∧ w ≤ nI 1
  · have b0 : fX10_bad m 0 1 1 (th0 h m) = _ := m_bad0 M.k (th0_0 h m) 1 1
    rw [decide_eq_true hw, b2i_t, if_pos (show ¬ (1 : Int32) = 0 by decide), if_pos hw, if_pos hk, b0, bI_s, if_pos rfl, if_pos hk]
    obtain ⟨w, w1, rfl⟩ := rg_of (by decide) hw
    rw [tn_n (by omega), m_whereOf w1, bI_s, n1, q_linked (R.rb w1), bI_s, if_pos hk, m_whereOf w1, bI_s, n1, q_reached (R.rb w1) (sd_wf I w), bI_s]
    exact refA_i rfl (scm_th0 h m) (th0_0 h m)
  · have b1 : fX10_bad m 1 1 1 (th0 h m) = _ := m_badT M0 (w := 1) (by decide) (i := 1) (by decide)
    rw [decide_eq_false hw, b2i_f, if_neg (show ¬ ¬ (0 : Int32) = 0 by decide), if_neg hw, if_pos hk, b1, bI_s, if_neg (by decide)]
    rfl
theorem rq_broken (Q : RQ h m S z) (I : Inv S z k) (w : Int32) : RefA (fX10_broken m w h) h m (aBroken S w) := by
  obtain ⟨hz1, hz2⟩ := I.1
  obtain ⟨M0, -, -⟩ := id Q
  obtain ⟨M, R, Z⟩ := id Q.th0
  have hk : kH (th0 h m) m = 18 := M.k
  obtain ⟨n1, n2, n3⟩ := M.now
  unfold fX10_broken kX10_broken_0 aBroken
  rw [if_pos M0.k, m_isWhere, bI_s]
  by_cases hw : 0 ≤ w ∧ w ≤ nI 1
  · have b0 : fX10_bad m 0 1 1 (th0 h m) = _ := m_bad0 M.k (th0_0 h m) 1 1
    rw [decide_eq_true hw, b2i_t, if_pos (show ¬ (1 : Int32) = 0 by decide), if_pos hw, if_pos hk, b0, bI_s, if_pos rfl, if_pos hk]
    obtain ⟨w, w1, rfl⟩ := rg_of (by decide) hw
    rw [tn_n (by omega), m_whereOf w1, bI_s, if_pos hk, n1, q_broken (R.rb w1) (sd_wf I w), bI_s]
    exact refA_i rfl (scm_th0 h m) (th0_0 h m)
  · have b1 : fX10_bad m 1 1 1 (th0 h m) = _ := m_badT M0 (w := 1) (by decide) (i := 1) (by decide)
    rw [decide_eq_false hw, b2i_f, if_neg (show ¬ ¬ (0 : Int32) = 0 by decide), if_neg hw, if_pos hk, b1, bI_s, if_neg (by decide)]
    rfl
theorem rq_owner (Q : RQ h m S z) (hz1 : 6 ≤ z) (hz2 : z ≤ 16) (b w : Int32) : RefA (fX10_owner m b w h) h m (aOwner S z b w) := by
  obtain ⟨M0, -, -⟩ := id Q
  obtain ⟨M, R, Z⟩ := id Q.th0
  have hk : kH (th0 h m) m = 18 := M.k
  obtain ⟨n1, n2, n3⟩ := M.now
  unfold fX10_owner kX10_owner_0 aOwner
  rw [if_pos M0.k, m_isWhere, bI_s]
  by_cases hw : 0 ≤ w ∧ w ≤ nI 1
  · rw [decide_eq_true hw, b2i_t, if_pos (show ¬ (1 : Int32) = 0 by decide), if_pos hw, show FF = 999999 + 1 from rfl, zX10_owner_18]
    unfold kX10_owner_18
    have b0 : fX10_bad m 0 1 1 (th0 h m) = _ := m_bad0 M.k (th0_0 h m) 1 1
    have b2 : fX10_bad m 0 2 3 (th0 h m) = _ := m_bad0 M.k (th0_0 h m) 2 3
    have b1 : fX10_bad m 1 2 3 (th0 h m) = _ := m_badT M0 (w := 2) (by decide) (i := 3) (by decide)
    rw [if_pos hk, b0, bI_s, if_neg (show ¬ ¬ (0 : Int32) = 0 by decide), if_pos hk, m_isBlock hk Z (by omega), bI_s]
    by_cases hb : 0 ≤ b ∧ b < nI z
    · rw [decide_eq_true hb, b2i_t, if_pos (show ¬ (1 : Int32) = 0 by decide), if_pos hk, b2, bI_s, if_pos rfl, if_pos hb]
      obtain ⟨w, w1, rfl⟩ := rg_of (by decide) hw
      obtain ⟨b, c1, rfl⟩ := rl_of (by omega) hb
      rw [tn_n (by omega), tn_n (by omega)]
      by_cases e : b = 0
      · subst e
        rw [if_neg (show ¬ ¬ nI 0 = 0 by decide), if_pos rfl]
        exact refA_i rfl (scm_th0 h m) (th0_0 h m)
      · have hlk : lnkN (sd S w) < 2 ^ 31 := Nat.lt_of_lt_of_le (bitsOf_lt _ 12) (by decide)
        rw [if_pos (by rw [nI_eq0 (by omega)]; exact e), if_neg e, if_pos hk, m_whereOf w1, bI_s, if_pos hk, m_whereOf w1, bI_s, n1, q_linked (R.rb w1), bI_s, q_pointer (R.rb w1) hlk (by omega), bI_s]
        exact refA_i rfl (scm_th0 h m) (th0_0 h m)
    · rw [decide_eq_false hb, b2i_f, if_neg (show ¬ ¬ (0 : Int32) = 0 by decide), if_pos hk, b1, bI_s, if_neg (by decide), if_neg hb]
      rfl
  · rw [decide_eq_false hw, b2i_f, if_neg (show ¬ ¬ (0 : Int32) = 0 by decide), if_neg hw, show FF = 999999 + 1 from rfl, zX10_owner_18]
    unfold kX10_owner_18
    have b1 : fX10_bad m 1 1 1 (th0 h m) = _ := m_badT M0 (w := 1) (by decide) (i := 1) (by decide)
    rw [if_pos hk, b1, bI_s, if_pos (by decide)]
    rfl
theorem scm_cb {h h1 : Hp} (e : h1.1 = h.1) (f : ∀ a, a ≠ m + 147 → a ≠ m + 148 → h1.2 a = h.2 a) : ScM h h1 m ∧ h1.2 m = h.2 m :=
  ⟨⟨e, fun y hy => f y (by unfold perM at hy; omega) (by unfold perM at hy; omega), fun j hj => by rw [f m (by omega) (by omega)]⟩, f m (by omega) (by omega)⟩
theorem rq_held (Q : RQ h m S z) (hz1 : 6 ≤ z) (hz2 : z ≤ 16) (b : Int32) : RefA (fX10_held m b h) h m (aHeld S z b) := by
  obtain ⟨M0, -, -⟩ := id Q
  obtain ⟨M, R, Z⟩ := id Q.th0
  have hk : kH (th0 h m) m = 18 := M.k
  obtain ⟨n1, n2, n3⟩ := M.now
  unfold fX10_held kX10_held_0 aHeld
  rw [if_pos M0.k, m_isBlock hk Z (by omega), bI_s]
  by_cases hb : 0 ≤ b ∧ b < nI z
  · have b0 : fX10_bad m 0 1 3 (th0 h m) = _ := m_bad0 M.k (th0_0 h m) 1 3
    rw [decide_eq_true hb, b2i_t, if_pos (show ¬ (1 : Int32) = 0 by decide), if_pos hb, if_pos hk, b0, bI_s, if_pos rfl, if_pos hk, n1]
    obtain ⟨b, c1, rfl⟩ := rl_of (by omega) hb
    obtain ⟨h1, a1, a2, a3, a4, a5⟩ := m_copiesBlock (b := b) (by omega) (m := m) (by omega) R M.mo
    obtain ⟨s1, s2⟩ := scm_cb a2 a3
    rw [a1, bI_s, tn_n (by omega)]
    exact refA_i rfl ((scm_th0 h m).trans s1) (by rw [s2]; exact th0_0 h m)
  · have b1 : fX10_bad m 1 1 3 (th0 h m) = _ := m_badT M0 (w := 1) (by decide) (i := 3) (by decide)
    rw [decide_eq_false hb, b2i_f, if_neg (show ¬ ¬ (0 : Int32) = 0 by decide), if_neg hb, if_pos hk, b1, bI_s, if_neg (by decide)]
    rfl
theorem rq_copy (Q : RQ h m S z) (hz1 : 6 ≤ z) (hz2 : z ≤ 16) (b i : Int32) : RefA (fX10_copy m b i h) h m (aCopy S z b i) := by
  obtain ⟨M0, -, -⟩ := id Q
  obtain ⟨M, R, Z⟩ := id Q.th0
  have hk : kH (th0 h m) m = 18 := M.k
  obtain ⟨n1, n2, n3⟩ := M.now
  have b1 : fX10_bad m 1 1 3 (th0 h m) = _ := m_badT M0 (w := 1) (by decide) (i := 3) (by decide)
  have b0 : fX10_bad m 0 1 3 (th0 h m) = _ := m_bad0 M.k (th0_0 h m) 1 3
  unfold fX10_copy kX10_copy_0 aCopy
  rw [if_pos M0.k, m_isBlock hk Z (by omega), bI_s]
  by_cases hb : 0 ≤ b ∧ b < nI z
  · rw [decide_eq_true hb, b2i_t, if_neg (show ¬ (1 : Int32) = 0 by decide), m_in, bI_s]
    by_cases hi : 0 ≤ i ∧ i < nI 16
    · have hi' : 0 ≤ i ∧ i ≤ 15 := ⟨hi.1, by have := (le_sub1 (n := 16) (by decide) hi.1).mpr hi.2; exact this⟩
      rw [decide_eq_true hi', b2i_t, if_pos (show ¬ (1 : Int32) = 0 by decide), if_pos hk, b0, bI_s, if_pos rfl, if_pos hk, n1, if_pos ⟨hb, hi⟩]
      obtain ⟨b, c1, rfl⟩ := rl_of (by omega) hb
      obtain ⟨i, i1, rfl⟩ := rl_of (by decide) hi
      obtain ⟨h1, a1, a2, a3, a4, a5⟩ := m_copiesBlock (b := b) (by omega) (m := m) (by omega) R M.mo
      obtain ⟨s1, s2⟩ := scm_cb a2 a3
      obtain ⟨o1, -, ⟨o2, o3, o4⟩, -⟩ := M.mo.eq a2
      rw [a1, bI_s, if_pos o1, o2, if_pos o3, o4, if_pos (inB_nI i1 (by decide)), nI_clamp (by omega), a5 i i1, tn_n (by omega), tn_n (by omega)]
      exact refA_i rfl ((scm_th0 h m).trans s1) (by rw [s2]; exact th0_0 h m)
    · have hi' : ¬ (0 ≤ i ∧ i ≤ 15) := fun q => hi ⟨q.1, (le_sub1 (n := 16) (by decide) q.1).mp q.2⟩
      rw [decide_eq_false hi', b2i_f, if_neg (show ¬ ¬ (0 : Int32) = 0 by decide), if_pos hk, b1, bI_s, if_neg (by decide), if_neg (fun q => hi q.2)]
      rfl
  · rw [decide_eq_false hb, b2i_f, if_pos rfl, if_pos hk, b1, bI_s, if_neg (by decide), if_neg (fun q => hb q.1)]
    rfl
theorem rq_waits (Q : RQ h m S z) (I : Inv S z k) (b : Int32) : RefA (fX10_waits m b h) h m (aWaits S z b) := by
  obtain ⟨hz1, hz2⟩ := I.1
  obtain ⟨M0, -, -⟩ := id Q
  obtain ⟨M, R, Z⟩ := id Q.th0
  have hk : kH (th0 h m) m = 18 := M.k
  obtain ⟨n1, n2, n3⟩ := M.now
  unfold fX10_waits kX10_waits_0 aWaits
  rw [if_pos M0.k, m_isBlock hk Z (by omega), bI_s]
  by_cases hb : 0 ≤ b ∧ b < nI z
  · have b0 : fX10_bad m 0 1 3 (th0 h m) = _ := m_bad0 M.k (th0_0 h m) 1 3
    rw [decide_eq_true hb, b2i_t, if_pos (show ¬ (1 : Int32) = 0 by decide), if_pos hb, if_pos hk, b0, bI_s, if_pos rfl, if_pos hk]
    obtain ⟨b, c1, rfl⟩ := rl_of (by omega) hb
    rw [q_waits hk n1 R (inv_pos I) (by omega), bI_s, tn_n (by omega)]
    exact refA_i rfl (scm_th0 h m) (th0_0 h m)
  · have b1 : fX10_bad m 1 1 3 (th0 h m) = _ := m_badT M0 (w := 1) (by decide) (i := 3) (by decide)
    rw [decide_eq_false hb, b2i_f, if_neg (show ¬ ¬ (0 : Int32) = 0 by decide), if_neg hb, if_pos hk, b1, bI_s, if_neg (by decide)]
    rfl
theorem rq_unlike (Q : RQ h m S z) (hz1 : 6 ≤ z) (hz2 : z ≤ 16) (b : Int32) : RefA (fX10_unlike m b h) h m (aUnlike S z b) := by
  obtain ⟨M0, -, -⟩ := id Q
  obtain ⟨M, R, Z⟩ := id Q.th0
  have hk : kH (th0 h m) m = 18 := M.k
  obtain ⟨n1, n2, n3⟩ := M.now
  unfold fX10_unlike kX10_unlike_0 aUnlike
  rw [if_pos M0.k, m_isBlock hk Z (by omega), bI_s]
  by_cases hb : 0 ≤ b ∧ b < nI z
  · have b0 : fX10_bad m 0 1 3 (th0 h m) = _ := m_bad0 M.k (th0_0 h m) 1 3
    rw [decide_eq_true hb, b2i_t, if_pos (show ¬ (1 : Int32) = 0 by decide), if_pos hb, if_pos hk, b0, bI_s, if_pos rfl]
    obtain ⟨b, c1, rfl⟩ := rl_of (by omega) hb
    have := q_unlike_go hk n1 R (b := b) (by omega) 16 0 FF 0 rfl (by decide) (by decide)
    rw [Nat.zero_add] at this
    rw [tn_n (by omega)]
    exact refA_i this (scm_th0 h m) (th0_0 h m)
  · have b1 : fX10_bad m 1 1 3 (th0 h m) = _ := m_badT M0 (w := 1) (by decide) (i := 3) (by decide)
    rw [decide_eq_false hb, b2i_f, if_neg (show ¬ ¬ (0 : Int32) = 0 by decide), if_neg hb, if_pos hk, b1, bI_s, if_neg (by decide)]
    rfl
theorem rq_rings (Q : RQ h m S z) (I : Inv S z k) : RefA (fX10_rings m h) h m (aRings S z) := by
  obtain ⟨hz1, hz2⟩ := I.1
  obtain ⟨M0, -, -⟩ := id Q
  obtain ⟨M, R, Z⟩ := id Q.th0
  unfold fX10_rings kX10_rings_0
  rw [if_pos M0.k]
  have := q_r9 M.k M.now.1 R (inv_pos I) Z hz2 z 0 FF 0 (by omega) (by show _ < 1000000; omega) (by omega)
  rw [Nat.zero_add] at this
  exact refA_i this (scm_th0 h m) (th0_0 h m)
theorem rq_finds (Q : RQ h m S z) (I : Inv S z k) : RefA (fX10_finds m h) h m (aFinds S z) := by
  obtain ⟨hz1, hz2⟩ := I.1
  obtain ⟨M0, -, -⟩ := id Q
  obtain ⟨M, R, Z⟩ := id Q.th0
  unfold fX10_finds kX10_finds_0
  rw [if_pos M0.k, M0.now.1, m_sweepAt R (inv_wfm I).1 M.k Z hz1 hz2, bI_s]
  exact refA_i rfl (scm_th0 h m) (th0_0 h m)
end G3
