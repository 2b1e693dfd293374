/-! ===== storm, span, both sides ===== -/
def ClsG (r : RS) (h : Hp) (x : Nat) (a : An) : Prop := match a with
  | .inl v => ∃ h', r = some (.inl (some (.int v)), h') ∧ Gr h h' x
  | .inr (E, i, _) => r = some (.inr E, thr h x i)
theorem ClsA.g {r : RS} {h : Hp} {x : Nat} {a : An} (A : ClsA r h x a) : ClsG r h x a := by
  unfold ClsA at A
  unfold ClsG
  split at A
  · obtain ⟨h', a1, a2⟩ := A
    exact ⟨h', a1, a2.gr⟩
  · exact A
theorem clsG_i {r : RS} {h h' : Hp} {x : Nat} {v : Int32} (e : r = some (.inl (some (.int v)), h')) (s : Gr h h' x) : ClsG r h x (.inl v) := ⟨h', e, s⟩
noncomputable def stT (S : St) (z : Nat) (sd0 : Int32) (many q : Nat) : St := (stm z q many (sd0, S)).2
noncomputable def stV (S : St) (z : Nat) (T : St) (a : Int32) : Int32 := if a = 0 then nI (onesN (leakN (sd T 1) z)) else if a = 1 then nI (lnkN (sd T 1)) else if a = 2 then sW T - sW S else nI (brkV (sd T 1))
noncomputable def aStorm (S : St) (z : Nat) (sd0 many q a : Int32) : An := if (1 ≤ many ∧ many ≤ 96) ∧ (0 ≤ q ∧ q ≤ 16) ∧ (0 ≤ a ∧ a ≤ 3) then .inl (stV S z (stT S z sd0 (tn many) (tn q)) a) else IA 1
section SP
variable {h : Hp} {x m z k : Nat} {S : St} {a b c d : Int32}
theorem inx_stT (I : Inx S z (k + 3840 * 96)) {many q : Nat} (hm : many ≤ 96) (sd0 : Int32) : Inx (stT S z sd0 many q) z k := inx_stm many (sd0, S) (I.le (by omega))
theorem gr_1 {h h' : Hp} (e : Ext h h') (n : nH h' = nH h + 1) (y : zH h' = zH h + 4) (f : ∀ a, a < nH h → pers x a → h'.2 a = h.2 a) : Gr h h' x := ⟨e, ⟨by omega, by omega, by omega⟩, f⟩
theorem rg1_of {n : Nat} (hn : n < 2 ^ 31) {a : Int32} (h : 1 ≤ a ∧ a ≤ nI n) : ∃ i, 1 ≤ i ∧ i ≤ n ∧ a = nI i := by
  obtain ⟨i, i1, rfl⟩ := rg_of hn ⟨Int32.le_trans (by decide) h.1, h.2⟩
  refine ⟨i, ?_, i1, rfl⟩
  have := h.1
  rw [k1, nI_leI (by decide) (by omega)] at this
  exact this
theorem cq_storm (Q : CQ h x S z) (hN : x + 92 ≤ nH h) (I : Inx S z (k + 3840 * 96)) (sd0 many q a : Int32) : ClsG (fX9_storm x sd0 many q a h) h x (aStorm S z sd0 many q a) := by
  obtain ⟨C, R⟩ := id Q
  obtain ⟨hz1, hz2⟩ := R.2.2.1
  unfold fX9_storm kX9_storm_0 aStorm
  rw [if_pos C.k, t_rng C]
  by_cases hm : 1 ≤ many ∧ many ≤ 96
  · rw [if_pos hm, bVx_s, if_pos C.k, t_rng C]
    by_cases hq : 0 ≤ q ∧ q ≤ 16
    · rw [if_pos hq, bVx_s, if_pos C.k, t_wht C]
      by_cases ha : 0 ≤ a ∧ a ≤ 3
      · rw [if_pos ha, bVx_s, if_pos C.k, if_pos ⟨hm, hq, ha⟩]
        obtain ⟨many, m1, m2, rfl⟩ := rg1_of (n := 96) (by decide) hm
        obtain ⟨q, q1, rfl⟩ := rg_of (n := 16) (by decide) hq
        obtain ⟨h1, a1, a2, a3, a4, a5, a6, a7⟩ := c_blow (k := k) Q hN q1 m2 sd0 I
        have I' := inx_stT (k := k) (q := q) I m2 sd0
        rw [tn_n (by omega), tn_n (by omega), a1, bR_s]
        have R7 : Sta h1 (x + 42) (stT S z sd0 many q) z := a7
        have g1 : Gr h h1 x := gr_1 a2 a3 a4 a5
        have W := sd_wf I'.1.1 1
        unfold stV
        have w1 : (1 : Nat) ≤ 1 := Nat.le_refl 1
        have l1 : fX8_leakedBlocks (x + 42) 1 h1 = _ := t_leaked (R7.cb w1) W R7.sz hz2
        have l2 : fX8_linkedNodes (x + 42) 1 h1 = _ := t_linked (R7.cb w1)
        have l3 : fX8_brokenEntries (x + 42) 1 h1 = _ := t_be (R7.cb w1) W
        have l4 : fX8_brokenPointers (x + 42) 1 h1 = _ := t_bp (R7.cb w1) W.1 R7.sz hz2 (sd_pt I'.1.1 1) (by omega)
        by_cases q0 : a = 0
        · rw [if_pos q0, if_pos q0, l1, bI_s, t_bitCount (leakN_lt _ hz2), bI_s]
          exact clsG_i rfl g1
        rw [if_neg q0, if_neg q0]
        by_cases q1' : a = 1
        · rw [if_pos q1', if_pos q1', l2, bI_s]
          exact clsG_i rfl g1
        rw [if_neg q1', if_neg q1']
        by_cases q2 : a = 2
        · have e0 : h1.2 (x + 1) 12 = sW S := by rw [a5 (x + 1) (by omega) (by unfold pers; omega)]; exact R.2.1.2.2.2.2.2.1
          have e1 : h1.2 (x + 42) 12 = sW (stT S z sd0 many q) := R7.2.1.2.2.2.2.2.1
          rw [if_pos q2, if_pos q2, if_pos R7.so.1, if_pos a6.k, a6.r0, if_pos a6.so.1, e0, e1]
          exact clsG_i rfl g1
        rw [if_neg q2, if_neg q2, l3, bI_s, l4, bI_s, nI_add, Nat.add_comm]
        exact clsG_i rfl g1
      · rw [if_neg ha, if_neg (fun w => ha w.2.2), bVx_t]
        rfl
    · rw [if_neg hq, if_neg (fun w => hq w.2.1), bVx_t]
      rfl
  · rw [if_neg hm, if_neg (fun w => hm w.1), bVx_t]
    rfl
theorem rq_storm (Q : RQ h m S z) (I : Inx S z (k + 3840 * 96)) (sd0 many q a : Int32) : RefA (fX10_storm m sd0 many q a h) h m (aStorm S z sd0 many q a) := by
  obtain ⟨hz1, hz2⟩ := I.1.1.1
  obtain ⟨M0, -, -⟩ := id Q
  obtain ⟨M, R, Z⟩ := id Q.th0
  have hk : kH (th0 h m) m = 18 := M.k
  have b0 : fX10_bad m 0 1 1 (th0 h m) = _ := m_bad0 M.k (th0_0 h m) 1 1
  have b1 : fX10_bad m 1 1 1 (th0 h m) = _ := m_badT M0 (w := 1) (by decide) (i := 1) (by decide)
  have bad : RefA (gX10_storm FF 29 [.ref m, .int sd0, .int many, .int q, .int a] [.int 1, .ref m] (th0 h m)) h m (IA 1) := by
    rw [show FF = 999999 + 1 from rfl, zX10_storm_29]
    unfold kX10_storm_29
    rw [if_pos hk, b1, bI_s, if_neg (by decide)]
    rfl
  unfold fX10_storm kX10_storm_0 aStorm
  unfold fX10_isStorm kX10_isStorm_0
  rw [if_pos M0.k, m_in, bI_s]
  by_cases hm : 1 ≤ many ∧ many ≤ 96
  · rw [decide_eq_true hm, b2i_t, if_neg (show ¬ (1 : Int32) = 0 by decide), m_in, bI_s]
    by_cases hq : 0 ≤ q ∧ q ≤ 16
    · rw [decide_eq_true hq, b2i_t, if_neg (show ¬ (1 : Int32) = 0 by decide), bI_s, if_neg (show ¬ (1 : Int32) = 0 by decide), m_in, bI_s]
      by_cases ha : 0 ≤ a ∧ a ≤ 3
      · rw [decide_eq_true ha, b2i_t, if_pos (show ¬ (1 : Int32) = 0 by decide), if_pos (show (1 ≤ many ∧ many ≤ 96) ∧ (0 ≤ q ∧ q ≤ 16) ∧ (0 ≤ a ∧ a ≤ 3) from ⟨hm, hq, ha⟩), show FF = 999999 + 1 from rfl, zX10_storm_29]
        unfold kX10_storm_29
        rw [if_pos hk, b0, bI_s, if_pos rfl, if_pos hk]
        obtain ⟨many, m1, m2, rfl⟩ := rg1_of (n := 96) (by decide) hm
        obtain ⟨q, q1, rfl⟩ := rg_of (n := 16) (by decide) hq
        obtain ⟨h1, a1, a2, a3, a4⟩ := m_storm (k := k) Q.th0 q1 m2 sd0 I
        have I' := inx_stT (k := k) (q := q) I m2 sd0
        have R1 : Row h1 (m + 119) (stT S z sd0 many q) := a4
        have Q1 := Q.th0.scm a2
        obtain ⟨M1, Rn, Z1⟩ := id Q1
        obtain ⟨t1, t2, t3⟩ := M1.tri
        obtain ⟨n1, n2, n3⟩ := M1.now
        have s1 := (scm_th0 h m).trans a2
        have t0 : h1.2 m 0 = 0 := a3.trans (th0_0 h m)
        have W := sd_wf I'.1.1 1
        have w1 : (1 : Nat) ≤ 1 := Nat.le_refl 1
        rw [a1, bV_s, tn_n (by omega), tn_n (by omega), if_pos M1.k, t1]
        have e256 : nI (256 * 1) = (256 : Int32) := rfl
        have l1 := q_leaking (R1.rb (w := 1) w1) W M1.k Z1 hz1 hz2
        have l2 := q_linked (R1.rb (w := 1) w1)
        have l3 := q_broken (R1.rb (w := 1) w1) W m
        rw [e256] at l1 l2 l3
        unfold stV
        by_cases q0 : a = 0
        · rw [if_neg (fun w => w q0), if_pos q0, if_pos M1.k, l1, bI_s, q_ones (Nat.lt_of_lt_of_le (leakN_lt _ hz2) (by decide)), bI_s]
          exact refA_i rfl s1 t0
        rw [if_pos q0, if_neg q0]
        by_cases q1' : a = 1
        · rw [if_neg (fun w => w q1'), if_pos q1', if_pos M1.k, l2, bI_s]
          exact refA_i rfl s1 t0
        rw [if_pos q1', if_neg q1']
        by_cases q2 : a = 2
        · have e0 : h1.2 (m + 118) 3395 = sW S := Rn.2.2.1.2.2.2.2.2.1
          have e1 : h1.2 (m + 119) 3395 = sW (stT S z sd0 many q) := R1.2.2.1.2.2.2.2.2.1
          rw [if_neg (fun w => w q2), if_pos q2, if_pos M1.k, if_pos t2, t3, if_pos (by decide), n1, if_pos n2, n3, if_pos (by decide), e0, e1]
          exact refA_i rfl s1 t0
        rw [if_pos q2, if_neg q2, l3, bI_s]
        exact refA_i rfl s1 t0
      · rw [decide_eq_false ha, b2i_f, if_neg (show ¬ ¬ (0 : Int32) = 0 by decide), if_neg (show ¬ ((1 ≤ many ∧ many ≤ 96) ∧ (0 ≤ q ∧ q ≤ 16) ∧ (0 ≤ a ∧ a ≤ 3)) from fun w => ha w.2.2)]
        exact bad
    · rw [decide_eq_false hq, b2i_f, if_pos rfl, bI_s, if_pos rfl, if_neg (show ¬ ((1 ≤ many ∧ many ≤ 96) ∧ (0 ≤ q ∧ q ≤ 16) ∧ (0 ≤ a ∧ a ≤ 3)) from fun w => hq w.2.1)]
      exact bad
  · rw [decide_eq_false hm, b2i_f, if_pos rfl, bI_s, if_pos rfl, if_neg (show ¬ ((1 ≤ many ∧ many ≤ 96) ∧ (0 ≤ q ∧ q ≤ 16) ∧ (0 ≤ a ∧ a ≤ 3)) from fun w => hm w.1)]
    exact bad
/-! span -/
end SP
noncomputable def spL (S : St) (z : Nat) (sd0 : Int32) (many q i : Nat) : Nat := onesN (leakN (sd (stT S z (sd0 + nI i) many q) 1) z)
noncomputable def spB (S : St) (z : Nat) (sd0 : Int32) (many q n i : Nat) : Nat := if 0 < fd (sd (stT S z (sd0 + nI i) many q) 1) n 0 then 1 else 0
def spG (L B : Nat) (p : Nat × Nat × Nat) : Nat × Nat × Nat := (if L < p.1 then L else p.1, if p.2.1 < L then L else p.2.1, p.2.2 + B)
noncomputable def spN (S : St) (z : Nat) (sd0 : Int32) (many q n : Nat) : Nat → Nat → Nat × Nat × Nat → Nat × Nat × Nat
  | 0, _, p => p
  | c + 1, i, p => spN S z sd0 many q n c (i + 1) (spG (spL S z sd0 many q i) (spB S z sd0 many q n i) p)
def spV (p : Nat × Nat × Nat) (a : Int32) : Int32 := if a = 0 then nI p.1 else if a = 1 then nI p.2.1 else nI p.2.2
noncomputable def aSpan (S : St) (z : Nat) (sd0 cnt many q a n : Int32) : An := if 0 ≤ n ∧ n < nI 12 then (if (1 ≤ cnt ∧ cnt ≤ 5) ∧ (1 ≤ many ∧ many ≤ 96) ∧ (0 ≤ q ∧ q ≤ 16) ∧ (0 ≤ a ∧ a ≤ 2) then .inl (spV (spN S z sd0 (tn many) (tn q) (tn n) (tn cnt) 0 (16, 0, 0)) a) else IA 2) else NS0 1
section SP2
variable {h : Hp} {x m z k : Nat} {S : St} {a b c d : Int32}
theorem spL_le (S : St) (z : Nat) (sd0 : Int32) (many q i : Nat) : spL S z sd0 many q i ≤ 16 := onesN_le _
theorem spB_le (S : St) (z : Nat) (sd0 : Int32) (many q n i : Nat) : spB S z sd0 many q n i ≤ 1 := by unfold spB; split <;> omega
theorem lnk_b {B : Nat → Nat} {n : Nat} (hn : n < 12) : (lnkN B).testBit n = decide (0 < fd B n 0) := by
  unfold lnkN
  rw [bitsOf_bit, decide_eq_true hn, Bool.true_and]
theorem c_span_go (I : Inx S z (k + 3840 * 96)) {sd0 : Int32} {cnt many q n : Nat} (hc : cnt ≤ 5) (m2 : many ≤ 96) (q1 : q ≤ 16) (hn : n < 12) {a : Int32} : ∀ (c i f : Nat) (p : Nat × Nat × Nat) (h : Hp), i + c = cnt → c < f → p.1 ≤ 16 → p.2.1 ≤ 16 → p.2.2 ≤ i → CQ h x S z → x + 92 ≤ nH h →
    ∃ h', gX9_span f 50 [.ref x, .int sd0, .int (nI cnt), .int (nI many), .int (nI q), .int a, .int (nI n), .int (nI p.1), .int (nI p.2.1), .int (nI p.2.2), .int (nI i), uV, uV] [] h = some (.inl (some (.int (spV (spN S z sd0 many q n c i p) a))), h') ∧ Ext h h' ∧ nH h' = nH h + c ∧ zH h' = zH h + 4 * c ∧ ∀ a, a < nH h → pers x a → h'.2 a = h.2 a := by
  intro c
  induction c with
  | zero =>
    intro i f p h hi hf p1 p2 p3 Q hN
    obtain ⟨f, rfl⟩ := sc hf
    refine ⟨h, ?_, Ext.refl h, rfl, rfl, fun _ _ _ => rfl⟩
    rw [zX9_span_50]
    unfold kX9_span_50
    rw [if_pos (by rw [nI_leI (by omega) (by omega)]; omega)]
    unfold spV
    show _ = some (Sum.inl (some (Value.int (if a = 0 then nI p.1 else if a = 1 then nI p.2.1 else nI p.2.2))), h)
    by_cases q0 : a = 0
    · rw [if_neg (fun w => w q0), if_pos q0]
    rw [if_pos q0, if_neg q0]
    by_cases q1 : a = 1
    · rw [if_neg (fun w => w q1), if_pos q1]
    rw [if_pos q1, if_neg q1]
  | succ c ih =>
    intro i f p h hi hf p1 p2 p3 Q hN
    obtain ⟨f, rfl⟩ := sc hf
    obtain ⟨C, R⟩ := id Q
    obtain ⟨hz1, hz2⟩ := R.2.2.1
    obtain ⟨h1, a1, a2, a3, a4, a5, a6, a7⟩ := c_blow (k := k) Q hN q1 m2 (sd0 + nI i) I
    have I' := inx_stT (k := k) (q := q) I m2 (sd0 + nI i)
    have R7 : Sta h1 (x + 42) (stT S z (sd0 + nI i) many q) z := a7
    have W := sd_wf I'.1.1 1
    have w1 : (1 : Nat) ≤ 1 := Nat.le_refl 1
    have l1 : fX8_leakedBlocks (x + 42) 1 h1 = _ := t_leaked (R7.cb w1) W R7.sz hz2
    have l2 : fX8_linkedNodes (x + 42) 1 h1 = _ := t_linked (R7.cb w1)
    have hL := spL_le S z sd0 many q i
    have hB := spB_le S z sd0 many q n i
    have Q1 : CQ h1 x S z := ⟨a6, R.ext a2 (by omega) (fun y q1 q2 => a5 y (by omega) (by unfold pers; omega))⟩
    obtain ⟨h2, b1, b2, b3, b4, b5⟩ := ih (i + 1) f (spG (spL S z sd0 many q i) (spB S z sd0 many q n i) p) h1 (by omega) (by omega) (by unfold spG; show (if _ then _ else _) ≤ 16; split <;> omega) (by unfold spG; show (if _ then _ else _) ≤ 16; split <;> omega) (by unfold spG; show p.2.2 + _ ≤ _; omega) Q1 (by omega)
    refine ⟨h2, ?_, a2.trans b2, by omega, by omega, fun y q1 q2 => by rw [b5 y (by omega) q2]; exact a5 y q1 q2⟩
    unfold spN
    rw [← b1, zX9_span_50]
    unfold kX9_span_50
    have hl : lnkN (sd (stT S z (sd0 + nI i) many q) 1) < 2 ^ 31 := Nat.lt_of_lt_of_le (lnkN_lt _) (by decide)
    rw [if_neg (by rw [nI_leI (by omega) (by omega)]; omega), if_pos C.k, a1, bR_s, l1, bI_s, t_bitCount (leakN_lt _ hz2), bI_s, l2, bI_s, bit_nI hl (by omega), lnk_b hn, nI_1]
    have eL : onesN (leakN (sd (stT S z (sd0 + nI i) many q) 1) z) = spL S z sd0 many q i := rfl
    rw [eL]
    have e1 : (if nI (spL S z sd0 many q i) < nI p.1 then nI (spL S z sd0 many q i) else nI p.1) = nI (spG (spL S z sd0 many q i) (spB S z sd0 many q n i) p).1 := by
      show _ = nI (if _ then _ else _)
      by_cases e : spL S z sd0 many q i < p.1
      · rw [if_pos e, if_pos (by rw [nI_ltI (by omega) (by omega)]; exact e)]
      · rw [if_neg e, if_neg (by rw [nI_ltI (by omega) (by omega)]; exact e)]
    have e2 : (if nI p.2.1 < nI (spL S z sd0 many q i) then nI (spL S z sd0 many q i) else nI p.2.1) = nI (spG (spL S z sd0 many q i) (spB S z sd0 many q n i) p).2.1 := by
      show _ = nI (if _ then _ else _)
      by_cases e : p.2.1 < spL S z sd0 many q i
      · rw [if_pos e, if_pos (by rw [nI_ltI (by omega) (by omega)]; exact e)]
      · rw [if_neg e, if_neg (by rw [nI_ltI (by omega) (by omega)]; exact e)]
    have e3 : nI p.2.2 + b2i (decide (0 < fd (sd (stT S z (sd0 + nI i) many q) 1) n 0)) = nI (spG (spL S z sd0 many q i) (spB S z sd0 many q n i) p).2.2 := by
      show _ = nI (p.2.2 + spB S z sd0 many q n i)
      unfold spB
      by_cases e : 0 < fd (sd (stT S z (sd0 + nI i) many q) 1) n 0
      · rw [decide_eq_true e, if_pos e, ← nI_add]
        rfl
      · rw [decide_eq_false e, if_neg e, ← nI_add]
        rfl
    rw [e1, e2, e3]
theorem cq_span (Q : CQ h x S z) (hN : x + 92 ≤ nH h) (I : Inx S z (k + 3840 * 96)) (sd0 cnt many q a n : Int32) : ClsG (fX9_span x sd0 cnt many q a n h) h x (aSpan S z sd0 cnt many q a n) := by
  obtain ⟨C, R⟩ := id Q
  unfold fX9_span kX9_span_0 aSpan
  rw [if_pos C.k, t_nod C]
  by_cases hn : 0 ≤ n ∧ n < nI 12
  · rw [if_pos hn, if_pos hn, bVx_s, if_pos C.k, t_rng C]
    by_cases hc : 1 ≤ cnt ∧ cnt ≤ 5
    · rw [if_pos hc, bVx_s, if_pos C.k, t_rng C]
      by_cases hm : 1 ≤ many ∧ many ≤ 96
      · rw [if_pos hm, bVx_s, if_pos C.k, t_rng C]
        by_cases hq : 0 ≤ q ∧ q ≤ 16
        · rw [if_pos hq, bVx_s, if_pos C.k, t_wht C]
          by_cases ha : 0 ≤ a ∧ a ≤ 2
          · rw [if_pos ha, bVx_s, if_pos ⟨hc, hm, hq, ha⟩]
            obtain ⟨cnt, c1, c2, rfl⟩ := rg1_of (n := 5) (by decide) hc
            obtain ⟨many, m1, m2, rfl⟩ := rg1_of (n := 96) (by decide) hm
            obtain ⟨q, q1, rfl⟩ := rg_of (n := 16) (by decide) hq
            obtain ⟨n, n1, rfl⟩ := rl_of (by decide) hn
            rw [tn_n (by omega), tn_n (by omega), tn_n (by omega), tn_n (by omega)]
            obtain ⟨h2, b1, b2, b3, b4, b5⟩ := c_span_go (sd0 := sd0) (a := a) I c2 m2 q1 n1 cnt 0 FF (16, 0, 0) h (by omega) (by show _ < 1000000; omega) (by decide) (by decide) (by decide) Q hN
            exact clsG_i b1 ⟨b2, ⟨by omega, by omega, by omega⟩, b5⟩
          · rw [if_neg ha, if_neg (fun w => ha w.2.2.2), bVx_t]
            rfl
        · rw [if_neg hq, if_neg (fun w => hq w.2.2.1), bVx_t]
          rfl
      · rw [if_neg hm, if_neg (fun w => hm w.2.1), bVx_t]
        rfl
    · rw [if_neg hc, if_neg (fun w => hc w.1), bVx_t]
      rfl
  · rw [if_neg hn, if_neg hn, bVx_t]
    rfl
theorem mi_less {a b : Nat} (ha : a < 2 ^ 31) (hb : b < 2 ^ 31) (h : Hp) : fX10_less (nI a) (nI b) h = some (.inl (some (.int (nI (if b < a then b else a)))), h) := by
  unfold fX10_less kX10_less_0
  by_cases e : b ≤ a
  · rw [if_pos (by rw [nI_leI hb ha]; exact e)]
    by_cases e2 : b < a
    · rw [if_pos e2]
    · rw [if_neg e2, show b = a by omega]
  · rw [if_neg (by rw [nI_leI hb ha]; exact e), if_neg (by omega)]
/-- the least so far, by the reference: none at first -/
def spO (p : Nat × Nat × Nat) (i : Nat) : Int32 := if i = 0 then -1 else nI p.1
theorem m_span_go (I : Inx S z (k + 3840 * 96)) {sd0 : Int32} {cnt many q n : Nat} (hc : cnt ≤ 5) (hc1 : 1 ≤ cnt) (m2 : many ≤ 96) (q1 : q ≤ 16) (hn : n < 12) {a : Int32} : ∀ (c i f : Nat) (p : Nat × Nat × Nat) (h : Hp), i + c = cnt → c < f → p.1 ≤ 16 → p.2.1 ≤ 16 → p.2.2 ≤ i → (i = 0 → p.1 = 16) → RQ h m S z →
    ∃ h', gX10_span f 83 [.ref m, .int sd0, .int (nI cnt), .int (nI many), .int (nI q), .int a, .int (nI n), .int (spO p i), .int (nI p.2.1), .int (nI p.2.2), .int (nI i), uV] [] h = some (.inl (some (.int (spV (spN S z sd0 many q n c i p) a))), h') ∧ ScM h h' m ∧ h'.2 m 0 = h.2 m 0 := by
  obtain ⟨hz1, hz2⟩ := I.1.1.1
  intro c
  induction c with
  | zero =>
    intro i f p h hi hf p1 p2 p3 p4 Q
    obtain ⟨f, rfl⟩ := sc hf
    refine ⟨h, ?_, ScM.refl h m, rfl⟩
    rw [zX10_span_83]
    unfold kX10_span_83
    rw [if_pos (by rw [nI_leI (by omega) (by omega)]; omega)]
    unfold spV
    show _ = some (Sum.inl (some (Value.int (if a = 0 then nI p.1 else if a = 1 then nI p.2.1 else nI p.2.2))), h)
    by_cases q0 : a = 0
    · rw [if_neg (fun w => w q0), if_pos q0]
      unfold spO
      rw [if_neg (by omega)]
    rw [if_pos q0, if_neg q0]
    by_cases q1 : a = 1
    · rw [if_neg (fun w => w q1), if_pos q1]
    rw [if_pos q1, if_neg q1]
  | succ c ih =>
    intro i f p h hi hf p1 p2 p3 p4 Q
    obtain ⟨f, rfl⟩ := sc hf
    obtain ⟨M, R, Z⟩ := id Q
    obtain ⟨h1, a1, a2, a3, a4⟩ := m_storm (k := k) Q q1 m2 (sd0 + nI i) I
    have I' := inx_stT (k := k) (q := q) I m2 (sd0 + nI i)
    have R1 : Row h1 (m + 119) (stT S z (sd0 + nI i) many q) := a4
    have Q1 := Q.scm a2
    obtain ⟨M1, Rn, Z1⟩ := id Q1
    obtain ⟨t1, t2, t3⟩ := M1.tri
    have W := sd_wf I'.1.1 1
    have w1 : (1 : Nat) ≤ 1 := Nat.le_refl 1
    have hL := spL_le S z sd0 many q i
    have hB := spB_le S z sd0 many q n i
    have e256 : nI (256 * 1) = (256 : Int32) := rfl
    have l1 := q_leaking (R1.rb (w := 1) w1) W M1.k Z1 hz1 hz2
    have l2 := q_fieldOf (R1.rb (w := 1) w1) hn (f := 0) (by decide)
    rw [e256] at l1 l2
    rw [show nI 0 = (0 : Int32) from rfl] at l2
    have l3 := q_ones (h := h1) (x := leakN (sd (stT S z (sd0 + nI i) many q) 1) z) (Nat.lt_of_lt_of_le (leakN_lt _ hz2) (by decide))
    have eL : onesN (leakN (sd (stT S z (sd0 + nI i) many q) 1) z) = spL S z sd0 many q i := rfl
    rw [eL] at l3
    obtain ⟨h2, b1, b2, b3⟩ := ih (i + 1) f (spG (spL S z sd0 many q i) (spB S z sd0 many q n i) p) h1 (by omega) (by omega) (by unfold spG; show (if _ then _ else _) ≤ 16; split <;> omega) (by unfold spG; show (if _ then _ else _) ≤ 16; split <;> omega) (by unfold spG; show p.2.2 + _ ≤ _; omega) (fun w => by omega) Q1
    refine ⟨h2, ?_, a2.trans b2, b3.trans a3⟩
    unfold spN
    rw [← b1, zX10_span_83]
    unfold kX10_span_83
    have fB : fd (sd (stT S z (sd0 + nI i) many q) 1) n 0 < 128 := bd_sd R1.bd 1 _
    have e2 : mxI (nI p.2.1) (nI (spL S z sd0 many q i)) = nI (spG (spL S z sd0 many q i) (spB S z sd0 many q n i) p).2.1 := by
      rw [mxI_n (by omega) (by omega)]
      show nI (if _ then _ else _) = nI (if _ then _ else _)
      by_cases e : p.2.1 < spL S z sd0 many q i
      · rw [if_pos e, if_neg (by omega)]
      · rw [if_neg e, if_pos (by omega)]
    rw [if_neg (by rw [nI_leI (by omega) (by omega)]; omega), if_pos M.k, a1, bV_s, if_pos M1.k, t1, l1, bI_s, l3, bI_s]
    have e3 : ∀ (y : Int32), y = nI (spG (spL S z sd0 many q i) (spB S z sd0 many q n i) p).1 → (if nI (fd (sd (stT S z (sd0 + nI i) many q) 1) n 0) ≤ 0 then gX10_span f 83 [.ref m, .int sd0, .int (nI cnt), .int (nI many), .int (nI q), .int a, .int (nI n), .int y, .int (nI (spG (spL S z sd0 many q i) (spB S z sd0 many q n i) p).2.1), .int (nI p.2.2 + 0), .int (nI i + 1), uV] [] h1 else gX10_span f 83 [.ref m, .int sd0, .int (nI cnt), .int (nI many), .int (nI q), .int a, .int (nI n), .int y, .int (nI (spG (spL S z sd0 many q i) (spB S z sd0 many q n i) p).2.1), .int (nI p.2.2 + 1), .int (nI i + 1), uV] [] h1) = gX10_span f 83 [.ref m, .int sd0, .int (nI cnt), .int (nI many), .int (nI q), .int a, .int (nI n), .int (spO (spG (spL S z sd0 many q i) (spB S z sd0 many q n i) p) (i + 1)), .int (nI (spG (spL S z sd0 many q i) (spB S z sd0 many q n i) p).2.1), .int (nI (spG (spL S z sd0 many q i) (spB S z sd0 many q n i) p).2.2), .int (nI (i + 1)), uV] [] h1 := fun y hy => by
      have ey : spO (spG (spL S z sd0 many q i) (spB S z sd0 many q n i) p) (i + 1) = y := by unfold spO; rw [if_neg (by omega), hy]
      have ec : (spG (spL S z sd0 many q i) (spB S z sd0 many q n i) p).2.2 = p.2.2 + spB S z sd0 many q n i := rfl
      rw [ey, ec, nI_1, nI_1, add_z]
      unfold spB
      by_cases e : 0 < fd (sd (stT S z (sd0 + nI i) many q) 1) n 0
      · rw [if_pos e, if_neg (by rw [show (0 : Int32) = nI 0 from rfl, nI_leI (by omega) (by omega)]; omega)]
      · rw [if_neg e, if_pos (by rw [show (0 : Int32) = nI 0 from rfl, nI_leI (by omega) (by omega)]; omega)]
        rfl
    by_cases i0 : i = 0
    · have ex : spO p i = -1 := by unfold spO; rw [if_pos i0]
      rw [ex, if_neg (fun w => w rfl), mx_more, bI_s, if_pos M1.k, t1, l2, bI_s, e2]
      refine e3 _ ?_
      show _ = nI (if _ then _ else _)
      have := p4 i0
      by_cases e : spL S z sd0 many q i < p.1
      · rw [if_pos e]
      · rw [if_neg e, show spL S z sd0 many q i = p.1 by omega]
    · have ex : spO p i = nI p.1 := by unfold spO; rw [if_neg i0]
      rw [ex, if_pos (by rw [nI_eqm (by omega)]; exact id), mi_less (by omega) (by omega), bI_s, mx_more, bI_s, if_pos M1.k, t1, l2, bI_s, e2]
      exact e3 _ rfl
theorem rq_span (Q : RQ h m S z) (I : Inx S z (k + 3840 * 96)) (sd0 cnt many q a n : Int32) : RefA (fX10_span m sd0 cnt many q a n h) h m (aSpan S z sd0 cnt many q a n) := by
  obtain ⟨M0, -, -⟩ := id Q
  obtain ⟨M, R, Z⟩ := id Q.th0
  have hk : kH (th0 h m) m = 18 := M.k
  have b00 : fX10_bad m 0 1 0 (th0 h m) = _ := m_bad0 M.k (th0_0 h m) 1 0
  have b10 : fX10_bad m 1 1 0 (th0 h m) = _ := m_badT M0 (w := 1) (by decide) (i := 0) (by decide)
  have b0 : fX10_bad m 0 2 1 (th0 h m) = _ := m_bad0 M.k (th0_0 h m) 2 1
  have b1 : fX10_bad m 1 2 1 (th0 h m) = _ := m_badT M0 (w := 2) (by decide) (i := 1) (by decide)
  unfold fX10_span kX10_span_0 aSpan
  rw [if_pos M0.k, m_isNode2, bI_s]
  by_cases hn : 0 ≤ n ∧ n < nI 12
  · rw [decide_eq_true hn, b2i_t, if_pos (show ¬ (1 : Int32) = 0 by decide), if_pos hn, show FF = 999999 + 1 from rfl, zX10_span_19]
    unfold kX10_span_19
    rw [if_pos hk, b00, bI_s, if_neg (show ¬ ¬ (0 : Int32) = 0 by decide), m_in, bI_s]
    by_cases hc : 1 ≤ cnt ∧ cnt ≤ 5
    · rw [decide_eq_true hc, b2i_t, if_neg (show ¬ (1 : Int32) = 0 by decide)]
      unfold fX10_isStorm kX10_isStorm_0
      rw [m_in, bI_s]
      by_cases hm : 1 ≤ many ∧ many ≤ 96
      · rw [decide_eq_true hm, b2i_t, if_neg (show ¬ (1 : Int32) = 0 by decide), m_in, bI_s]
        by_cases hq : 0 ≤ q ∧ q ≤ 16
        · rw [decide_eq_true hq, b2i_t, if_neg (show ¬ (1 : Int32) = 0 by decide), bI_s, if_neg (show ¬ (1 : Int32) = 0 by decide), m_in, bI_s]
          by_cases ha : 0 ≤ a ∧ a ≤ 2
          · rw [decide_eq_true ha, b2i_t, if_pos (show ¬ (1 : Int32) = 0 by decide), if_pos (show (1 ≤ cnt ∧ cnt ≤ 5) ∧ (1 ≤ many ∧ many ≤ 96) ∧ (0 ≤ q ∧ q ≤ 16) ∧ (0 ≤ a ∧ a ≤ 2) from ⟨hc, hm, hq, ha⟩), if_pos hk, b0, bI_s, if_pos rfl]
            obtain ⟨cnt, c1, c2, rfl⟩ := rg1_of (n := 5) (by decide) hc
            obtain ⟨many, m1, m2, rfl⟩ := rg1_of (n := 96) (by decide) hm
            obtain ⟨q, q1, rfl⟩ := rg_of (n := 16) (by decide) hq
            obtain ⟨n, n1, rfl⟩ := rl_of (by decide) hn
            rw [tn_n (by omega), tn_n (by omega), tn_n (by omega), tn_n (by omega)]
            obtain ⟨h2, d1, d2, d3⟩ := m_span_go (sd0 := sd0) (a := a) I c2 c1 m2 q1 n1 cnt 0 999999 (16, 0, 0) (th0 h m) (by omega) (by omega) (by decide) (by decide) (by decide) (fun _ => rfl) Q.th0
            exact refA_i d1 ((scm_th0 h m).trans d2) (d3.trans (th0_0 h m))
          · rw [decide_eq_false ha, b2i_f, if_neg (show ¬ ¬ (0 : Int32) = 0 by decide), if_neg (show ¬ ((1 ≤ cnt ∧ cnt ≤ 5) ∧ (1 ≤ many ∧ many ≤ 96) ∧ (0 ≤ q ∧ q ≤ 16) ∧ (0 ≤ a ∧ a ≤ 2)) from fun w => ha w.2.2.2), if_pos hk, b1, bI_s, if_neg (by decide)]
            rfl
        · rw [decide_eq_false hq, b2i_f, if_pos rfl, bI_s, if_pos rfl, if_neg (show ¬ ((1 ≤ cnt ∧ cnt ≤ 5) ∧ (1 ≤ many ∧ many ≤ 96) ∧ (0 ≤ q ∧ q ≤ 16) ∧ (0 ≤ a ∧ a ≤ 2)) from fun w => hq w.2.2.1), if_pos hk, b1, bI_s, if_neg (by decide)]
          rfl
      · rw [decide_eq_false hm, b2i_f, if_pos rfl, bI_s, if_pos rfl, if_neg (show ¬ ((1 ≤ cnt ∧ cnt ≤ 5) ∧ (1 ≤ many ∧ many ≤ 96) ∧ (0 ≤ q ∧ q ≤ 16) ∧ (0 ≤ a ∧ a ≤ 2)) from fun w => hm w.2.1), if_pos hk, b1, bI_s, if_neg (by decide)]
        rfl
    · rw [decide_eq_false hc, b2i_f, if_pos rfl, if_neg (show ¬ ((1 ≤ cnt ∧ cnt ≤ 5) ∧ (1 ≤ many ∧ many ≤ 96) ∧ (0 ≤ q ∧ q ≤ 16) ∧ (0 ≤ a ∧ a ≤ 2)) from fun w => hc w.1), if_pos hk, b1, bI_s, if_neg (by decide)]
      rfl
  · rw [decide_eq_false hn, b2i_f, if_neg (show ¬ ¬ (0 : Int32) = 0 by decide), if_neg hn, show FF = 999999 + 1 from rfl, zX10_span_19]
    unfold kX10_span_19
    rw [if_pos hk, b10, bI_s, if_pos (by decide)]
    rfl
end SP2
