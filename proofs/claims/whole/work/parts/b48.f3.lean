/-! ===== settle and spill, both sides ===== -/
def aSettle (S : St) (z : Nat) : An := .inl (nI (sett z 16 S).1)
noncomputable def aSpill (S : St) (z : Nat) (a : Int32) : An := if 0 ≤ a ∧ a ≤ 1 then .inl (if a = 0 then nI (spq S z).2.2.1 else nI (spq S z).2.2.2) else IA 1
section F3
variable {h : Hp} {x m z k : Nat} {S : St} {a b c d : Int32}
theorem scr_own {h h' : Hp} {s : Nat} (hs : x + 42 ≤ s ∧ s + 10 ≤ x + 92) (o : Own h h' s) : Scr h h' x := ⟨o.1, fun y hy => o.2 y (by unfold pers at hy; omega)⟩
theorem scr_ownP {h h' : Hp} {s p : Nat} (hs : x + 42 ≤ s ∧ s + 10 ≤ x + 92) (hp : p = x + 15 ∨ p = x + 21) (o : OwnP h h' p s) : Scr h h' x := ⟨o.1, fun y hy => o.2 y (by unfold pers at hy; omega) (by unfold pers at hy; omega)⟩
theorem CQ.scr {h h' : Hp} (Q : CQ h x S z) (s : Scr h h' x) : CQ h' x S z := ⟨Q.1.eq s.1, Q.2.eqs s.1 (fun y h1 h2 => s.2 y (by unfold pers; omega))⟩
theorem RQ.scm {h h' : Hp} (Q : RQ h m S z) (s : ScM h h' m) : RQ h' m S z := ⟨Q.1.eq s.1, Q.2.1.eq s.1 (s.2.1 _ (by unfold perM; omega)), (s.2.2 11 (by unfold perF; omega)).trans Q.2.2⟩
/-- a copy of now, in one of the spare states -/
theorem c_spare (Q : CQ h x S z) (I : Inv S z k) {i : Nat} (hi : i < 5) : ∃ h1, fX5_copyFrom (x + 42 + 10 * i) (x + 1) h = some (.inl none, h1) ∧ Own h h1 (x + 42 + 10 * i) ∧ Sta h1 (x + 42 + 10 * i) S z := by
  have := inv_l60 I
  exact c_copy Q.2 (Q.1.spr hi).2 (by omega) (by omega)
theorem cq_settle (Q : CQ h x S z) (I : Inv S z (k + 3840 * 16)) (N : Nk S) : ClsA (fX9_settle x h) h x (aSettle S z) := by
  obtain ⟨C, R⟩ := id Q
  obtain ⟨s1, s2, s3⟩ := C.spa
  obtain ⟨t1, t2⟩ := C.spr (i := 0) (by decide)
  obtain ⟨h1, a1, a2, a3⟩ := c_spare Q I (i := 0) (by decide)
  have t1 : rH h (x + 14) 0 = x + 42 := t1
  have t2 : SO h (x + 42) := t2
  have a1 : fX5_copyFrom (x + 42) (x + 1) h = some (.inl none, h1) := a1
  have a2 : Own h h1 (x + 42) := a2
  have a3 : Sta h1 (x + 42) S z := a3
  have C1 := C.eq a2.1
  obtain ⟨h2, b1, b2, b3⟩ := c_settleAll (p := x + 15) (k := k) (by omega) a3 C1.pen I N
  have hle := (settles_ends I N).2
  unfold fX9_settle kX9_settle_0
  rw [if_pos C.k, s1, if_pos s2, s3, if_pos (by decide), t1, if_pos t2.1, C.r0, a1, bV_s, if_pos C1.k, C1.r4, if_pos C1.pen.1, b1, bI_s, if_pos (by rw [k200, nI_leI (by omega) (by decide)]; omega)]
  exact clsA_i rfl ((scr_own (by omega) a2).trans (scr_ownP (by omega) (Or.inl rfl) b2))
theorem c_sp_in {s : Nat} (hs : x + 42 ≤ s ∧ s + 10 ≤ x + 92) (rd : Nat) (a : Int32) : ∀ (c b f : Nat) (q : St × Nat × Nat × Nat) (h : Hp), b + c = z → Sta h s q.1 z → CO h x → Inv q.1 z (k + 240 * c) → q.2.2.1 ≤ 16 →
    ∃ h', gX9_spill (f + c + 1) 57 [.ref x, .int a, .ref s, .int (nI q.2.2.1), .int (nI q.2.2.2), .int (nI q.2.1), .int (nI rd), .int (nI b), uV] [] h
      = gX9_spill f 39 [.ref x, .int a, .ref s, .int (nI ((List.range' b c).foldl (spF z) q).2.2.1), .int (nI ((List.range' b c).foldl (spF z) q).2.2.2), .int (nI ((List.range' b c).foldl (spF z) q).2.1), .int (nI (rd + 1)), uV, uV] [] h' ∧ OwnP h h' (x + 15) s ∧ Sta h' s ((List.range' b c).foldl (spF z) q).1 z ∧ ((List.range' b c).foldl (spF z) q).2.2.1 ≤ 16 := by
  intro c
  induction c with
  | zero =>
    intro b f q h hb R C I hm
    obtain ⟨hz1, hz2⟩ := R.2.2.1
    refine ⟨h, ?_, OwnP.refl h, R, hm⟩
    rw [zX9_spill_57]
    unfold kX9_spill_57
    rw [if_pos R.so.1, R.sz, if_pos (by rw [nI_leI (by omega) (by omega)]; omega), nI_1]
    rfl
  | succ c ih =>
    intro b f q h hb R C I hm
    obtain ⟨hz1, hz2⟩ := R.2.2.1
    rw [List.range'_succ, List.foldl_cons, show f + (c + 1) + 1 = (f + c + 1) + 1 by omega, zX9_spill_57]
    unfold kX9_spill_57
    obtain ⟨h1, a1, a2, a3⟩ := c_write (p := x + 15) (by omega) (b := b) (by omega) R C.pen (inv_Wc (k := k + 240 * c) (I.le (by omega)) b)
    have C1 := C.eq a2.1
    have I1 : Inv (wrs q.1 b) z (k + 240 * c) := inv_wrs (I.le (by omega)) b
    rw [if_pos R.so.1, R.sz, if_neg (by rw [nI_leI (by omega) (by omega)]; omega), if_pos C.k, C.r4, if_pos C.pen.1, a1, bI_s]
    cases hd : dirt q.1 b with
    | false =>
      have e1 : spF z q b = q := by unfold spF; rw [hd]; rfl
      have e2 : wrs q.1 b = q.1 := by unfold wrs; rw [hd]; rfl
      rw [e2] at a3 I1
      rw [e1, if_pos (by decide), nI_1]
      obtain ⟨h2, i1, i2, i3, i4⟩ := ih (b + 1) f q h1 (by omega) a3 C1 I1 hm
      exact ⟨h2, i1, a2.trans i2, i3, i4⟩
    | true =>
      have hlk : lkS (wrs q.1 b) z ≤ 16 := onesN_le _
      have hq : spF z q b = (wrs q.1 b, q.2.1 + 1, if lkS (wrs q.1 b) z ≤ q.2.2.1 then q.2.2.1 else lkS (wrs q.1 b) z, if lkS (wrs q.1 b) z ≤ q.2.2.1 then q.2.2.2 else q.2.1 + 1) := by unfold spF; rw [hd]; rfl
      have q1 : (spF z q b).1 = wrs q.1 b := by rw [hq]
      have hb2 : (spF z q b).2.2.1 ≤ 16 := by
        rw [hq]
        show (if _ then _ else _) ≤ 16
        split <;> omega
      obtain ⟨h2, i1, i2, i3, i4⟩ := ih (b + 1) f (spF z q b) h1 (by omega) (by rw [q1]; exact a3) C1 (by rw [q1]; exact I1) hb2
      refine ⟨h2, ?_, a2.trans i2, i3, i4⟩
      have t1 : fX8_leakedBlocks s 1 h1 = _ := t_leaked a3.cb1 (inv_wfd I1).1 a3.sz hz2
      have t2 : fJ6_bitCount_0f7a4 (nI (leakN (sD (wrs q.1 b)) z)) h1 = some (.inl (some (.int (nI (lkS (wrs q.1 b) z)))), h1) := t_bitCount (leakN_lt _ hz2) h1
      rw [if_neg (by decide), t1, bI_s, t2, bI_s, nI_1, nI_1, ← i1, hq]
      by_cases e : lkS (wrs q.1 b) z ≤ q.2.2.1
      · rw [if_pos (by rw [nI_leI (by omega) (by omega)]; exact e)]
        simp only [if_pos e]
      · rw [if_neg (by rw [nI_leI (by omega) (by omega)]; exact e)]
        simp only [if_neg e]
theorem c_sp_go {s : Nat} (hs : x + 42 ≤ s ∧ s + 10 ≤ x + 92) {a : Int32} (hz1 : 6 ≤ z) (hz2 : z ≤ 16) : ∀ (n rd f : Nat) (q : St × Nat × Nat × Nat) (h : Hp), rd + n ≤ 9999 → Sta h s q.1 z → CO h x → Inv q.1 z (k + 3840 * n) → q.2.2.1 ≤ 16 → sC (sett z n q.1).2 = [] →
    ∃ h', gX9_spill (f + n * (z + 2) + 1) 39 [.ref x, .int a, .ref s, .int (nI q.2.2.1), .int (nI q.2.2.2), .int (nI q.2.1), .int (nI rd), uV, uV] [] h = some (.inl (some (.int (if a = 0 then nI (spt z n q).2.2.1 else nI (spt z n q).2.2.2))), h') ∧ OwnP h h' (x + 15) s := by
  intro n
  induction n with
  | zero =>
    intro rd f q h hr R C I hm D
    have D : sC q.1 = [] := D
    refine ⟨h, ?_, OwnP.refl h⟩
    rw [zX9_spill_39]
    unfold kX9_spill_39
    rw [if_neg (by rw [show (10000 : Int32) = nI 10000 from rfl, nI_leI (by decide) (by omega)]; omega), if_pos R.so.1, R.un, D, if_pos (by decide)]
    by_cases e : a = 0
    · rw [if_neg (fun w => w e), if_pos e]; rfl
    · rw [if_pos e, if_neg e]; rfl
  | succ n ih =>
    intro rd f q h hr R C I hm D
    have hB1 := R.bd.1
    rw [sett_s] at D
    rw [spt_s]
    by_cases e : (sC q.1).isEmpty = true
    · rw [if_pos e] at D ⊢
      refine ⟨h, ?_, OwnP.refl h⟩
      rw [zX9_spill_39]
      unfold kX9_spill_39
      rw [if_neg (by rw [show (10000 : Int32) = nI 10000 from rfl, nI_leI (by decide) (by omega)]; omega), if_pos R.so.1, R.un, isE.mp e, if_pos (by decide)]
      by_cases e : a = 0
      · rw [if_neg (fun w => w e), if_pos e]
      · rw [if_pos e, if_neg e]
    · rw [if_neg e] at D ⊢
      have hl := lenE e
      have hlen : (rng z).length = z := List.length_range'
      obtain ⟨h1, a1, a2, a3, a4⟩ := c_sp_in (k := k + 3840 * n) hs rd a z 0 (f + n * (z + 2) + 1) q h (by omega) R C (I.le (by omega)) hm
      obtain ⟨s1, s2⟩ := spFs z (rng z) q
      have I1 : Inv (syF q.1 (rng z)) z (k + 3840 * n) := inv_syF _ _ (I.le (by rw [hlen]; omega))
      obtain ⟨h2, i1, i2⟩ := ih (rd + 1) f ((rng z).foldl (spF z) q) h1 (by omega) a3 (C.eq a2.1) (by rw [s1]; exact I1) a4 (by rw [s1]; exact D)
      refine ⟨h2, ?_, a2.trans i2⟩
      rw [show f + (n + 1) * (z + 2) + 1 = ((f + n * (z + 2) + 1) + z + 1) + 1 by rw [Nat.add_mul]; omega, zX9_spill_39]
      unfold kX9_spill_39
      rw [if_neg (by rw [show (10000 : Int32) = nI 10000 from rfl, nI_leI (by decide) (by omega)]; omega), if_pos R.so.1, R.un, if_neg (by rw [nI_le0 (by omega)]; omega)]
      have a1 : gX9_spill (f + n * (z + 2) + 1 + z + 1) 57 [.ref x, .int a, .ref s, .int (nI q.2.2.1), .int (nI q.2.2.2), .int (nI q.2.1), .int (nI rd), .int 0, uV] [] h = _ := a1
      rw [a1]
      exact i1
theorem cq_spill (Q : CQ h x S z) (I : Inv S z (k + 3840 * 16)) (N : Nk S) (a : Int32) : ClsA (fX9_spill x a h) h x (aSpill S z a) := by
  obtain ⟨hz1, hz2⟩ := I.1
  obtain ⟨C, R⟩ := id Q
  obtain ⟨s1, s2, s3⟩ := C.spa
  obtain ⟨t1, t2⟩ := C.spr (i := 0) (by decide)
  obtain ⟨h1, a1, a2, a3⟩ := c_spare Q I (i := 0) (by decide)
  have t1 : rH h (x + 14) 0 = x + 42 := t1
  have t2 : SO h (x + 42) := t2
  have a1 : fX5_copyFrom (x + 42) (x + 1) h = some (.inl none, h1) := a1
  have a2 : Own h h1 (x + 42) := a2
  have a3 : Sta h1 (x + 42) S z := a3
  have C1 := C.eq a2.1
  have l1 : fX8_leakedBlocks (x + 42) 1 h1 = _ := t_leaked a3.cb1 (inv_wfd I).1 a3.sz hz2
  have l2 : fJ6_bitCount_0f7a4 (nI (leakN (sD S) z)) h1 = some (.inl (some (.int (nI (lkS S z)))), h1) := t_bitCount (leakN_lt _ hz2) h1
  obtain ⟨D1, D2⟩ := settles_ends I N
  obtain ⟨h2, b1, b2⟩ := c_sp_go (x := x) (s := x + 42) (a := a) (k := k) (by omega) hz1 hz2 16 0 (1000000 - 16 * (z + 2) - 1) (S, 0, lkS S z, 0) h1 (by decide) a3 C1 I (onesN_le _) D1
  unfold fX9_spill kX9_spill_0 aSpill
  rw [if_pos C.k, t_wht C]
  by_cases ha : 0 ≤ a ∧ a ≤ 1
  · rw [if_pos ha, if_pos ha, bVx_s, if_pos C.k, s1, if_pos s2, s3, if_pos (by decide), t1, if_pos t2.1, C.r0, a1, bV_s, l1, bI_s, l2, bI_s]
    rw [show 1000000 - 16 * (z + 2) - 1 + 16 * (z + 2) + 1 = FF by unfold FF; omega] at b1
    exact clsA_i b1 ((scr_own (by omega) a2).trans (scr_ownP (by omega) (Or.inl rfl) b2))
  · rw [if_neg ha, if_neg ha, bVx_t]
    rfl
/-! the reference -/
theorem m_trial (Q : RQ h m S z) : ∃ h1, fX10_copies (m + 118) (m + 119) h = some (.inl none, h1) ∧ ScM h h1 m ∧ Row h1 (m + 119) S ∧ h1.2 m = h.2 m := by
  obtain ⟨M, R, Z⟩ := Q
  obtain ⟨n1, n2, n3⟩ := M.tri
  obtain ⟨h1, a1, a2, a3, a4⟩ := m_copies (r2 := m + 119) R (by omega) n2 n3
  exact ⟨h1, a1, ⟨a2, fun y hy => a3 y (by unfold perM at hy; omega), fun j _ => by rw [a3 m (by omega)]⟩, a4, a3 m (by omega)⟩
theorem scm_sx {h h' : Hp} (s : SxM h h' m (m + 119)) : ScM h h' m := ⟨s.1, fun y hy => s.2.1 y (by unfold perM at hy; omega) (by unfold perM at hy; omega) (by unfold perM at hy; omega) (by unfold perM at hy; omega) (by unfold perM at hy; omega), fun j hj => s.2.2 j (by unfold perF at hj; omega) (by unfold perF at hj; omega) (by unfold perF at hj; omega)⟩
theorem rq_settle (Q : RQ h m S z) (I : Inv S z (k + 3840 * 16)) (N : Nk S) : RefA (fX10_settle m h) h m (aSettle S z) := by
  obtain ⟨M0, -, -⟩ := id Q
  obtain ⟨h1, a1, a2, a3, a4⟩ := m_trial Q.th0
  have Q1 := Q.th0.scm a2
  obtain ⟨M1, R1, Z1⟩ := id Q1
  obtain ⟨h2, b1, b2, b3, b4, b5⟩ := m_settles (m := m) (k := k) (r := m + 119) (by omega) a3 M1.mo Z1 I N
  unfold fX10_settle kX10_settle_0
  rw [if_pos M0.k, M0.now.1, M0.tri.1, a1, bV_s, if_pos M1.k, M1.tri.1, b1, bI_s]
  refine refA_i rfl (((scm_th0 h m).trans a2).trans (scm_sx b2)) ?_
  rw [b2.2.2 0 (by decide) (by decide) (by decide), a4]
  exact th0_0 h m
theorem rq_spill (Q : RQ h m S z) (I : Inv S z (k + 3840 * 16)) (N : Nk S) (a : Int32) : RefA (fX10_spill m a h) h m (aSpill S z a) := by
  obtain ⟨M0, -, -⟩ := id Q
  obtain ⟨M, R, Z⟩ := id Q.th0
  have hk : kH (th0 h m) m = 18 := M.k
  obtain ⟨h1, a1, a2, a3, a4⟩ := m_trial Q.th0
  have Q1 := Q.th0.scm a2
  obtain ⟨M1, R1, Z1⟩ := id Q1
  obtain ⟨h2, b1, b2, b3, b4, b5⟩ := m_settles (m := m) (k := k) (r := m + 119) (by omega) a3 M1.mo Z1 I N
  have M2 := M1.eq b2.1
  unfold fX10_spill kX10_spill_0 aSpill
  rw [if_pos M0.k, m_in, bI_s]
  by_cases ha : 0 ≤ a ∧ a ≤ 1
  · have c0 : fX10_bad m 0 1 1 (th0 h m) = _ := m_bad0 M.k (th0_0 h m) 1 1
    rw [decide_eq_true ha, b2i_t, if_pos (show ¬ (1 : Int32) = 0 by decide), if_pos ha, if_pos hk, c0, bI_s, if_pos rfl, if_pos hk, M.now.1, M.tri.1, a1, bV_s, if_pos M1.k, M1.tri.1, b1, bI_s]
    have sc := ((scm_th0 h m).trans a2).trans (scm_sx b2)
    have t0 : h2.2 m 0 = 0 := by
      rw [b2.2.2 0 (by decide) (by decide) (by decide), a4]
      exact th0_0 h m
    by_cases e : a = 0
    · rw [if_neg (fun w => w e), if_pos e, if_pos M2.k, b4]
      exact refA_i rfl sc t0
    · rw [if_pos e, if_neg e, if_pos M2.k, b5]
      exact refA_i rfl sc t0
  · have c1 : fX10_bad m 1 1 1 (th0 h m) = _ := m_badT M0 (w := 1) (by decide) (i := 1) (by decide)
    rw [decide_eq_false ha, b2i_f, if_neg (show ¬ ¬ (0 : Int32) = 0 by decide), if_neg ha, if_pos hk, c1, bI_s, if_neg (by decide)]
    rfl
end F3
