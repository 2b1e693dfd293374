/-! ===== SETTLE by the reference ===== -/
def SxM (h h' : Hp) (m r : Nat) : Prop := h'.1 = h.1 ∧ (∀ a, a ≠ r → a ≠ m → a ≠ m + 147 → a ≠ m + 148 → a ≠ m + 149 → h'.2 a = h.2 a) ∧ (∀ j, j ≠ 30 → j ≠ 33 → j ≠ 34 → h'.2 m j = h.2 m j)
theorem SxM.refl (h : Hp) (m r : Nat) : SxM h h m r := ⟨rfl, fun _ _ _ _ _ _ => rfl, fun _ _ _ _ => rfl⟩
theorem SxM.trans {h h1 h2 : Hp} {m r : Nat} (a : SxM h h1 m r) (b : SxM h1 h2 m r) : SxM h h2 m r :=
  ⟨b.1.trans a.1, fun y q1 q2 q3 q4 q5 => by rw [b.2.1 y q1 q2 q3 q4 q5, a.2.1 y q1 q2 q3 q4 q5], fun j q1 q2 q3 => by rw [b.2.2 j q1 q2 q3, a.2.2 j q1 q2 q3]⟩
theorem dirtN_nil {S : St} (D : sC S = []) (z : Nat) : dirtN S z = 0 := by
  have hh : ∀ b, dirt S b = false := fun b => by unfold dirt; rw [D]; rfl
  unfold dirtN
  induction z with
  | zero => rfl
  | succ n ih =>
    show bitsOf (dirt S) n ||| (if dirt S n then 2 ^ n else 0) = 0
    rw [ih, hh n, if_neg (by decide), Nat.or_zero]
theorem Wr_wb {S : St} {z k b : Nat} (I : Inv S z (k + 240)) : Wg S ∧ Wb S b := ⟨inv_Wg I, inv_Wb I b⟩
section F2
variable {h : Hp} {r m z k : Nat} {S : St}
theorem m_write1 {b : Nat} (hb0 : b < 16) (hr : r ≠ m ∧ r ≠ m + 147 ∧ r ≠ m + 148 ∧ r ≠ m + 149) (R : Row h r S) (M : MO h m) (I : Inv S z (k + 240)) :
    ∃ h', fX10_writes m r (nI b) h = some (.inl (some (.int (b2i (dirt S b)))), h') ∧ h'.1 = h.1 ∧ (∀ a, a ≠ r → a ≠ m → a ≠ m + 147 → a ≠ m + 148 → a ≠ m + 149 → h'.2 a = h.2 a) ∧ (∀ j, j ≠ 30 → h'.2 m j = h.2 m j) ∧ Row h' r (wrs S b) := by
  obtain ⟨⟨g1, g2, g3⟩, g4⟩ := Wr_wb (b := b) I
  exact m_writes hb0 hr R M g1 g2 g3 g4
theorem m_spills (R : Row h r S) (W : Wf (sD S)) (hm : kH h m = 18) (hrm : r ≠ m) (hz : h.2 m 11 = nI z) (hz1 : 6 ≤ z) (hz2 : z ≤ 16) (w : Nat) : ∃ h', fX10_spills m r (nI w) h = some (.inl none, h') ∧ SxM h h' m r ∧ h'.2 r = h.2 r ∧
    h'.2 m 33 = mxI (h.2 m 33) (nI (lkS S z)) ∧ h'.2 m 34 = (if nI (lkS S z) ≤ h.2 m 33 then h.2 m 34 else nI w) := by
  have hl := q_leaking R.rb1 W hm hz hz1 hz2
  have hl : fX10_leaking m r 256 h = _ := hl
  have ho : fX10_ones (nI (leakN (sD S) z)) h = some (.inl (some (.int (nI (lkS S z)))), h) := q_ones (h := h) (x := leakN (sD S) z) (by have := leakN_lt (sD S) hz2; omega)
  have hk : ∀ g : Nat → Nat → Int32, kH (h.1, g) m = 18 := fun g => hm
  unfold fX10_spills kX10_spills_0
  rw [if_pos hm, hl, bI_s, ho, bI_s, if_pos hm]
  by_cases e : nI (lkS S z) ≤ h.2 m 33
  · rw [if_pos e, mx_more, bI_s, if_pos (hk _)]
    refine ⟨_, rfl, ⟨rfl, fun a _ ha _ _ _ => ?_, fun j _ h33 h34 => ?_⟩, ?_, ?_, ?_⟩
    · dsimp only; rw [upI_ne ha, upI_ne ha]
    · dsimp only; rw [upI_at, if_neg h33, upI_at, if_neg h34]
    · dsimp only; rw [upI_ne hrm, upI_ne hrm]
    · dsimp only; rw [upI_at, if_pos rfl, upI_at, if_neg (by decide)]
    · dsimp only; rw [upI_at, if_neg (by decide), upI_at, if_pos rfl, if_pos e]
  · rw [if_neg e, mx_more, bI_s, if_pos (hk _)]
    refine ⟨_, rfl, ⟨rfl, fun a _ ha _ _ _ => ?_, fun j _ h33 h34 => ?_⟩, ?_, ?_, ?_⟩
    · dsimp only; rw [upI_ne ha, upI_ne ha]
    · dsimp only; rw [upI_at, if_neg h33, upI_at, if_neg h34]
    · dsimp only; rw [upI_ne hrm, upI_ne hrm]
    · dsimp only; rw [upI_at, if_pos rfl, upI_at, if_neg (by decide)]
    · dsimp only; rw [upI_at, if_neg (by decide), upI_at, if_pos rfl, if_neg e]
/-- a state of the loop: the row, and what was tracked -/
def Trk (h : Hp) (m r : Nat) (q : St × Nat × Nat × Nat) (z : Nat) : Prop := Row h r q.1 ∧ MO h m ∧ h.2 m 11 = nI z ∧ h.2 m 33 = nI q.2.2.1 ∧ h.2 m 34 = nI q.2.2.2 ∧ q.2.2.1 ≤ 16 ∧ q.2.1 ≤ 200
theorem mxI_n {a b : Nat} (ha : a < 2 ^ 31) (hb : b < 2 ^ 31) : mxI (nI a) (nI b) = nI (if b ≤ a then a else b) := by
  unfold mxI
  by_cases e : a < b
  · rw [if_pos (by rw [nI_ltI ha hb]; exact e), if_neg (by omega)]
  · rw [if_neg (by rw [nI_ltI ha hb]; exact e), if_pos (by omega)]
theorem m_set_in (hr : r ≠ m ∧ r ≠ m + 147 ∧ r ≠ m + 148 ∧ r ≠ m + 149) (hz1 : 6 ≤ z) (hz2 : z ≤ 16) : ∀ (c b f : Nat) (q : St × Nat × Nat × Nat) (h : Hp), b + c = z → Trk h m r q z → Inv q.1 z (k + 240 * c) → q.2.1 + nW q.1 (List.range' b c) < 200 →
    ∃ h', gX10_settles (f + c + 1) 23 [.ref m, .ref r, .int (nI q.2.1), .int (nI b)] [] h = gX10_settles f 13 [.ref m, .ref r, .int (nI ((List.range' b c).foldl (spF z) q).2.1), uV] [] h' ∧ SxM h h' m r ∧ Trk h' m r ((List.range' b c).foldl (spF z) q) z := by
  intro c
  induction c with
  | zero =>
    intro b f q h hb T I hw
    obtain ⟨T1, T2, T3, T4, T5, T6, T7⟩ := id T
    refine ⟨h, ?_, SxM.refl h m r, T⟩
    rw [zX10_settles_23]
    unfold kX10_settles_23
    rw [if_pos T2.1, T3, if_pos (by rw [nI_leI (by omega) (by omega)]; omega)]
    rfl
  | succ c ih =>
    intro b f q h hb T I hw
    obtain ⟨T1, T2, T3, T4, T5, T6, T7⟩ := id T
    rw [List.range'_succ] at hw ⊢
    rw [List.foldl_cons]
    have hw : q.2.1 + ((if dirt q.1 b then 1 else 0) + nW (wrs q.1 b) (List.range' (b + 1) c)) < 200 := hw
    rw [show f + (c + 1) + 1 = (f + c + 1) + 1 by omega, zX10_settles_23]
    unfold kX10_settles_23
    rw [if_pos T2.1, T3, if_neg (by rw [nI_leI (by omega) (by omega)]; omega), m_isDirty T1 (by omega), bI_s]
    cases hd : dirt q.1 b with
    | false =>
      have e1 : spF z q b = q := by unfold spF; rw [hd]; rfl
      have e2 : wrs q.1 b = q.1 := by unfold wrs; rw [hd]; rfl
      rw [hd, e2] at hw
      rw [e1, if_neg (by decide), nI_1]
      exact ih (b + 1) f q h (by omega) T (I.le (by omega)) (by simpa using hw)
    | true =>
      rw [hd, if_pos rfl] at hw
      obtain ⟨h1, a1, a2, a3, a4, a5⟩ := m_write1 (k := k + 240 * c) (b := b) (by omega) hr T1 T2 (I.le (by omega))
      have I1 : Inv (wrs q.1 b) z (k + 240 * c) := inv_wrs (I.le (by omega)) b
      obtain ⟨h2, b1, b2, b3, b4, b5⟩ := m_spills a5 (inv_wfd I1).1 ((kh_eq a2 m).trans T2.1) hr.1 ((a4 11 (by decide)).trans T3) hz1 hz2 (q.2.1 + 1)
      have hlk : lkS (wrs q.1 b) z ≤ 16 := onesN_le _
      have e33 : h1.2 m 33 = nI q.2.2.1 := (a4 33 (by decide)).trans T4
      have e34 : h1.2 m 34 = nI q.2.2.2 := (a4 34 (by decide)).trans T5
      rw [e33, mxI_n (by omega) (by omega)] at b4
      rw [e33, e34] at b5
      have hq : spF z q b = (wrs q.1 b, q.2.1 + 1, if lkS (wrs q.1 b) z ≤ q.2.2.1 then q.2.2.1 else lkS (wrs q.1 b) z, if lkS (wrs q.1 b) z ≤ q.2.2.1 then q.2.2.2 else q.2.1 + 1) := by unfold spF; rw [hd]; rfl
      have S1 : SxM h h1 m r := ⟨a2, a3, fun j q1 _ _ => a4 j q1⟩
      have T' : Trk h2 m r (spF z q b) z := by
        rw [hq]
        refine ⟨a5.eq b2.1 b3, (T2.eq a2).eq b2.1, ?_, b4, ?_, ?_, by show q.2.1 + 1 ≤ 200; omega⟩
        · rw [b2.2.2 11 (by decide) (by decide) (by decide), a4 11 (by decide)]; exact T3
        · rw [b5]
          by_cases e : lkS (wrs q.1 b) z ≤ q.2.2.1
          · rw [if_pos (by rw [nI_leI (by omega) (by omega)]; exact e)]
            show _ = nI (if _ then _ else _)
            rw [if_pos e]
          · rw [if_neg (by rw [nI_leI (by omega) (by omega)]; exact e)]
            show _ = nI (if _ then _ else _)
            rw [if_neg e]
        · show (if _ then _ else _) ≤ 16
          split <;> omega
      have q1 : (spF z q b).1 = wrs q.1 b := by rw [hq]
      have q2 : (spF z q b).2.1 = q.2.1 + 1 := by rw [hq]
      obtain ⟨h3, i1, i2, i3⟩ := ih (b + 1) f (spF z q b) h2 (by omega) T' (by rw [q1]; exact I1) (by rw [q1, q2]; omega)
      refine ⟨h3, ?_, (S1.trans b2).trans i2, i3⟩
      rw [if_pos (by decide), if_pos (by rw [show (200 : Int32) = nI 200 from rfl, nI_eq (by omega) (by decide)]; omega), if_pos T2.1, a1, bI_s, if_pos ((kh_eq a2 m).trans T2.1), nI_1, b1, bV_s, nI_1, ← i1, q2]
theorem m_set_go (hr : r ≠ m ∧ r ≠ m + 147 ∧ r ≠ m + 148 ∧ r ≠ m + 149) (hz1 : 6 ≤ z) (hz2 : z ≤ 16) : ∀ (n f : Nat) (q : St × Nat × Nat × Nat) (h : Hp), Trk h m r q z → Inv q.1 z (k + 3840 * n) → q.2.1 + (sett z n q.1).1 < 200 → sC (sett z n q.1).2 = [] →
    ∃ h', gX10_settles (f + n * (z + 2) + 1) 13 [.ref m, .ref r, .int (nI q.2.1), uV] [] h = some (.inl (some (.int (nI (spt z n q).2.1))), h') ∧ SxM h h' m r ∧ Trk h' m r (spt z n q) z := by
  intro n
  induction n with
  | zero =>
    intro f q h T I hw D
    obtain ⟨T1, T2, T3, T4, T5, T6, T7⟩ := id T
    have D : sC q.1 = [] := D
    refine ⟨h, ?_, SxM.refl h m r, T⟩
    rw [zX10_settles_13]
    unfold kX10_settles_13
    have hdd : dirtN q.1 z = 0 := dirtN_nil D z
    rw [if_pos T2.1, m_dirty T1 T2.1 T3 hz2, bI_s, hdd, if_pos nI_0]
    rfl
  | succ n ih =>
    intro f q h T I hw D
    obtain ⟨T1, T2, T3, T4, T5, T6, T7⟩ := id T
    rw [sett_s] at hw D
    rw [spt_s]
    by_cases e : (sC q.1).isEmpty = true
    · rw [if_pos e] at hw D ⊢
      refine ⟨h, ?_, SxM.refl h m r, T⟩
      rw [zX10_settles_13]
      unfold kX10_settles_13
      have hdd : dirtN q.1 z = 0 := dirtN_nil (isE.mp e) z
      rw [if_pos T2.1, m_dirty T1 T2.1 T3 hz2, bI_s, hdd, if_pos nI_0]
    · rw [if_neg e] at hw D ⊢
      have hlen : (rng z).length = z := List.length_range'
      have hne : dirtN q.1 z ≠ 0 := by
        intro h0
        cases hc : sC q.1 with
        | nil => rw [hc] at e; exact absurd rfl e
        | cons c l =>
          have hcb : cB c < z := inv_Zb I c (by rw [hc]; simp)
          have hb : (dirtN q.1 z).testBit (cB c) = (decide (cB c < z) && dirt q.1 (cB c)) := bitsOf_bit _ _ _
          rw [h0, Nat.zero_testBit, dirt_iff.mpr ⟨c, by rw [hc]; simp, rfl⟩, decide_eq_true hcb] at hb
          cases hb
      have hlt := dirtN_lt q.1 hz2
      have hw : q.2.1 + (nW q.1 (rng z) + (sett z n (syF q.1 (rng z))).1) < 200 := hw
      obtain ⟨h1, a1, a2, a3⟩ := m_set_in (k := k + 3840 * n) hr hz1 hz2 z 0 (f + n * (z + 2) + 1) q h (by omega) T (I.le (by omega)) (by show q.2.1 + nW q.1 (rng z) < 200; omega)
      obtain ⟨s1, s2⟩ := spFs z (rng z) q
      have I1 : Inv (syF q.1 (rng z)) z (k + 3840 * n) := inv_syF _ _ (I.le (by rw [hlen]; omega))
      obtain ⟨h2, i1, i2, i3⟩ := ih f ((rng z).foldl (spF z) q) h1 a3 (by rw [s1]; exact I1) (by rw [s1, s2]; omega) (by rw [s1]; exact D)
      refine ⟨h2, ?_, a2.trans i2, i3⟩
      rw [show f + (n + 1) * (z + 2) + 1 = ((f + n * (z + 2) + 1) + z + 1) + 1 by rw [Nat.add_mul]; omega, zX10_settles_13]
      unfold kX10_settles_13
      rw [if_pos T2.1, m_dirty T1 T2.1 T3 hz2, bI_s, if_neg (by rw [nI_eq0 (by omega)]; exact hne)]
      have a1 : gX10_settles (f + n * (z + 2) + 1 + z + 1) 23 [.ref m, .ref r, .int (nI q.2.1), .int 0] [] h = _ := a1
      rw [a1]
      exact i1
/-- most and mostAt, as the reference has them behind SETTLE -/
noncomputable def spq (S : St) (z : Nat) : St × Nat × Nat × Nat := spt z 16 (S, 0, lkS S z, 0)
theorem spq_le (I : Inv S z (k + 3840 * 16)) (N : Nk S) : (spq S z).2.1 ≤ 154 ∧ (spq S z).1 = (sett z 16 S).2 ∧ (spq S z).2.1 = (sett z 16 S).1 := by
  obtain ⟨h1, h2⟩ := spt_eq z 16 (S, 0, lkS S z, 0)
  have h3 := (settles_ends I N).2
  have h2 : (spq S z).2.1 = 0 + (sett z 16 S).1 := h2
  exact ⟨by omega, h1, by omega⟩
theorem m_settles (hr : r ≠ m ∧ r ≠ m + 147 ∧ r ≠ m + 148 ∧ r ≠ m + 149) (R : Row h r S) (M : MO h m) (hz : h.2 m 11 = nI z) (I : Inv S z (k + 3840 * 16)) (N : Nk S) :
    ∃ h', fX10_settles m r h = some (.inl (some (.int (nI (sett z 16 S).1))), h') ∧ SxM h h' m r ∧ Row h' r (sett z 16 S).2 ∧ h'.2 m 33 = nI (spq S z).2.2.1 ∧ h'.2 m 34 = nI (spq S z).2.2.2 := by
  obtain ⟨hz1, hz2⟩ := I.1
  obtain ⟨D1, D2⟩ := settles_ends I N
  obtain ⟨q1, q2, q3⟩ := spq_le I N
  have hlk : lkS S z ≤ 16 := onesN_le _
  have R0 : Row (h.1, upI h.2 m 33 (-1)) r S := R.up (upI_ne hr.1)
  obtain ⟨h1, b1, b2, b3, b4, b5⟩ := m_spills (h := (h.1, upI h.2 m 33 (-1))) R0 (inv_wfd I).1 M.1 hr.1 (by show upI h.2 m 33 (-1) m 11 = _; rw [upI_at, if_neg (by decide)]; exact hz) hz1 hz2 0
  have e33 : (upI h.2 m 33 (-1)) m 33 = -1 := by rw [upI_at, if_pos rfl]
  have hlt : (-1 : Int32) < nI (lkS S z) := by
    have h0 := nI_0le (a := lkS S z) (by omega)
    have : (0 : Int32) ≤ nI (lkS S z) := h0.mpr trivial
    exact Int32.lt_of_lt_of_le (by decide) this
  have hnle : ¬ nI (lkS S z) ≤ (-1 : Int32) := fun q => by
    have := Int32.lt_of_lt_of_le hlt q
    exact Int32.lt_irrefl this
  have b5 : h1.2 m 34 = nI 0 := b5.trans (if_neg (by show ¬ nI (lkS S z) ≤ (upI h.2 m 33 (-1)) m 33; rw [e33]; exact hnle))
  dsimp only at b4
  rw [e33] at b4
  have b4 : h1.2 m 33 = nI (lkS S z) := by rw [b4]; unfold mxI; rw [if_pos hlt]
  have S0 : SxM h (h.1, upI h.2 m 33 (-1)) m r := ⟨rfl, fun a _ ha _ _ _ => upI_ne ha, fun j _ h33 _ => by dsimp only; rw [upI_at, if_neg h33]⟩
  have T : Trk h1 m r (S, 0, lkS S z, 0) z := by
    refine ⟨R0.eq b2.1 b3, (show MO (h.1, upI h.2 m 33 (-1)) m from M.eq rfl).eq b2.1, ?_, b4, b5, hlk, Nat.zero_le _⟩
    rw [b2.2.2 11 (by decide) (by decide) (by decide)]
    show upI h.2 m 33 (-1) m 11 = _
    rw [upI_at, if_neg (by decide)]
    exact hz
  have hz18 : 16 * (z + 2) ≤ 288 := by omega
  obtain ⟨h2, c1, c2, c3⟩ := m_set_go (k := k) hr hz1 hz2 16 (1000000 - 16 * (z + 2) - 1) (S, 0, lkS S z, 0) h1 T I (by show 0 + (sett z 16 S).1 < 200; omega) D1
  refine ⟨h2, ?_, (S0.trans b2).trans c2, ?_, c3.2.2.2.1, c3.2.2.2.2.1⟩
  · unfold fX10_settles kX10_settles_0
    have b1 : fX10_spills m r 0 (h.1, upI h.2 m 33 (-1)) = _ := b1
    rw [if_pos M.1, b1, bV_s]
    rw [show 1000000 - 16 * (z + 2) - 1 + 16 * (z + 2) + 1 = FF by unfold FF; omega] at c1
    have c1 : gX10_settles FF 13 [.ref m, .ref r, .int 0, uV] [] h1 = some (.inl (some (.int (nI (spq S z).2.1))), h2) := c1
    rw [c1, q3]
  · rw [← q2]
    exact c3.1
end F2
