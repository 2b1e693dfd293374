/-! ===== the reference reads steps ===== -/
theorem ra_s (q m r : Nat) (h : Hp) : (rX10_again_X10_readsStep (q + 1)).1 m r h = kX10_again_0 (gX10_again (rX10_again_X10_readsStep q).1 (rX10_again_X10_readsStep q).2 FF) (rX10_again_X10_readsStep q).1 (rX10_again_X10_readsStep q).2 m r h := rfl
theorem rb_s (q m : Nat) (h : Hp) : (rX10_again_X10_readsStep (q + 1)).2 m h = kX10_readsStep_0 (gX10_readsStep (rX10_again_X10_readsStep q).1 (rX10_again_X10_readsStep q).2 FF) (rX10_again_X10_readsStep q).1 (rX10_again_X10_readsStep q).2 m h := rfl
/-- what is wanted of the loop between brackets -/
def LPf (T : Nat → Nat) (n f : Nat) : Prop := ∀ (q0 D p j fl m : Nat) (h : Hp), f < fl → RP h m T n (bk T n p) → p ≤ n → n - p < f → h.2 m 18 = nI j → h.2 m 8 = nI D → 1 ≤ D → D ≤ 6 → j + (n - p) / 4 < 80 → 2 * (7 - D) ≤ q0 →
    ∃ h', gX10_again (rX10_again_X10_readsStep q0).1 (rX10_again_X10_readsStep q0).2 fl 20 [.ref m, uV] [] h = some (.inl none, h') ∧ outB h h' m T n (D - 1) j (pFo T n f D p)
section RS2
variable {h h' : Hp} {m n p i d : Nat} {T : Nat → Nat} {s : Rd}
theorem m_numbers_11 {r : Nat} (hk1 : kH h r = 1) (hk5 : lH h r = 5) (h0 : h.2 r 0 = nI 11) : fX10_numbers m r h = some (.inl none, h) := by
  unfold fX10_numbers kX10_numbers_0
  rw [if_pos hk1, hk5, if_pos (by decide), h0, show FF = 999996 + 1 + 1 + 1 + 1 from rfl, if_pos (by decide), zX10_numbers_20]
  unfold kX10_numbers_20
  rw [if_neg (by decide), if_pos (by decide), zX10_numbers_41]
  unfold kX10_numbers_41
  rw [if_pos (by decide), zX10_numbers_56]
  unfold kX10_numbers_56
  rw [if_pos (by decide), zX10_numbers_71]
  unfold kX10_numbers_71
  rw [if_pos (by decide), if_pos (by decide)]
theorem sub8 {d : Nat} (hd : d < 2 ^ 20) : nI (d + 1) - 1 = nI d := by
  rw [k1, pk_sub (by omega), Nat.add_sub_cancel]
/-- a fault ends the loop -/
theorem m_loop_er {A : Nat → Nat → Hp → RS} {B : Nat → Hp → RS} {e : Ft} (X : RX h m T n) (E : RE h m e) (f : Nat) : ∃ h', gX10_again A B (f + 1) 20 [.ref m, uV] [] h = some (.inl none, h') ∧ RX h' m T n ∧ RE h' m e ∧ ∀ i, Fq h h' m i := by
  refine ⟨(h.1, upI h.2 m 8 (h.2 m 8 - 1)), ?_, X.fq (fq_8 h m 0 _), ⟨E.1, ?_, ?_, ?_⟩, fun i => fq_8 h m i _⟩
  · rw [zX10_again_20]
    unfold kX10_again_20
    rw [if_pos X.1.k, if_pos E.nz, E.sign X.1.k, bV_s, if_pos X.1.k]
  · show upI _ _ _ _ m 5 = _
    rw [upI_at, if_neg (by decide)]
    exact E.2.1
  · show upI _ _ _ _ m 6 = _
    rw [upI_at, if_neg (by decide)]
    exact E.2.2.1
  · obtain ⟨p', q1, q2⟩ := E.2.2.2
    refine ⟨p', q1, ?_⟩
    show upI _ _ _ _ m 4 = _
    rw [upI_at, if_neg (by decide)]
    exact q2
/-- what an again leaves: its row is i -/
def outA (h h' : Hp) (m : Nat) (T : Nat → Nat) (n d i f q : Nat) : Prop := Fq h h' m i ∧ match gS T n 91 (pS T n 0 60 (.inl q)).2 with
  | .inr e => RX h' m T n ∧ RE h' m e ∧ e.2 ≤ n
  | .inl q2 => match pFo T n f (d + 1) q2 with
    | .inr e => RX h' m T n ∧ RE h' m e ∧ e.2 ≤ n
    | .inl v => RP h' m T n (v.2 + 1) ∧ h'.2 m 18 = nI (i + 1 + fsz v.1) ∧ h'.2 m 8 = nI d ∧ LayR h' m (i + 1) v.1 ∧ h'.2 (m + 38 + i) 0 = h.2 (m + 38 + i) 0 ∧ h'.2 (m + 38 + i) 1 = nI (pS T n 0 60 (.inl q)).1
theorem m_again {f q q0 : Nat} (L : LPf T n f) (X : RP h m T n q) (h18 : h.2 m 18 = nI (i + 1)) (h8 : h.2 m 8 = nI (d + 1)) (hd : d ≤ 5) (hi : i < 80) (hf : n - q ≤ f) (hb : ∀ q2, q + 2 ≤ q2 → i + 1 + (n - q2) / 4 < 80) (hq0 : 2 * (6 - d) ≤ q0) (hff : f < 999999) :
    ∃ h', (rX10_again_X10_readsStep (q0 + 1)).1 m (m + 38 + i) h = some (.inl none, h') ∧ outA h h' m T n d i f q := by
  obtain ⟨-, -, -, -, w5, w6⟩ := X.1.1.stepRow hi
  obtain ⟨z, h1, a1, a2, a3, a4, a5, a6⟩ := ms_put (s := .inl q) X (r := m + 38 + i) (i := 1) (by omega) (lo := 0) (hi := 60) (by decide) (by decide)
  have a1 : fX10_number m 0 60 h = _ := a1
  obtain ⟨h7, b1, b2, b3⟩ := ms_sign a4 (c := 91) (by decide)
  have b1 : fX10_sign m 91 (h1.1, upI h1.2 (m + 38 + i) 1 z) = _ := b1
  have k1' : kH h1 (m + 38 + i) = 1 := (kh_eq a2 _).trans w5
  have l1' : lH h1 (m + 38 + i) = 5 := (lh_eq a2 _).trans w6
  have km1 : kH h1 m = 18 := (kh_eq a2 _).trans X.k
  have e7 : h7.1 = h.1 := b2.1.trans a2
  have km7 : kH h7 m = 18 := (kh_eq e7 _).trans X.k
  have F7 : Fq h h7 m i := (Frr.q hi a3).trans (b2.q i) (Nat.le_refl _)
  have r7 : ∀ j, h7.2 (m + 38 + i) j = if j = 1 then z else h.2 (m + 38 + i) j := fun j => by rw [b2.2.1 _ (by omega)]; exact a5 j
  rw [ra_s]
  unfold kX10_again_0 outA
  rw [if_pos X.k, a1, bI_s, if_pos k1', l1', if_pos (by decide), if_pos km1, b1, bV_s, if_pos km7]
  cases e : gS T n 91 (pS T n 0 60 (.inl q)).2 with
  | inr er =>
    rw [e] at b3
    have b3 : RX h7 m T n ∧ RE h7 m er ∧ er.2 ≤ n := b3
    obtain ⟨h10, c1, c2, c3⟩ := b3.2.1.blanks b3.1
    obtain ⟨h', d1, d2, d3, d4⟩ := m_loop_er (A := (rX10_again_X10_readsStep q0).1) (B := (rX10_again_X10_readsStep q0).2) (b3.1.fr c2) c3 999999
    rw [c1, bV_s]
    exact ⟨h', d1, (F7.trans (c2.q i) (Nat.le_refl _)).trans (d4 i) (Nat.le_refl _), d2, d3, b3.2.2⟩
  | inl q2 =>
    rw [e] at b3
    have b3 : RP h7 m T n q2 := b3
    have hs1 : ∀ p, (Sum.inl q : Rd) = .inl p → p ≤ n := fun p hp => by injection hp with hp; rw [← hp]; exact X.2.2.2
    obtain ⟨p1, g1, g2, g3⟩ := gS_adv (pS_le hs1) e
    obtain ⟨p0, g4, g5, g6, -⟩ := pS_adv hs1 g1
    injection g4 with g4
    obtain ⟨h10, c1, c2, c3⟩ := m_blanks b3
    have f18 : h10.2 m 18 = nI (i + 1) := by rw [c2.2.2 18 (by decide) (by decide) (by decide), b2.2.2 18 (by decide) (by decide) (by decide), a3.2.2 18 (by decide) (by decide) (by decide)]; exact h18
    have f8 : h10.2 m 8 = nI (d + 1) := by rw [c2.2.2 8 (by decide) (by decide) (by decide), b2.2.2 8 (by decide) (by decide) (by decide), a3.2.2 8 (by decide) (by decide) (by decide)]; exact h8
    obtain ⟨h', d1, d2⟩ := L q0 (d + 1) q2 (i + 1) FF m h10 (by show f < 1000000; omega) c3 g3 (by omega) f18 f8 (by omega) (by omega) (hb q2 (by omega)) (by omega)
    have F10 := F7.trans (c2.q i) (Nat.le_refl _)
    rw [c1, bV_s]
    refine ⟨h', d1, F10.trans d2.1 (by omega), ?_⟩
    obtain ⟨d3, d4⟩ := d2
    rw [Nat.add_sub_cancel] at d4
    show match pFo T n f (d + 1) q2 with
      | .inr e => RX h' m T n ∧ RE h' m e ∧ e.2 ≤ n
      | .inl v => RP h' m T n (v.2 + 1) ∧ h'.2 m 18 = nI (i + 1 + fsz v.1) ∧ h'.2 m 8 = nI d ∧ LayR h' m (i + 1) v.1 ∧ h'.2 (m + 38 + i) 0 = h.2 (m + 38 + i) 0 ∧ h'.2 (m + 38 + i) 1 = nI (pS T n 0 60 (.inl q)).1
    cases e2 : pFo T n f (d + 1) q2 with
    | inr er =>
      rw [e2] at d4
      exact d4
    | inl v =>
      rw [e2] at d4
      obtain ⟨x1, x2, x3, x4⟩ := d4
      have rr : h'.2 (m + 38 + i) = h7.2 (m + 38 + i) := by rw [d3.2.1 _ (by omega) (by omega), c2.2.1 _ (by omega)]
      refine ⟨x1, x2, x3, x4, ?_, ?_⟩
      · rw [rr, r7, if_neg (by decide)]
      · rw [rr, r7, if_pos rfl]
        exact a6 ⟨p1, g1⟩
end RS2
