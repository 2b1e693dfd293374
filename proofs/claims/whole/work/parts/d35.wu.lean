/-! ===== the class: work, undo ===== -/
section WU
variable {h h' : Hp} {x B z n k N Z : Nat} {bl bl' : Nat → Nat} {S S' : St} {T T' : Nat → Nat} {ls ls' : List (Nat × Nat)} {fp rs fp' rs' : Int32} {rf rf' : Nat → Int32} {hi hs : List St} {im : List (St × List St)}
/-- the same blocks, other fields, another history -/
theorem CW.re2 {n' : Nat} (A : CW h x B bl S z T n ls fp rs rf hi im) (e : h'.1 = h.1) (R : Sta h' (x + 1) S' z) (M : CM h' x T' n' ls' fp' rs' rf') (H : HsC h' x bl 0 hs z) (f : ∀ a, B ≤ a → h'.2 a = h.2 a) (f11 : h'.2 x 11 = h.2 x 11) : CW h' x B bl S' z T' n' ls' fp' rs' rf' hs im := by
  obtain ⟨⟨C, R0⟩, A2, A3, A4, A5⟩ := A
  have b1 := A3.1
  refine ⟨⟨C.eq e, R⟩, M, A3.same e, H, by rw [f11]; exact A5.1, A5.2.1, fun g v hv => ?_⟩
  obtain ⟨u1, u2, u3⟩ := A5.2.2 g v hv
  have hg : g < im.length := (List.getElem?_eq_some_iff.mp hv).1
  have h3 := A5.2.1
  have c := A3.2.1 (64 + g) (by omega) u1
  exact ⟨u1, Sta.eqs e (fun a w1 w2 => f a (by omega)) u2, u3.ext (Ext.same e) A3 C (by omega) (Or.inr (by rw [show 63 + (g + 1) = 64 + g by omega]; exact u1)) (f _ (by rw [hO_s]; omega)) (fun a ha q => f a q)⟩
theorem CW.re {n' : Nat} (A : CW h x B bl S z T n ls fp rs rf hi im) (e : h'.1 = h.1) (R : Sta h' (x + 1) S' z) (M : CM h' x T' n' ls' fp' rs' rf') (f : ∀ a, a = x + 11 ∨ B ≤ a → h'.2 a = h.2 a) (f11 : h'.2 x 11 = h.2 x 11) : CW h' x B bl S' z T' n' ls' fp' rs' rf' hi im := A.re2 e R M (A.2.2.2.1.ext (Ext.same e) A.2.2.1 A.1.1 (by omega) (Or.inl rfl) (f _ (by rw [hO_0]; omega)) (fun a ha q => f a (by omega))) (fun a q => f a (by omega)) f11
theorem CM.t0 (M : CM h x T n ls fp rs rf) (v : Int32) : CM (h.1, upI (upI h.2 x 12 0) x 14 v) x T 0 ls v rs rf := by
  have e0 : ∀ j, j ≠ 12 → j ≠ 14 → upI (upI h.2 x 12 0) x 14 v x j = h.2 x j := fun j q1 q2 => by rw [upI_at, if_neg q2, upI_at, if_neg q1]
  have en : ∀ a, a ≠ x → upI (upI h.2 x 12 0) x 14 v a = h.2 a := fun a q => by rw [upI_ne q, upI_ne q]
  obtain ⟨m1, ⟨⟨m2, m3⟩, m4⟩, ⟨m5, m6⟩, m7⟩ := M
  refine ⟨⟨?_, by omega, fun i hi => by omega, fun i hi => by omega⟩, ⟨⟨m2, fun p hp => ?_⟩, ?_⟩, ⟨?_, ?_⟩, fun i hi => ?_⟩
  · show upI _ _ _ _ x 12 = _
    rw [upI_at, if_neg (by decide), upI_at, if_pos rfl]
    rfl
  · show upI _ _ _ _ (x + 38) p = _
    rw [en _ (by omega)]
    exact m3 p hp
  · show upI _ _ _ _ x 13 = _
    rw [e0 13 (by decide) (by decide)]
    exact m4
  · show upI _ _ _ _ x 14 = _
    rw [upI_at, if_pos rfl]
  · show upI _ _ _ _ x 15 = _
    rw [e0 15 (by decide) (by decide)]
    exact m6
  · show upI _ _ _ _ (x + 41) i = _
    rw [en _ (by omega)]
    exact m7 i hi
theorem CW.t0 (A : CW h x B bl S z T n ls fp rs rf hi im) (v : Int32) : CW (h.1, upI (upI h.2 x 12 0) x 14 v) x B bl S z T 0 ls v rs rf hi im := by
  have b1 := A.2.2.1.1
  refine A.re rfl (A.1.2.up (fun a w1 w2 => ?_)) (A.2.1.t0 v) (fun a q => ?_) ?_
  · rw [upI_ne (by omega), upI_ne (by omega)]
  · show upI _ _ _ _ a = _
    rw [upI_ne (by omega), upI_ne (by omega)]
  · show upI _ _ _ _ x 11 = _
    rw [upI_at, if_neg (by decide), upI_at, if_neg (by decide)]
theorem CW.fre (A : CW h x B bl S z T n ls fp rs rf hi im) (f : FrE h h' x) : CW h' x B bl S z T n ls fp rs rf hi im := by
  have b1 := A.2.2.1.1
  exact A.ext (Ext.same f.1) (fun a _ q => f.2 a (by unfold pers at q; omega))
theorem kc_t0 (h : Hp) (x B : Nat) (v : Int32) : KC h (h.1, upI (upI h.2 x 12 0) x 14 v) x B := KC.of rfl (fun a q1 q2 => by show upI _ _ _ _ a = _; rw [upI_ne (by omega), upI_ne (by omega)])
theorem t_len (C : CO h x) (a most : Int32) : fX9_testLength x a most h = if 0 ≤ a ∧ a ≤ h.2 x 12 ∧ a ≤ most then some (.inl none, h) else some (.inr xIA, thr h x 1) := by
  obtain ⟨r1, r2, r3⟩ := C.rfd
  unfold fX9_testLength kX9_testLength_0
  rw [r1, r2, r3, C.k]
  by_cases h1 : a < 0
  · rw [if_pos h1, if_pos rfl, if_pos rfl, if_pos (by decide), if_neg (fun q => Int32.not_le.mpr h1 q.1)]
    rfl
  · rw [if_neg h1, if_pos rfl]
    by_cases h2 : h.2 x 12 < a
    · rw [if_pos h2, if_pos rfl, if_pos (by decide), if_neg (fun q => Int32.not_le.mpr h2 q.2.1)]
      rfl
    · rw [if_neg h2]
      by_cases h3 : a ≤ most
      · rw [if_pos h3, if_pos ⟨Int32.not_lt.mp h1, Int32.not_lt.mp h2, h3⟩]
      · rw [if_neg h3, if_pos rfl, if_pos (by decide), if_neg (fun q => h3 q.2.2)]
        rfl
theorem t_txt (C : CO h x) (v : Int32) : fX9_textRead x v h = some (.inl none, (h.1, upI (upI h.2 x 12 0) x 14 (if v = 0 then -1 else h.2 (x + 27) 3))) := by
  unfold fX9_textRead kX9_textRead_0
  rw [if_pos C.k]
  by_cases e : v = 0
  · rw [if_neg (fun q => q e), if_pos e]
  · rw [if_pos e, C.r7, if_pos C.rdr.1, upI_ne (by omega), if_neg e]
/-- a text of the tape: as many bytes as there are -/
theorem len_of {a : Int32} {n most : Nat} (hn : n ≤ 600) (h : 0 ≤ a ∧ a ≤ nI n ∧ a ≤ nI most) (hm : most < 2 ^ 31) : ∃ k, a = nI k ∧ k ≤ n ∧ k ≤ most := by
  obtain ⟨k, h1, h2⟩ := rg_of (n := n) (by omega) ⟨h.1, h.2.1⟩
  refine ⟨k, h2, h1, ?_⟩
  have h3 := h.2.2
  rw [h2, nI_leI (by omega) hm] at h3
  exact h3
theorem cw_bad (A : CW h x B bl S z T n ls fp rs rf hi im) {a : Int32} (ha : ¬ (0 ≤ a ∧ a ≤ nI n ∧ a ≤ nI 150)) : fX9_work x a h = some (.inr xIA, thr h x 1) := by
  unfold fX9_work kX9_work_0
  rw [if_pos A.1.1.k, t_len A.1.1, A.2.1.1.1, if_neg (show ¬ (0 ≤ a ∧ a ≤ nI n ∧ a ≤ 150) from ha), bVx_t]
theorem cw_full (A : CW h x B bl S z T n ls fp rs rf hi im) {a : Int32} (ha : 0 ≤ a ∧ a ≤ nI n ∧ a ≤ nI 150) (h16 : hi.length = 16) : ∃ h', fX9_work x a h = some (.inl (some (.int (-20))), h') ∧ h'.1 = h.1 ∧ CW h' x B bl S z T 0 ls (-1) rs rf hi im ∧ KC h h' x B := by
  have C := A.1.1
  have b1 := A.2.2.1.1
  have H := A.2.2.2.1.1
  rw [hO_0, h16] at H
  refine ⟨(h.1, upI (upI h.2 x 12 0) x 14 (-1)), ?_, rfl, A.t0 (-1), kc_t0 h x B (-1)⟩
  unfold fX9_work kX9_work_0
  rw [if_pos C.k, t_len C, A.2.1.1.1, if_pos (show 0 ≤ a ∧ a ≤ nI n ∧ a ≤ 150 from ha), bVx_s, if_pos C.k, C.his.1.1, if_pos C.his.1.2, H, if_neg (show ¬ nI 16 < 16 by decide), t_txt C, bV_s, if_pos rfl]
theorem cw_go (A : CW h x B bl S z T n ls fp rs rf hi im) {m : Nat} (h1 : m ≤ n) (h2 : m ≤ 150) (h16 : hi.length < 16) (I : Inx S z (k + 768000)) (rm : Rm h bl N Z) : match pFo T m (m + 1) 0 0 with
    | .inr e => ∃ h', fX9_work x (nI m) h = some (.inl (some (.int (nI e.1 - 10))), h') ∧ h'.1 = h.1 ∧ CW h' x B bl S z T 0 ls (nI e.2) rs rf hi im ∧ KC h h' x B
    | .inl v => ∃ h' bl', fX9_work x (nI m) h = some (.inl (some (.int (nI (run z v.1 (S, 0, 0, 0)).2.2.1))), h') ∧ CW h' x B bl' (run z v.1 (S, 0, 0, 0)).1 z T 0 ls (-1) (nI (run z v.1 (S, 0, 0, 0)).2.2.2) rf (hi ++ [S]) im ∧ KC h h' x B ∧ Rm h' bl' N Z ∧ Ig z k (run z v.1 (S, 0, 0, 0)) := by
  have C := A.1.1
  have b1 := A.2.2.1.1
  have H := A.2.2.2.1.1
  rw [hO_0] at H
  obtain ⟨m1, m2, m3, m4⟩ := A.2.1.1
  obtain ⟨h7, a1, a2, a3, a4⟩ := c_readWork (n := m) C h2 (fun i hi => m3 i (by omega)) (fun i hi => m4 i (by omega))
  have A7 := A.fre a2
  have C7 := A7.1.1
  have st : fX9_work x (nI m) h = (bI (fX3_readWork (x + 27) (x + 26) (nI m) h) fun z8 h7 => (if kH h7 x = 19 then (bV (fX9_textRead x z8 h7) fun h11 => (if z8 = 0 then (if kH h11 x = 19 then (if kH h11 (rH h11 x 1) = 10 then (bV (fX0_push (rH h11 x 1) (rH h11 x 0) h11) fun h16 => (if kH h16 x = 19 then (if kH h16 (rH h16 x 7) = 13 then (bI (fX9_runScript x (rH h16 (rH h16 x 7) 0) h16) fun z22 h21 => (some (.inl (some (.int z22)), h21))) else none) else none)) else none) else none) else (some (.inl (some (.int (z8 - 10))), h11)))) else none)) := by
    unfold fX9_work kX9_work_0
    rw [if_pos C.k, t_len C, m1, if_pos (show 0 ≤ nI m ∧ nI m ≤ nI n ∧ nI m ≤ 150 from ⟨nI_pos' (by omega), by rw [nI_leI (by omega) (by omega)]; exact h1, by rw [show (150 : Int32) = nI 150 from rfl, nI_leI (by omega) (by decide)]; exact h2⟩), bVx_s, if_pos C.k, C.his.1.1, if_pos C.his.1.2, H, if_pos (by rw [k16, nI_ltI (by omega) (by decide)]; exact h16), C.r7, if_pos C.rdr.1, C.tape.1]
  rw [st]
  cases e : pFo T m (m + 1) 0 0 with
  | inr er =>
    rw [e] at a1 a4
    obtain ⟨⟨⟨c1, c2⟩, c3, c4⟩, c5⟩ := a4
    have nz : ¬ nI er.1 = 0 := by rw [nI_eq0 (by omega)]; omega
    refine ⟨_, ?_, ?_, A7.t0 (nI er.2), ?_⟩
    · rw [a1, bI_s, if_pos C7.k, t_txt C7, if_neg nz, c4, bV_s, if_neg nz]
    · exact a2.1
    · exact (KC.of a2.1 (fun a q1 q2 => a2.2 a (by omega))).trans (KC.of rfl (fun a q1 q2 => by show upI _ _ _ _ a = _; rw [upI_ne (by omega), upI_ne (by omega)]))
  | inl v =>
    rw [e] at a1 a4
    obtain ⟨c1, c2, c3, c4⟩ := a4
    have A8 := A7.t0 (-1)
    obtain ⟨h16', bl', d1, d2, d3, d4, d5⟩ := c_push A8 h16 (by have := inv_l60 I.1.1; omega) (N := N) (Z := Z) ⟨by rw [show nH (h7.1, _) = nH h7 from rfl, nh_eq a2.1]; exact rm.1, by rw [show zH (h7.1, _) = zH h7 from rfl, zh_eq a2.1]; exact rm.2⟩
    have C16 := d2.1.1
    have e16 : ∀ a, x + 28 ≤ a → a ≤ x + 34 → h16'.2 a = h7.2 a := fun a w1 w2 => by
      rw [d5 a (by omega) (by omega)]
      show upI _ _ _ _ a = _
      rw [upI_ne (by omega), upI_ne (by omega)]
    obtain ⟨h21, f1, f2, f3⟩ := c_run (k := k) (T := T) (n := m) (f := m + 1) (q := v.2) (F := v.1) e c4 C16 d2.1.2 I (by rw [e16 _ (by omega) (by omega)]; exact c2) (c3.cg (fun a i q _ _ => by rw [e16 a (by omega) (by omega)]))
    have g1 : ∀ a, a ≠ x → a < x + 1 ∨ x + 11 ≤ a → a < x + 21 ∨ x + 26 ≤ a → a ≠ x + 33 → h21.2 a = h16'.2 a := f2.2.1
    refine ⟨h21, bl', ?_, ?_, ?_, ⟨by rw [nh_eq f2.1]; exact d3.1, by rw [zh_eq f2.1]; exact d3.2⟩, f3.2.2.2⟩
    · rw [a1, bI_s, if_pos C7.k, t_txt C7, if_pos rfl, bV_s, if_pos rfl]
      have C8 := A8.1.1
      rw [if_pos C8.k, C8.his.1.1, if_pos C8.his.1.2, C8.r0, d1, bV_s, if_pos C16.k, C16.r7, if_pos C16.rdr.1, C16.scr.1, f1, bI_s]
    · refine d2.re f2.1 f3.2.1 ?_ (fun a q => g1 a (by omega) (by omega) (by omega) (by omega)) (f2.2.2.1 11 (by decide))
      obtain ⟨p1, ⟨⟨p2, p3⟩, p4⟩, ⟨p5, p6⟩, p7⟩ := d2.2.1
      exact ⟨⟨by rw [f2.2.2.1 12 (by decide)]; exact p1.1, by omega, fun i hi => by omega, fun i hi => by omega⟩, ⟨⟨p2, fun p hp => by rw [g1 (x + 38) (by omega) (by omega) (by omega) (by omega)]; exact p3 p hp⟩, by rw [f2.2.2.1 13 (by decide)]; exact p4⟩, ⟨by rw [f2.2.2.1 14 (by decide)]; exact p5, f3.2.2.1⟩, fun i hi => by rw [g1 (x + 41) (by omega) (by omega) (by omega) (by omega)]; exact p7 i hi⟩
    · exact (((KC.of a2.1 (fun a q1 q2 => a2.2 a (by omega))).trans (kc_t0 h7 x B (-1))).trans d4).trans (KC.of f2.1 (fun a q1 q2 => g1 a (by omega) (by omega) (by omega) (by omega)))
/-- the class: undo -/
theorem cu_0 (A : CW h x B bl S z T n ls fp rs rf hi im) (h0 : hi = []) : fX9_undo x h = some (.inl (some (.int (-1))), h) := by
  have C := A.1.1
  have H := A.2.2.2.1.1
  rw [hO_0, h0] at H
  unfold fX9_undo kX9_undo_0
  rw [if_pos C.k, C.his.1.1, if_pos C.his.1.2, H, if_neg (show ¬ 0 < nI ([] : List St).length by decide)]
theorem HsC.cut {g : Nat} {l : List St} {P : St} (H : HsC h x bl g (l ++ [P]) z) : bl (16 * g + l.length) ≠ 0 ∧ Sta h (bl (16 * g + l.length)) P z ∧ l.length < 16 ∧ ∀ i S, l[i]? = some S → bl (16 * g + i) ≠ 0 ∧ Sta h (bl (16 * g + i)) S z := by
  have h2 := H.2.1
  rw [List.length_append, List.length_singleton] at h2
  obtain ⟨u1, u2⟩ := H.2.2 l.length P (by rw [List.getElem?_append_right (Nat.le_refl _), Nat.sub_self]; rfl)
  exact ⟨u1, u2, by omega, fun i S hS => H.2.2 i S (by rw [List.getElem?_append_left (List.getElem?_eq_some_iff.mp hS).1]; exact hS)⟩
theorem cu_1 {l : List St} {P : St} (A : CW h x B bl S z T n ls fp rs rf (l ++ [P]) im) (h64 : (sL P).length ≤ 64) : ∃ h', fX9_undo x h = some (.inl (some (.int (nI l.length))), h') ∧ h'.1 = h.1 ∧ CW h' x B bl P z T n ls fp 0 rf l im ∧ KC h h' x B := by
  obtain ⟨⟨C, R⟩, A2, A3, A4, A5⟩ := id A
  have b1 := A3.1
  obtain ⟨u1, u2, u3, u4⟩ := A4.cut
  have H := A4.1
  rw [hO_0, List.length_append, List.length_singleton] at H
  have c := A3.2.1 (16 * 0 + l.length) (by omega) u1
  rw [bz_s (by omega)] at c
  have hsb : nI (l.length + 1) - 1 = nI l.length := sub8 (by omega)
  obtain ⟨h1, hh1⟩ : ∃ h1 : Hp, h1 = (h.1, upI h.2 (x + 11) 1 (nI l.length)) := ⟨_, rfl⟩
  have e1 : h1.1 = h.1 := by rw [hh1]
  have i1 : ∀ a, a ≠ x + 11 → h1.2 a = h.2 a := fun a q => by rw [hh1]; exact upI_ne q
  obtain ⟨h2, d1, d2, d3⟩ := c_copy (h := h1) (d := x + 1) (Sta.eqs e1 (fun a w1 w2 => i1 a (by omega)) u2) (C.so.eq e1) (by omega) h64
  have e2 : h2.1 = h.1 := d2.1.trans e1
  have C2 := C.eq e2
  have i2 : ∀ a, a < x + 1 ∨ x + 11 < a → h2.2 a = h.2 a := fun a q => by rw [d2.2 a (by omega), i1 a (by omega)]
  have l2 : h2.2 (x + 11) 1 = nI l.length := by
    rw [d2.2 (x + 11) (by omega), hh1]
    show upI _ _ _ _ (x + 11) 1 = _
    rw [upI_at, if_pos rfl]
  have Q5 := A3.2.2.2.2.1 l.length u3
  have u1' : bl l.length ≠ 0 := by rw [Nat.mul_zero, Nat.zero_add] at u1; exact u1
  refine ⟨(h2.1, upI h2.2 x 15 0), ?_, e2, ?_, ?_⟩
  · unfold fX9_undo kX9_undo_0
    rw [if_pos C.k, C.his.1.1, if_pos C.his.1.2, H, if_pos (by rw [nI_0lt (by omega)]; omega)]
    unfold fX0_pop kX0_pop_0
    rw [if_pos C.his.1.2, H, if_neg (by rw [nI_le0 (by omega)]; omega), C.his.2.1, if_pos C.his.2.2.1, hsb, C.his.2.2.2, if_pos (inB_nI u3 (by decide)), nI_clamp (by omega), Q5, if_neg u1', upI_at, if_pos rfl, if_pos (inB_nI u3 (by decide)), C.r0, if_pos C.so.1, nI_clamp (by omega), Q5]
    rw [hh1] at d1
    rw [Nat.mul_zero, Nat.zero_add] at d1
    rw [d1, bV_s, bV_s, if_pos C2.k, C2.his.1.1, if_pos C2.his.1.2, upI_ne (by omega), l2]
  · have i3 : ∀ a, a ≠ x → a < x + 1 ∨ x + 11 < a → (h2.1, upI h2.2 x 15 0).2 a = h.2 a := fun a q1 q2 => by
      show upI _ _ _ _ a = _
      rw [upI_ne q1]
      exact i2 a q2
    have x3 : ∀ j, j ≠ 15 → (h2.1, upI h2.2 x 15 0).2 x j = h.2 x j := fun j q => by
      show upI _ _ _ _ x j = _
      rw [upI_at, if_neg q, i2 x (by omega)]
    obtain ⟨p1, ⟨⟨p2, p3⟩, p4⟩, ⟨p5, p6⟩, p7⟩ := A2
    refine A.re2 e2 (d3.up (fun a w1 w2 => upI_ne (by omega))) ⟨⟨by rw [x3 12 (by decide)]; exact p1.1, p1.2.1, fun i hi => by rw [i3 (x + 26) (by omega) (by omega)]; exact p1.2.2.1 i hi, p1.2.2.2⟩, ⟨⟨p2, fun p hp => by rw [i3 (x + 38) (by omega) (by omega)]; exact p3 p hp⟩, by rw [x3 13 (by decide)]; exact p4⟩, ⟨by rw [x3 14 (by decide)]; exact p5, by show upI _ _ _ _ x 15 = _; rw [upI_at, if_pos rfl]⟩, fun i hi => by rw [i3 (x + 41) (by omega) (by omega)]; exact p7 i hi⟩ ⟨?_, by omega, fun i S' hS' => ?_⟩ (fun a q => i3 a (by omega) (by omega)) (x3 11 (by decide))
    · rw [hO_0]
      show upI _ _ _ _ (x + 11) 1 = _
      rw [upI_ne (by omega)]
      exact l2
    · obtain ⟨y1, y2⟩ := u4 i S' hS'
      have hi' : i < l.length := (List.getElem?_eq_some_iff.mp hS').1
      have cc := (A3.2.1 (16 * 0 + i) (by omega) y1).1
      exact ⟨y1, Sta.eqs e2 (fun a w1 w2 => i3 a (by omega) (by omega)) y2⟩
  · exact KC.of e2 (fun a q1 q2 => by show upI _ _ _ _ a = _; rw [upI_ne (by omega)]; exact i2 a (by omega))
end WU
