/-! ===== the class writes a block ===== -/
def Ldue (h : Hp) (p : Nat) (L : List La) : Prop := ∀ pre e l, L = pre ++ e :: l → h.2 (p + 4) pre.length = nI (tag1 e.1 e.2.1)
theorem due_at {g : List (Ch × Bool)} (hp : (g.map Prod.fst).Pairwise (fun a b => cI a < cI b)) {j : Nat} (hj : j < g.length) {e : La} (he : cI g[j].1 = e.2.2) : isDue (gone g) e = g[j].2 := by
  have h1 := held_pair hp hj
  unfold isDue
  cases h : g[j].2 with
  | true =>
    rw [List.any_eq_true]
    exact ⟨g[j].1, gone_mem.mpr (by rw [← h]; exact List.getElem_mem hj), by simp [he]⟩
  | false =>
    rw [List.any_eq_false]
    intro c hc
    obtain ⟨i, hi, hi2⟩ := List.getElem_of_mem (gone_mem.mp hc)
    simp only [beq_iff_eq]
    intro hq
    have hpw := List.pairwise_iff_getElem.mp hp
    have hij : i = j := by
      rcases Nat.lt_trichotomy i j with w | w | w
      · have := hpw i j (by simpa using hi) (by simpa using hj) w
        rw [List.getElem_map, List.getElem_map, hi2] at this
        have this : cI c < cI g[j].1 := this
        omega
      · exact w
      · have := hpw j i (by simpa using hj) (by simpa using hi) w
        rw [List.getElem_map, List.getElem_map, hi2] at this
        have this : cI g[j].1 < cI c := this
        omega
    subst hij
    rw [hi2] at h
    cases h
section C10
variable {s p z : Nat} {S : St}
theorem c_take_go {b : Nat} (hps : p + 5 ≤ s ∨ s + 10 ≤ p) {I0 : Nat → Nat → Int32} (C0 : ∀ pre e l, sL S = pre ++ e :: l → Lst I0 s (sC S) pre.length e) (hB : Bd S) (h64 : (sL S).length ≤ 64) : ∀ (T P : List La) (n : Nat) (h : Hp), sL S = P ++ T → T.length < n → SO h s → PO h p → h.2 s 9 = nI (sL S).length →
    (∀ j, j < (sC S).length → h.2 (p + 2) j = oI (mvO (goes b (sC S)) j)) → (∀ y, P.length ≤ y → h.2 (s + 8) y = I0 (s + 8) y ∧ h.2 (s + 9) y = I0 (s + 9) y) →
    (∀ pre e l, P.filter (fun e => !isDue (gone (goes b (sC S))) e) = pre ++ e :: l → Lst h.2 s (held (goes b (sC S))) pre.length e) → Ldue h p (P.filter (isDue (gone (goes b (sC S))))) →
    ∃ h', gX2_takeDue n 7 [.ref p, .ref s, .int (nI (P.filter (isDue (gone (goes b (sC S))))).length), .int (nI (P.filter (fun e => !isDue (gone (goes b (sC S))) e)).length), .int (nI P.length), uV] [] h = some (.inl (some (.int (nI ((sL S).filter (isDue (gone (goes b (sC S))))).length))), h') ∧ h'.1 = h.1 ∧ (∀ a, a ≠ s → a ≠ s + 8 → a ≠ s + 9 → a ≠ p + 4 → h'.2 a = h.2 a) ∧ (∀ j, j ≠ 9 → h'.2 s j = h.2 s j) ∧ h'.2 s 9 = nI ((sL S).filter (fun e => !isDue (gone (goes b (sC S))) e)).length ∧
      (∀ pre e l, (sL S).filter (fun e => !isDue (gone (goes b (sC S))) e) = pre ++ e :: l → Lst h'.2 s (held (goes b (sC S))) pre.length e) ∧ Ldue h' p ((sL S).filter (isDue (gone (goes b (sC S))))) := by
  have hgl := goes_len b (sC S)
  have hB1 := hB.1
  intro T
  induction T with
  | nil =>
    intro P n h hg hn O M hwa hmv ho hK hD
    obtain ⟨n, rfl⟩ := sc hn
    have hP : sL S = P := by rw [hg]; simp
    refine ⟨(h.1, upI h.2 s 9 (nI (P.filter (fun e => !isDue (gone (goes b (sC S))) e)).length)), ?_, rfl, fun a x _ _ _ => upI_ne x, fun j hj => by dsimp only; rw [upI_at, if_neg hj], by dsimp only; rw [upI_at, if_pos rfl, hP], fun pre e l w => ?_, fun pre e l w => ?_⟩
    · rw [zX2_takeDue_7, hP]
      rw [hP] at hwa h64
      simp (maxSteps := 3000000) (disch := omega) only [kX2_takeDue_7, O.1, ↓reduceIte, if_true, if_false, ite_not, not_true_eq_false, not_false_eq_true, ↓qqI_p, ↓qqR_p, ↓qqV_p, ↓qqIx_p, ↓qqRx_p, ↓qqVx_p, qqI_s, qqR_s, qqV_s, qqIx_s, qqRx_s, qqVx_s, qqIx_t, qqVx_t, ↓letH_s, inB_nI, nI_leI, nI_ltI, nI_eq, nI_eq0, nI_eqm, nI_eqn, nI_le0, nI_lt0, nI_0lt, nI_0le, nI_clamp, pk_mul, nI_add, pk_div, pk_sub, rem_n, z_add, add_z, m_cell, kmk, lmk, rmk, b2i_0, b2i_n1, bft, le_t, le_f, lt_t, lt_f, eq_t, eq_f, k1, k2, k3, k4, k5, k6, k7, k8, k9, k10, k11, k12, k13, k15, k16, k20, k24, k30, k60, k64, k99, k100, k200, k255, k256, k512, k2912, k3392, k3393, k3394, k3395, k3396, k3397, k3398, hwa]
    · rw [hP] at w
      obtain ⟨w1, P', c', T', w2, w3, w4⟩ := hK pre e l w
      exact ⟨by dsimp only; rw [upI_ne (by omega)]; exact w1, P', c', T', w2, w3, by dsimp only; rw [upI_ne (by omega)]; exact w4⟩
    · rw [hP] at w
      dsimp only
      rw [upI_ne (by omega)]
      exact hD pre e l w
  | cons x T ih =>
    intro P n h hg hn O M hwa hmv ho hK hD
    obtain ⟨n, rfl⟩ := sc hn
    have hl : (sL S).length = P.length + 1 + T.length := by rw [hg]; simp; omega
    obtain ⟨M0, -, ⟨M1, M2, M3⟩, -, ⟨M4, M5, M6⟩⟩ := id M
    obtain ⟨r1, -, -, -, -, -, -, -, ⟨r2, r3, r4⟩, ⟨r5, r6, r7⟩⟩ := id O
    obtain ⟨w1, P', c', T', w2, w3, w4⟩ := C0 P x T hg
    obtain ⟨o8, o9⟩ := ho P.length (Nat.le_refl _)
    have hu : h.2 (s + 8) P.length = nI P'.length := by rw [o8]; exact w4
    have ht : h.2 (s + 9) P.length = nI (tag1 x.1 x.2.1) := by rw [o9]; exact w1
    have hP' : P'.length < (sC S).length := by rw [w2]; simp
    have hm := hmv P'.length hP'
    have hgj : P'.length < (goes b (sC S)).length := by omega
    have hg1 : (goes b (sC S))[P'.length].1 = c' := by
      have h7 : ((goes b (sC S)).map Prod.fst)[P'.length]? = some c' := by rw [goes_fst, w2]; simp
      rw [List.getElem?_map, List.getElem?_eq_getElem hgj] at h7
      exact Option.some.inj h7
    have hpw : ((goes b (sC S)).map Prod.fst).Pairwise (fun a b => cI a < cI b) := by rw [goes_fst]; exact hB.2.2.2.2.2.2
    have hdue := due_at hpw hgj (e := x) (by rw [hg1]; exact w3)
    have hfl1 := List.length_filter_le (isDue (gone (goes b (sC S)))) P
    have hfl2 := List.length_filter_le (fun e => !isDue (gone (goes b (sC S))) e) P
    have ihq := ih (P ++ [x]) n
    rw [len1, List.filter_append, List.filter_append] at ihq
    have ihq := ihq
    cases hd : isDue (gone (goes b (sC S))) x with
    | true =>
      rw [hd] at hdue
      rw [mvO_gone hgj hdue.symm] at hm
      have f1 : [x].filter (isDue (gone (goes b (sC S)))) = [x] := by simp [hd]
      have f2 : [x].filter (fun e => !isDue (gone (goes b (sC S))) e) = [] := by simp [hd]
      rw [f1, f2, List.append_nil, len1] at ihq
      obtain ⟨h', i1, i2, i3, i4, i5, i6, i7⟩ := ihq (h.1, upI h.2 (p + 4) (P.filter (isDue (gone (goes b (sC S))))).length (nI (tag1 x.1 x.2.1))) (app1 hg) (by simp at hn; omega) O.up M.up (by dsimp only; rw [upI_ne (by omega)]; exact hwa) (fun j hj => by dsimp only; rw [upI_ne (by omega)]; exact hmv j hj) (fun y hy => by dsimp only; rw [upI_ne (by omega), upI_ne (by omega)]; exact ho y (by omega)) (fun pre e l w => by
        obtain ⟨v1, V1, v2, V2, v3, v4, v5⟩ := hK pre e l w
        exact ⟨by dsimp only; rw [upI_ne (by omega)]; exact v1, V1, v2, V2, v3, v4, by dsimp only; rw [upI_ne (by omega)]; exact v5⟩) (fun pre e l w => by
        dsimp only
        rw [upI_at]
        rcases List.eq_nil_or_concat l with rfl | ⟨l', y, rfl⟩
        · obtain ⟨v1, v2⟩ := List.append_inj' w rfl
          cases v2
          rw [← v1, if_pos rfl]
        · rw [List.concat_eq_append] at w
          have v3 : P.filter (isDue (gone (goes b (sC S)))) ++ [x] = (pre ++ e :: l') ++ [y] := by rw [w]; simp
          obtain ⟨v1, -⟩ := List.append_inj' v3 rfl
          rw [if_neg (by rw [v1]; simp), hD pre e l' v1])
      refine ⟨h', ?_, i2, fun a x1 x2 x3 x4 => by rw [i3 a x1 x2 x3 x4]; exact upI_ne x4, fun j hj => by rw [i4 j hj]; dsimp only; rw [upI_ne (by omega)], i5, i6, i7⟩
      have hm : h.2 (p + 2) P'.length = -1 := hm
      rw [zX2_takeDue_7, ← i1]
      simp (maxSteps := 3000000) (disch := omega) only [kX2_takeDue_7, r1, r2, r3, r4, r5, r6, r7, M0, M1, M2, M3, M4, M5, M6, ↓reduceIte, if_true, if_false, ite_not, not_true_eq_false, not_false_eq_true, ↓qqI_p, ↓qqR_p, ↓qqV_p, ↓qqIx_p, ↓qqRx_p, ↓qqVx_p, qqI_s, qqR_s, qqV_s, qqIx_s, qqRx_s, qqVx_s, qqIx_t, qqVx_t, ↓letH_s, inB_nI, nI_leI, nI_ltI, nI_eq, nI_eq0, nI_eqm, nI_eqn, nI_le0, nI_lt0, nI_0lt, nI_0le, nI_clamp, pk_mul, nI_add, pk_div, pk_sub, rem_n, z_add, add_z, m_cell, kmk, lmk, rmk, b2i_0, b2i_n1, bft, le_t, le_f, lt_t, lt_f, eq_t, eq_f, k1, k2, k3, k4, k5, k6, k7, k8, k9, k10, k11, k12, k13, k15, k16, k20, k24, k30, k60, k64, k99, k100, k200, k255, k256, k512, k2912, k3392, k3393, k3394, k3395, k3396, k3397, k3398, hwa, hu, hm, ht]
    | false =>
      rw [hd] at hdue
      obtain ⟨z1, z2, z3⟩ := held_at hgj hdue.symm
      rw [z1] at hm
      have hm : h.2 (p + 2) P'.length = nI (held ((goes b (sC S)).take P'.length)).length := hm
      have hhl : (held (goes b (sC S))).length ≤ (sC S).length := (held_sub b (sC S)).length_le
      have f1 : [x].filter (isDue (gone (goes b (sC S)))) = [] := by simp [hd]
      have f2 : [x].filter (fun e => !isDue (gone (goes b (sC S))) e) = [x] := by simp [hd]
      rw [f1, f2, List.append_nil, len1] at ihq
      obtain ⟨h', i1, i2, i3, i4, i5, i6, i7⟩ := ihq (h.1, upI (upI h.2 (s + 9) (P.filter (fun e => !isDue (gone (goes b (sC S))) e)).length (nI (tag1 x.1 x.2.1))) (s + 8) (P.filter (fun e => !isDue (gone (goes b (sC S))) e)).length (nI (held ((goes b (sC S)).take P'.length)).length)) (app1 hg) (by simp at hn; omega) O.up M.up (by dsimp only; rw [upI_ne (by omega), upI_ne (by omega)]; exact hwa) (fun j hj => by dsimp only; rw [upI_ne (by omega), upI_ne (by omega)]; exact hmv j hj) (fun y hy => by
        dsimp only
        rw [upI_at, if_neg (by omega), upI_ne (by omega), upI_ne (by omega), upI_at, if_neg (by omega)]
        exact ho y (by omega)) (fun pre e l w => by
        dsimp only
        rcases List.eq_nil_or_concat l with rfl | ⟨l', y, rfl⟩
        · obtain ⟨v1, v2⟩ := List.append_inj' w rfl
          cases v2
          refine ⟨by rw [← v1, upI_ne (by omega), upI_at, if_pos rfl]; rfl, (held (goes b (sC S))).take (held ((goes b (sC S)).take P'.length)).length, c', (held (goes b (sC S))).drop ((held ((goes b (sC S)).take P'.length)).length + 1), ?_, w3, ?_⟩
          · rw [hg1] at z2
            obtain ⟨u1, u2⟩ := List.getElem?_eq_some_iff.mp z2
            rw [← u2, List.getElem_cons_drop, List.take_append_drop]
          · rw [← v1, upI_at, if_pos rfl, List.length_take, Nat.min_eq_left (by omega)]
        · rw [List.concat_eq_append] at w
          have v3 : P.filter (fun e => !isDue (gone (goes b (sC S))) e) ++ [x] = (pre ++ e :: l') ++ [y] := by rw [w]; simp
          obtain ⟨v1, -⟩ := List.append_inj' v3 rfl
          have hlt : pre.length < (P.filter (fun e => !isDue (gone (goes b (sC S))) e)).length := by rw [v1]; simp
          obtain ⟨v4, V1, v5, V2, v6, v7, v8⟩ := hK pre e l' v1
          exact ⟨by rw [upI_ne (by omega), upI_at, if_neg (by omega)]; exact v4, V1, v5, V2, v6, v7, by rw [upI_at, if_neg (by omega), upI_ne (by omega)]; exact v8⟩) (fun pre e l w => by
        dsimp only
        rw [upI_ne (by omega), upI_ne (by omega)]
        exact hD pre e l w)
      refine ⟨h', ?_, i2, fun a x1 x2 x3 x4 => by rw [i3 a x1 x2 x3 x4]; dsimp only; rw [upI_ne x2, upI_ne x3], fun j hj => by rw [i4 j hj]; dsimp only; rw [upI_ne (by omega), upI_ne (by omega)], i5, i6, i7⟩
      rw [zX2_takeDue_7, ← i1]
      simp (maxSteps := 3000000) (disch := omega) only [kX2_takeDue_7, r1, r2, r3, r4, r5, r6, r7, M0, M1, M2, M3, M4, M5, M6, ↓reduceIte, if_true, if_false, ite_not, not_true_eq_false, not_false_eq_true, ↓qqI_p, ↓qqR_p, ↓qqV_p, ↓qqIx_p, ↓qqRx_p, ↓qqVx_p, qqI_s, qqR_s, qqV_s, qqIx_s, qqRx_s, qqVx_s, qqIx_t, qqVx_t, ↓letH_s, inB_nI, nI_leI, nI_ltI, nI_eq, nI_eq0, nI_eqm, nI_eqn, nI_le0, nI_lt0, nI_0lt, nI_0le, nI_clamp, pk_mul, nI_add, pk_div, pk_sub, rem_n, z_add, add_z, m_cell, kmk, lmk, rmk, b2i_0, b2i_n1, bft, le_t, le_f, lt_t, lt_f, eq_t, eq_f, k1, k2, k3, k4, k5, k6, k7, k8, k9, k10, k11, k12, k13, k15, k16, k20, k24, k30, k60, k64, k99, k100, k200, k255, k256, k512, k2912, k3392, k3393, k3394, k3395, k3396, k3397, k3398, hwa, hu, hm, ht]
/-- nothing but a State's cells and a Pen's has changed -/
def OwnP (h h' : Hp) (p s : Nat) : Prop := h'.1 = h.1 ∧ (∀ a, a < s ∨ s + 10 ≤ a → a < p ∨ p + 5 ≤ a → h'.2 a = h.2 a)
theorem OwnP.trans {h h1 h2 : Hp} (a : OwnP h h1 p s) (b : OwnP h1 h2 p s) : OwnP h h2 p s := ⟨b.1.trans a.1, fun x y w => by rw [b.2 x y w, a.2 x y w]⟩
theorem Own.toP {h h1 : Hp} (a : Own h h1 s) : OwnP h h1 p s := ⟨a.1, fun x y _ => a.2 x y⟩
theorem OwnP.refl (h : Hp) : OwnP h h p s := ⟨rfl, fun _ _ _ => rfl⟩
theorem c_dols (hps : p + 5 ≤ s ∨ s + 10 ≤ p) {D : List La} (hD1 : ∀ e ∈ D, e.1 ≤ 1 ∧ e.2.1 < 16 ∧ (e.1 = 0 ∨ e.2.1 < 12)) (hD64 : D.length ≤ 64) : ∀ (T P : List La) (n : Nat) (Y : St) (h : Hp), D = P ++ T → T.length < n → Sta h s Y z → PO h p → Pt Y → Ldue h p D → Sc Y (co1 T) (co2 T) (co1 T) →
    ∃ h', gX2_writeBlock n 107 [.ref p, .ref s, uV, .int (nI D.length), .int (nI P.length)] [] h = some (.inl (some (.int 1)), h') ∧ Own h h' s ∧ Sta h' s (T.foldl dol Y) z ∧ Pt (T.foldl dol Y) := by
  intro T
  induction T with
  | nil =>
    intro P n Y h hP hn R M PT L sl
    obtain ⟨n, rfl⟩ := sc hn
    have hPl : D.length = P.length := by rw [hP]; simp
    refine ⟨h, ?_, Own.refl _ _, R, PT⟩
    rw [zX2_writeBlock_107, hPl]
    unfold kX2_writeBlock_107
    rw [if_pos (by rw [nI_leI (by omega) (by omega)]; omega)]
  | cons e T ih =>
    intro P n Y h hP hn R M PT L sl
    obtain ⟨n, rfl⟩ := sc hn
    have hPl : D.length = P.length + 1 + T.length := by rw [hP]; simp; omega
    obtain ⟨M0, -, -, -, ⟨M4, M5, M6⟩⟩ := id M
    obtain ⟨d1, d2, d3⟩ := hD1 e (by rw [hP]; simp)
    rw [co1_cons, co2_cons, Nat.add_comm (ite _ _ _) (co1 T), Nat.add_comm (ite _ _ _) (co2 T)] at sl
    obtain ⟨h1, a1, a2, a3⟩ := c_doPutOff R PT d1 d2 d3 sl
    have M1 : PO h1 p := M.eq a2.1
    obtain ⟨h', i1, i2, i3, i4⟩ := ih (P ++ [e]) n (dol Y e) h1 (app1 hP) (by simp at hn; omega) a3 M1 (pt_dol PT d3 d2) (fun pre x l w => by rw [a2.2 _ (by omega)]; exact L pre x l w) (sc_dol sl)
    rw [len1] at i1
    refine ⟨h', ?_, a2.trans i2, i3, i4⟩
    have hL := L P e T hP
    rw [zX2_writeBlock_107, ← i1]
    simp (maxSteps := 3000000) (disch := omega) only [kX2_writeBlock_107, M0, M4, M5, M6, R.so.1, ↓reduceIte, if_true, if_false, ite_not, not_true_eq_false, not_false_eq_true, ↓qqI_p, ↓qqR_p, ↓qqV_p, ↓qqIx_p, ↓qqRx_p, ↓qqVx_p, qqI_s, qqR_s, qqV_s, qqIx_s, qqRx_s, qqVx_s, qqIx_t, qqVx_t, ↓letH_s, inB_nI, nI_leI, nI_ltI, nI_eq, nI_eq0, nI_eqm, nI_eqn, nI_le0, nI_lt0, nI_0lt, nI_0le, nI_clamp, pk_mul, nI_add, pk_div, pk_sub, rem_n, z_add, add_z, m_cell, kmk, lmk, rmk, b2i_0, b2i_n1, bft, le_t, le_f, lt_t, lt_f, eq_t, eq_f, k1, k2, k3, k4, k5, k6, k7, k8, k9, k10, k11, k12, k13, k15, k16, k20, k24, k30, k60, k64, k99, k100, k200, k255, k256, k512, k2912, k3392, k3393, k3394, k3395, k3396, k3397, k3398, hL, a1]
theorem gone_nil {g : List (Ch × Bool)} (h : gone g = []) : held g = g.map Prod.fst := by
  induction g with
  | nil => rfl
  | cons q g ih =>
    rw [gone_cons] at h
    cases hq : q.2 with
    | true => rw [hq] at h; cases h
    | false =>
      rw [hq] at h
      rw [held_cons, hq, List.map_cons, ← ih h]
      rfl
end C10
