/-! ===== the reference leaves out what went ===== -/
theorem Cel.w {A : Nat → Int32} {p : Nat} {c : Ch} {w w' : Nat → Nat} (h : Cel A p c w) (hb : cB c < 16) (hp : cP c ≤ 16) (e : ∀ x, tch c x = true → w' x = w x) : Cel A p c w' := by
  obtain ⟨a0, a1, a2, a3, a4, a5, a6, a7, a8, a9⟩ := h
  refine ⟨a0, a1, a2, a3, a4, a5, a6, a7, fun h1 => ?_, fun h1 i hi => ?_⟩
  · rw [a8 h1, e _ (tch_iff.mpr ⟨by omega, Or.inr (by omega)⟩)]
  · rw [a9 h1 i hi]
    unfold pack
    rw [e _ (tch_iff.mpr ⟨by omega, Or.inl h1⟩), e _ (tch_iff.mpr ⟨by omega, Or.inl h1⟩), e _ (tch_iff.mpr ⟨by omega, Or.inl h1⟩), e _ (tch_iff.mpr ⟨by omega, Or.inl h1⟩)]
theorem Cel.mv {A A' : Nat → Int32} {p p' : Nat} {c : Ch} {w : Nat → Nat} (h : Cel A p c w) (e : ∀ i, i < 12 → A' (p' + i) = A (p + i)) : Cel A' p' c w := by
  obtain ⟨a0, a1, a2, a3, a4, a5, a6, a7, a8, a9⟩ := h
  refine ⟨(e 0 (by decide)).trans a0, (e 1 (by decide)).trans a1, (e 2 (by decide)).trans a2, (e 3 (by decide)).trans a3, (e 4 (by decide)).trans a4, (e 5 (by decide)).trans a5, (e 6 (by decide)).trans a6, (e 7 (by decide)).trans a7, fun h1 => (e 8 (by decide)).trans (a8 h1), fun h1 i hi => ?_⟩
  have := e (8 + i) (by omega)
  rw [← Nat.add_assoc, ← Nat.add_assoc] at this
  rw [this]
  exact a9 h1 i hi
def Cells (A : Nat → Int32) (S : St) : Prop := A 3392 = nI (sC S).length ∧ ∀ pre c l, sC S = pre ++ c :: l → Cel A (512 + 12 * pre.length) c (vA (sD S) pre)
section M7
variable {r m : Nat} {S : St}
theorem m_shift {k lf : Nat} (hk : k < 200) (hlf : lf ≤ k) : ∀ (t i n : Nat) (h : Hp), i + t = 12 → kH h r = 1 → lH h r = 3398 →
    ∃ h', gX10_leavesOut (n + t + 1) 58 [.ref m, .ref r, .int (nI lf), .int (nI k), .int (nI i)] [] h = gX10_leavesOut n 9 [.ref m, .ref r, .int (nI (lf + 1)), .int (nI (k + 1)), uV] [] h' ∧ h'.1 = h.1 ∧ (∀ a, a ≠ r → h'.2 a = h.2 a) ∧
      (∀ x, h'.2 r x = if 512 + 12 * lf + i ≤ x ∧ x < 512 + 12 * lf + 12 then h.2 r (x + 12 * (k - lf)) else h.2 r x) := by
  intro t
  induction t with
  | zero =>
    intro i n h hi hK hL
    refine ⟨h, ?_, rfl, fun _ _ => rfl, fun x => by rw [if_neg (by omega)]⟩
    rw [show n + 0 + 1 = n + 1 from rfl, zX10_leavesOut_58]
    simp (maxSteps := 3000000) (disch := omega) only [kX10_leavesOut_58, ↓reduceIte, if_true, if_false, ite_not, not_true_eq_false, not_false_eq_true, ↓qqI_p, ↓qqR_p, ↓qqV_p, ↓qqIx_p, ↓qqRx_p, ↓qqVx_p, qqI_s, qqR_s, qqV_s, qqIx_s, qqRx_s, qqVx_s, qqIx_t, qqVx_t, ↓letH_s, inB_nI, nI_leI, nI_ltI, nI_eq, nI_eq0, nI_eqm, nI_eqn, nI_le0, nI_lt0, nI_0lt, nI_0le, nI_clamp, pk_mul, nI_add, pk_div, pk_sub, rem_n, z_add, add_z, m_cell, kmk, lmk, rmk, b2i_0, b2i_n1, bft, le_t, le_f, lt_t, lt_f, eq_t, eq_f, k1, k2, k3, k4, k5, k6, k7, k8, k9, k10, k11, k12, k13, k15, k16, k20, k24, k30, k60, k64, k99, k100, k200, k255, k256, k512, k2912, k3392, k3393, k3394, k3395, k3396, k3397, k3398]
  | succ t ih =>
    intro i n h hi hK hL
    obtain ⟨h', i1, i2, i3, i4⟩ := ih (i + 1) n (h.1, upI h.2 r (512 + 12 * lf + i) (h.2 r (512 + 12 * k + i))) (by omega) hK hL
    refine ⟨h', ?_, i2, fun a ha => by rw [i3 a ha]; exact upI_ne ha, fun x => ?_⟩
    · rw [show n + (t + 1) + 1 = (n + t + 1) + 1 by omega, zX10_leavesOut_58, ← i1]
      simp (maxSteps := 3000000) (disch := omega) only [kX10_leavesOut_58, hK, hL, ↓reduceIte, if_true, if_false, ite_not, not_true_eq_false, not_false_eq_true, ↓qqI_p, ↓qqR_p, ↓qqV_p, ↓qqIx_p, ↓qqRx_p, ↓qqVx_p, qqI_s, qqR_s, qqV_s, qqIx_s, qqRx_s, qqVx_s, qqIx_t, qqVx_t, ↓letH_s, inB_nI, nI_leI, nI_ltI, nI_eq, nI_eq0, nI_eqm, nI_eqn, nI_le0, nI_lt0, nI_0lt, nI_0le, nI_clamp, pk_mul, nI_add, pk_div, pk_sub, rem_n, z_add, add_z, m_cell, kmk, lmk, rmk, b2i_0, b2i_n1, bft, le_t, le_f, lt_t, lt_f, eq_t, eq_f, k1, k2, k3, k4, k5, k6, k7, k8, k9, k10, k11, k12, k13, k15, k16, k20, k24, k30, k60, k64, k99, k100, k200, k255, k256, k512, k2912, k3392, k3393, k3394, k3395, k3396, k3397, k3398]
    · rw [i4]
      dsimp only
      rw [upI_at, upI_at]
      by_cases q : x = 512 + 12 * lf + i
      · rw [if_neg (by omega), if_pos q, if_pos (by omega), q, show 512 + 12 * lf + i + 12 * (k - lf) = 512 + 12 * k + i by omega]
      · rw [if_neg (c := x = 512 + 12 * lf + i) q]
        by_cases q2 : 512 + 12 * lf + (i + 1) ≤ x ∧ x < 512 + 12 * lf + 12
        · rw [if_pos q2, if_neg (c := x + 12 * (k - lf) = 512 + 12 * lf + i) (by omega), if_pos (by omega)]
        · rw [if_neg q2, if_neg (by omega)]
/-- what the row of the gone holds -/
def Gn (h : Hp) (m : Nat) (G : List Ch) : Prop := h.2 m 30 = nI G.length ∧ ∀ Q c Z, G = Q ++ c :: Z → h.2 (m + 149) Q.length = nI (cI c)
theorem Gn.snoc {h h' : Hp} {G : List Ch} {c : Ch} (g : Gn h m G) (e1 : h'.2 m 30 = nI (G.length + 1)) (e2 : h'.2 (m + 149) G.length = nI (cI c)) (e3 : ∀ j, j < G.length → h'.2 (m + 149) j = h.2 (m + 149) j) : Gn h' m (G ++ [c]) := by
  refine ⟨by rw [e1, len1], fun Q z Z e => ?_⟩
  rcases List.eq_nil_or_concat Z with rfl | ⟨T', y, rfl⟩
  · obtain ⟨h1, h2⟩ := List.append_inj' e rfl
    cases h2
    subst h1
    exact e2
  · rw [List.concat_eq_append] at e
    have h1 : G ++ [c] = (Q ++ z :: T') ++ [y] := by rw [e]; simp
    obtain ⟨h2, -⟩ := List.append_inj' h1 rfl
    rw [e3 _ (by rw [h2]; simp), g.2 Q z T' h2]
theorem m_leavesOut_go {b : Nat} (hm : r ≠ m ∧ r ≠ m + 147 ∧ r ≠ m + 149) {A0 : Nat → Int32} (C : Cells A0 S) (hB : Bd S) : ∀ (T P : List (Ch × Bool)) (n : Nat) (h : Hp), goes b (sC S) = P ++ T → 14 * T.length < n → kH h r = 1 → lH h r = 3398 → MO h m → Fl h m (goes b (sC S)) → Gn h m (gone P) →
    h.2 r 3392 = nI (sC S).length → (∀ x, 512 + 12 * P.length ≤ x → x < 2912 → h.2 r x = A0 x) → (∀ P1 q P2, P = P1 ++ q :: P2 → q.2 = false → Cel (h.2 r) (512 + 12 * (held P1).length) q.1 (vA (sD S) (P1.map Prod.fst))) →
    ∃ h', gX10_leavesOut n 9 [.ref m, .ref r, .int (nI (held P).length), .int (nI P.length), uV] [] h = some (.inl none, h') ∧ h'.1 = h.1 ∧ (∀ a, a ≠ r → a ≠ m → a ≠ m + 149 → h'.2 a = h.2 a) ∧ (∀ j, j ≠ 30 → h'.2 m j = h.2 m j) ∧
      Gn h' m (gone (goes b (sC S))) ∧ (∀ x, (x < 512 ∨ 2912 ≤ x) → x ≠ 3392 → h'.2 r x = h.2 r x) ∧ h'.2 r 3392 = nI (held (goes b (sC S))).length ∧
      (∀ P1 q P2, goes b (sC S) = P1 ++ q :: P2 → q.2 = false → Cel (h'.2 r) (512 + 12 * (held P1).length) q.1 (vA (sD S) (P1.map Prod.fst))) := by
  have hgl := goes_len b (sC S)
  have hB1 := hB.1
  intro T
  induction T with
  | nil =>
    intro P n h hg hn hK hL M F G hmany hx hcel
    obtain ⟨n, rfl⟩ := sc hn
    have hPl : P.length = (sC S).length := by rw [← hgl, hg]; simp
    have hgP : goes b (sC S) = P := by rw [hg]; simp
    have hcl := hcel
    refine ⟨(h.1, upI h.2 r 3392 (nI (held P).length)), ?_, rfl, fun a ha _ _ => upI_ne ha, fun j _ => by dsimp only; rw [upI_ne hm.1.symm], ?_, fun x hx1 hx2 => by dsimp only; rw [upI_at, if_neg hx2], ?_, fun P1 q P2 e hq => ?_⟩
    · rw [zX10_leavesOut_9]
      simp (maxSteps := 3000000) (disch := omega) only [kX10_leavesOut_9, hK, hL, hmany, ↓reduceIte, if_true, if_false, ite_not, not_true_eq_false, not_false_eq_true, ↓qqI_p, ↓qqR_p, ↓qqV_p, ↓qqIx_p, ↓qqRx_p, ↓qqVx_p, qqI_s, qqR_s, qqV_s, qqIx_s, qqRx_s, qqVx_s, qqIx_t, qqVx_t, ↓letH_s, inB_nI, nI_leI, nI_ltI, nI_eq, nI_eq0, nI_eqm, nI_eqn, nI_le0, nI_lt0, nI_0lt, nI_0le, nI_clamp, pk_mul, nI_add, pk_div, pk_sub, rem_n, z_add, add_z, m_cell, kmk, lmk, rmk, b2i_0, b2i_n1, bft, le_t, le_f, lt_t, lt_f, eq_t, eq_f, k1, k2, k3, k4, k5, k6, k7, k8, k9, k10, k11, k12, k13, k15, k16, k20, k24, k30, k60, k64, k99, k100, k200, k255, k256, k512, k2912, k3392, k3393, k3394, k3395, k3396, k3397, k3398, hPl]
    · rw [hgP]
      refine ⟨by dsimp only; rw [upI_ne hm.1.symm]; exact G.1, fun Q c Z e => by dsimp only; rw [upI_ne hm.2.2.symm]; exact G.2 Q c Z e⟩
    · dsimp only
      rw [upI_at, if_pos rfl, hgP]
    · rw [hgP] at e
      refine (hcl P1 q P2 e hq).mv (fun i hi => ?_)
      have h1 : (held P1).length ≤ P1.length := by unfold held; rw [List.length_map]; exact List.length_filter_le _ _
      have h2 : P1.length < P.length := by rw [e]; simp
      dsimp only
      rw [upI_at, if_neg (by omega)]
  | cons q T ih =>
    intro P n h hg hn hK hL M F G hmany hx hcel
    have hPl : P.length + 1 + T.length = (sC S).length := by rw [← hgl, hg]; simp; omega
    obtain ⟨M0, ⟨M1, M2, M3⟩, -, M4, M5, M6⟩ := id M
    have hF := F P q T hg
    have e : sC S = P.map Prod.fst ++ q.1 :: T.map Prod.fst := by
      have := goes_fst b (sC S)
      rw [hg] at this
      rw [← this]
      simp
    have hcq := C.2 _ _ _ e
    rw [List.length_map] at hcq
    have hlh : (held P).length ≤ P.length := by unfold held; rw [List.length_map]; exact List.length_filter_le _ _
    have hlg : (gone P).length ≤ P.length := by unfold gone; rw [List.length_map]; exact List.length_filter_le _ _
    obtain ⟨n, rfl⟩ : ∃ n', n = n' + 14 := ⟨n - 14, by simp at hn; omega⟩
    have hn : 14 * T.length < n := by simp at hn; omega
    rw [show n + 14 = (n + 13) + 1 by omega, zX10_leavesOut_9]
    cases hq : q.2 with
    | true =>
      rw [hq] at hF
      have hid : h.2 r (512 + 12 * P.length) = nI (cI q.1) := by rw [hx _ (by omega) (by omega)]; exact hcq.1
      have hmg := G.1
      have hgo : gone (P ++ [q]) = gone P ++ [q.1] := by rw [gone_app]; simp [gone, hq]
      have hhe : held (P ++ [q]) = held P := by rw [held_app]; simp [held, hq]
      obtain ⟨h', i1, i2, i3, i4, i5, i6, i7, i8⟩ := ih (P ++ [q]) (n + 13) (h.1, upI (upI h.2 (m + 149) (gone P).length (nI (cI q.1))) m 30 (nI ((gone P).length + 1))) (app1 hg) (by omega) hK hL M.up (fun P' z T' e' => by
          dsimp only
          rw [upI_ne (by omega), upI_ne (by omega)]
          exact F P' z T' e') (by
          rw [hgo]
          refine Gn.snoc G ?_ ?_ (fun j hj => ?_)
          · dsimp only; rw [upI_at, if_pos rfl]
          · dsimp only; rw [upI_ne (by omega), upI_at, if_pos rfl]
          · dsimp only; rw [upI_ne (by omega), upI_at, if_neg (by omega)]) (by dsimp only; rw [upI_ne hm.1, upI_ne hm.2.2]; exact hmany) (fun x h1 h2 => by
          dsimp only
          rw [upI_ne hm.1, upI_ne hm.2.2]
          rw [len1] at h1
          exact hx x (by omega) h2) (fun P1 z P2 e' hz => by
          dsimp only
          rw [upI_ne hm.1, upI_ne hm.2.2]
          rcases List.eq_nil_or_concat P2 with rfl | ⟨T', y, rfl⟩
          · obtain ⟨h1, h2⟩ := List.append_inj' e' rfl
            cases h2
            rw [hq] at hz
            cases hz
          · rw [List.concat_eq_append] at e'
            have h1 : P ++ [q] = (P1 ++ z :: T') ++ [y] := by rw [e']; simp
            obtain ⟨h2, -⟩ := List.append_inj' h1 rfl
            exact hcel P1 z T' h2 hz)
      refine ⟨h', ?_, i2, fun a h1 h2 h3 => by rw [i3 a h1 h2 h3]; dsimp only; rw [upI_ne h2, upI_ne h3], fun j hj => by rw [i4 j hj]; dsimp only; rw [upI_at, if_neg hj, upI_ne (by omega)], i5, fun x h1 h2 => by rw [i6 x h1 h2]; dsimp only; rw [upI_ne hm.1, upI_ne hm.2.2], i7, i8⟩
      rw [← i1, hhe, len1]
      have hne : upI h.2 (m + 149) (gone P).length (nI (cI q.1)) m 30 = nI (gone P).length := by rw [upI_ne (by omega)]; exact hmg
      simp (maxSteps := 3000000) (disch := omega) only [kX10_leavesOut_9, hK, hL, hmany, M0, M1, M2, M3, M4, M5, M6, ↓reduceIte, if_true, if_false, ite_not, not_true_eq_false, not_false_eq_true, ↓qqI_p, ↓qqR_p, ↓qqV_p, ↓qqIx_p, ↓qqRx_p, ↓qqVx_p, qqI_s, qqR_s, qqV_s, qqIx_s, qqRx_s, qqVx_s, qqIx_t, qqVx_t, ↓letH_s, inB_nI, nI_leI, nI_ltI, nI_eq, nI_eq0, nI_eqm, nI_eqn, nI_le0, nI_lt0, nI_0lt, nI_0le, nI_clamp, pk_mul, nI_add, pk_div, pk_sub, rem_n, z_add, add_z, m_cell, kmk, lmk, rmk, b2i_0, b2i_n1, bft, le_t, le_f, lt_t, lt_f, eq_t, eq_f, k1, k2, k3, k4, k5, k6, k7, k8, k9, k10, k11, k12, k13, k15, k16, k20, k24, k30, k60, k64, k99, k100, k200, k255, k256, k512, k2912, k3392, k3393, k3394, k3395, k3396, k3397, k3398, hF, hid, hmg, hne]
      simp
    | false =>
      rw [hq] at hF
      have hgo : gone (P ++ [q]) = gone P := by rw [gone_app]; simp [gone, hq]
      have hhe : held (P ++ [q]) = held P ++ [q.1] := by rw [held_app]; simp [held, hq]
      obtain ⟨h1, j1, j2, j3, j4⟩ := m_shift (m := m) (r := r) (k := P.length) (lf := (held P).length) (by omega) hlh 12 0 n h rfl hK hL
      obtain ⟨h', i1, i2, i3, i4, i5, i6, i7, i8⟩ := ih (P ++ [q]) n h1 (app1 hg) hn ((kh_eq j2 r).trans hK) ((lh_eq j2 r).trans hL) (M.eq j2) (fun P' z T' e' => by rw [j3 _ hm.2.1.symm]; exact F P' z T' e') (by
          rw [hgo]
          refine ⟨by rw [j3 _ hm.1.symm]; exact G.1, fun Q c Z e' => by rw [j3 _ hm.2.2.symm]; exact G.2 Q c Z e'⟩) (by rw [j4, if_neg (by omega)]; exact hmany) (fun x h2 h3 => by
          rw [len1] at h2
          rw [j4, if_neg (by omega)]
          exact hx x (by omega) h3) (fun P1 z P2 e' hz => by
          rcases List.eq_nil_or_concat P2 with rfl | ⟨T', y, rfl⟩
          · obtain ⟨h2, h3⟩ := List.append_inj' e' rfl
            cases h3
            subst h2
            refine hcq.mv (fun i hi => ?_)
            rw [j4, if_pos (by omega), ← hx _ (by omega) (by omega), show 512 + 12 * (held P).length + i + 12 * (P.length - (held P).length) = 512 + 12 * P.length + i by omega]
          · rw [List.concat_eq_append] at e'
            have h2 : P ++ [q] = (P1 ++ z :: T') ++ [y] := by rw [e']; simp
            obtain ⟨h3, -⟩ := List.append_inj' h2 rfl
            refine (hcel P1 z T' h3 hz).mv (fun i hi => ?_)
            have h4 : (held P1).length < (held P).length := by rw [h3, held_app, held_cons, hz]; simp
            rw [j4, if_neg (by omega)])
      refine ⟨h', ?_, i2.trans j2, fun a h2 h3 h4 => by rw [i3 a h2 h3 h4, j3 a h2], fun j hj => by rw [i4 j hj, j3 _ hm.1.symm], i5, fun x h2 h3 => by rw [i6 x h2 h3, j4, if_neg (by omega)], i7, i8⟩
      rw [hhe, len1, len1] at i1
      rw [← i1, ← j1]
      simp (maxSteps := 3000000) (disch := omega) only [kX10_leavesOut_9, hK, hL, hmany, M0, M1, M2, M3, M4, M5, M6, ↓reduceIte, if_true, if_false, ite_not, not_true_eq_false, not_false_eq_true, ↓qqI_p, ↓qqR_p, ↓qqV_p, ↓qqIx_p, ↓qqRx_p, ↓qqVx_p, qqI_s, qqR_s, qqV_s, qqIx_s, qqRx_s, qqVx_s, qqIx_t, qqVx_t, ↓letH_s, inB_nI, nI_leI, nI_ltI, nI_eq, nI_eq0, nI_eqm, nI_eqn, nI_le0, nI_lt0, nI_0lt, nI_0le, nI_clamp, pk_mul, nI_add, pk_div, pk_sub, rem_n, z_add, add_z, m_cell, kmk, lmk, rmk, b2i_0, b2i_n1, bft, le_t, le_f, lt_t, lt_f, eq_t, eq_f, k1, k2, k3, k4, k5, k6, k7, k8, k9, k10, k11, k12, k13, k15, k16, k20, k24, k30, k60, k64, k99, k100, k200, k255, k256, k512, k2912, k3392, k3393, k3394, k3395, k3396, k3397, k3398, hF]
      rfl
end M7
