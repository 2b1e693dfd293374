/-! ===== the class: which changes go ===== -/
/-- a Pen and its rows -/
def PO (h : Hp) (p : Nat) : Prop := kH h p = 12 ∧ (rH h p 0 = p + 1 ∧ kH h (p + 1) = 3 ∧ lH h (p + 1) = 256) ∧ (rH h p 1 = p + 2 ∧ kH h (p + 2) = 1 ∧ lH h (p + 2) = 256) ∧ (rH h p 2 = p + 3 ∧ kH h (p + 3) = 2 ∧ lH h (p + 3) = 16) ∧ (rH h p 3 = p + 4 ∧ kH h (p + 4) = 1 ∧ lH h (p + 4) = 64)
theorem PO.eq {h h' : Hp} {p : Nat} (e : h'.1 = h.1) (M : PO h p) : PO h' p := by
  unfold PO
  simp only [kh_eq e, lh_eq e, rh_eq e]
  exact M
theorem PO.up {h : Hp} {p : Nat} (M : PO h p) {I : Nat → Nat → Int32} : PO (h.1, I) p := PO.eq (h := h) rfl M
theorem SO.up {h : Hp} {s : Nat} (M : SO h s) {I : Nat → Nat → Int32} : SO (h.1, I) s := SO.eq (h := h) rfl M
/-- what is needed of a whole block is of another block -/
def Na (S : St) : Prop := ∀ c ∈ sC S, c2 c < 0 → cB c < 4 ∧ c2 c ≤ -4
def Flc (h : Hp) (p : Nat) (fl : List (Ch × Bool)) : Prop := ∀ P q T, fl = P ++ q :: T → h.2 (p + 1) P.length = b2i q.2
theorem Flc.snoc {h : Hp} {m : Nat} {fl : List (Ch × Bool)} {q : Ch × Bool} (F : Flc h m fl) (e : h.2 (m + 1) fl.length = b2i q.2) : Flc h m (fl ++ [q]) := by
  intro P z T hP
  rcases List.eq_nil_or_concat T with rfl | ⟨T', y, rfl⟩
  · obtain ⟨e1, e2⟩ := List.append_inj' hP rfl
    cases e2
    subst e1
    exact e
  · rw [List.concat_eq_append] at hP
    have h1 : fl ++ [q] = (P ++ z :: T') ++ [y] := by rw [hP]; simp
    obtain ⟨e1, e2⟩ := List.append_inj' h1 rfl
    exact F P z T' e1
def flg (g : List (Ch × Bool)) (j : Nat) : Bool := ((g[j]?).map Prod.snd).getD false
def fOk (g : List (Ch × Bool)) (o : Option Nat) : Bool := match o with
  | some j => flg g j
  | none => true
theorem fOk_s (g : List (Ch × Bool)) (j : Nat) : fOk g (some j) = flg g j := rfl
theorem fOk_n (g : List (Ch × Bool)) : fOk g none = true := rfl
theorem Flc.get {h : Hp} {p : Nat} {g : List (Ch × Bool)} (F : Flc h p g) {j : Nat} (hj : j < g.length) : h.2 (p + 1) j = b2i (flg g j) := by
  have h1 : g = g.take j ++ g[j] :: g.drop (j + 1) := by rw [List.getElem_cons_drop, List.take_append_drop]
  have := F _ _ _ h1
  rw [List.length_take, Nat.min_eq_left (by omega)] at this
  rw [this]
  unfold flg
  rw [List.getElem?_eq_getElem hj]
  rfl
theorem Sta.eqs {h h' : Hp} {s z : Nat} {S : St} (e : h'.1 = h.1) (e2 : ∀ a, s ≤ a → a < s + 10 → h'.2 a = h.2 a) (R : Sta h s S z) : Sta h' s S z := by
  obtain ⟨O, ⟨t1, t2, t3, t4, t5, t6, t7, t8, t9, t10, t11⟩, hz, hB⟩ := R
  refine ⟨SO.eq e O, ⟨?_, fun x hx => ?_, fun x hx => ?_, ?_, ?_, ?_, ?_, ?_, ?_, fun pre c l q => ?_, fun pre c l q => ?_⟩, hz, hB⟩
  · rw [e2 _ (by omega) (by omega)]; exact t1
  · rw [e2 _ (by omega) (by omega)]; exact t2 x hx
  · rw [e2 _ (by omega) (by omega)]; exact t3 x hx
  · rw [e2 _ (by omega) (by omega)]; exact t4
  · rw [e2 _ (by omega) (by omega)]; exact t5
  · rw [e2 _ (by omega) (by omega)]; exact t6
  · rw [e2 _ (by omega) (by omega)]; exact t7
  · rw [e2 _ (by omega) (by omega)]; exact t8
  · rw [e2 _ (by omega) (by omega)]; exact t9
  · refine (t10 pre c l q).mv ?_ ?_ ?_ (fun i hi => ?_) (fun i hi => ?_) ?_
    · rw [e2 _ (by omega) (by omega)]
    · rw [e2 _ (by omega) (by omega)]
    · rw [e2 _ (by omega) (by omega)]
    · rw [e2 _ (by omega) (by omega)]
    · rw [e2 _ (by omega) (by omega)]
    · rw [e2 _ (by omega) (by omega)]
  · obtain ⟨w1, P', c', T', w2, w3, w4⟩ := t11 pre c l q
    exact ⟨by rw [e2 _ (by omega) (by omega)]; exact w1, P', c', T', w2, w3, by rw [e2 _ (by omega) (by omega)]; exact w4⟩
theorem Sta.up {h : Hp} {s z : Nat} {S : St} (R : Sta h s S z) {I : Nat → Nat → Int32} (e2 : ∀ a, s ≤ a → a < s + 10 → I a = h.2 a) : Sta (h.1, I) s S z := Sta.eqs (h := h) rfl e2 R
theorem okN_iff {c : Ch} {acc : List (Ch × Bool)} {n : Int} (h0 : ∀ e ∈ acc, 1 ≤ cI e.1) (hb : ∀ e ∈ acc, e.2 = true → cB e.1 = cB c) : okN c acc n = true ↔ (n < 0 → ∀ e ∈ acc, (cB e.1 : Int) ≠ -n) ∧ (∀ e ∈ acc, (cI e.1 : Int) = n → e.2 = true) := by
  unfold okN
  rw [List.all_eq_true]
  constructor
  · intro h
    refine ⟨fun hn e he hq => ?_, fun e he hq => ?_⟩
    · have := h e he
      simp [hn, hq] at this
    · have := h e he
      simp only [hq, decide_true, Bool.true_and, Bool.not_not, Bool.and_eq_true] at this
      exact this.2.2
  · rintro ⟨h1, h2⟩ e he
    have e1 := h0 e he
    simp only [Bool.and_eq_true, Bool.not_eq_true', Bool.and_eq_false_iff, decide_eq_false_iff_not, Bool.not_eq_false', beq_iff_eq]
    refine ⟨?_, ?_⟩
    · by_cases hn : n < 0
      · exact Or.inr (h1 hn e he)
      · exact Or.inl hn
    · by_cases hq : (cI e.1 : Int) = n
      · have := h2 e he hq
        exact Or.inr ⟨hb e he this, this⟩
      · exact Or.inl hq
theorem ndI_mem {pre : List Ch} {f : Nat → Option Nat} (hf : ∀ i, i < 4 → ∀ j, f i = some j → j < pre.length) {n : Int} : n ∈ ndI pre f ↔ ∃ i, i < 4 ∧ ∃ j, f i = some j ∧ ∃ x, pre[j]? = some x ∧ (cI x : Int) = n := by
  unfold ndI
  rw [List.mem_map]
  constructor
  · rintro ⟨j, hj, rfl⟩
    rw [List.mem_filterMap] at hj
    obtain ⟨i, hi, hfi⟩ := hj
    rw [List.mem_range] at hi
    have hl := hf i hi j hfi
    refine ⟨i, hi, j, hfi, pre[j], List.getElem?_eq_getElem hl, ?_⟩
    rw [List.getElem?_eq_getElem hl]
    rfl
  · rintro ⟨i, hi, j, hfi, x, hx, rfl⟩
    refine ⟨j, List.mem_filterMap.mpr ⟨i, List.mem_range.mpr hi, hfi⟩, ?_⟩
    rw [hx]
    rfl
section C6
variable {h : Hp} {s p z : Nat} {S : St}
theorem needs_iff {b : Nat} {pre : List Ch} {c : Ch} {f : Nat → Option Nat} (hp : pre.Pairwise (fun a b => cI a < cI b)) (h1 : ∀ e ∈ pre, 1 ≤ cI e) (hf : ∀ i, i < 4 → ∀ j, f i = some j → j < pre.length) (hperm : (ndI pre f).Perm (prs pre c)) (hcb : cB c = b) (hn : 0 ≤ c1 c ∧ 0 ≤ c3 c ∧ 0 ≤ c4 c) :
    ((∀ i, i < 4 → ∀ j, f i = some j → flg (goes b pre) j = true) ∧ (c2 c < 0 → ∀ e ∈ pre, (cB e : Int) ≠ -c2 c)) ↔ (okN c (goes b pre) (c1 c) && okN c (goes b pre) (c2 c) && okN c (goes b pre) (c3 c) && okN c (goes b pre) (c4 c)) = true := by
  have hfst := goes_fst b pre
  have hlen := goes_len b pre
  have g0 : ∀ e ∈ goes b pre, 1 ≤ cI e.1 := fun e he => h1 _ (goes_mem he)
  have gb : ∀ e ∈ goes b pre, e.2 = true → cB e.1 = cB c := fun e he q => by rw [hcb]; exact goes_blk b pre e he q
  have hget : ∀ j (hj : j < pre.length), ((goes b pre)[j]'(by omega)).1 = pre[j] := fun j hj => by
    have h7 : ((goes b pre).map Prod.fst)[j]'(by rw [List.length_map]; omega) = pre[j] := by simp only [hfst]
    rw [List.getElem_map] at h7
    exact h7
  have hflg : ∀ j (hj : j < pre.length), flg (goes b pre) j = ((goes b pre)[j]'(by omega)).2 := fun j hj => by
    unfold flg
    rw [List.getElem?_eq_getElem (by omega)]
    rfl
  have hmem : ∀ n : Int, n ∈ prs pre c ↔ n ∈ [c1 c, c2 c, c3 c, c4 c] ∧ ∃ e ∈ pre, (cI e : Int) = n := fun n => by
    unfold prs
    rw [List.mem_filter, List.any_eq_true]
    simp
  have key : (∀ i, i < 4 → ∀ j, f i = some j → flg (goes b pre) j = true) ↔ ∀ n ∈ [c1 c, c2 c, c3 c, c4 c], ∀ e ∈ goes b pre, (cI e.1 : Int) = n → e.2 = true := by
    constructor
    · intro hall n hn e he hq
      have hin : n ∈ prs pre c := (hmem n).mpr ⟨hn, e.1, goes_mem he, hq⟩
      obtain ⟨i, hi, j, hfi, x, hx, hx2⟩ := (ndI_mem hf).mp (hperm.mem_iff.mpr hin)
      have hfl := hall i hi j hfi
      have hj := hf i hi j hfi
      rw [List.getElem?_eq_getElem hj] at hx
      cases hx
      rw [hflg j hj] at hfl
      obtain ⟨j2, hj2, rfl⟩ := List.getElem_of_mem he
      have hj3 : j2 < pre.length := by omega
      rw [hget j2 hj3] at hq
      have : j2 = j := by
        rcases Nat.lt_trichotomy j2 j with w | w | w
        · have := List.pairwise_iff_getElem.mp hp j2 j hj3 hj w; omega
        · exact w
        · have := List.pairwise_iff_getElem.mp hp j j2 hj hj3 w; omega
      subst this
      exact hfl
    · intro hall i hi j hfi
      have hj := hf i hi j hfi
      have hin : (cI pre[j] : Int) ∈ ndI pre f := (ndI_mem hf).mpr ⟨i, hi, j, hfi, pre[j], List.getElem?_eq_getElem hj, rfl⟩
      have h2 := (hmem _).mp (hperm.mem_iff.mp hin)
      rw [hflg j hj]
      exact hall _ h2.1 _ (List.getElem_mem _) (by rw [hget j hj])
  simp only [Bool.and_eq_true]
  rw [okN_iff g0 gb, okN_iff g0 gb, okN_iff g0 gb, okN_iff g0 gb, key]
  have hpg : (∀ e ∈ goes b pre, (cB e.1 : Int) ≠ -c2 c) ↔ ∀ e ∈ pre, (cB e : Int) ≠ -c2 c := by
    constructor
    · intro q e he
      rw [← hfst] at he
      obtain ⟨y, hy, rfl⟩ := List.mem_map.mp he
      exact q y hy
    · intro q e he
      exact q _ (goes_mem he)
  constructor
  · rintro ⟨a1, a2⟩
    refine ⟨⟨⟨⟨fun w => by omega, a1 _ (by simp)⟩, fun w => hpg.mpr (a2 w), a1 _ (by simp)⟩, fun w => by omega, a1 _ (by simp)⟩, fun w => by omega, a1 _ (by simp)⟩
  · rintro ⟨⟨⟨⟨-, b1⟩, b2, b3⟩, -, b4⟩, -, b5⟩
    refine ⟨fun n hn => ?_, fun w => hpg.mp (b2 w)⟩
    simp only [List.mem_cons, List.not_mem_nil, or_false] at hn
    rcases hn with rfl | rfl | rfl | rfl
    · exact b1
    · exact b3
    · exact b4
    · exact b5
theorem c_ng1 (R : Sta h s S z) (M : PO h p) {b : Nat} {pre l : List Ch} {c : Ch} (e : sC S = pre ++ c :: l) (F : Flc h p (goes b pre)) {f : Nat → Option Nat} (f1 : ∀ i, i < 4 → h.2 (s + 6) (4 * pre.length + i) = oI (f i)) (f2 : ∀ i, i < 4 → ∀ j, f i = some j → j < pre.length) : ∀ (k t n : Nat), t + k = 4 →
    gX2_needsGo (n + k + 1) 4 [.ref p, .ref s, .int (nI pre.length), .int (nI (4 * pre.length + t)), uV] [] h = if (List.range' t k).all (fun i => fOk (goes b pre) (f i)) = true then gX2_needsGo n 47 [.ref p, .ref s, .int (nI pre.length), .int 0, uV] [] h else some (.inl (some (.int 0)), h) := by
  obtain ⟨hch, hl, hl2⟩ := R.ch e
  obtain ⟨r1, -, -, -, -, -, ⟨r2, r3, r4⟩, -⟩ := id R.so
  obtain ⟨M0, ⟨M1, M2, M3⟩, -⟩ := id M
  have hgl := goes_len b pre
  intro k
  induction k with
  | zero =>
    intro t n ht
    rw [Nat.add_zero, zX2_needsGo_4]
    simp (maxSteps := 3000000) (disch := omega) only [kX2_needsGo_4, ↓reduceIte, if_true, if_false, ite_not, not_true_eq_false, not_false_eq_true, ↓qqI_p, ↓qqR_p, ↓qqV_p, ↓qqIx_p, ↓qqRx_p, ↓qqVx_p, qqI_s, qqR_s, qqV_s, qqIx_s, qqRx_s, qqVx_s, qqIx_t, qqVx_t, ↓letH_s, inB_nI, nI_leI, nI_ltI, nI_eq, nI_eq0, nI_eqm, nI_eqn, nI_le0, nI_lt0, nI_0lt, nI_0le, nI_clamp, pk_mul, nI_add, pk_div, pk_sub, rem_n, z_add, add_z, m_cell, kmk, lmk, rmk, b2i_0, b2i_n1, bft, le_t, le_f, lt_t, lt_f, eq_t, eq_f, k1, k2, k3, k4, k5, k6, k7, k8, k9, k10, k11, k12, k13, k15, k16, k20, k24, k30, k60, k64, k99, k100, k200, k255, k256, k512, k2912, k3392, k3393, k3394, k3395, k3396, k3397, k3398, List.range'_zero, List.all_nil]
  | succ k ih =>
    intro t n ht
    have ih := ih (t + 1) n (by omega)
    have hv := f1 t (by omega)
    rw [show n + (k + 1) + 1 = (n + k + 1) + 1 by omega, zX2_needsGo_4, List.range'_succ, List.all_cons]
    obtain hf | ⟨j, hf⟩ : f t = none ∨ ∃ j, f t = some j := by cases f t with
      | none => exact Or.inl rfl
      | some j => exact Or.inr ⟨j, rfl⟩
    · rw [hf] at hv
      have hv : h.2 (s + 6) (4 * pre.length + t) = -1 := hv
      simp (maxSteps := 3000000) (disch := omega) only [kX2_needsGo_4, r1, r2, r3, r4, ↓reduceIte, if_true, if_false, ite_not, not_true_eq_false, not_false_eq_true, ↓qqI_p, ↓qqR_p, ↓qqV_p, ↓qqIx_p, ↓qqRx_p, ↓qqVx_p, qqI_s, qqR_s, qqV_s, qqIx_s, qqRx_s, qqVx_s, qqIx_t, qqVx_t, ↓letH_s, inB_nI, nI_leI, nI_ltI, nI_eq, nI_eq0, nI_eqm, nI_eqn, nI_le0, nI_lt0, nI_0lt, nI_0le, nI_clamp, pk_mul, nI_add, pk_div, pk_sub, rem_n, z_add, add_z, m_cell, kmk, lmk, rmk, b2i_0, b2i_n1, bft, le_t, le_f, lt_t, lt_f, eq_t, eq_f, k1, k2, k3, k4, k5, k6, k7, k8, k9, k10, k11, k12, k13, k15, k16, k20, k24, k30, k60, k64, k99, k100, k200, k255, k256, k512, k2912, k3392, k3393, k3394, k3395, k3396, k3397, k3398, hv]
      rw [show 4 * pre.length + t + 1 = 4 * pre.length + (t + 1) by omega, ih]
      simp only [hf, fOk_n, Bool.true_and]
    · rw [hf] at hv
      have hv : h.2 (s + 6) (4 * pre.length + t) = nI j := hv
      have hj := f2 t (by omega) j hf
      have hF := F.get (j := j) (by omega)
      simp (maxSteps := 3000000) (disch := omega) only [kX2_needsGo_4, r1, r2, r3, r4, ↓reduceIte, if_true, if_false, ite_not, not_true_eq_false, not_false_eq_true, ↓qqI_p, ↓qqR_p, ↓qqV_p, ↓qqIx_p, ↓qqRx_p, ↓qqVx_p, qqI_s, qqR_s, qqV_s, qqIx_s, qqRx_s, qqVx_s, qqIx_t, qqVx_t, ↓letH_s, inB_nI, nI_leI, nI_ltI, nI_eq, nI_eq0, nI_eqm, nI_eqn, nI_le0, nI_lt0, nI_0lt, nI_0le, nI_clamp, pk_mul, nI_add, pk_div, pk_sub, rem_n, z_add, add_z, m_cell, kmk, lmk, rmk, b2i_0, b2i_n1, bft, le_t, le_f, lt_t, lt_f, eq_t, eq_f, k1, k2, k3, k4, k5, k6, k7, k8, k9, k10, k11, k12, k13, k15, k16, k20, k24, k30, k60, k64, k99, k100, k200, k255, k256, k512, k2912, k3392, k3393, k3394, k3395, k3396, k3397, k3398, hv, M0, M1, M2, M3, hF]
      rcases Bool.eq_false_or_eq_true (flg (goes b pre) j) with hfl | hfl
      · rw [show 4 * pre.length + t + 1 = 4 * pre.length + (t + 1) by omega, ih]
        simp only [hf, fOk_s, hfl, Bool.true_and, reduceCtorEq, if_false]
      · simp only [hf, fOk_s, hfl, Bool.false_and, if_true, reduceCtorEq, if_false]
theorem c_ng2 (R : Sta h s S z) (M : PO h p) {b : Nat} {pre l : List Ch} {c : Ch} (e : sC S = pre ++ c :: l) (F : Flc h p (goes b pre)) {d : Nat} (hd : h.2 (s + 7) pre.length = nI d) (hd2 : d < 16) (hdb : d ≠ b) : ∀ (T P : List Ch) (n : Nat), pre = P ++ T → T.length < n →
    gX2_needsGo n 47 [.ref p, .ref s, .int (nI pre.length), .int (nI P.length), uV] [] h = some (.inl (some (.int (b2i (T.all (fun e => !(cB e == d)))))), h) := by
  obtain ⟨hch, hl, hl2⟩ := R.ch e
  obtain ⟨r1, -, ⟨r5, r6, r7⟩, -, -, -, -, ⟨r2, r3, r4⟩, -⟩ := id R.so
  obtain ⟨M0, ⟨M1, M2, M3⟩, -⟩ := id M
  have hgl := goes_len b pre
  intro T
  induction T with
  | nil =>
    intro P n hP hn
    obtain ⟨n, rfl⟩ := sc hn
    have hPl : P.length = pre.length := by rw [hP]; simp
    rw [zX2_needsGo_47]
    simp (maxSteps := 3000000) (disch := omega) only [kX2_needsGo_47, r1, r2, r3, r4, ↓reduceIte, if_true, if_false, ite_not, not_true_eq_false, not_false_eq_true, ↓qqI_p, ↓qqR_p, ↓qqV_p, ↓qqIx_p, ↓qqRx_p, ↓qqVx_p, qqI_s, qqR_s, qqV_s, qqIx_s, qqRx_s, qqVx_s, qqIx_t, qqVx_t, ↓letH_s, inB_nI, nI_leI, nI_ltI, nI_eq, nI_eq0, nI_eqm, nI_eqn, nI_le0, nI_lt0, nI_0lt, nI_0le, nI_clamp, pk_mul, nI_add, pk_div, pk_sub, rem_n, z_add, add_z, m_cell, kmk, lmk, rmk, b2i_0, b2i_n1, bft, le_t, le_f, lt_t, lt_f, eq_t, eq_f, k1, k2, k3, k4, k5, k6, k7, k8, k9, k10, k11, k12, k13, k15, k16, k20, k24, k30, k60, k64, k99, k100, k200, k255, k256, k512, k2912, k3392, k3393, k3394, k3395, k3396, k3397, k3398, hd, hPl, List.all_nil, b2i_t1]
  | cons x T ih =>
    intro P n hP hn
    obtain ⟨n, rfl⟩ := sc hn
    have ih := ih (P ++ [x]) n (app1 hP) (by simp at hn ⊢; omega)
    rw [len1] at ih
    have hPl : P.length + 1 + T.length = pre.length := by rw [hP]; simp; omega
    have e3 : sC S = P ++ x :: (T ++ c :: l) := by rw [e, hP]; simp
    obtain ⟨q1, -⟩ := R.cst e3
    obtain ⟨⟨-, -, w3, w4, -⟩, -⟩ := R.ch e3
    have hF := F.get (j := P.length) (by omega)
    rw [zX2_needsGo_47]
    simp (maxSteps := 3000000) (disch := omega) only [kX2_needsGo_47, r1, r2, r3, r4, r5, r6, r7, ↓reduceIte, if_true, if_false, ite_not, not_true_eq_false, not_false_eq_true, ↓qqI_p, ↓qqR_p, ↓qqV_p, ↓qqIx_p, ↓qqRx_p, ↓qqVx_p, qqI_s, qqR_s, qqV_s, qqIx_s, qqRx_s, qqVx_s, qqIx_t, qqVx_t, ↓letH_s, inB_nI, nI_leI, nI_ltI, nI_eq, nI_eq0, nI_eqm, nI_eqn, nI_le0, nI_lt0, nI_0lt, nI_0le, nI_clamp, pk_mul, nI_add, pk_div, pk_sub, rem_n, z_add, add_z, m_cell, kmk, lmk, rmk, b2i_0, b2i_n1, bft, le_t, le_f, lt_t, lt_f, eq_t, eq_f, k1, k2, k3, k4, k5, k6, k7, k8, k9, k10, k11, k12, k13, k15, k16, k20, k24, k30, k60, k64, k99, k100, k200, k255, k256, k512, k2912, k3392, k3393, k3394, k3395, k3396, k3397, k3398, hd, q1, M0, M1, M2, M3, hF, ih, List.all_cons]
    by_cases h1 : cB x = d
    · have hnf : flg (goes b pre) P.length = false := by
        unfold flg
        rw [List.getElem?_eq_getElem (by omega)]
        cases hg : ((goes b pre)[P.length]'(by omega)).2 with
        | false => simp [hg]
        | true =>
          have h3 := goes_blk b pre _ (List.getElem_mem (h := by omega)) hg
          have h7 : ((goes b pre).map Prod.fst)[P.length]? = some x := by
            rw [goes_fst, hP]
            simp
          rw [List.getElem?_map, List.getElem?_eq_getElem (by omega)] at h7
          have h7 := Option.some.inj h7
          rw [h7] at h3
          omega
      simp [h1, hnf, b2i]
    · have h2 : (cB x == d) = false := by simpa using h1
      simp [h1, h2]
theorem c_needsGo (R : Sta h s S z) (M : PO h p) (A : Na S) {b : Nat} {pre l : List Ch} {c : Ch} (e : sC S = pre ++ c :: l) (F : Flc h p (goes b pre)) (hcb : cB c = b) :
    fX2_needsGo p s (nI pre.length) h = some (.inl (some (.int (b2i (okN c (goes b pre) (c1 c) && okN c (goes b pre) (c2 c) && okN c (goes b pre) (c3 c) && okN c (goes b pre) (c4 c))))), h) := by
  obtain ⟨hch, hl, hl2⟩ := R.ch e
  obtain ⟨-, -, -, -, ⟨f, f1, f2, f3⟩, a8, a9⟩ := R.cst e
  have hB := R.bd
  have hpw : pre.Pairwise (fun a b => cI a < cI b) := by
    have := hB.2.2.2.2.2.2
    rw [e] at this
    exact (List.pairwise_append.mp this).1
  have h1 : ∀ x ∈ pre, 1 ≤ cI x := fun x hx => (hB.2.2.2.2.1 x (by rw [e]; simp [hx])).1
  have hiff := needs_iff hpw h1 f2 f3 hcb a9
  have hg1 := c_ng1 R M e F f1 f2 4 0 999995 rfl
  unfold fX2_needsGo kX2_needsGo_0
  rw [show nI pre.length * 4 = nI (4 * pre.length + 0) by rw [k4, pk_mul]; congr 1; omega, show FF = 999995 + 4 + 1 from rfl, hg1]
  obtain ⟨r1, -, -, -, -, -, -, ⟨r2, r3, r4⟩, -⟩ := id R.so
  have hall : (List.range' 0 4).all (fun i => fOk (goes b pre) (f i)) = true ↔ ∀ i, i < 4 → ∀ j, f i = some j → flg (goes b pre) j = true := by
    rw [List.all_eq_true]
    constructor
    · intro q i hi j hj
      have := q i (by rw [List.mem_range'_1]; omega)
      rw [hj] at this
      exact this
    · intro q i hi
      rw [List.mem_range'_1] at hi
      cases hj : f i with
      | none => rfl
      | some j => rw [fOk_s]; exact q i (by omega) j hj
  by_cases ha : (List.range' 0 4).all (fun i => fOk (goes b pre) (f i)) = true
  · rw [if_pos ha]
    by_cases hneg : c2 c < 0
    · obtain ⟨n1, n2⟩ := A c (by rw [e]; simp) hneg
      have hbd := (hch.2.2.2.2.2 (c2 c) (by simp)).1
      have hd : h.2 (s + 7) pre.length = nI (c2 c).natAbs := by rw [a8]; unfold allB; rw [if_pos hneg]; rfl
      have hg2 := c_ng2 R M e F hd (by omega) (by omega) pre [] 999995 rfl (by omega)
      refine hg2.trans ?_
      have : (pre.all (fun e => !(cB e == (c2 c).natAbs))) = (okN c (goes b pre) (c1 c) && okN c (goes b pre) (c2 c) && okN c (goes b pre) (c3 c) && okN c (goes b pre) (c4 c)) := by
        rw [Bool.eq_iff_iff, ← hiff, List.all_eq_true]
        constructor
        · intro q
          refine ⟨hall.mp ha, fun _ x hx => ?_⟩
          have := q x hx
          simp at this
          omega
        · rintro ⟨-, q⟩ x hx
          have := q hneg x hx
          simp
          omega
      rw [this]
    · have hd : h.2 (s + 7) pre.length = -1 := by rw [a8]; unfold allB; rw [if_neg hneg]; rfl
      rw [show (999995 : Nat) = 999994 + 1 from rfl, zX2_needsGo_47]
      simp (maxSteps := 3000000) (disch := omega) only [kX2_needsGo_47, r1, r2, r3, r4, ↓reduceIte, if_true, if_false, ite_not, not_true_eq_false, not_false_eq_true, ↓qqI_p, ↓qqR_p, ↓qqV_p, ↓qqIx_p, ↓qqRx_p, ↓qqVx_p, qqI_s, qqR_s, qqV_s, qqIx_s, qqRx_s, qqVx_s, qqIx_t, qqVx_t, ↓letH_s, inB_nI, nI_leI, nI_ltI, nI_eq, nI_eq0, nI_eqm, nI_eqn, nI_le0, nI_lt0, nI_0lt, nI_0le, nI_clamp, pk_mul, nI_add, pk_div, pk_sub, rem_n, z_add, add_z, m_cell, kmk, lmk, rmk, b2i_0, b2i_n1, bft, le_t, le_f, lt_t, lt_f, eq_t, eq_f, k1, k2, k3, k4, k5, k6, k7, k8, k9, k10, k11, k12, k13, k15, k16, k20, k24, k30, k60, k64, k99, k100, k200, k255, k256, k512, k2912, k3392, k3393, k3394, k3395, k3396, k3397, k3398, hd]
      rw [hiff.mp ⟨hall.mp ha, fun w => absurd w hneg⟩]
      rfl
  · rw [if_neg ha]
    cases hk : (okN c (goes b pre) (c1 c) && okN c (goes b pre) (c2 c) && okN c (goes b pre) (c3 c) && okN c (goes b pre) (c4 c)) with
    | false => rfl
    | true => exact absurd (hall.mpr (hiff.mpr hk).1) ha
end C6
