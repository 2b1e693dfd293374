/-! ===== the class: what a change needs ===== -/
abbrev core (c : Ch) : Nat × Nat × Nat × Nat := (cI c, cB c, cP c, cV c)
theorem vA_core {d : Nat → Nat} : ∀ {l l' : List Ch}, l.map core = l'.map core → ∀ x, vA d l x = vA d l' x := by
  have h : ∀ (l : List Ch) (x : Nat), vA d l x = (l.map core).foldl (fun v q => if (q.2.1 == x / 16 && (q.2.2.1 == 16 || q.2.2.1 == x % 16)) = true then q.2.2.2 else v) (d x) := fun l x => by
    rw [List.foldl_map]
    rfl
  intro l l' e x
  rw [h, h, e]
theorem any_core {l l' : List Ch} (e : l.map core = l'.map core) (n : Int) : l.any (fun c => (cI c : Int) == n) = l'.any (fun c => (cI c : Int) == n) := by
  have h : ∀ l : List Ch, l.any (fun c => (cI c : Int) == n) = (l.map core).any (fun q => (q.1 : Int) == n) := fun l => by rw [List.any_map]; rfl
  rw [h, h, e]
theorem prs_core {l l' : List Ch} (e : l.map core = l'.map core) (c : Ch) : prs l c = prs l' c := by
  unfold prs
  refine List.filter_congr (fun n _ => any_core e n)
theorem get_core {l l' : List Ch} (e : l.map core = l'.map core) (j : Nat) : (l[j]?).map core = (l'[j]?).map core := by rw [← List.getElem?_map, ← List.getElem?_map, e]
theorem ndI_core {l l' : List Ch} (e : l.map core = l'.map core) (f : Nat → Option Nat) : ndI l f = ndI l' f := by
  unfold ndI
  refine List.map_congr_left (fun j _ => ?_)
  have h := get_core e j
  cases h1 : l[j]? <;> cases h2 : l'[j]? <;> rw [h1, h2] at h
  · simp at h
  · simp at h
  · have h3 := Option.some.inj h
    simp only [Option.map_some, Option.getD_some]
    have := congrArg Prod.fst h3
    dsimp only at this
    rw [this]
theorem len_core {l l' : List Ch} (e : l.map core = l'.map core) : l.length = l'.length := by have := congrArg List.length e; simpa using this
theorem cst_core {I : Nat → Nat → Int32} {s : Nat} {d : Nat → Nat} {pre pre' : List Ch} {c : Ch} (e : pre.map core = pre'.map core) (C : Cst I s d pre c) : Cst I s d pre' c := by
  have hl := len_core e
  obtain ⟨a1, a2, a3, a4, ⟨f, a5, a6, a7⟩, a8, a9⟩ := C
  rw [hl] at a1 a2 a3 a8
  refine ⟨a1, a2, a3, fun i hi hp => ?_, ⟨f, fun i hi => by rw [← hl]; exact a5 i hi, fun i hi j hj => by rw [← hl]; exact a6 i hi j hj, by rw [← ndI_core e, ← prs_core e]; exact a7⟩, a8, a9⟩
  rw [← hl, a4 i hi hp, vA_core e]
theorem lst_core {I : Nat → Nat → Int32} {s : Nat} {cs cs' : List Ch} {k : Nat} {q : La} (e : cs.map core = cs'.map core) (L : Lst I s cs k q) : Lst I s cs' k q := by
  obtain ⟨a1, P, c, T, a2, a3, a4⟩ := L
  refine ⟨a1, ?_⟩
  have h := get_core e P.length
  rw [a2] at h
  simp only [List.getElem?_append_right (Nat.le_refl _), Nat.sub_self, List.getElem?_cons_zero, Option.map_some] at h
  cases h1 : cs'[P.length]? with
  | none => rw [h1] at h; simp at h
  | some c' =>
    rw [h1] at h
    have h2 := Option.some.inj h
    obtain ⟨h3, h4⟩ := List.getElem?_eq_some_iff.mp h1
    refine ⟨cs'.take P.length, c', cs'.drop (P.length + 1), by rw [← h4, List.getElem_cons_drop, List.take_append_drop], ?_, ?_⟩
    · have := congrArg Prod.fst h2
      dsimp only at this
      rw [← this, a3]
    · rw [List.length_take, Nat.min_eq_left (by omega), a4]
/-- a change is replaced -/
def rp (S : St) (cs : List Ch) : St := (sD S, cs, sL S, sM S, sW S, sH S, sK S)
section C3
variable {h : Hp} {s z : Nat} {S : St}
theorem sta_rp (R : Sta h s S z) {pre l : List Ch} {c c' : Ch} (e : sC S = pre ++ c :: l) (hc : core c' = core c) {h' : Hp} (e1 : h'.1 = h.1) (e2 : ∀ a, a ≠ s + 6 → a ≠ s + 7 → h'.2 a = h.2 a) (e3 : ∀ y, ¬ (4 * pre.length ≤ y ∧ y < 4 * pre.length + 4) → h'.2 (s + 6) y = h.2 (s + 6) y) (e4 : ∀ y, y ≠ pre.length → h'.2 (s + 7) y = h.2 (s + 7) y)
    (n1 : Nds (h'.2 (s + 6)) pre c') (n2 : h'.2 (s + 7) pre.length = oI (allB c')) (n3 : 0 ≤ c1 c' ∧ 0 ≤ c3 c' ∧ 0 ≤ c4 c') (n4 : ∀ n ∈ [c1 c', c2 c', c3 c', c4 c'], -16 < n ∧ n < cI c') : Sta h' s (rp S (pre ++ c' :: l)) z := by
  obtain ⟨O, ⟨t1, t2, t3, t4, t5, t6, t7, t8, t9, t10, t11⟩, hz, hB⟩ := R
  have hcore : (pre ++ c' :: l).map core = (sC S).map core := by rw [e]; simp [hc]
  have hcI : cI c' = cI c := congrArg (fun q => q.1) hc
  have hcB : cB c' = cB c := congrArg (fun q => q.2.1) hc
  have hcP : cP c' = cP c := congrArg (fun q => q.2.2.1) hc
  have hcV : cV c' = cV c := congrArg (fun q => q.2.2.2) hc
  have hlen : (pre ++ c' :: l).length = (sC S).length := len_core hcore
  have hmm : ∀ x, mm (rp S (pre ++ c' :: l)) x = mm S x := fun x => vA_core hcore x
  have hs : ∀ a, a ≠ s + 6 → a ≠ s + 7 → h'.2 a = h.2 a := e2
  refine ⟨SO.eq e1 O, ⟨?_, fun x hx => ?_, fun x hx => ?_, ?_, ?_, ?_, ?_, ?_, ?_, fun p2 c2' l2 q => ?_, fun p2 q l2 w => ?_⟩, hz, ?_⟩
  · rw [hs _ (by omega) (by omega)]; exact t1
  · rw [hs _ (by omega) (by omega), hmm]; exact t2 x hx
  · rw [hs _ (by omega) (by omega)]; exact t3 x hx
  · rw [hs _ (by omega) (by omega), t4]
    show _ = nI (pre ++ c' :: l).length
    rw [hlen]
  · rw [hs _ (by omega) (by omega)]; exact t5
  · rw [hs _ (by omega) (by omega)]; exact t6
  · rw [hs _ (by omega) (by omega)]; exact t7
  · rw [hs _ (by omega) (by omega)]; exact t8
  · rw [hs _ (by omega) (by omega)]; exact t9
  · have q : pre ++ c' :: l = p2 ++ c2' :: l2 := q
    show Cst h'.2 s (sD S) p2 c2'
    rcases Nat.lt_trichotomy p2.length pre.length with w | w | w
    · have hsp : sC S = p2 ++ c2' :: (sC S).drop (p2.length + 1) := by
        have h1 : (sC S)[p2.length]? = some c2' := by
          rw [e, List.getElem?_append_left w]
          have := congrArg (fun z : List Ch => z[p2.length]?) q
          simpa [List.getElem?_append_left w] using this
        obtain ⟨h3, h4⟩ := List.getElem?_eq_some_iff.mp h1
        have h5 : (sC S).take p2.length = p2 := by
          have := congrArg (List.take p2.length) q
          rw [List.take_append_of_le_length (by omega), List.take_append_of_le_length (Nat.le_refl _), List.take_length] at this
          rw [e, List.take_append_of_le_length (by omega), this]
        have h6 : sC S = (sC S).take p2.length ++ (sC S)[p2.length] :: (sC S).drop (p2.length + 1) := by rw [List.getElem_cons_drop, List.take_append_drop]
        rw [h5, h4] at h6
        exact h6
      refine (t10 _ _ _ hsp).mv ?_ ?_ ?_ (fun i hi => ?_) (fun i hi => ?_) ?_
      · rw [hs _ (by omega) (by omega)]
      · rw [hs _ (by omega) (by omega)]
      · rw [hs _ (by omega) (by omega)]
      · rw [hs _ (by omega) (by omega)]
      · rw [e3 _ (by omega)]
      · rw [e4 _ (by omega)]
    · obtain ⟨h3, h4⟩ := List.append_inj q w.symm
      obtain ⟨h5, h6⟩ := List.cons.inj h4
      subst h5
      subst h3
      obtain ⟨a1, a2, a3, a4, a5, a6, a7⟩ := t10 _ _ _ e
      refine ⟨by rw [hs _ (by omega) (by omega), hcB]; exact a1, by rw [hs _ (by omega) (by omega), hcP]; exact a2, by rw [hs _ (by omega) (by omega), hcV]; exact a3, fun i hi hp => ?_, n1, n2, n3⟩
      rw [hs _ (by omega) (by omega), hcB]
      exact a4 i hi (by rw [← hcP]; exact hp)
    · obtain ⟨k, hk⟩ : ∃ k, p2.length = pre.length + 1 + k := ⟨p2.length - (pre.length + 1), by omega⟩
      have h1 : l = l.take k ++ c2' :: l2 := by
        have := congrArg (List.drop p2.length) q
        rw [List.drop_append_of_le_length (Nat.le_refl _), List.drop_length, List.nil_append, hk, List.drop_append, List.drop_eq_nil_of_le (by omega), List.nil_append, show pre.length + 1 + k - pre.length = k + 1 by omega, List.drop_succ_cons] at this
        rw [← this, List.take_append_drop]
      have h2 : p2 = pre ++ c' :: l.take k := by
        have := congrArg (List.take p2.length) q
        rw [List.take_append_of_le_length (Nat.le_refl _), List.take_length, hk, List.take_append, List.take_of_length_le (by omega), show pre.length + 1 + k - pre.length = k + 1 by omega, List.take_succ_cons] at this
        exact this.symm
      have h3 : sC S = (pre ++ c :: l.take k) ++ c2' :: l2 := by
        rw [e]
        conv => lhs; rw [h1]
        simp
      have hcc := t10 _ _ _ h3
      have h4 : (pre ++ c :: l.take k).length = p2.length := by rw [h2]; simp
      have h5 : Cst h.2 s (sD S) p2 c2' := cst_core (by rw [h2]; simp [hc]) hcc
      refine h5.mv ?_ ?_ ?_ (fun i hi => ?_) (fun i hi => ?_) ?_
      · rw [hs _ (by omega) (by omega)]
      · rw [hs _ (by omega) (by omega)]
      · rw [hs _ (by omega) (by omega)]
      · rw [hs _ (by omega) (by omega)]
      · rw [e3 _ (by omega)]
      · rw [e4 _ (by omega)]
  · have hl := t11 p2 q l2 w
    have h6 : Lst h.2 s (pre ++ c' :: l) p2.length q := lst_core hcore.symm hl
    obtain ⟨b1, b2⟩ := h6
    refine ⟨by rw [hs _ (by omega) (by omega)]; exact b1, ?_⟩
    obtain ⟨P, y, T, b3, b4, b5⟩ := b2
    exact ⟨P, y, T, b3, b4, by rw [hs _ (by omega) (by omega)]; exact b5⟩
  · obtain ⟨b1, b2, b3, b4, b5, b6, b7⟩ := hB
    refine ⟨by show (pre ++ c' :: l).length ≤ 200; rw [hlen]; exact b1, b2, b3, b4, fun y hy => ?_, b6, ?_⟩
    · have hy : y ∈ pre ++ c' :: l := hy
      simp only [List.mem_append, List.mem_cons] at hy
      rcases hy with w | w | w
      · exact b5 y (by rw [e]; simp [w])
      · subst w
        have := b5 c (by rw [e]; simp)
        unfold chB at this ⊢
        rw [hcI, hcB, hcP, hcV]
        refine ⟨this.1, this.2.1, this.2.2.1, this.2.2.2.1, this.2.2.2.2.1, fun n hn => ?_⟩
        have := n4 n hn
        rw [hcI] at this
        exact this
      · exact b5 y (by rw [e]; simp [w])
    · show (pre ++ c' :: l).Pairwise (fun a b => cI a < cI b)
      have h7 : ((pre ++ c' :: l).map core).Pairwise (fun a b => a.1 < b.1) := by
        rw [hcore]
        exact (List.pairwise_map (f := core) (R := fun a b => a.1 < b.1)).mpr b7
      exact (List.pairwise_map (f := core) (R := fun a b => a.1 < b.1)).mp h7
theorem nd_len {pre : List Ch} {f : Nat → Option Nat} : (ndI pre f).length = ((List.range 4).filterMap f).length := List.length_map _
/-- the first place that is free, and what comes of it -/
theorem nd_add {pre : List Ch} {f : Nat → Option Nat} {j : Nat} {x : Ch} (hj : pre[j]? = some x) {i : Nat} (hi : i < 4) (hf : f i = none) (hb : ∀ t, t < i → f t ≠ none) : (ndI pre (fun t => if t = i then some j else f t)).Perm ((cI x : Int) :: ndI pre f) := by
  have hc : i = 0 ∨ i = 1 ∨ i = 2 ∨ i = 3 := by omega
  unfold ndI
  rw [show List.range 4 = [0, 1, 2, 3] from rfl]
  rcases hc with rfl | rfl | rfl | rfl
  · simp only [List.filterMap_cons, hf, if_true, List.filterMap_nil]
    simp [hj]
  · obtain ⟨a0, h0⟩ := Option.ne_none_iff_exists'.mp (hb 0 (by decide))
    simp only [List.filterMap_cons, hf, h0, if_true, List.filterMap_nil]
    simp [hj]
    exact List.Perm.swap _ _ _
  · obtain ⟨a0, h0⟩ := Option.ne_none_iff_exists'.mp (hb 0 (by decide))
    obtain ⟨a1, h1⟩ := Option.ne_none_iff_exists'.mp (hb 1 (by decide))
    simp only [List.filterMap_cons, hf, h0, h1, if_true, List.filterMap_nil]
    simp [hj]
    exact (List.Perm.cons _ (List.Perm.swap _ _ _)).trans (List.Perm.swap _ _ _)
  · obtain ⟨a0, h0⟩ := Option.ne_none_iff_exists'.mp (hb 0 (by decide))
    obtain ⟨a1, h1⟩ := Option.ne_none_iff_exists'.mp (hb 1 (by decide))
    obtain ⟨a2, h2⟩ := Option.ne_none_iff_exists'.mp (hb 2 (by decide))
    simp only [List.filterMap_cons, hf, h0, h1, h2, if_true, List.filterMap_nil]
    simp [hj]
    exact ((List.Perm.cons _ (List.Perm.cons _ (List.Perm.swap _ _ _))).trans (List.Perm.cons _ (List.Perm.swap _ _ _))).trans (List.Perm.swap _ _ _)
theorem nd_free {pre : List Ch} {f : Nat → Option Nat} (hl : (ndI pre f).length < 4) : ∃ i, i < 4 ∧ f i = none ∧ ∀ t, t < i → f t ≠ none := by
  rw [nd_len, show List.range 4 = [0, 1, 2, 3] from rfl] at hl
  cases h0 : f 0 with
  | none => exact ⟨0, by decide, h0, fun t ht => by omega⟩
  | some a0 =>
    cases h1 : f 1 with
    | none => exact ⟨1, by decide, h1, fun t ht => by rw [show t = 0 by omega, h0]; simp⟩
    | some a1 =>
      cases h2 : f 2 with
      | none =>
        refine ⟨2, by decide, h2, fun t ht => ?_⟩
        have : t = 0 ∨ t = 1 := by omega
        rcases this with rfl | rfl
        · rw [h0]; simp
        · rw [h1]; simp
      | some a2 =>
        cases h3 : f 3 with
        | none =>
          refine ⟨3, by decide, h3, fun t ht => ?_⟩
          have : t = 0 ∨ t = 1 ∨ t = 2 := by omega
          rcases this with rfl | rfl | rfl
          · rw [h0]; simp
          · rw [h1]; simp
          · rw [h2]; simp
        | some a3 => simp [h0, h1, h2, h3] at hl
theorem c_need (R : Sta h s S z) {pre l : List Ch} {c c' x : Ch} (e : sC S = pre ++ c :: l) (hc : core c' = core c) {j : Nat} (hj : pre[j]? = some x) (hl4 : (prs pre c).length < 4) (hp : (prs pre c').Perm ((cI x : Int) :: prs pre c)) (ha : allB c' = allB c) (n3 : 0 ≤ c1 c' ∧ 0 ≤ c3 c' ∧ 0 ≤ c4 c') (n4 : ∀ n ∈ [c1 c', c2 c', c3 c', c4 c'], -16 < n ∧ n < cI c') :
    ∃ h', fX5_need s (nI pre.length) (nI j) h = some (.inl none, h') ∧ Own h h' s ∧ Sta h' s (rp S (pre ++ c' :: l)) z := by
  obtain ⟨hch, hl, hl2⟩ := R.ch e
  have hC := R.cst e
  obtain ⟨f, f1, f2, f3⟩ := hC.2.2.2.2.1
  obtain ⟨i, hi, hi1, hi2⟩ := nd_free (pre := pre) (f := f) (by rw [f3.length_eq]; exact hl4)
  have hjl : j < pre.length := (List.getElem?_eq_some_iff.mp hj).1
  obtain ⟨r1, -, -, -, -, -, ⟨r2, r3, r4⟩, -⟩ := id R.so
  have hun := R.un
  have hsome : ∀ t, t < i → ∃ q, h.2 (s + 6) (4 * pre.length + t) = nI q ∧ q < 2 ^ 31 := fun t ht => by
    obtain ⟨q, hq⟩ := Option.ne_none_iff_exists'.mp (hi2 t ht)
    have := f2 t (by omega) q hq
    exact ⟨q, by rw [f1 t (by omega), hq]; rfl, by omega⟩
  have hloop : ∀ (c t n : Nat), t + c = i → c < n → gX5_need n 26 [.ref s, .int (nI pre.length), .int (nI j), .int (nI (4 * pre.length + t))] [] h = some (.inl none, (h.1, upI h.2 (s + 6) (4 * pre.length + i) (nI j))) := by
    intro c
    induction c with
    | zero =>
      intro t n ht hn
      obtain ⟨n, rfl⟩ := sc hn
      have : t = i := by omega
      subst this
      have hv : h.2 (s + 6) (4 * pre.length + t) = -1 := by rw [f1 t hi, hi1]; rfl
      rw [zX5_need_26]
      simp (maxSteps := 3000000) (disch := omega) only [kX5_need_26, r1, r2, r3, r4, ↓reduceIte, if_true, if_false, ite_not, not_true_eq_false, not_false_eq_true, ↓qqI_p, ↓qqR_p, ↓qqV_p, ↓qqIx_p, ↓qqRx_p, ↓qqVx_p, qqI_s, qqR_s, qqV_s, qqIx_s, qqRx_s, qqVx_s, qqIx_t, qqVx_t, ↓letH_s, inB_nI, nI_leI, nI_ltI, nI_eq, nI_eq0, nI_eqm, nI_eqn, nI_le0, nI_lt0, nI_0lt, nI_0le, nI_clamp, pk_mul, nI_add, pk_div, pk_sub, rem_n, z_add, add_z, m_cell, kmk, lmk, rmk, b2i_0, b2i_n1, bft, le_t, le_f, lt_t, lt_f, eq_t, eq_f, k1, k2, k3, k4, k5, k6, k7, k8, k9, k10, k11, k12, k13, k15, k16, k20, k24, k30, k60, k64, k99, k100, k200, k255, k256, k512, k2912, k3392, k3393, k3394, k3395, k3396, k3397, k3398, hv]
    | succ c ih =>
      intro t n ht hn
      obtain ⟨n, rfl⟩ := sc hn
      have ih := ih (t + 1) n (by omega) (by omega)
      obtain ⟨q, hq, hq2⟩ := hsome t (by omega)
      rw [zX5_need_26]
      simp (maxSteps := 3000000) (disch := omega) only [kX5_need_26, r1, r2, r3, r4, ↓reduceIte, if_true, if_false, ite_not, not_true_eq_false, not_false_eq_true, ↓qqI_p, ↓qqR_p, ↓qqV_p, ↓qqIx_p, ↓qqRx_p, ↓qqVx_p, qqI_s, qqR_s, qqV_s, qqIx_s, qqRx_s, qqVx_s, qqIx_t, qqVx_t, ↓letH_s, inB_nI, nI_leI, nI_ltI, nI_eq, nI_eq0, nI_eqm, nI_eqn, nI_le0, nI_lt0, nI_0lt, nI_0le, nI_clamp, pk_mul, nI_add, pk_div, pk_sub, rem_n, z_add, add_z, m_cell, kmk, lmk, rmk, b2i_0, b2i_n1, bft, le_t, le_f, lt_t, lt_f, eq_t, eq_f, k1, k2, k3, k4, k5, k6, k7, k8, k9, k10, k11, k12, k13, k15, k16, k20, k24, k30, k60, k64, k99, k100, k200, k255, k256, k512, k2912, k3392, k3393, k3394, k3395, k3396, k3397, k3398, hq]
      rw [show 4 * pre.length + t + 1 = 4 * pre.length + (t + 1) by omega]
      exact ih
  refine ⟨(h.1, upI h.2 (s + 6) (4 * pre.length + i) (nI j)), ?_, ⟨rfl, fun a ha => by dsimp only; rw [upI_ne (by omega)]⟩, ?_⟩
  · unfold fX5_need
    have hg := hloop i 0 FF (by omega) (by show _ < 1000000; omega)
    simp (maxSteps := 3000000) (disch := omega) only [kX5_need_0, r1, hun, hl2, ↓reduceIte, if_true, if_false, ite_not, not_true_eq_false, not_false_eq_true, ↓qqI_p, ↓qqR_p, ↓qqV_p, ↓qqIx_p, ↓qqRx_p, ↓qqVx_p, qqI_s, qqR_s, qqV_s, qqIx_s, qqRx_s, qqVx_s, qqIx_t, qqVx_t, ↓letH_s, inB_nI, nI_leI, nI_ltI, nI_eq, nI_eq0, nI_eqm, nI_eqn, nI_le0, nI_lt0, nI_0lt, nI_0le, nI_clamp, pk_mul, nI_add, pk_div, pk_sub, rem_n, z_add, add_z, m_cell, kmk, lmk, rmk, b2i_0, b2i_n1, bft, le_t, le_f, lt_t, lt_f, eq_t, eq_f, k1, k2, k3, k4, k5, k6, k7, k8, k9, k10, k11, k12, k13, k15, k16, k20, k24, k30, k60, k64, k99, k100, k200, k255, k256, k512, k2912, k3392, k3393, k3394, k3395, k3396, k3397, k3398]
    rw [show pre.length * 4 = 4 * pre.length + 0 by omega]
    exact hg
  · refine sta_rp R e hc rfl (fun a x1 x2 => upI_ne x1) (fun y hy => by dsimp only; rw [upI_at, if_neg (by omega)]) (fun y _ => by dsimp only; rw [upI_ne (by omega)]) ?_ ?_ n3 n4
    · refine ⟨fun t => if t = i then some j else f t, fun t ht => ?_, fun t ht q hq => ?_, ?_⟩
      · dsimp only
        rw [upI_at]
        by_cases w : t = i
        · rw [if_pos (by omega), if_pos w]; rfl
        · rw [if_neg (by omega), if_neg w]; exact f1 t ht
      · dsimp only at hq
        split at hq
        · cases hq; exact hjl
        · exact f2 t ht q hq
      · exact (nd_add hj hi hi1 hi2).trans ((f3.cons _).trans hp.symm)
    · dsimp only
      rw [upI_ne (by omega), ha]
      exact hC.2.2.2.2.2.1
theorem c_needN (R : Sta h s S z) {x : Int32} (k : Option Nat) : (∀ q, k = some q → q < 2 ^ 31) → fX5_need s (oI k) (-1) h = some (.inl none, h) := by
  intro hk
  have hB := R.bd.1
  unfold fX5_need
  cases k with
  | none => rfl
  | some q =>
    have hq := hk q rfl
    have hun := R.un
    unfold kX5_need_0
    rw [oI_s, if_neg (by rw [nI_lt0 (by omega)]; exact fun w => w), if_pos R.so.1, hun]
    split
    · rfl
    · rfl
theorem c_need_n {x : Int32} : fX5_need s (-1) x h = some (.inl none, h) := rfl
theorem c_needAll (R : Sta h s S z) {pre l : List Ch} {c c' : Ch} (e : sC S = pre ++ c :: l) (hc : core c' = core c) {b : Nat} (hb : b < 16) (ha : allB c' = some b) (hp : prs pre c' = prs pre c) (n3 : 0 ≤ c1 c' ∧ 0 ≤ c3 c' ∧ 0 ≤ c4 c') (n4 : ∀ n ∈ [c1 c', c2 c', c3 c', c4 c'], -16 < n ∧ n < cI c') :
    ∃ h', fX5_needAllOf s (nI pre.length) (nI b) h = some (.inl none, h') ∧ Own h h' s ∧ Sta h' s (rp S (pre ++ c' :: l)) z := by
  obtain ⟨hch, hl, hl2⟩ := R.ch e
  have hC := R.cst e
  obtain ⟨r1, -, -, -, -, -, -, ⟨r2, r3, r4⟩, -⟩ := id R.so
  have hun := R.un
  refine ⟨(h.1, upI h.2 (s + 7) pre.length (nI b)), ?_, ⟨rfl, fun a ha => by dsimp only; rw [upI_ne (by omega)]⟩, ?_⟩
  · unfold fX5_needAllOf
    simp (maxSteps := 3000000) (disch := omega) only [kX5_needAllOf_0, r1, r2, r3, r4, hun, hl2, ↓reduceIte, if_true, if_false, ite_not, not_true_eq_false, not_false_eq_true, ↓qqI_p, ↓qqR_p, ↓qqV_p, ↓qqIx_p, ↓qqRx_p, ↓qqVx_p, qqI_s, qqR_s, qqV_s, qqIx_s, qqRx_s, qqVx_s, qqIx_t, qqVx_t, ↓letH_s, inB_nI, nI_leI, nI_ltI, nI_eq, nI_eq0, nI_eqm, nI_eqn, nI_le0, nI_lt0, nI_0lt, nI_0le, nI_clamp, pk_mul, nI_add, pk_div, pk_sub, rem_n, z_add, add_z, m_cell, kmk, lmk, rmk, b2i_0, b2i_n1, bft, le_t, le_f, lt_t, lt_f, eq_t, eq_f, k1, k2, k3, k4, k5, k6, k7, k8, k9, k10, k11, k12, k13, k15, k16, k20, k24, k30, k60, k64, k99, k100, k200, k255, k256, k512, k2912, k3392, k3393, k3394, k3395, k3396, k3397, k3398]
  · refine sta_rp R e hc rfl (fun a x1 x2 => upI_ne x2) (fun y hy => by dsimp only; rw [upI_ne (by omega)]) (fun y hy => by dsimp only; rw [upI_at, if_neg hy]) ?_ ?_ n3 n4
    · dsimp only
      rw [upI_ne (by omega)]
      obtain ⟨f, f1, f2, f3⟩ := hC.2.2.2.2.1
      exact ⟨f, f1, f2, by rw [hp]; exact f3⟩
    · dsimp only
      rw [upI_at, if_pos rfl, ha]
      rfl
end C3
