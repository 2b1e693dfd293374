/-! ===== the book is read: what is read, and the class ===== -/
/-- a line's place: read, and not there yet -/
def lnB (T : Nat → Nat) (n : Nat) (ls : List (Nat × Nat)) (q : Nat) : Rd := match (pS T n 0 15 (.inl q)).2 with
  | .inr e => .inr e
  | .inl p => if (bkF ls (pS T n 0 15 (.inl q)).1).isSome = true then .inr (2, q) else .inl p
def bkP (T : Nat → Nat) (n : Nat) : Nat → List (Nat × Nat) → Nat → List (Nat × Nat) ⊕ Ft
  | 0, _, p => .inr (1, p)
  | f + 1, ls, p => if n ≤ bk T n p then .inl ls else match gS T n 59 (pS T n 0 99 (lnB T n ls (bk T n p))).2 with
    | .inr e => .inr e
    | .inl q => bkP T n f (ls ++ [((pS T n 0 15 (.inl (bk T n p))).1, (pS T n 0 99 (lnB T n ls (bk T n p))).1)]) q
theorem ndp_len : ∀ (n : Nat) (l : List Nat), l.Nodup → (∀ x ∈ l, x < n) → l.length ≤ n := by
  intro n
  induction n with
  | zero =>
    intro l _ h
    cases l with
    | nil => exact Nat.le_refl _
    | cons a l => exact absurd (h a (List.mem_cons_self)) (by omega)
  | succ n ih =>
    intro l nd h
    by_cases e : n ∈ l
    · have h1 := ih (l.erase n) (nd.erase n) (fun x hx => by
        have := (nd.mem_erase_iff).mp hx
        have := h x this.2
        omega)
      rw [List.length_erase_of_mem e] at h1
      omega
    · have := ih l nd (fun x hx => by
        have h1 := h x hx
        by_cases e2 : x = n
        · rw [e2] at hx; exact absurd hx e
        · omega)
      omega
theorem bkF_no {ls : List (Nat × Nat)} {p : Nat} (h : ¬ (bkF ls p).isSome = true) : ∀ q ∈ ls, q.1 ≠ p := by
  intro q hq e
  apply h
  unfold bkF
  rw [Option.isSome_map, List.find?_isSome]
  exact ⟨q, hq, by simp [e]⟩
theorem bkF_app {ls : List (Nat × Nat)} {a v : Nat} (h : ¬ (bkF ls a).isSome = true) (p : Nat) : bkF (ls ++ [(a, v)]) p = if p = a then some v else bkF ls p := by
  unfold bkF
  rw [List.find?_append]
  by_cases e : p = a
  · rw [if_pos e]
    have : ls.find? (fun q => q.1 == p) = none := by
      rw [List.find?_eq_none]
      intro q hq
      have := bkF_no h q hq
      simp only [beq_iff_eq]
      omega
    rw [this]
    simp [e]
  · rw [if_neg e]
    have : ([(a, v)] : List (Nat × Nat)).find? (fun q => q.1 == p) = none := by
      rw [List.find?_eq_none]
      intro q hq
      rw [List.mem_singleton] at hq
      rw [hq]
      simp only [beq_iff_eq]
      omega
    rw [this, Option.or_none]
theorem Bk.app {ls : List (Nat × Nat)} {a v : Nat} (B : Bk ls) (h : ¬ (bkF ls a).isSome = true) (ha : a < 16) (hv : v < 256) : Bk (ls ++ [(a, v)]) := by
  have nd : ((ls ++ [(a, v)]).map Prod.fst).Nodup := by
    rw [List.map_append, List.nodup_append]
    refine ⟨B.2.1, by simp, fun x hx y hy => ?_⟩
    rw [List.map_singleton, List.mem_singleton] at hy
    rw [List.mem_map] at hx
    obtain ⟨q, hq, e⟩ := hx
    have := bkF_no h q hq
    omega
  have hm : ∀ q ∈ ls ++ [(a, v)], q.1 < 16 ∧ q.2 < 256 := fun q hq => by
    rw [List.mem_append, List.mem_singleton] at hq
    rcases hq with hq | hq
    · exact B.2.2 q hq
    · rw [hq]; exact ⟨ha, hv⟩
  refine ⟨?_, nd, hm⟩
  have := ndp_len 16 _ nd (fun x hx => by
    rw [List.mem_map] at hx
    obtain ⟨q, hq, e⟩ := hx
    rw [← e]
    exact (hm q hq).1)
  rw [List.length_map] at this
  exact this
section BC
variable {h h' : Hp} {x n : Nat} {T : Nat → Nat} {ls : List (Nat × Nat)}
theorem lnB_ok {q p : Nat} (hq : q ≤ n) (h : lnB T n ls q = .inl p) : (pS T n 0 15 (.inl q)).2 = .inl p ∧ ¬ (bkF ls (pS T n 0 15 (.inl q)).1).isSome = true ∧ (pS T n 0 15 (.inl q)).1 ≤ 15 ∧ q < p ∧ p ≤ n := by
  unfold lnB at h
  have hs : ∀ p, (Sum.inl q : Rd) = .inl p → p ≤ n := fun p hp => by injection hp with hp; omega
  cases e : (pS T n 0 15 (.inl q)).2 with
  | inr e' => rw [e] at h; cases h
  | inl p' =>
    rw [e] at h
    simp only at h
    split at h
    · cases h
    · rename_i w
      injection h with h
      obtain ⟨p0, a1, a2, a3, a4, a5⟩ := pS_adv hs e
      injection a1 with a1
      rw [← h]
      exact ⟨rfl, w, a5, by omega, a3⟩
theorem lnB_le {q : Nat} (hq : q ≤ n) : ∀ p, lnB T n ls q = .inl p → p ≤ n := fun p hp => (lnB_ok hq hp).2.2.2.2
/-- the class's lines -/
def BL (h : Hp) (x : Nat) (ls : List (Nat × Nat)) : Prop := h.2 (x + 27) 2 = nI ls.length ∧ ∀ p, p < 16 → h.2 (x + 35) p = oI (bkF ls p)
theorem BL.fr (A : BL h x ls) (f : FrC h h' x) : BL h' x ls := ⟨by rw [f.2.2 2 (by decide) (by decide) (by decide)]; exact A.1, fun p hp => by rw [f.2.1 (x + 35) (by omega)]; exact A.2 p hp⟩
def bkT (rec : Nat → List Value → List Value → Hp → RS) (r0 : Nat) (z11 x3 : Int32) (h10 : Hp) : RS := (bI (fX3_readNumber r0 0 99 h10) fun z18 h17 => (if kH h17 r0 = 13 then (bV (fX3_readSign r0 59 h17) fun h20 => (if kH h20 r0 = 13 then (if ¬ (h20.2 r0 4) = 0 then (rec 34 [.ref r0, uV, uV, .int (x3 + 1), uV, uV, uV] [] h20) else (if kH h20 (rH h20 r0 1) = 1 then (if inB z11 (lH h20 (rH h20 r0 1)) = true then (rec 34 [.ref r0, uV, uV, .int (x3 + 1), uV, uV, uV] [] (h20.1, (upI (upI h20.2 (rH h20 r0 1) z11.toNatClampNeg z18) r0 2 (((upI h20.2 (rH h20 r0 1) z11.toNatClampNeg z18) r0 2) + 1)))) else none) else none)) else none)) else none))
theorem c_bk_er {e : Ft} (X : CX h x T n) (E : CE h x e) {k : Nat} (f : Nat) : gX3_readBook (f + 1) 34 [.ref (x + 27), uV, uV, .int (nI k), uV, uV, uV] [] h = some (.inl (some (.int (nI e.1))), h) := by
  rw [zX3_readBook_34]
  unfold kX3_readBook_34
  rw [if_pos X.k, E.2.1]
  by_cases w : h.2 (x + 27) 6 < nI k
  · rw [if_pos w]
  · rw [if_neg w, if_pos (show ¬ nI e.1 = 0 by rw [nI_eq0 (by have := E.1; omega)]; have := E.1; omega)]
theorem c_bk_go : ∀ (f p k fl : Nat) (ls : List (Nat × Nat)) (h : Hp), CP h x T n p → BL h x ls → Bk ls → k ≤ p → n - p < f → n + 3 ≤ fl + p →
    ∃ h', gX3_readBook fl 34 [.ref (x + 27), uV, uV, .int (nI k), uV, uV, uV] [] h = some (.inl (some (.int (match bkP T n f ls p with
      | .inl _ => 0
      | .inr e => nI e.1))), h') ∧ FrE h h' x ∧ CX h' x T n ∧ (match bkP T n f ls p with
      | .inl l => h'.2 (x + 27) 4 = 0 ∧ BL h' x l ∧ Bk l
      | .inr e => CE h' x e ∧ e.2 ≤ n) := by
  intro f
  induction f with
  | zero => intro p k fl ls h _ _ _ _ h0 _; omega
  | succ f ih =>
    intro p k fl ls h X A B hk hf hfl
    have hn := X.1.2.2.1
    have hp := X.2.2.2
    obtain ⟨fl, rfl⟩ : ∃ g, fl = g + 1 := ⟨fl - 1, by omega⟩
    obtain ⟨b1, b2⟩ := bk_le (T := T) hp
    obtain ⟨h4, a1, a2, a3⟩ := c_atEnd X
    unfold bkP
    rw [zX3_readBook_34]
    unfold kX3_readBook_34
    rw [if_pos X.k, X.1.2.1, if_neg (show ¬ nI n < nI k by rw [nI_ltI (by omega) (by omega)]; omega), if_neg (show ¬ ¬ h.2 (x + 27) 4 = 0 from fun q => q X.2.2.1), a1, bI_s]
    by_cases e0 : n ≤ bk T n p
    · rw [decide_eq_true e0, if_pos (show ¬ b2i true = 0 by decide), if_pos a3.k, a3.2.2.1, if_pos e0]
      exact ⟨h4, rfl, a2.e, a3.1, a3.2.2.1, A.fr a2, B⟩
    · rw [decide_eq_false e0, if_neg (show ¬ ¬ b2i false = 0 from fun q => q rfl), if_pos a3.k, if_neg e0]
      obtain ⟨q, hq⟩ : ∃ q, q = bk T n p := ⟨_, rfl⟩
      rw [← hq] at a3 e0 b1 b2 ⊢
      have A4 := A.fr a2
      obtain ⟨z11, h10, c1, c2, c3, c4⟩ := cs_num (s := .inl q) (show CSt h4 x T n (.inl q) from a3) (lo := 0) (hi := 15) (by decide) (by decide)
      have c1 : fX3_readNumber (x + 27) 0 15 h4 = _ := c1
      obtain ⟨a, ha⟩ : ∃ a, a = (pS T n 0 15 (.inl q)).1 := ⟨_, rfl⟩
      have ha15 : a ≤ 15 := by
        rw [ha]
        cases e : pNum T n 0 15 q with
        | inl v => rw [pS_i e]; exact (pNum_ok b2 e).1.2
        | inr e' => rw [pS_e e]; omega
      have X10 := c3.cx
      obtain ⟨l1, l2, l3⟩ : rH h10 (x + 27) 1 = x + 35 ∧ kH h10 (x + 35) = 1 ∧ lH h10 (x + 35) = 16 := X10.1.rdr.2.2.2.1
      have A10 := A4.fr c2
      have in16 : inB z11 16 = true := by rw [c4, ← ha]; exact inB_nI (by omega) (by decide)
      have cl : z11.toNatClampNeg = a := by rw [c4, ← ha]; exact nI_clamp (by omega)
      rw [c1, bI_s, if_pos X10.k, l1, if_pos l2, l3, if_pos in16, cl, A10.2 a (by omega)]
      -- what follows from a state behind the place
      have tail : ∀ h27, FrC h10 h27 x → CSt h27 x T n (lnB T n ls q) → ∃ h', bkT (gX3_readBook fl) (x + 27) z11 (nI k) h27 = some (.inl (some (.int (match (match gS T n 59 (pS T n 0 99 (lnB T n ls q)).2 with
            | .inr e => (.inr e : List (Nat × Nat) ⊕ Ft)
            | .inl q' => bkP T n f (ls ++ [((pS T n 0 15 (.inl q)).1, (pS T n 0 99 (lnB T n ls q)).1)]) q') with
          | .inl _ => 0
          | .inr e => nI e.1))), h') ∧ FrE h10 h' x ∧ CX h' x T n ∧ (match (match gS T n 59 (pS T n 0 99 (lnB T n ls q)).2 with
            | .inr e => (.inr e : List (Nat × Nat) ⊕ Ft)
            | .inl q' => bkP T n f (ls ++ [((pS T n 0 15 (.inl q)).1, (pS T n 0 99 (lnB T n ls q)).1)]) q') with
          | .inl l => h'.2 (x + 27) 4 = 0 ∧ BL h' x l ∧ Bk l
          | .inr e => CE h' x e ∧ e.2 ≤ n) := by
        intro h27 f27 S27
        obtain ⟨z18, h17, d1, d2, d3, d4⟩ := cs_num S27 (lo := 0) (hi := 99) (by decide) (by decide)
        have d1 : fX3_readNumber (x + 27) 0 99 h27 = _ := d1
        obtain ⟨h20, e1, e2, e3⟩ := cs_sign d3 (c := 59) (Or.inr (Or.inl rfl))
        have e1 : fX3_readSign (x + 27) 59 h17 = _ := e1
        unfold bkT
        rw [d1, bI_s, if_pos d3.cx.k, e1, bV_s, if_pos e3.cx.k]
        cases e4 : gS T n 59 (pS T n 0 99 (lnB T n ls q)).2 with
        | inr er =>
          rw [e4] at e3
          obtain ⟨f1, f2, f3⟩ : CX h20 x T n ∧ CE h20 x er ∧ er.2 ≤ n := e3
          simp only
          obtain ⟨g, rfl⟩ : ∃ g, fl = g + 1 := ⟨fl - 1, by omega⟩
          refine ⟨h20, ?_, (f27.trans (d2.trans e2)).e, f1, f2, f3⟩
          rw [if_pos f2.nz, nI_1, c_bk_er f1 f2]
        | inl q' =>
          rw [e4] at e3
          have e3 : CP h20 x T n q' := e3
          simp only
          obtain ⟨p1, g1, g2, g3⟩ := gS_adv (pS_le (lnB_le b2)) e4
          obtain ⟨p0, g4, g5, g6, g7, g8⟩ := pS_adv (lnB_le b2) g1
          obtain ⟨k1, k2, k3, k4, k5⟩ := lnB_ok b2 g4
          obtain ⟨v, hv⟩ : ∃ v, v = (pS T n 0 99 (lnB T n ls q)).1 := ⟨_, rfl⟩
          rw [← hv] at d4 g7 g8 ⊢
          rw [← ha] at k2 k3 ⊢
          have l20 : rH h20 (x + 27) 1 = x + 35 ∧ kH h20 (x + 35) = 1 ∧ lH h20 (x + 35) = 16 := e3.1.1.rdr.2.2.2.1
          have A20 := A10.fr (f27.trans (d2.trans e2))
          let g : Hp := (h20.1, upI (upI h20.2 (x + 35) a z18) (x + 27) 2 (nI (ls.length + 1)))
          have Xg : CP g x T n q' := by
            obtain ⟨⟨y1, y2, y3, y4, y5⟩, y6, y7, y8⟩ := e3
            refine ⟨⟨y1.eq rfl, ?_, y3, fun i hi => ?_, y5⟩, ?_, ?_, y8⟩
            · show upI _ _ _ _ (x + 27) 6 = _; rw [upI_at, if_neg (by decide), upI_ne (by omega)]; exact y2
            · show upI _ _ _ _ (x + 36) i = _; rw [upI_ne (by omega), upI_ne (by omega)]; exact y4 i hi
            · show upI _ _ _ _ (x + 27) 7 = _; rw [upI_at, if_neg (by decide), upI_ne (by omega)]; exact y6
            · show upI _ _ _ _ (x + 27) 4 = _; rw [upI_at, if_neg (by decide), upI_ne (by omega)]; exact y7
          have Ag : BL g x (ls ++ [(a, v)]) := by
            refine ⟨?_, fun p hp => ?_⟩
            · show upI _ _ _ _ (x + 27) 2 = _
              rw [upI_at, if_pos rfl, List.length_append, List.length_singleton]
            · show upI _ _ _ _ (x + 35) p = _
              rw [upI_ne (by omega), upI_at, bkF_app k2]
              by_cases w : p = a
              · rw [if_pos w, if_pos w, d4]; rfl
              · rw [if_neg w, if_neg w]; exact A20.2 p hp
          obtain ⟨h', i1, i2, i3, i4⟩ := ih q' (k + 1) fl _ g Xg Ag (B.app k2 (by omega) (by omega)) (by omega) (by omega) (by omega)
          refine ⟨h', ?_, FrE.trans (FrE.trans (f27.trans (d2.trans e2)).e (show FrE h20 g x from ⟨rfl, fun y w => by show upI _ _ _ _ y = _; rw [upI_ne (by omega), upI_ne (by omega)]⟩)) i2, i3, i4⟩
          rw [if_neg (show ¬ ¬ h20.2 (x + 27) 4 = 0 from fun q => q e3.2.2.1), l20.1, if_pos l20.2.1, l20.2.2, if_pos in16, cl, upI_ne (by omega), A20.1, nI_1, nI_1]
          exact i1
      by_cases dup : (bkF ls a).isSome = true
      · obtain ⟨v0, hv0⟩ := Option.isSome_iff_exists.mp dup
        have v0b : v0 < 256 := (B.2.2 _ (bkF_mem hv0)).2
        rw [hv0, oI_s, if_neg (show ¬ nI v0 = -1 by rw [nI_eqm (by omega)]; exact id)]
        have hb : ∃ h27, fX3_blame (x + 27) 2 (h4.2 (x + 27) 7) h10 = some (.inl none, h27) ∧ FrC h10 h27 x ∧ CSt h27 x T n (lnB T n ls q) := by
          rw [a3.2.1]
          cases e : (pS T n 0 15 (.inl q)).2 with
          | inr er =>
            rw [e] at c3
            obtain ⟨f1, f2, f3⟩ : CX h10 x T n ∧ CE h10 x er ∧ er.2 ≤ n := c3
            have el : lnB T n ls q = .inr er := by unfold lnB; rw [e]
            rw [el]
            exact ⟨h10, f2.blame f1.k _ _, FrC.refl h10 x, f1, f2, f3⟩
          | inl p1 =>
            rw [e] at c3
            have c3 : CP h10 x T n p1 := c3
            obtain ⟨h27, g1, g2, g3⟩ := c_blame c3 (e := (2, q)) (show 1 ≤ 2 ∧ 2 ≤ 3 by decide)
            have el : lnB T n ls q = .inr (2, q) := by unfold lnB; rw [e, ← ha]; simp only; rw [if_pos dup]
            rw [el]
            exact ⟨h27, g1, g2, c3.1.fr g2, g3, b2⟩
        obtain ⟨h27, g1, g2, g3⟩ := hb
        obtain ⟨h', t1, t2, t3, t4⟩ := tail h27 g2 g3
        refine ⟨h', ?_, (a2.trans c2).e.trans t2, t3, t4⟩
        rw [g1, bV_s, if_pos g3.cx.k]
        unfold bkT at t1
        rw [cl] at t1
        exact t1
      · have hnone : bkF ls a = none := by
          cases hh : bkF ls a with
          | none => rfl
          | some w => rw [hh] at dup; exact absurd rfl dup
        have el : lnB T n ls q = (pS T n 0 15 (.inl q)).2 := by
          unfold lnB
          cases e : (pS T n 0 15 (.inl q)).2 with
          | inr er => rfl
          | inl p1 => simp only; rw [← ha, if_neg dup]
        obtain ⟨h', t1, t2, t3, t4⟩ := tail h10 (FrC.refl h10 x) (by rw [el]; exact c3)
        rw [hnone, oI_n, if_pos rfl]
        unfold bkT at t1
        rw [cl] at t1
        exact ⟨h', t1, (a2.trans c2).e.trans t2, t3, t4⟩
/-- the lines are cleared -/
theorem c_bk_clear : ∀ (c k fl : Nat) (h : Hp), k + c = 16 → c < fl → CO h x → ∃ h', gX3_readBook fl 13 [.ref (x + 27), uV, uV, .int (nI k), uV, uV, uV] [] h = gX3_readBook (fl - c - 1) 34 [.ref (x + 27), uV, uV, .int (nI 0), uV, uV, uV] [] h' ∧ h'.1 = h.1 ∧ (∀ a, a ≠ x + 35 → h'.2 a = h.2 a) ∧ (∀ j, k ≤ j → j < 16 → h'.2 (x + 35) j = -1) ∧ ∀ j, j < k → h'.2 (x + 35) j = h.2 (x + 35) j := by
  intro c
  induction c with
  | zero =>
    intro k fl h hk hfl C
    obtain ⟨fl, rfl⟩ := sc (show 0 < fl by omega)
    refine ⟨h, ?_, rfl, fun _ _ => rfl, fun j q1 q2 => by omega, fun _ _ => rfl⟩
    rw [zX3_readBook_13]
    unfold kX3_readBook_13
    rw [if_pos (by rw [k16, nI_leI (by decide) (by omega)]; omega)]
    rfl
  | succ c ih =>
    intro k fl h hk hfl C
    obtain ⟨fl, rfl⟩ := sc (show 0 < fl by omega)
    obtain ⟨l1, l2, l3⟩ : rH h (x + 27) 1 = x + 35 ∧ kH h (x + 35) = 1 ∧ lH h (x + 35) = 16 := C.rdr.2.2.2.1
    obtain ⟨h', i1, i2, i3, i4, i5⟩ := ih (k + 1) fl (h.1, upI h.2 (x + 35) k (-1)) (by omega) (by omega) (C.eq rfl)
    refine ⟨h', ?_, i2, fun a q => by rw [i3 a q]; exact upI_ne q, fun j q1 q2 => ?_, fun j q => ?_⟩
    · rw [zX3_readBook_13]
      unfold kX3_readBook_13
      rw [if_neg (by rw [k16, nI_leI (by decide) (by omega)]; omega), if_pos C.rdr.1, l1, if_pos l2, l3, if_pos (inB_nI (by omega) (by decide)), nI_clamp (by omega), nI_1, i1, show fl + 1 - (c + 1) - 1 = fl - c - 1 by omega]
    · by_cases e : j = k
      · rw [e, i5 k (by omega)]
        show upI _ _ _ _ (x + 35) k = _
        rw [upI_at, if_pos rfl]
      · exact i4 j (by omega) q2
    · rw [i5 j (by omega)]
      show upI _ _ _ _ (x + 35) j = _
      rw [upI_at, if_neg (by omega)]
theorem c_readBook (C : CO h x) (hn : n ≤ 600) (ht : ∀ i, i < n → h.2 (x + 26) i = cby (T i)) (hT : ∀ i, i < n → T i < 256) : ∃ h', fX3_readBook (x + 27) (x + 26) (nI n) h = some (.inl (some (.int (match bkP T n (n + 1) [] 0 with
      | .inl _ => 0
      | .inr e => nI e.1))), h') ∧ FrE h h' x ∧ CX h' x T n ∧ (match bkP T n (n + 1) [] 0 with
      | .inl l => h'.2 (x + 27) 4 = 0 ∧ BL h' x l ∧ Bk l
      | .inr e => CE h' x e ∧ e.2 ≤ n) := by
  obtain ⟨h1, a1, a2, a3, a4, a5, a6⟩ := c_beginR C hn ht hT
  let g : Hp := (h1.1, upI h1.2 (x + 27) 2 0)
  obtain ⟨h2, b1, b2, b3, b4, b5⟩ := c_bk_clear (x := x) 16 0 FF g (by omega) (show 16 < 1000000 by decide) (a3.1.1.eq rfl)
  have j2 : ∀ j, j ≠ 2 → h2.2 (x + 27) j = h1.2 (x + 27) j := fun j q => by rw [b3 _ (by omega)]; show upI _ _ _ _ (x + 27) j = _; rw [upI_at, if_neg q]
  have X2 : CP h2 x T n 0 := by
    obtain ⟨⟨y1, y2, y3, y4, y5⟩, y6, y7, y8⟩ := a3
    exact ⟨⟨y1.eq b2, by rw [j2 6 (by decide)]; exact y2, y3, fun i hi => by rw [b3 (x + 36) (by omega)]; show upI _ _ _ _ (x + 36) i = _; rw [upI_ne (by omega)]; exact y4 i hi, y5⟩, by rw [j2 7 (by decide)]; exact y6, by rw [j2 4 (by decide)]; exact y7, y8⟩
  have A2 : BL h2 x [] := ⟨by rw [b3 _ (by omega)]; show upI _ _ _ _ (x + 27) 2 = _; rw [upI_at, if_pos rfl]; rfl, fun p hp => b4 p (Nat.zero_le _) hp⟩
  obtain ⟨h', c1, c2, c3, c4⟩ := c_bk_go (T := T) (n := n) (x := x) (n + 1) 0 0 (FF - 16 - 1) [] h2 X2 A2 ⟨by decide, by simp, by simp⟩ (Nat.zero_le _) (by omega) (show n + 3 ≤ 1000000 - 16 - 1 + 0 by omega)
  refine ⟨h', ?_, a2.trans (FrE.trans (show FrE h1 h2 x from ⟨b2, fun a q => by rw [b3 a (by omega)]; show upI _ _ _ _ a = _; rw [upI_ne (by omega)]⟩) c2), c3, c4⟩
  unfold fX3_readBook kX3_readBook_0
  rw [if_pos C.rdr.1, a1, bV_s, if_pos a3.k]
  exact b1.trans c1
end BC
