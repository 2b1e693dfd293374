/-! ===== the class reads a step ===== -/
/-- what reading a step may change -/
def FrW (h h' : Hp) (x : Nat) : Prop := h'.1 = h.1 ∧ (∀ a, a < x + 27 ∨ (x + 33 ≤ a ∧ a ≠ x + 37) → h'.2 a = h.2 a) ∧ (∀ j, j ≠ 3 → j ≠ 4 → j ≠ 7 → j ≠ 9 → h'.2 (x + 27) j = h.2 (x + 27) j)
theorem FrW.refl (h : Hp) (x : Nat) : FrW h h x := ⟨rfl, fun _ _ => rfl, fun _ _ _ _ _ => rfl⟩
theorem FrW.trans {h h1 h2 : Hp} {x : Nat} (a : FrW h h1 x) (b : FrW h1 h2 x) : FrW h h2 x := ⟨b.1.trans a.1, fun y q => by rw [b.2.1 y q, a.2.1 y q], fun j q1 q2 q3 q4 => by rw [b.2.2 j q1 q2 q3 q4, a.2.2 j q1 q2 q3 q4]⟩
theorem FrS.w {h h' : Hp} {x : Nat} (f : FrS h h' x) : FrW h h' x := ⟨f.1, fun a q => f.2.1 a (by omega), fun j q1 q2 q3 _ => f.2.2 j q1 q2 q3⟩
section CS1
variable {h h' : Hp} {x n p j D : Nat} {T : Nat → Nat} {s : Rd}
theorem CX.frw (X : CX h x T n) (f : FrW h h' x) : CX h' x T n := ⟨X.1.eq f.1, (f.2.2 6 (by decide) (by decide) (by decide) (by decide)).trans X.2.1, X.2.2.1, fun i hi => by rw [f.2.1 (x + 36) (by omega)]; exact X.2.2.2.1 i hi, X.2.2.2.2⟩
/-- no word: nothing is read, an entry is put that nobody reads -/
theorem c_nums_m1 {e : Ft} (X : CX h x T n) (E : CE h x e) (he : e.2 ≤ n) (hj : j < 64) (hl : h.2 (x + 28) 1 = nI j) : ∃ h', fX3_readNumbers (x + 27) (-1) h = some (.inl none, h') ∧ FrS h h' x ∧ CSt h' x T n (.inr e) := by
  obtain ⟨s1, s2, -⟩ := X.1.scr
  obtain ⟨h', a1, a2, a3, -⟩ := c_add X.1 hj hl (-1) 0 0 0
  refine ⟨h', ?_, a2, CSt.at (s := .inr e) ⟨X, E, he⟩ a2 a3⟩
  unfold fX3_readNumbers kX3_readNumbers_0
  rw [if_pos (by decide), show FF = 999998 + 1 + 1 from rfl, zX3_readNumbers_25]
  unfold kX3_readNumbers_25
  rw [if_neg (by decide), if_neg (by decide), if_neg (by decide), if_neg (by decide), if_neg (by decide), if_neg (by decide), if_neg (by decide), if_neg (by decide), if_neg (by decide), if_neg (by decide), if_neg (by decide), if_neg (by decide), if_neg (by decide), zX3_readNumbers_194]
  unfold kX3_readNumbers_194
  rw [if_pos X.k, s1, if_pos s2, a1, bV_s]
theorem cop_tab : ∀ w : Fin 13, w.1 ≠ 12 → w.1 ≠ 11 → cop (rop w.1) = w.1 := by decide +kernel
/-- what a step of the class leaves -/
def outC (h h' : Hp) (x : Nat) (T : Nat → Nat) (n j D : Nat) (o : (Nat × Nat) ⊕ Ft) : Prop := FrW h h' x ∧ match o with
  | .inr e => CX h' x T n ∧ CE h' x e ∧ e.2 ≤ n
  | .inl v => if v.1 = 11 then (match gS T n 91 (pS T n 0 60 (.inl v.2)).2 with
      | .inr e => CX h' x T n ∧ CE h' x e ∧ e.2 ≤ n
      | .inl q2 => CP h' x T n q2 ∧ addd h h' x j 11 ((pS T n 0 60 (.inl v.2)).1, 0, 0) ∧ h'.2 (x + 27) 9 = nI (D + 1) ∧ (∀ i, h'.2 (x + 37) i = if i = D then nI j else h.2 (x + 37) i))
    else (match gS T n 59 (nums T n v.1 (.inl v.2)).2 with
      | .inr e => CX h' x T n ∧ CE h' x e ∧ e.2 ≤ n
      | .inl q2 => CP h' x T n q2 ∧ addd h h' x j (cop v.1) (nums T n v.1 (.inl v.2)).1 ∧ h'.2 (x + 27) 9 = nI D ∧ h'.2 (x + 37) = h.2 (x + 37))
theorem addd.pre {h1 h2 : Hp} {w : Nat} {v : Nat × Nat × Nat} (e : ∀ a, x + 28 ≤ a → a ≤ x + 32 → h1.2 a = h.2 a) (A : addd h1 h2 x j w v) : addd h h2 x j w v := by
  obtain ⟨a1, a2, a3, a4, a5, a6⟩ := A
  exact ⟨a1, by rw [a2, e _ (by omega) (by omega)], fun i => by rw [a3, e _ (by omega) (by omega)], fun i => by rw [a4, e _ (by omega) (by omega)], fun i => by rw [a5, e _ (by omega) (by omega)], fun i => by rw [a6, e _ (by omega) (by omega)]⟩
theorem addd.post {h1 h2 : Hp} {w : Nat} {v : Nat × Nat × Nat} (e : ∀ a, x + 28 ≤ a → a ≤ x + 32 → h2.2 a = h1.2 a) (A : addd h h1 x j w v) : addd h h2 x j w v := by
  obtain ⟨a1, a2, a3, a4, a5, a6⟩ := A
  exact ⟨by rw [e _ (by omega) (by omega)]; exact a1, by rw [e _ (by omega) (by omega)]; exact a2, fun i => by rw [e _ (by omega) (by omega)]; exact a3 i, fun i => by rw [e _ (by omega) (by omega)]; exact a4 i, fun i => by rw [e _ (by omega) (by omega)]; exact a5 i, fun i => by rw [e _ (by omega) (by omega)]; exact a6 i⟩
/-- a fault, whatever word was read: the rest does nothing -/
theorem c_st_er {e : Ft} (X : CX h x T n) (E : CE h x e) (he : e.2 ≤ n) (hj : j < 64) (hl : h.2 (x + 28) 1 = nI j) {w : Int32} (hw : w = -1 ∨ w = nI 12 ∨ w = nI 11) (f : Nat) : ∃ h', gX3_readStep (f + 1) 46 [.ref (x + 27), uV, .int w] [] h = some (.inl none, h') ∧ FrW h h' x ∧ CX h' x T n ∧ CE h' x e ∧ e.2 ≤ n := by
  have st : ∃ h1, fX3_readNumbers (x + 27) w h = some (.inl none, h1) ∧ FrS h h1 x ∧ CSt h1 x T n (.inr e) := by
    rcases hw with rfl | rfl | rfl
    · exact c_nums_m1 X E he hj hl
    · obtain ⟨h1, a1, a2, a3, -⟩ := c_size (s := .inr e) (h := h) ⟨X, E, he⟩
      exact ⟨h1, a1, a2, a3⟩
    · obtain ⟨h1, a1, a2, a3, -⟩ := c_nums (s := .inr e) (w := 11) (h := h) ⟨X, E, he⟩ (by decide) hj hl
      exact ⟨h1, a1, a2, a3⟩
  obtain ⟨h1, a1, a2, a3⟩ := st
  have a3 : CX h1 x T n ∧ CE h1 x e ∧ e.2 ≤ n := a3
  refine ⟨h1, ?_, a2.w, a3⟩
  rw [zX3_readStep_46]
  unfold kX3_readStep_46
  rw [if_pos X.k, a1, bV_s, if_pos a3.1.k, if_pos a3.1.k, a3.2.1.sign a3.1.k, a3.2.1.sign a3.1.k, bV_s, bV_s, if_pos a3.1.k, if_pos a3.2.1.nz, ite_self]
theorem c_readStep (X : CP h x T n p) (hl : h.2 (x + 28) 1 = nI j) (hj : j < 64) (h9 : h.2 (x + 27) 9 = nI D) (hD : D ≤ 6) : ∃ h', fX3_readStep (x + 27) h = some (.inl none, h') ∧ outC h h' x T n j D (hdW T n D p) := by
  obtain ⟨h2, a1, a2, a3⟩ := c_word X
  have hn := X.1.2.2.1
  have l2 : h2.2 (x + 28) 1 = nI j := by rw [a2.2.1 _ (by omega)]; exact hl
  have n2 : h2.2 (x + 27) 9 = nI D := by rw [a2.2.2 9 (by decide) (by decide) (by decide)]; exact h9
  have X2 := X.1.fr a2
  unfold fX3_readStep kX3_readStep_0
  rw [if_pos X.k, a1, bI_s, X.2.1, show FF = 999999 + 1 from rfl]
  unfold outC hdW
  cases ew : kwd (lts T n p) with
  | none =>
    rw [ew] at a3
    have a3 : CE h2 x (1, p) := a3
    obtain ⟨h3, b1, b2, b3⟩ := c_st_er X2 a3 X.2.2.2 hj l2 (w := -1) (Or.inl rfl) 999999
    rw [show oI none = (-1 : Int32) from rfl, if_pos (show ¬ (-1 : Int32) = 12 by decide), if_pos (show ¬ (-1 : Int32) = 11 by decide), b1]
    exact ⟨h3, rfl, a2.s.w.trans b2, b3⟩
  | some w =>
    rw [ew] at a3
    have a3 : CP h2 x T n (p + (lts T n p).length) := a3
    have hw := (kwd_lt ew).1
    rw [show oI (some w) = nI w from rfl]
    simp only
    by_cases e12 : w = 12
    · obtain ⟨h3, c1, c2, c3⟩ := c_blame a3 (e := (1, p)) (show (1 : Nat) ≤ 1 ∧ 1 ≤ 3 by decide)
      have c1 : fX3_blame (x + 27) 1 (nI p) h2 = _ := c1
      obtain ⟨h4, b1, b2, b3⟩ := c_st_er (X2.fr c2) c3 X.2.2.2 hj (by rw [c2.2.1 _ (by omega)]; exact l2) (w := nI 12) (Or.inr (Or.inl rfl)) 999999
      rw [e12, if_neg (show ¬ ¬ nI 12 = 12 from fun q => q rfl), if_pos X2.k, c1, bV_s, b1, if_pos rfl]
      exact ⟨h4, rfl, (a2.s.w.trans c2.s.w).trans b2, b3⟩
    · rw [if_pos (show ¬ nI w = 12 by rw [k12, nI_eq (by omega) (by decide)]; exact e12), if_neg e12]
      obtain ⟨-, r2, -⟩ := rop_tab ⟨w, hw⟩
      have r2 : rop w = 11 ↔ w = 11 := r2
      by_cases e11 : w = 11
      · rw [e11, if_neg (show ¬ ¬ nI 11 = 11 from fun q => q rfl), if_pos X2.k, n2]
        by_cases e6 : D = 6
        · obtain ⟨h3, c1, c2, c3⟩ := c_blame a3 (e := (3, p)) (show (1 : Nat) ≤ 3 ∧ 3 ≤ 3 by decide)
          have c1 : fX3_blame (x + 27) 3 (nI p) h2 = _ := c1
          obtain ⟨h4, b1, b2, b3⟩ := c_st_er (X2.fr c2) c3 X.2.2.2 hj (by rw [c2.2.1 _ (by omega)]; exact l2) (w := nI 11) (Or.inr (Or.inr rfl)) 999999
          rw [if_neg (by rw [k6, nI_ltI (by omega) (by decide)]; omega), c1, bV_s, b1, if_pos (show (11 : Nat) = 11 ∧ D = 6 from ⟨rfl, e6⟩)]
          exact ⟨h4, rfl, (a2.s.w.trans c2.s.w).trans b2, b3⟩
        · rw [if_pos (by rw [k6, nI_ltI (by omega) (by decide)]; omega), if_neg (show ¬ ((11 : Nat) = 11 ∧ D = 6) from fun q => e6 q.2), zX3_readStep_46]
          unfold kX3_readStep_46
          obtain ⟨h3, c1, c2, c3, c4⟩ := c_nums (s := .inl (p + (lts T n p).length)) (w := 11) a3 (by decide) hj l2
          have en : nums T n (rop 11) (.inl (p + (lts T n p).length)) = (((pS T n 0 60 (.inl (p + (lts T n p).length))).1, 0, 0), (pS T n 0 60 (.inl (p + (lts T n p).length))).2) := rfl
          rw [en] at c3 c4
          obtain ⟨h4, d1, d2, d3⟩ := cs_sign c3 (c := 91) (by omega)
          have d1 : fX3_readSign (x + 27) 91 h3 = _ := d1
          have X4 := d3.cx
          rw [if_pos X2.k, c1, bV_s, if_neg (show ¬ ¬ nI 11 = 11 from fun q => q rfl), if_pos c3.cx.k, d1, bV_s, if_pos X4.k]
          have F4 : FrW h h4 x := (a2.s.w.trans c2.w).trans d2.s.w
          cases e91 : gS T n 91 (pS T n 0 60 (.inl (p + (lts T n p).length))).2 with
          | inr er =>
            rw [e91] at d3
            have d3 : CX h4 x T n ∧ CE h4 x er ∧ er.2 ≤ n := d3
            rw [if_pos d3.2.1.nz]
            refine ⟨h4, rfl, F4, ?_⟩
            show (if rop 11 = 11 then _ else _)
            rw [if_pos (show rop 11 = 11 from rfl)]
            simp only [e91]
            exact d3
          | inl q2 =>
            rw [e91] at d3
            have d3 : CP h4 x T n q2 := d3
            obtain ⟨s1, s2, -⟩ := X4.1.scr
            obtain ⟨o1, o2, o3⟩ := X4.1.rdr.2.2.2.2.2
            have o1 : rH h4 (x + 27) 8 = x + 37 := o1
            have o2 : kH h4 (x + 37) = 1 := o2
            have o3 : lH h4 (x + 37) = 6 := o3
            have l4 : h4.2 (x + 28) 1 = nI (j + 1) := by rw [d2.2.1 _ (by omega)]; exact c4.1
            have n4 : h4.2 (x + 27) 9 = nI D := by rw [d2.2.2 9 (by decide) (by decide) (by decide), c2.2.2 9 (by decide) (by decide) (by decide)]; exact n2
            have F5 : FrW h4 (h4.1, upI (upI h4.2 (x + 37) D (nI j)) (x + 27) 9 (nI (D + 1))) x := ⟨rfl, fun a q => by show upI _ _ _ _ a = _; rw [upI_ne (by omega), upI_ne (by omega)], fun i _ _ _ q => by show upI _ _ _ _ (x + 27) i = _; rw [upI_at, if_neg q, upI_ne (by omega)]⟩
            have u9 : upI h4.2 (x + 37) D (nI j) (x + 27) 9 = nI D := by rw [upI_ne (by omega)]; exact n4
            rw [if_neg (fun q => q d3.2.2.1), s1, if_pos s2, o1, if_pos o2, o3, n4, if_pos (inB_nI (by omega) (by decide)), nI_clamp (by omega), l4, sub8 (by omega), u9, nI_1, letH_s]
            refine ⟨_, rfl, F4.trans F5, ?_⟩
            show (if rop 11 = 11 then _ else _)
            rw [if_pos (show rop 11 = 11 from rfl)]
            simp only [e91]
            refine ⟨⟨d3.1.frw F5, ?_, ?_, d3.2.2.2⟩, ?_, ?_, fun i => ?_⟩
            · show upI _ _ _ _ (x + 27) 7 = _
              rw [upI_at, if_neg (by decide), upI_ne (by omega)]
              exact d3.2.1
            · show upI _ _ _ _ (x + 27) 4 = _
              rw [upI_at, if_neg (by decide), upI_ne (by omega)]
              exact d3.2.2.1
            · refine addd.pre (fun a q1 q2 => a2.2.1 a (by omega)) (addd.post (fun a q1 q2 => ?_) (addd.post (fun a q1 q2 => d2.2.1 a (by omega)) c4))
              show upI _ _ _ _ a = _
              rw [upI_ne (by omega), upI_ne (by omega)]
            · show upI _ _ _ _ (x + 27) 9 = _
              rw [upI_at, if_pos rfl]
            · show upI _ _ _ _ (x + 37) i = _
              rw [upI_ne (by omega), upI_at, d2.2.1 _ (by omega), c2.2.1 _ (by omega), a2.2.1 _ (by omega)]
      · rw [if_pos (show ¬ nI w = 11 by rw [k11, nI_eq (by omega) (by decide)]; exact e11), if_neg (show ¬ (w = 11 ∧ D = 6) from fun q => e11 q.1), zX3_readStep_46]
        unfold kX3_readStep_46
        obtain ⟨h3, c1, c2, c3, c4⟩ := c_nums (s := .inl (p + (lts T n p).length)) (w := w) a3 (by omega) hj l2
        obtain ⟨h4, d1, d2, d3⟩ := cs_sign c3 (c := 59) (by omega)
        have d1 : fX3_readSign (x + 27) 59 h3 = _ := d1
        rw [if_pos X2.k, c1, bV_s, if_pos (show ¬ nI w = 11 by rw [k11, nI_eq (by omega) (by decide)]; exact e11), if_pos c3.cx.k, d1, bV_s]
        have F4 : FrW h h4 x := (a2.s.w.trans c2.w).trans d2.s.w
        have cw : cop (rop w) = w := cop_tab ⟨w, hw⟩ e12 e11
        cases e59 : gS T n 59 (nums T n (rop w) (.inl (p + (lts T n p).length))).2 with
        | inr er =>
          rw [e59] at d3
          refine ⟨h4, rfl, F4, ?_⟩
          show (if rop w = 11 then _ else _)
          rw [if_neg (fun q => e11 (r2.mp q))]
          simp only [e59]
          exact d3
        | inl q2 =>
          rw [e59] at d3
          refine ⟨h4, rfl, F4, ?_⟩
          show (if rop w = 11 then _ else _)
          rw [if_neg (fun q => e11 (r2.mp q))]
          simp only [e59]
          rw [cw]
          refine ⟨d3, addd.pre (fun a q1 q2 => a2.2.1 a (by omega)) (addd.post (fun a q1 q2 => d2.2.1 a (by omega)) c4), ?_, ?_⟩
          · rw [d2.2.2 9 (by decide) (by decide) (by decide), c2.2.2 9 (by decide) (by decide) (by decide)]
            exact n2
          · rw [d2.2.1 _ (by omega), c2.2.1 _ (by omega), a2.2.1 _ (by omega)]
end CS1
