/-! ===== words, by the class ===== -/
theorem ch_tab : ∀ w : Fin 13, ∀ i : Fin 5, chW (nI (5 * w.1 + i.1)) = nI ((Wd.getD w.1 []).getD i.1 32) ∧ (Wd.getD w.1 []).getD i.1 32 < 256 := by decide +kernel
theorem wd_tab : ∀ w : Fin 13, (Wd.getD w.1 []).length ≤ 5 ∧ (Wd.getD w.1 []).all (fun v => decide (97 ≤ v ∧ v ≤ 122)) = true := by decide +kernel
theorem wd_ok {w : Nat} (hw : w < 13) : (Wd.getD w []).length ≤ 5 ∧ ∀ v ∈ Wd.getD w [], 97 ≤ v ∧ v ≤ 122 := by
  obtain ⟨h1, h2⟩ := wd_tab ⟨w, hw⟩
  exact ⟨h1, fun v hv => of_decide_eq_true (List.all_eq_true.mp h2 v hv)⟩
theorem getD_in {l : List Nat} {i : Nat} (hi : i < l.length) (hl : ∀ v ∈ l, 97 ≤ v ∧ v ≤ 122) : 97 ≤ l.getD i 32 ∧ l.getD i 32 ≤ 122 := by
  rw [List.getD_eq_getElem?_getD, List.getElem?_eq_getElem hi]
  exact hl _ (List.getElem_mem hi)
theorem getD_out {l : List Nat} {i : Nat} (hi : l.length ≤ i) : l.getD i 32 = 32 := by
  rw [List.getD_eq_getElem?_getD, List.getElem?_eq_none hi]
  rfl
theorem word_ext {a b : List Nat} (ha : ∀ v ∈ a, 97 ≤ v ∧ v ≤ 122) (hb : ∀ v ∈ b, 97 ≤ v ∧ v ≤ 122) (la : a.length ≤ 5) (lb : b.length ≤ 5) (h : ∀ i, i < 5 → b.getD i 32 = a.getD i 32) : a = b := by
  have hlen : a.length = b.length := by
    by_cases e1 : a.length < b.length
    · have h1 := h a.length (by omega)
      have h2 := getD_in e1 hb
      rw [getD_out (Nat.le_refl a.length)] at h1
      omega
    · by_cases e2 : b.length < a.length
      · have h1 := h b.length (by omega)
        have h2 := getD_in e2 ha
        rw [getD_out (Nat.le_refl b.length)] at h1
        omega
      · omega
  refine List.ext_getElem hlen (fun i h1 h2 => ?_)
  have := h i (by omega)
  rw [List.getD_eq_getElem?_getD, List.getD_eq_getElem?_getD, List.getElem?_eq_getElem h1, List.getElem?_eq_getElem h2] at this
  exact this.symm
theorem ltr_get {T : Nat → Nat} {n : Nat} : ∀ (c p i : Nat), i < (ltr T n c p).length → (ltr T n c p).getD i 32 = T (p + i) := by
  intro c
  induction c with
  | zero => intro p i hi; exact absurd hi (Nat.not_lt_zero _)
  | succ c ih =>
    intro p i hi
    unfold ltr at hi ⊢
    split at hi
    · rename_i hs
      rw [if_pos hs]
      cases i with
      | zero => rfl
      | succ i =>
        rw [List.getD_cons_succ, ih (p + 1) i (by rw [List.length_cons] at hi; omega), show p + 1 + i = p + (i + 1) by omega]
    · exact absurd hi (Nat.not_lt_zero _)
/-- the places from k on are as in the word -/
def agr (W l : List Nat) (k c : Nat) : Bool := (List.range' k c).all (fun i => W.getD i 32 == l.getD i 32)
theorem agr_all {W l : List Nat} (hW : ∀ v ∈ W, 97 ≤ v ∧ v ≤ 122) (hl : ∀ v ∈ l, 97 ≤ v ∧ v ≤ 122) (lW : W.length ≤ 5) (ll : l.length ≤ 5) : agr W l 0 5 = decide (l = W) := by
  by_cases e : l = W
  · rw [decide_eq_true e, e]
    exact List.all_eq_true.mpr (fun i _ => by simp)
  · rw [decide_eq_false e]
    cases h : agr W l 0 5 with
    | false => rfl
    | true =>
      exfalso
      refine e (word_ext hl hW ll lW (fun i hi => ?_))
      have := List.all_eq_true.mp h i (by rw [List.mem_range'_1]; omega)
      simpa using this
section WC
variable {h h' : Hp} {x n p : Nat} {T : Nat → Nat}
/-- the word that was read from s on; the place is behind it -/
theorem c_spell_go (X : CX h x T n) {w s : Nat} (hw : w < 13) (hs : s ≤ n) (e7 : h.2 (x + 27) 7 = nI (s + (lts T n s).length)) : ∀ (c k f : Nat), k + c = 5 → c < f → gX3_isSpelled f 14 [.ref (x + 27), .int (nI w), .int (nI s), .int (nI k), uV] [] h = some (.inl (some (.int (b2i (agr (Wd.getD w []) (lts T n s) k c)))), h) := by
  obtain ⟨t1, t2, t3⟩ := X.tx
  have hn := X.2.2.1
  have hlen := ltr_len (T := T) (n := n) (n - s) s hs
  have hlen : s + (lts T n s).length ≤ n := hlen
  intro c
  induction c with
  | zero =>
    intro k f hk hf
    obtain ⟨f, rfl⟩ := sc hf
    rw [zX3_isSpelled_14]
    unfold kX3_isSpelled_14
    rw [if_pos (by rw [k5, nI_leI (by decide) (by omega)]; omega)]
    rfl
  | succ c ih =>
    intro k f hk hf
    obtain ⟨f, rfl⟩ := sc hf
    have hi := ih (k + 1) f (by omega) (by omega)
    obtain ⟨c1, c2⟩ := ch_tab ⟨w, hw⟩ ⟨k, by omega⟩
    have c1 : chW (nI (5 * w + k)) = nI ((Wd.getD w []).getD k 32) := c1
    have c2 : (Wd.getD w []).getD k 32 < 256 := c2
    have hidx : nI w * 5 + nI k = nI (5 * w + k) := by rw [k5, pk_mul, nI_add, Nat.mul_comm w 5]
    have hch : ∀ g : Hp, fJ0_charAt_5068e 2 (nI w * 5 + nI k) g = some (.inl (some (.int (nI ((Wd.getD w []).getD k 32)))), g) := fun g => by
      unfold fJ0_charAt_5068e
      rw [if_pos rfl, hidx, if_pos (inB_nI (by omega) (by decide)), c1]
    have hag : agr (Wd.getD w []) (lts T n s) k (c + 1) = (((Wd.getD w []).getD k 32 == (lts T n s).getD k 32) && agr (Wd.getD w []) (lts T n s) (k + 1) c) := by
      unfold agr
      rw [List.range'_succ, List.all_cons]
    rw [zX3_isSpelled_14]
    unfold kX3_isSpelled_14
    rw [if_neg (by rw [k5, nI_leI (by decide) (by omega)]; omega), if_pos X.k, e7, nI_add, nI_1, hag]
    by_cases e : (lts T n s).length ≤ k
    · have eg := getD_out e
      rw [if_pos (by rw [nI_leI (by omega) (by omega)]; omega), hch, bI_s, hi, eg]
      by_cases q : (Wd.getD w []).getD k 32 = 32
      · rw [if_pos (by rw [q]; rfl), show ((Wd.getD w []).getD k 32 == 32) = true from beq_iff_eq.mpr q, Bool.true_and]
      · rw [if_neg (by rw [show (32 : Int32) = nI 32 from rfl, nI_eq (by omega) (by decide)]; exact q), show ((Wd.getD w []).getD k 32 == 32) = false from beq_false_of_ne q, Bool.false_and]
        rfl
    · have eg := ltr_get (T := T) (n := n) (n - s) s k (by show k < (lts T n s).length; omega)
      have eg : (lts T n s).getD k 32 = T (s + k) := eg
      have hr := getD_in (show k < (lts T n s).length by omega) (ltr_sm (n - s) s)
      have hr : 97 ≤ (lts T n s).getD k 32 ∧ (lts T n s).getD k 32 ≤ 122 := hr
      rw [if_neg (by rw [nI_leI (by omega) (by omega)]; omega), t1, if_pos t2, t3, if_pos (inB_nI (by omega) (by decide)), hch, bI_s, hi, nI_clamp (by omega), X.2.2.2.1 (s + k) (by omega), cby_s (by omega), eg]
      by_cases q : (Wd.getD w []).getD k 32 = T (s + k)
      · rw [if_pos (by rw [q]), show ((Wd.getD w []).getD k 32 == T (s + k)) = true from beq_iff_eq.mpr q, Bool.true_and]
      · rw [if_neg (by rw [nI_eq (by omega) (by omega)]; exact q), show ((Wd.getD w []).getD k 32 == T (s + k)) = false from beq_false_of_ne q, Bool.false_and]
        rfl
theorem c_spelled (X : CX h x T n) {w s : Nat} (hw : w < 13) (hs : s ≤ n) (e7 : h.2 (x + 27) 7 = nI (s + (lts T n s).length)) : fX3_isSpelled (x + 27) (nI w) (nI s) h = some (.inl (some (.int (b2i (decide (lts T n s = Wd.getD w []))))), h) := by
  have hn := X.2.2.1
  have hlen : s + (lts T n s).length ≤ n := ltr_len (T := T) (n := n) (n - s) s hs
  obtain ⟨w1, w2⟩ := wd_ok hw
  unfold fX3_isSpelled kX3_isSpelled_0
  rw [if_pos X.k, e7, pk_sub (by omega), show s + (lts T n s).length - s = (lts T n s).length by omega]
  by_cases e : (lts T n s).length ≤ 5
  · have g := c_spell_go X hw hs e7 5 0 FF rfl (by decide)
    rw [show nI 0 = (0 : Int32) from rfl, agr_all w2 (show ∀ v ∈ lts T n s, 97 ≤ v ∧ v ≤ 122 from ltr_sm _ _) w1 e] at g
    rw [if_pos (by rw [k5, nI_leI (by omega) (by decide)]; exact e), g]
  · rw [if_neg (by rw [k5, nI_leI (by omega) (by decide)]; exact e), decide_eq_false (fun q => e (by rw [q]; exact w1))]
    rfl
theorem c_word_go (X : CX h x T n) {s : Nat} (hs : s ≤ n) (e7 : h.2 (x + 27) 7 = nI (s + (lts T n s).length)) (e4 : h.2 (x + 27) 4 = 0) : ∀ (c w f : Nat), w + c = 13 → c < f → ∃ h', gX3_readWord f 59 [.ref (x + 27), .int (nI s), .int (nI w)] [] h = some (.inl (some (.int (oI ((List.range' w c).find? (fun w => decide (lts T n s = Wd.getD w [])))))), h') ∧ FrC h h' x ∧ h'.2 (x + 27) 7 = nI (s + (lts T n s).length) ∧ (if ((List.range' w c).find? (fun w => decide (lts T n s = Wd.getD w []))).isSome = true then h'.2 (x + 27) 4 = 0 else CE h' x (1, s)) := by
  have hn := X.2.2.1
  intro c
  induction c with
  | zero =>
    intro w f hw hf
    obtain ⟨f, rfl⟩ := sc hf
    refine ⟨(h.1, upI (upI h.2 (x + 27) 4 1) (x + 27) 3 (nI s)), ?_, frc_43 h x 1 (nI s), ?_, ?_⟩
    · rw [zX3_readWord_59]
      unfold kX3_readWord_59 fX3_blame kX3_blame_0
      rw [if_pos (by rw [k12, nI_ltI (by decide) (by omega)]; omega), if_pos X.k, if_pos X.k, e4, if_neg (fun q => q rfl), bV_s]
      rfl
    · show upI _ _ _ _ (x + 27) 7 = _
      rw [upI_at, if_neg (by decide), upI_at, if_neg (by decide)]
      exact e7
    · rw [if_neg (by simp)]
      refine ⟨(show (1 : Nat) ≤ 1 ∧ 1 ≤ 3 by decide), ?_, ?_⟩
      · show upI _ _ _ _ (x + 27) 4 = _
        rw [upI_at, if_neg (by decide), upI_at, if_pos rfl]
        rfl
      · show upI _ _ _ _ (x + 27) 3 = _
        rw [upI_at, if_pos rfl]
  | succ c ih =>
    intro w f hw hf
    obtain ⟨f, rfl⟩ := sc hf
    rw [zX3_readWord_59]
    unfold kX3_readWord_59
    rw [if_neg (by rw [k12, nI_ltI (by decide) (by omega)]; omega), if_pos X.k, c_spelled X (by omega) hs e7, bI_s, List.range'_succ, nI_1]
    by_cases e : lts T n s = Wd.getD w []
    · rw [decide_eq_true e, if_neg (show ¬ b2i true = 0 by decide), List.find?_cons_of_pos (p := fun w => decide (lts T n s = Wd.getD w [])) (decide_eq_true e)]
      exact ⟨h, rfl, FrC.refl h x, e7, by rw [if_pos (show (some w).isSome = true from rfl)]; exact e4⟩
    · rw [decide_eq_false e, if_pos (show b2i false = 0 by decide), List.find?_cons_of_neg (p := fun w => decide (lts T n s = Wd.getD w [])) (fun q => e (of_decide_eq_true q))]
      exact ih (w + 1) f (by omega) (by omega)
theorem kwd_r (l : List Nat) : kwd l = (List.range' 0 13).find? (fun w => decide (l = Wd.getD w [])) := by
  unfold kwd
  rw [List.range_eq_range']
theorem c_let_go {s : Nat} : ∀ (c p f : Nat) (h : Hp), n - p ≤ c → c < f → CP h x T n p → ∃ h' f', gX3_readWord f 5 [.ref (x + 27), .int (nI s), uV] [] h = gX3_readWord f' 59 [.ref (x + 27), .int (nI s), .int (nI 0)] [] h' ∧ f - c - 1 ≤ f' ∧ FrC h h' x ∧ CP h' x T n (p + (ltr T n c p).length) := by
  intro c
  induction c with
  | zero =>
    intro p f h hp hf X
    obtain ⟨f, rfl⟩ := sc hf
    have hpn := X.2.2.2
    have := X.1.2.2.1
    refine ⟨h, f, ?_, by omega, FrC.refl h x, X⟩
    rw [zX3_readWord_5]
    unfold kX3_readWord_5
    rw [if_pos X.k, X.1.2.1, X.2.1, if_pos (by rw [nI_leI (by omega) (by omega)]; omega)]
    rfl
  | succ c ih =>
    intro p f h hp hf X
    obtain ⟨f, rfl⟩ := sc hf
    obtain ⟨t1, t2, t3⟩ := X.tx
    have hpn := X.2.2.2
    have := X.1.2.2.1
    rw [zX3_readWord_5]
    unfold kX3_readWord_5 ltr
    by_cases e0 : n ≤ p
    · have hs : smB T n p = false := decide_eq_false (by omega)
      refine ⟨h, f, ?_, by omega, FrC.refl h x, by rw [hs, if_neg (show ¬ false = true by decide)]; exact X⟩
      rw [if_pos X.k, X.1.2.1, X.2.1, if_pos (by rw [nI_leI (by omega) (by omega)]; omega)]
      rfl
    · have ht := X.1.2.2.2.2 p (by omega)
      obtain ⟨-, -, e3, e4⟩ := cb_tab ⟨T p, ht⟩
      rw [if_pos X.k, X.1.2.1, X.2.1, if_neg (by rw [nI_leI (by omega) (by omega)]; omega), t1, if_pos t2, t3, if_pos (inB_nI (by omega) (by decide)), nI_clamp (by omega), X.1.2.2.2.1 p (by omega)]
      by_cases q1 : T p < 97 ∨ 128 ≤ T p
      · have hs : smB T n p = false := decide_eq_false (by omega)
        rw [if_pos (e3.mpr q1), hs, if_neg (show ¬ false = true by decide)]
        exact ⟨h, f, rfl, by omega, FrC.refl h x, X⟩
      · rw [if_neg (fun q => q1 (e3.mp q))]
        by_cases q2 : 122 < T p ∧ T p < 128
        · have hs : smB T n p = false := decide_eq_false (by omega)
          rw [if_pos (e4.mpr q2), hs, if_neg (show ¬ false = true by decide)]
          exact ⟨h, f, rfl, by omega, FrC.refl h x, X⟩
        · have hs : smB T n p = true := decide_eq_true (by omega)
          rw [if_neg (fun q => q2 (e4.mp q)), hs, if_pos rfl, nI_1]
          obtain ⟨h', f', i1, i2, i3, i4⟩ := ih (p + 1) f _ (by omega) (by omega) (X.to (q := p + 1) (by omega))
          refine ⟨h', f', i1, by omega, (frc_7 h x _).trans i3, ?_⟩
          rw [List.length_cons, show p + ((ltr T n c (p + 1)).length + 1) = p + 1 + (ltr T n c (p + 1)).length by omega]
          exact i4
theorem c_word (X : CP h x T n p) : ∃ h', fX3_readWord (x + 27) h = some (.inl (some (.int (oI (kwd (lts T n p))))), h') ∧ FrC h h' x ∧ (match kwd (lts T n p) with
    | some _ => CP h' x T n (p + (lts T n p).length)
    | none => CE h' x (1, p)) := by
  have hn := X.1.2.2.1
  obtain ⟨h1, f1, a1, a2, a3, a4⟩ := c_let_go (s := p) (n - p) p FF h (Nat.le_refl _) (by show _ < 1000000; omega) X
  have a2 : 1000000 - (n - p) - 1 ≤ f1 := a2
  have a4 : CP h1 x T n (p + (lts T n p).length) := a4
  obtain ⟨h2, b1, b2, b3, b4⟩ := c_word_go a4.1 X.2.2.2 a4.2.1 a4.2.2.1 13 0 f1 rfl (by omega)
  rw [← kwd_r] at b1 b4
  refine ⟨h2, ?_, a3.trans b2, ?_⟩
  · unfold fX3_readWord kX3_readWord_0
    rw [if_pos X.k, X.2.1, a1, b1]
  · cases e : kwd (lts T n p) with
    | some w =>
      rw [e, if_pos (show (some w).isSome = true from rfl)] at b4
      exact ⟨a4.1.fr b2, b3, b4, a4.2.2.2⟩
    | none =>
      rw [e, if_neg (by simp)] at b4
      exact b4
end WC
