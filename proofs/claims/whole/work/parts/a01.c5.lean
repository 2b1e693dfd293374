/-! ===== the class puts off, lessens, does what was put off ===== -/
def RsC (x : RS) (o : Option Value) (h : Hp) (s : Nat) (S : St) (z : Nat) : Prop := ∃ h', x = some (.inl o, h') ∧ Own h h' s ∧ Sta h' s S z
section C5
variable {h : Hp} {s z : Nat} {S : St}
theorem rsc_bI {x : RS} {v : Int32} {S1 : St} {k : Int32 → Hp → RS} {o : Option Value} {S2 : St} (a : RsC x (some (.int v)) h s S1 z) (hk : ∀ h', Own h h' s → Sta h' s S1 z → RsC (k v h') o h' s S2 z) : RsC (bI x k) o h s S2 z := by
  obtain ⟨h1, a1, a2, a3⟩ := a
  rw [a1, bI_s]
  obtain ⟨h2, b1, b2, b3⟩ := hk h1 a2 a3
  exact ⟨h2, b1, a2.trans b2, b3⟩
theorem rsc_bV {x : RS} {S1 : St} {k : Hp → RS} {o : Option Value} {S2 : St} (a : RsC x none h s S1 z) (hk : ∀ h', Own h h' s → Sta h' s S1 z → RsC (k h') o h' s S2 z) : RsC (bV x k) o h s S2 z := by
  obtain ⟨h1, a1, a2, a3⟩ := a
  rw [a1, bV_s]
  obtain ⟨h2, b1, b2, b3⟩ := hk h1 a2 a3
  exact ⟨h2, b1, a2.trans b2, b3⟩
theorem rsc_own {x : RS} {h1 : Hp} {o : Option Value} (O : Own h h1 s) (a : RsC x o h1 s S z) : RsC x o h s S z := by
  obtain ⟨h2, b1, b2, b3⟩ := a
  exact ⟨h2, b1, O.trans b2, b3⟩
theorem c_putOff (R : Sta h s S z) (h64 : (sL S).length < 64) {a b : Nat} (ha : a ≤ 1) (hb : b < 16) {P T : List Ch} {c : Ch} (e : sC S = P ++ c :: T) : RsC (fX5_putOff s (nI (tag1 a b)) (nI P.length) h) none h s (putO S a b (cI c)) z := by
  obtain ⟨hc, hl, hl2⟩ := R.ch e
  obtain ⟨r1, -, -, -, -, -, -, -, ⟨r2, r3, r4⟩, ⟨r5, r6, r7⟩⟩ := id R.so
  have hwa := R.wa
  have hu : ∀ (x : Int32), upI h.2 (s + 9) (sL S).length x s 9 = nI (sL S).length := fun x => by rw [upI_ne (by omega)]; exact hwa
  have hu2 : ∀ (x y : Int32), upI (upI h.2 (s + 9) (sL S).length x) (s + 8) (sL S).length y s 9 = nI (sL S).length := fun x y => by rw [upI_ne (by omega)]; exact hu x
  refine ⟨(h.1, upI (upI (upI h.2 (s + 9) (sL S).length (nI (tag1 a b))) (s + 8) (sL S).length (nI P.length)) s 9 (nI ((sL S).length + 1))), ?_, ⟨rfl, fun x hx => by dsimp only; rw [upI_ne (by omega), upI_ne (by omega), upI_ne (by omega)]⟩, SO.eq (h := h) rfl R.so, ?_, R.2.2.1, ?_⟩
  · unfold fX5_putOff
    simp (maxSteps := 3000000) (disch := omega) only [kX5_putOff_0, r1, r2, r3, r4, r5, r6, r7, ↓reduceIte, if_true, if_false, ite_not, not_true_eq_false, not_false_eq_true, ↓qqI_p, ↓qqR_p, ↓qqV_p, ↓qqIx_p, ↓qqRx_p, ↓qqVx_p, qqI_s, qqR_s, qqV_s, qqIx_s, qqRx_s, qqVx_s, qqIx_t, qqVx_t, ↓letH_s, inB_nI, nI_leI, nI_ltI, nI_eq, nI_eq0, nI_eqm, nI_eqn, nI_le0, nI_lt0, nI_0lt, nI_0le, nI_clamp, pk_mul, nI_add, pk_div, pk_sub, rem_n, z_add, add_z, m_cell, kmk, lmk, rmk, b2i_0, b2i_n1, bft, le_t, le_f, lt_t, lt_f, eq_t, eq_f, k1, k2, k3, k4, k5, k6, k7, k8, k9, k10, k11, k12, k13, k15, k16, k20, k24, k30, k60, k64, k99, k100, k200, k255, k256, k512, k2912, k3392, k3393, k3394, k3395, k3396, k3397, k3398, hwa, hu, hu2]
  · obtain ⟨t1, t2, t3, t4, t5, t6, t7, t8, t9, t10, t11⟩ := R.2.1
    have ho : ∀ x, x ≠ s → x ≠ s + 8 → x ≠ s + 9 → upI (upI (upI h.2 (s + 9) (sL S).length (nI (tag1 a b))) (s + 8) (sL S).length (nI P.length)) s 9 (nI ((sL S).length + 1)) x = h.2 x := fun x x1 x2 x3 => by rw [upI_ne x1, upI_ne x2, upI_ne x3]
    have hs : ∀ y, y ≠ 9 → upI (upI (upI h.2 (s + 9) (sL S).length (nI (tag1 a b))) (s + 8) (sL S).length (nI P.length)) s 9 (nI ((sL S).length + 1)) s y = h.2 s y := fun y hy => by rw [upI_at, if_neg hy, upI_ne (by omega), upI_ne (by omega)]
    have h8 : ∀ y, upI (upI (upI h.2 (s + 9) (sL S).length (nI (tag1 a b))) (s + 8) (sL S).length (nI P.length)) s 9 (nI ((sL S).length + 1)) (s + 8) y = if y = (sL S).length then nI P.length else h.2 (s + 8) y := fun y => by rw [upI_ne (by omega), upI_at, upI_ne (by omega)]
    have h9 : ∀ y, upI (upI (upI h.2 (s + 9) (sL S).length (nI (tag1 a b))) (s + 8) (sL S).length (nI P.length)) s 9 (nI ((sL S).length + 1)) (s + 9) y = if y = (sL S).length then nI (tag1 a b) else h.2 (s + 9) y := fun y => by rw [upI_ne (by omega), upI_ne (by omega), upI_at]
    have hat : upI (upI (upI h.2 (s + 9) (sL S).length (nI (tag1 a b))) (s + 8) (sL S).length (nI P.length)) s 9 (nI ((sL S).length + 1)) s 9 = nI ((sL S).length + 1) := by rw [upI_at, if_pos rfl]
    dsimp only
    refine ⟨by rw [hs _ (by decide)]; exact t1, fun x hx => by rw [ho _ (by omega) (by omega) (by omega)]; exact t2 x hx, fun x hx => by rw [ho _ (by omega) (by omega) (by omega)]; exact t3 x hx, by rw [hs _ (by decide)]; exact t4, ?_, by rw [hs _ (by decide)]; exact t6, by rw [hs _ (by decide)]; exact t7, by rw [hs _ (by decide)]; exact t8, by rw [hs _ (by decide)]; exact t9, fun pre c' l q => ?_, fun pre q l w => ?_⟩
    · rw [hat]
      show _ = nI (sL S ++ [_]).length
      rw [len1]
    · refine (t10 pre c' l q).mv ?_ ?_ ?_ (fun i hi => ?_) (fun i hi => ?_) ?_
      · rw [ho _ (by omega) (by omega) (by omega)]
      · rw [ho _ (by omega) (by omega) (by omega)]
      · rw [ho _ (by omega) (by omega) (by omega)]
      · rw [ho _ (by omega) (by omega) (by omega)]
      · rw [ho _ (by omega) (by omega) (by omega)]
      · rw [ho _ (by omega) (by omega) (by omega)]
    · have w : sL S ++ [(a, b, cI c)] = pre ++ q :: l := w
      show Lst _ s (sC S) pre.length q
      rcases List.eq_nil_or_concat l with rfl | ⟨l', y, rfl⟩
      · obtain ⟨e1, e2⟩ := List.append_inj' w rfl
        cases e2
        subst e1
        exact ⟨by rw [h9, if_pos rfl]; rfl, P, c, T, e, rfl, by rw [h8, if_pos rfl]⟩
      · rw [List.concat_eq_append] at w
        have h1 : sL S ++ [(a, b, cI c)] = (pre ++ q :: l') ++ [y] := by rw [w]; simp
        obtain ⟨e1, -⟩ := List.append_inj' h1 rfl
        have hl3 : (sL S).length = pre.length + 1 + l'.length := by rw [e1]; simp; omega
        obtain ⟨w1, P', c', T', w2, w3, w4⟩ := t11 pre q l' e1
        exact ⟨by rw [h9, if_neg (by omega)]; exact w1, P', c', T', w2, w3, by rw [h8, if_neg (by omega)]; exact w4⟩
  · exact bd_putO R.bd ⟨R.bd.1, by have := R.bd.2.1; omega, R.bd.2.2.1⟩ ha hb ⟨hc.1, hc.2.1⟩
theorem blk_n {n : Nat} (hn : n < 12) : (1 : Int32) + nI n / 4 = nI (1 + n / 4) := by rw [k1, k4, pk_div (by omega) (by decide) (by decide), nI_add]
theorem plc_n {n : Nat} (hn : n < 12) : (nI n - nI n / 4 * 4) * 4 = nI (4 * (n % 4)) := by
  rw [k4, pk_div (by omega) (by decide) (by decide), pk_mul, pk_sub (by omega), rem_n, pk_mul, Nat.mul_comm]
theorem c_putR (R : Sta h s S z) (sl : Sl S 1 0 1) {b p v : Nat} (hb : b < 16) (hp : p ≤ 16) (hv : v < 128) : RsC (fX5_put s (nI b) (nI p) (nI v) h) (some (.int (oI (pIx S b p v)))) h s (mk S b p v 0 0 0 0) z := c_put R sl hb hp hv
theorem pIx_ne {n f v : Nat} (hne : fd (mm S) n f ≠ v) (hf : f < 4) : pIx S (1 + n / 4) (4 * (n % 4) + f) v = some (sC S).length ∧ sC (mkF S n f v 0 0) = sC S ++ [(sM S + 1, 1 + n / 4, 4 * (n % 4) + f, v, 0, 0, 0, 0)] := by
  have hs : same S (1 + n / 4) (4 * (n % 4) + f) v = false := by
    unfold same
    rw [if_neg (by omega), show 16 * (1 + n / 4) + (4 * (n % 4) + f) = 16 + 4 * n + f by omega]
    simpa [fd] using hne
  unfold pIx mkF mk
  rw [hs]
  exact ⟨rfl, rfl⟩
theorem c_zer_go (R : Sta h s S z) (P : Pt S) {n : Nat} (hn : n < 12) {f : Nat} (hf : f = 2 ∨ f = 3) {i j k : Nat} (sl : Sc S (i + 1) (j + 1) (k + 1)) {q : Nat} {o : Option Value} {S2 : St}
    (hk : ∀ h', Own h h' s → Sta h' s (zer S n f) z → RsC (gX5_setLinks q 43 [.ref s, .int (nI n), uV, .int (nI (1 + n / 4)), .int (nI (4 * (n % 4))), .int (nI (f + 1)), uV] [] h') o h' s S2 z) :
    RsC (gX5_setLinks (q + 1) 43 [.ref s, .int (nI n), uV, .int (nI (1 + n / 4)), .int (nI (4 * (n % 4))), .int (nI f), uV] [] h) o h s S2 z := by
  have hb := P n hn f hf
  rw [zX5_setLinks_43]
  unfold kX5_setLinks_43
  have hnf : fX5_nodeField s 0 (nI n) (nI f) h = some (.inl (some (.int (nI (fd (mm S) n f)))), h) := c_nodeField R.cb0 hn (by omega)
  rw [if_neg (by rw [k3, nI_ltI (by decide) (by omega)]; omega), if_pos R.so.1, hnf, bI_s, nI_1]
  by_cases e : fd (mm S) n f = 0
  · rw [e, if_pos nI_0]
    exact hk h (Own.refl h s) (by unfold zer; rw [if_pos e]; exact R)
  · rw [if_neg (by rw [nI_eq0 (by omega)]; exact e), if_pos R.so.1, nI_add]
    obtain ⟨e1, e2⟩ := mkF_neS (S := S) (n := n) (f := f) (v := 0) e (by omega)
    obtain ⟨e3, e4⟩ := pIx_ne (S := S) (n := n) (f := f) (v := 0) e (by omega)
    have hput := c_putR R (sl.1.le (by omega) (by omega) (by omega)) (b := 1 + n / 4) (p := 4 * (n % 4) + f) (v := 0) (by omega) (by omega) (by decide)
    rw [e3, oI_s] at hput
    refine rsc_bI hput (fun h1 O1 R1 => ?_)
    have R1 : Sta h1 s (mkF S n f 0 0 0) z := R1
    rw [if_pos R1.so.1]
    have hl : (sL (mkF S n f 0 0 0)).length = (sL S).length := by unfold mkF mk; split <;> rfl
    have hpo := c_putOff R1 (by rw [hl]; have := sl.2; omega) (a := 0) (b := fd (mm S) n f) (by decide) hb e4
    have ht : (100 : Int32) + nI (fd (mm S) n f) = nI (tag1 0 (fd (mm S) n f)) := by rw [k100, nI_add]; rfl
    rw [ht]
    have hzer : zer S n f = putO (mkF S n f 0 0 0) 0 (fd (mm S) n f) (sM S + 1) := by unfold zer; rw [if_neg e, e1]
    refine rsc_bV hpo (fun h2 O2 R2 => ?_)
    have R2 : Sta h2 s (putO (mkF S n f 0 0 0) 0 (fd (mm S) n f) (sM S + 1)) z := R2
    exact hk h2 (O1.trans O2) (by rw [hzer]; exact R2)
theorem c_setLinks (R : Sta h s S z) (P : Pt S) {n v : Nat} (hn : n < 12) (hv : v < 128) {i j k : Nat} (sl : Sc S (i + 4) (j + 2) (k + 4)) : RsC (fX5_setLinks s (nI n) (nI v) h) none h s (setL S n v) z := by
  unfold fX5_setLinks kX5_setLinks_0
  rw [if_pos R.so.1, blk_n hn, plc_n hn, add_z]
  have hput := c_putR R (sl.1.le (by omega) (by omega) (by omega)) (b := 1 + n / 4) (p := 4 * (n % 4) + 0) (v := v) (by omega) (by omega) hv
  refine rsc_bI hput (fun h1 O1 R1 => ?_)
  have R1 : Sta h1 s (mkF S n 0 v 0 0) z := R1
  have P1 : Pt (mkF S n 0 v 0 0) := pt_mkF P hn (by decide) (Or.inr (by decide))
  have sl1 : Sc (mkF S n 0 v 0 0) (i + 3) (j + 2) (k + 3) := sc_mk sl
  unfold setL
  by_cases e0 : v = 0
  · subst e0
    rw [if_pos nI_0, if_pos R1.so.1, if_pos rfl, k1, nI_add]
    have hput2 : RsC (fX5_put s (nI (1 + n / 4)) (nI (4 * (n % 4) + 1)) 0 h1) _ h1 s _ z := c_putR R1 (sl1.1.le (by omega) (by omega) (by omega)) (b := 1 + n / 4) (p := 4 * (n % 4) + 1) (v := 0) (by omega) (by omega) (by decide)
    refine rsc_bI hput2 (fun h2 O2 R2 => ?_)
    have R2 : Sta h2 s (mkF (mkF S n 0 0 0 0) n 1 0 0 0) z := R2
    have P2 : Pt (mkF (mkF S n 0 0 0 0) n 1 0 0 0) := pt_mkF P1 hn (by decide) (Or.inl (by decide))
    have sl2 : Sc (mkF (mkF S n 0 0 0 0) n 1 0 0 0) (i + 2) (j + 2) (k + 2) := sc_mk sl1
    rw [show FF = 999997 + 1 + 1 + 1 from rfl]
    refine c_zer_go R2 P2 hn (f := 2) (Or.inl rfl) sl2 (fun h3 O3 R3 => ?_)
    have sl3 : Sc (zer (mkF (mkF S n 0 0 0 0) n 1 0 0 0) n 2) (i + 1) (j + 1) (k + 1) := by
      unfold zer
      split
      · exact sl2.le (by omega) (by omega) (by omega)
      · exact sc_putO (sc_mk sl2)
    refine c_zer_go R3 (pt_zer P2 hn (by decide)) hn (f := 3) (Or.inr rfl) sl3 (fun h4 O4 R4 => ?_)
    refine ⟨h4, ?_, Own.refl _ _, R4⟩
    rw [zX5_setLinks_43]
    unfold kX5_setLinks_43
    rw [if_pos (by decide)]
  · rw [if_neg (by rw [nI_eq0 (by omega)]; exact e0), if_neg e0]
    exact ⟨h1, rfl, Own.refl _ _, R1⟩
theorem sc_zer {n f i j k : Nat} (sl : Sc S (i + 1) (j + 1) (k + 1)) : Sc (zer S n f) i j k := by
  unfold zer
  split
  · exact sl.le (by omega) (by omega) (by omega)
  · exact sc_putO (sc_mk sl)
theorem sc_setL {n v i j k : Nat} (sl : Sc S (i + 4) (j + 2) (k + 4)) : Sc (setL S n v) i j k := by
  unfold setL
  split
  · exact sc_zer (sc_zer (sc_mk (sc_mk sl)))
  · exact (sc_mk sl).le (by omega) (by omega) (by omega)
theorem sc_dol {e : La} {i j k : Nat} (sl : Sc S (i + if e.1 = 0 then 1 else 4) (j + if e.1 = 0 then 0 else 2) (k + if e.1 = 0 then 1 else 4)) : Sc (dol S e) i j k := by
  unfold dol
  by_cases e0 : e.1 = 0
  · rw [if_pos e0] at sl ⊢
    simp only [e0, if_true] at sl
    exact sc_mk sl
  · rw [if_neg e0] at sl ⊢
    simp only [e0, if_false] at sl
    unfold less
    split
    · exact sl.le (by omega) (by omega) (by omega)
    · exact sc_setL sl
theorem c_doPutOff (R : Sta h s S z) (P : Pt S) {e : La} (he1 : e.1 ≤ 1) (hb : e.2.1 < 16) (he : e.1 = 0 ∨ e.2.1 < 12) {i j k : Nat} (sl : Sc S (i + if e.1 = 0 then 1 else 4) (j + if e.1 = 0 then 0 else 2) (k + if e.1 = 0 then 1 else 4)) : RsC (fX5_doPutOff s (nI (tag1 e.1 e.2.1)) h) none h s (dol S e) z := by
  unfold fX5_doPutOff kX5_doPutOff_0 dol tag1
  by_cases e0 : e.1 = 0
  · simp only [e0, if_true] at sl
    rw [if_pos e0, if_pos e0, if_neg (by rw [k100, nI_ltI (by omega) (by decide)]; omega), if_pos R.so.1, k100, pk_sub (by omega), Nat.add_sub_cancel_left]
    have hput : RsC (fX5_put s 0 (nI e.2.1) 0 h) _ h s _ z := c_putR R (sl.1.le (by omega) (by omega) (by omega)) (b := 0) (p := e.2.1) (v := 0) (by decide) (by omega) (by decide)
    exact rsc_bI hput (fun h1 O1 R1 => ⟨h1, rfl, Own.refl _ _, R1⟩)
  · have hn : e.2.1 < 12 := by omega
    simp only [e0, if_false] at sl
    rw [if_neg e0, if_neg e0, if_pos (by rw [k100, nI_ltI (by omega) (by decide)]; omega), if_pos R.so.1]
    have hnf : fX5_nodeField s 0 (nI e.2.1) 0 h = some (.inl (some (.int (nI (fd (mm S) e.2.1 0)))), h) := c_nodeField R.cb0 hn (f := 0) (by decide)
    have hlt : fd (mm S) e.2.1 0 < 128 := bd_mm R.bd _
    rw [hnf, bI_s]
    unfold less
    by_cases e1 : fd (mm S) e.2.1 0 = 0
    · rw [e1, if_pos (by decide), if_pos rfl]
      exact ⟨h, rfl, Own.refl _ _, R⟩
    · obtain ⟨q, hq⟩ : ∃ q, fd (mm S) e.2.1 0 = q + 1 := ⟨fd (mm S) e.2.1 0 - 1, by omega⟩
      rw [hq, if_neg (by rw [nI_le0 (by omega)]; omega), if_pos R.so.1, nI_pred, if_neg (by omega), Nat.add_sub_cancel]
      exact rsc_bV (c_setLinks R P hn (by omega) sl) (fun h1 O1 R1 => ⟨h1, rfl, Own.refl _ _, R1⟩)
end C5
