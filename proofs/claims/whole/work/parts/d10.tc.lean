/-! ===== texts, by the class ===== -/
/-- a byte as the class has it -/
def cby (v : Nat) : Int32 := if v < 128 then nI v else nI v - 256
theorem cb_tab : ∀ v : Fin 256, (cby v.1 < 48 ↔ (v.1 < 48 ∨ 128 ≤ v.1)) ∧ (57 < cby v.1 ↔ (57 < v.1 ∧ v.1 < 128)) ∧ (cby v.1 < 97 ↔ (v.1 < 97 ∨ 128 ≤ v.1)) ∧ (122 < cby v.1 ↔ (122 < v.1 ∧ v.1 < 128)) := by decide +kernel
theorem cb_eqs : ∀ v : Fin 256, (cby v.1 = 32 ↔ v.1 = 32) ∧ (cby v.1 = 59 ↔ v.1 = 59) ∧ (cby v.1 = 91 ↔ v.1 = 91) ∧ (cby v.1 = 93 ↔ v.1 = 93) := by decide +kernel
theorem cby_s {v : Nat} (h : v < 128) : cby v = nI v := if_pos h
theorem cby_e {v s : Nat} (hv : v < 256) (hs : s = 32 ∨ s = 59 ∨ s = 91 ∨ s = 93) : cby v = nI s ↔ v = s := by
  obtain ⟨e1, e2, e3, e4⟩ := cb_eqs ⟨v, hv⟩
  rcases hs with rfl | rfl | rfl | rfl
  · exact e1
  · exact e2
  · exact e3
  · exact e4
/-- the class reads -/
def CX (h : Hp) (x : Nat) (T : Nat → Nat) (n : Nat) : Prop := CO h x ∧ h.2 (x + 27) 6 = nI n ∧ n ≤ 600 ∧ (∀ i, i < n → h.2 (x + 36) i = cby (T i)) ∧ ∀ i, i < n → T i < 256
def CP (h : Hp) (x : Nat) (T : Nat → Nat) (n p : Nat) : Prop := CX h x T n ∧ h.2 (x + 27) 7 = nI p ∧ h.2 (x + 27) 4 = 0 ∧ p ≤ n
def CE (h : Hp) (x : Nat) (e : Ft) : Prop := (1 ≤ e.1 ∧ e.1 ≤ 3) ∧ h.2 (x + 27) 4 = nI e.1 ∧ h.2 (x + 27) 3 = nI e.2
def FrC (h h' : Hp) (x : Nat) : Prop := h'.1 = h.1 ∧ (∀ a, a ≠ x + 27 → h'.2 a = h.2 a) ∧ ∀ j, j ≠ 3 → j ≠ 4 → j ≠ 7 → h'.2 (x + 27) j = h.2 (x + 27) j
theorem FrC.refl (h : Hp) (x : Nat) : FrC h h x := ⟨rfl, fun _ _ => rfl, fun _ _ _ _ => rfl⟩
theorem FrC.trans {h h1 h2 : Hp} {x : Nat} (a : FrC h h1 x) (b : FrC h1 h2 x) : FrC h h2 x := ⟨b.1.trans a.1, fun y q => by rw [b.2.1 y q, a.2.1 y q], fun j q1 q2 q3 => by rw [b.2.2 j q1 q2 q3, a.2.2 j q1 q2 q3]⟩
section TC
variable {h h' : Hp} {x n p : Nat} {T : Nat → Nat}
theorem CX.fr (X : CX h x T n) (f : FrC h h' x) : CX h' x T n := ⟨X.1.eq f.1, (f.2.2 6 (by decide) (by decide) (by decide)).trans X.2.1, X.2.2.1, fun i hi => by rw [f.2.1 (x + 36) (by omega)]; exact X.2.2.2.1 i hi, X.2.2.2.2⟩
theorem frc_7 (h : Hp) (x : Nat) (v : Int32) : FrC h (h.1, upI h.2 (x + 27) 7 v) x := ⟨rfl, fun a q => upI_ne q, fun j _ _ q => by show upI _ _ _ _ (x + 27) j = _; rw [upI_at, if_neg q]⟩
theorem frc_43 (h : Hp) (x : Nat) (v w : Int32) : FrC h (h.1, upI (upI h.2 (x + 27) 4 v) (x + 27) 3 w) x := ⟨rfl, fun a q => by show upI _ _ _ _ a = _; rw [upI_ne q, upI_ne q], fun j q1 q2 _ => by show upI _ _ _ _ (x + 27) j = _; rw [upI_at, if_neg q1, upI_at, if_neg q2]⟩
theorem CP.to (X : CP h x T n p) {q : Nat} (hq : q ≤ n) : CP (h.1, upI h.2 (x + 27) 7 (nI q)) x T n q := ⟨X.1.fr (frc_7 h x _), by show upI _ _ _ _ (x + 27) 7 = _; rw [upI_at, if_pos rfl], by show upI _ _ _ _ (x + 27) 4 = _; rw [upI_at, if_neg (by decide)]; exact X.2.2.1, hq⟩
theorem CX.k (X : CX h x T n) : kH h (x + 27) = 13 := X.1.rdr.1
theorem CX.tx (X : CX h x T n) : rH h (x + 27) 5 = x + 36 ∧ kH h (x + 36) = 2 ∧ lH h (x + 36) = 600 := X.1.rdr.2.2.2.2.1
theorem CP.k (X : CP h x T n p) : kH h (x + 27) = 13 := X.1.k
theorem CP.tx (X : CP h x T n p) : rH h (x + 27) 5 = x + 36 ∧ kH h (x + 36) = 2 ∧ lH h (x + 36) = 600 := X.1.tx
theorem c_atEnd_go : ∀ (c p f : Nat) (h : Hp), n - p ≤ c → c < f → CP h x T n p → ∃ h', gX3_atEnd f 0 [.ref (x + 27)] [] h = some (.inl (some (.int (b2i (decide (n ≤ blk T n c p))))), h') ∧ FrC h h' x ∧ CP h' x T n (blk T n c p) := by
  intro c
  induction c with
  | zero =>
    intro p f h hp hf X
    obtain ⟨f, rfl⟩ := sc hf
    have hpn := X.2.2.2
    have := X.1.2.2.1
    refine ⟨h, ?_, FrC.refl h x, X⟩
    rw [zX3_atEnd_0]
    unfold kX3_atEnd_0 blk
    rw [if_pos X.k, X.1.2.1, X.2.1, if_pos (by rw [nI_leI (by omega) (by omega)]; omega), if_neg (by rw [nI_ltI (by omega) (by omega)]; omega), decide_eq_true (show n ≤ p by omega)]
    rfl
  | succ c ih =>
    intro p f h hp hf X
    obtain ⟨f, rfl⟩ := sc hf
    obtain ⟨t1, t2, t3⟩ := X.tx
    have hpn := X.2.2.2
    have := X.1.2.2.1
    rw [zX3_atEnd_0]
    unfold kX3_atEnd_0 blk
    by_cases e0 : n ≤ p
    · refine ⟨h, ?_, FrC.refl h x, by rw [if_neg (by omega)]; exact X⟩
      rw [if_pos X.k, X.1.2.1, X.2.1, if_pos (by rw [nI_leI (by omega) (by omega)]; omega), if_neg (by rw [nI_ltI (by omega) (by omega)]; omega), if_neg (show ¬ (p < n ∧ T p = 32) by omega), decide_eq_true (show n ≤ p by omega)]
      rfl
    · have ht := X.1.2.2.2.2 p (by omega)
      rw [if_pos X.k, X.1.2.1, X.2.1, if_neg (by rw [nI_leI (by omega) (by omega)]; omega), t1, if_pos t2, t3, if_pos (inB_nI (by omega) (by decide)), nI_clamp (by omega), X.1.2.2.2.1 p (by omega)]
      by_cases e : T p = 32
      · obtain ⟨h', i1, i2, i3⟩ := ih (p + 1) f _ (by omega) (by omega) (X.to (q := p + 1) (by omega))
        refine ⟨h', ?_, (frc_7 h x _).trans i2, by rw [if_pos ⟨by omega, e⟩]; exact i3⟩
        rw [if_neg (fun q => q ((cby_e ht (s := 32) (by omega)).mpr e)), if_pos (show p < n ∧ T p = 32 from ⟨by omega, e⟩), ← i1, nI_1]
      · refine ⟨h, ?_, FrC.refl h x, by rw [if_neg (fun q => e q.2)]; exact X⟩
        rw [if_pos (show ¬ cby (T p) = 32 from fun q => e ((cby_e ht (s := 32) (by omega)).mp q)), if_pos (by rw [nI_ltI (by omega) (by omega)]; omega), if_neg (show ¬ (p < n ∧ T p = 32) from fun q => e q.2), decide_eq_false (show ¬ n ≤ p by omega)]
        rfl
theorem c_atEnd (X : CP h x T n p) : ∃ h', fX3_atEnd (x + 27) h = some (.inl (some (.int (b2i (decide (n ≤ bk T n p))))), h') ∧ FrC h h' x ∧ CP h' x T n (bk T n p) := by
  have := X.1.2.2.1
  exact c_atEnd_go (n - p) p FF h (Nat.le_refl _) (by show _ < 1000000; omega) X
theorem c_blame (X : CP h x T n p) {e : Ft} (he : 1 ≤ e.1 ∧ e.1 ≤ 3) : ∃ h', fX3_blame (x + 27) (nI e.1) (nI e.2) h = some (.inl none, h') ∧ FrC h h' x ∧ CE h' x e := by
  refine ⟨_, ?_, frc_43 h x (nI e.1) (nI e.2), he, ?_, ?_⟩
  · unfold fX3_blame kX3_blame_0
    rw [if_pos X.k, X.2.2.1, if_neg (fun q => q rfl)]
  · show upI _ _ _ _ (x + 27) 4 = _
    rw [upI_at, if_neg (by decide), upI_at, if_pos rfl]
  · show upI _ _ _ _ (x + 27) 3 = _
    rw [upI_at, if_pos rfl]
theorem CE.nz {e : Ft} (E : CE h x e) : ¬ h.2 (x + 27) 4 = 0 := by
  rw [E.2.1, nI_eq0 (by have := E.1; omega)]
  have := E.1
  omega
theorem CE.blame {e : Ft} (E : CE h x e) (hk : kH h (x + 27) = 13) (a b : Int32) : fX3_blame (x + 27) a b h = some (.inl none, h) := by
  unfold fX3_blame kX3_blame_0
  rw [if_pos hk, if_pos E.nz]
theorem CE.number {e : Ft} (E : CE h x e) (hk : kH h (x + 27) = 13) (a b : Int32) : fX3_readNumber (x + 27) a b h = some (.inl (some (.int a)), h) := by
  unfold fX3_readNumber kX3_readNumber_0
  rw [if_pos hk, if_neg E.nz]
theorem CE.sign {e : Ft} (E : CE h x e) (hk : kH h (x + 27) = 13) (a : Int32) : fX3_readSign (x + 27) a h = some (.inl none, h) := by
  unfold fX3_readSign kX3_readSign_0
  rw [if_pos hk, if_neg E.nz]
theorem c_sign (X : CP h x T n p) {s : Nat} (hs : s = 32 ∨ s = 59 ∨ s = 91 ∨ s = 93) : ∃ h', fX3_readSign (x + 27) (nI s) h = some (.inl none, h') ∧ FrC h h' x ∧ match pSig T n s p with
    | .inl q => CP h' x T n q
    | .inr e => CE h' x e := by
  obtain ⟨h1, a1, a2, a3⟩ := c_atEnd X
  obtain ⟨t1, t2, t3⟩ := a3.tx
  have hn := X.1.2.2.1
  obtain ⟨b1, b2⟩ := bk_le (T := T) X.2.2.2
  obtain ⟨h2, c1, c2, c3⟩ := c_blame (e := (1, bk T n p)) a3 (show (1 : Nat) ≤ 1 ∧ 1 ≤ 3 by decide)
  have c1 : fX3_blame (x + 27) 1 (nI (bk T n p)) h1 = _ := c1
  unfold fX3_readSign kX3_readSign_0 pSig
  rw [if_pos X.k, if_pos X.2.2.1, a1, bI_s]
  by_cases e0 : n ≤ bk T n p
  · rw [decide_eq_true e0, if_pos (show ¬ b2i true = 0 by decide), if_pos a3.k, a3.2.1, c1, bV_s, if_neg (by omega)]
    exact ⟨h2, rfl, a2.trans c2, c3⟩
  · have ht := X.1.2.2.2.2 (bk T n p) (by omega)
    rw [decide_eq_false e0, if_neg (show ¬ ¬ b2i false = 0 by decide), if_pos a3.k, t1, if_pos t2, t3, a3.2.1, if_pos (inB_nI (by omega) (by decide)), nI_clamp (by omega), a3.1.2.2.2.1 _ (by omega)]
    by_cases e : T (bk T n p) = s
    · rw [if_pos ((cby_e ht hs).mpr e), if_pos (show bk T n p < n ∧ T (bk T n p) = s from ⟨by omega, e⟩), nI_1]
      exact ⟨_, rfl, a2.trans (frc_7 h1 x _), a3.to (by omega)⟩
    · rw [if_neg (fun q => e ((cby_e ht hs).mp q)), c1, bV_s, if_neg (show ¬ (bk T n p < n ∧ T (bk T n p) = s) from fun q => e q.2)]
      exact ⟨h2, rfl, a2.trans c2, c3⟩
theorem c_isDigit (X : CX h x T n) {p : Nat} (hp : p < n) (r : Nat) (g : Hp) : fX3_isDigit r (cby (T p)) g = some (.inl (some (.int (b2i (dgB T n p)))), g) := by
  have ht := X.2.2.2.2 p hp
  obtain ⟨e1, e2, -, -⟩ := cb_tab ⟨T p, ht⟩
  unfold fX3_isDigit kX3_isDigit_0 dgB
  by_cases q1 : T p < 48 ∨ 128 ≤ T p
  · rw [if_pos (e1.mpr q1), decide_eq_false (by omega)]
    rfl
  · rw [if_neg (fun q => q1 (e1.mp q))]
    by_cases q2 : 57 < T p ∧ T p < 128
    · rw [if_pos (e2.mpr q2), decide_eq_false (by omega)]
      rfl
    · rw [if_neg (fun q => q2 (e2.mp q)), decide_eq_true (by omega)]
      rfl
/-- where the digits end -/
theorem c_num_end (X : CP h x T n p) {lo hi b v : Nat} (hlo : lo < 2 ^ 20) (hhi : hi ≤ 99) : ∃ h', (if nI (if v ≤ 1000 then v else 1000) < nI lo then (bV (fX3_blame (x + 27) 2 (nI b) h) fun h4 => (some (.inl (some (.int (nI lo))), h4))) else (if nI (if v ≤ 1000 then v else 1000) ≤ nI hi then (some (.inl (some (.int (nI (if v ≤ 1000 then v else 1000)))), h)) else (bV (fX3_blame (x + 27) 2 (nI b) h) fun h7 => (some (.inl (some (.int (nI lo))), h7))) : RS)) =
      some (.inl (some (.int (if lo ≤ v ∧ v ≤ hi then nI v else nI lo))), h') ∧ FrC h h' x ∧ (if lo ≤ v ∧ v ≤ hi then CP h' x T n p else CE h' x (2, b)) := by
  obtain ⟨h2, c1, c2, c3⟩ := c_blame (e := (2, b)) X (show (1 : Nat) ≤ 2 ∧ 2 ≤ 3 by decide)
  have c1 : fX3_blame (x + 27) 2 (nI b) h = _ := c1
  have hv : (if v ≤ 1000 then v else 1000) ≤ 1000 := by split <;> omega
  by_cases e1 : lo ≤ v
  · by_cases e2 : v ≤ hi
    · have ev : (if v ≤ 1000 then v else 1000) = v := if_pos (by omega)
      rw [ev, if_neg (by rw [nI_ltI (by omega) (by omega)]; omega), if_pos (by rw [nI_leI (by omega) (by omega)]; exact e2), if_pos ⟨e1, e2⟩]
      exact ⟨h, rfl, FrC.refl h x, by rw [if_pos ⟨e1, e2⟩]; exact X⟩
    · have no : ¬ (lo ≤ v ∧ v ≤ hi) := fun q => e2 q.2
      have e3 : hi < (if v ≤ 1000 then v else 1000) := by split <;> omega
      rw [c1, bV_s, if_neg (show ¬ nI (if v ≤ 1000 then v else 1000) ≤ nI hi by rw [nI_leI (by omega) (by omega)]; omega), ite_self, if_neg no]
      exact ⟨h2, rfl, c2, by rw [if_neg no]; exact c3⟩
  · have no : ¬ (lo ≤ v ∧ v ≤ hi) := fun q => e1 q.1
    rw [c1, bV_s, if_neg no]
    refine ⟨h2, ?_, c2, by rw [if_neg no]; exact c3⟩
    by_cases q : nI (if v ≤ 1000 then v else 1000) < nI lo
    · rw [if_pos q]
    · rw [if_neg q, if_neg]
      rw [nI_leI (by omega) (by omega)]
      rw [nI_ltI (by omega) (by omega)] at q
      by_cases q9 : v ≤ 1000
      · rw [if_pos q9] at q
        omega
      · rw [if_neg q9]
        omega
theorem c_num_go {lo hi b : Nat} (hlo : lo < 2 ^ 20) (hhi : hi ≤ 99) : ∀ (c p v f : Nat) (h : Hp), n - p ≤ c → c < f → CP h x T n p → ∃ h', gX3_readNumber f 51 [.ref (x + 27), .int (nI lo), .int (nI hi), .int (nI b), .int (nI (if v ≤ 1000 then v else 1000))] [] h =
      some (.inl (some (.int (if lo ≤ (dgs T n c p v).1 ∧ (dgs T n c p v).1 ≤ hi then nI (dgs T n c p v).1 else nI lo))), h') ∧ FrC h h' x ∧ (if lo ≤ (dgs T n c p v).1 ∧ (dgs T n c p v).1 ≤ hi then CP h' x T n (dgs T n c p v).2 else CE h' x (2, b)) := by
  intro c
  induction c with
  | zero =>
    intro p v f h hp hf X
    obtain ⟨f, rfl⟩ := sc hf
    have hpn := X.2.2.2
    have := X.1.2.2.1
    rw [zX3_readNumber_51]
    unfold kX3_readNumber_51
    rw [if_pos X.k, X.1.2.1, X.2.1, if_pos (by rw [nI_leI (by omega) (by omega)]; omega)]
    exact c_num_end X hlo hhi
  | succ c ih =>
    intro p v f h hp hf X
    obtain ⟨f, rfl⟩ := sc hf
    obtain ⟨t1, t2, t3⟩ := X.tx
    have hpn := X.2.2.2
    have hn := X.1.2.2.1
    rw [zX3_readNumber_51]
    unfold kX3_readNumber_51 dgs
    by_cases e0 : n ≤ p
    · have hd : dgB T n p = false := decide_eq_false (by omega)
      rw [if_pos X.k, X.1.2.1, X.2.1, if_pos (by rw [nI_leI (by omega) (by omega)]; omega), hd, if_neg (show ¬ false = true by decide)]
      exact c_num_end X hlo hhi
    · rw [if_pos X.k, X.1.2.1, X.2.1, if_neg (by rw [nI_leI (by omega) (by omega)]; omega), t1, if_pos t2, t3, if_pos (inB_nI (by omega) (by decide)), nI_clamp (by omega), X.1.2.2.2.1 p (by omega), c_isDigit X.1 (by omega), bI_s, if_pos X.k, if_pos X.k]
      cases hd : dgB T n p with
      | false =>
        rw [if_pos (show b2i false = 0 by decide), if_neg (show ¬ false = true by decide)]
        exact c_num_end X hlo hhi
      | true =>
        have hdd := of_decide_eq_true hd
        rw [if_neg (show ¬ b2i true = 0 by decide), if_pos rfl]
        obtain ⟨h', i1, i2, i3⟩ := ih (p + 1) (10 * v + (T p - 48)) f _ (by omega) (by omega) (X.to (q := p + 1) (by omega))
        refine ⟨h', ?_, (frc_7 h x _).trans i2, i3⟩
        have hv : (if v ≤ 1000 then v else 1000) ≤ 1000 := by split <;> omega
        have eV : nI (if v ≤ 1000 then v else 1000) * 10 + nI (T p) - 48 = nI ((if v ≤ 1000 then v else 1000) * 10 + (T p - 48)) := by
          rw [show (10 : Int32) = nI 10 from rfl, show (48 : Int32) = nI 48 from rfl, pk_mul, nI_add, pk_sub (by omega), show (if v ≤ 1000 then v else 1000) * 10 + T p - 48 = (if v ≤ 1000 then v else 1000) * 10 + (T p - 48) by omega]
        have eW : (if nI ((if v ≤ 1000 then v else 1000) * 10 + (T p - 48)) < 1000 then nI ((if v ≤ 1000 then v else 1000) * 10 + (T p - 48)) else 1000) = nI (if 10 * v + (T p - 48) ≤ 1000 then 10 * v + (T p - 48) else 1000) := by
          rw [show (1000 : Int32) = nI 1000 from rfl]
          by_cases q : v ≤ 1000
          · rw [if_pos q]
            by_cases q2 : v * 10 + (T p - 48) < 1000
            · rw [if_pos (by rw [nI_ltI (by omega) (by omega)]; exact q2), if_pos (by omega), Nat.mul_comm v 10]
            · rw [if_neg (by rw [nI_ltI (by omega) (by omega)]; exact q2)]
              by_cases q3 : 10 * v + (T p - 48) ≤ 1000
              · rw [if_pos q3, show 10 * v + (T p - 48) = 1000 by omega]
              · rw [if_neg q3]
          · rw [if_neg q, if_neg (by rw [nI_ltI (by omega) (by omega)]; omega), if_neg (by omega)]
        rw [← i1, t1, if_pos t2, t3, X.2.1, if_pos (inB_nI (by omega) (by decide)), nI_clamp (by omega), X.1.2.2.2.1 p (by omega), cby_s (by omega), eV, eW, nI_1]
theorem c_number (X : CP h x T n p) {lo hi : Nat} (hlo : lo < 2 ^ 20) (hhi : hi ≤ 99) : ∃ z h', fX3_readNumber (x + 27) (nI lo) (nI hi) h = some (.inl (some (.int z)), h') ∧ FrC h h' x ∧ match pNum T n lo hi p with
    | .inl q => z = nI q.1 ∧ CP h' x T n q.2
    | .inr e => z = nI lo ∧ CE h' x e := by
  obtain ⟨h1, a1, a2, a3⟩ := c_atEnd X
  obtain ⟨t1, t2, t3⟩ := a3.tx
  have hn := X.1.2.2.1
  obtain ⟨b1, b2⟩ := bk_le (T := T) X.2.2.2
  obtain ⟨h2, c1, c2, c3⟩ := c_blame (e := (1, bk T n p)) a3 (show (1 : Nat) ≤ 1 ∧ 1 ≤ 3 by decide)
  have c1 : fX3_blame (x + 27) 1 (nI (bk T n p)) h1 = _ := c1
  unfold fX3_readNumber kX3_readNumber_0 pNum
  rw [if_pos X.k, if_pos X.2.2.1, a1, bI_s]
  by_cases e0 : n ≤ bk T n p
  · have hd : dgB T n (bk T n p) = false := decide_eq_false (by omega)
    rw [decide_eq_true e0, if_pos (show ¬ b2i true = 0 by decide), if_pos a3.k, a3.2.1, c1, bV_s, hd, if_neg (show ¬ false = true by decide)]
    exact ⟨_, h2, rfl, a2.trans c2, rfl, c3⟩
  · rw [decide_eq_false e0, if_neg (show ¬ ¬ b2i false = 0 by decide), if_pos a3.k, t1, if_pos t2, t3, a3.2.1, if_pos (inB_nI (by omega) (by decide)), nI_clamp (by omega), a3.1.2.2.2.1 _ (by omega), c_isDigit a3.1 (by omega), bI_s, if_pos a3.k, if_pos a3.k]
    cases hd : dgB T n (bk T n p) with
    | true =>
      obtain ⟨h3, d1, d2, d3⟩ := c_num_go (b := bk T n p) hlo hhi (n - bk T n p) (bk T n p) 0 FF h1 (Nat.le_refl _) (by show _ < 1000000; omega) a3
      rw [if_pos (Nat.zero_le _), show nI 0 = (0 : Int32) from rfl] at d1
      rw [if_pos (show ¬ b2i true = 0 by decide), a3.2.1, d1, if_pos rfl]
      refine ⟨_, h3, rfl, a2.trans d2, ?_⟩
      by_cases e : lo ≤ (dgs T n (n - bk T n p) (bk T n p) 0).1 ∧ (dgs T n (n - bk T n p) (bk T n p) 0).1 ≤ hi
      · rw [if_pos e] at d3
        rw [if_pos e, if_pos e]
        exact ⟨rfl, d3⟩
      · rw [if_neg e] at d3
        rw [if_neg e, if_neg e]
        exact ⟨rfl, d3⟩
    | false =>
      rw [if_neg (show ¬ ¬ b2i false = 0 by decide), a3.2.1, c1, bV_s, if_neg (show ¬ false = true by decide)]
      exact ⟨_, h2, rfl, a2.trans c2, rfl, c3⟩
end TC
