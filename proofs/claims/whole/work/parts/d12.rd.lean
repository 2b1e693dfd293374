/-! ===== reading goes on, or is over: both sides ===== -/
abbrev Rd : Type := Nat ⊕ Ft
def pS (T : Nat → Nat) (n lo hi : Nat) (s : Rd) : Nat × Rd := match s with
  | .inl p => (match pNum T n lo hi p with
    | .inl q => (q.1, .inl q.2)
    | .inr e => (lo, .inr e))
  | .inr e => (lo, .inr e)
def gS (T : Nat → Nat) (n c : Nat) (s : Rd) : Rd := match s with
  | .inl p => pSig T n c p
  | .inr e => .inr e
/-- what stands behind a step's word (the reference's numbers of the words) -/
def nums (T : Nat → Nat) (n k : Nat) (s : Rd) : (Nat × Nat × Nat) × Rd :=
  if k < 3 ∨ k = 6 then
    if k = 2 then (((pS T n 0 11 s).1, (pS T n 1 99 (pS T n 0 11 s).2).1, (pS T n 0 11 (pS T n 1 99 (pS T n 0 11 s).2).2).1), (pS T n 0 11 (pS T n 1 99 (pS T n 0 11 s).2).2).2)
    else (((pS T n 0 11 s).1, (pS T n 1 99 (pS T n 0 11 s).2).1, 0), (pS T n 1 99 (pS T n 0 11 s).2).2)
  else if k = 3 then (((pS T n 0 11 s).1, (pS T n 0 99 (pS T n 0 11 s).2).1, 0), (pS T n 0 99 (pS T n 0 11 s).2).2)
  else if k = 4 then (((pS T n 0 11 s).1, (pS T n 0 31 (pS T n 0 11 s).2).1, (pS T n 0 99 (pS T n 0 31 (pS T n 0 11 s).2).2).1), (pS T n 0 99 (pS T n 0 31 (pS T n 0 11 s).2).2).2)
  else if k = 5 then (((pS T n 0 11 s).1, 0, 0), (pS T n 0 11 s).2)
  else if k = 7 then (((pS T n 0 15 s).1, 0, 0), (pS T n 0 15 s).2)
  else if k = 11 then (((pS T n 0 60 s).1, 0, 0), (pS T n 0 60 s).2)
  else ((0, 0, 0), s)
def RSt (h : Hp) (m : Nat) (T : Nat → Nat) (n : Nat) (s : Rd) : Prop := match s with
  | .inl p => RP h m T n p
  | .inr e => RX h m T n ∧ RE h m e ∧ e.2 ≤ n
def CSt (h : Hp) (x : Nat) (T : Nat → Nat) (n : Nat) (s : Rd) : Prop := match s with
  | .inl p => CP h x T n p
  | .inr e => CX h x T n ∧ CE h x e ∧ e.2 ≤ n
def okR (s : Rd) : Prop := ∃ p, s = .inl p
/-- if all went well, the number -/
def vaL (z : Int32) (q : Nat × Rd) : Prop := okR q.2 → z = nI q.1
section RD
variable {h h' : Hp} {x m n : Nat} {T : Nat → Nat} {s : Rd}
theorem RSt.rx (X : RSt h m T n s) : RX h m T n := by
  cases s with
  | inl p => exact X.1
  | inr e => exact X.1
theorem CSt.cx (X : CSt h x T n s) : CX h x T n := by
  cases s with
  | inl p => exact X.1
  | inr e => exact X.1
theorem pS_i {lo hi p : Nat} {q : Nat × Nat} (e : pNum T n lo hi p = .inl q) : pS T n lo hi (.inl p) = (q.1, .inl q.2) := by
  show (match pNum T n lo hi p with
    | .inl q => (q.1, Sum.inl q.2)
    | .inr e => (lo, Sum.inr e)) = _
  rw [e]
theorem pS_e {lo hi p : Nat} {e' : Ft} (e : pNum T n lo hi p = .inr e') : pS T n lo hi (.inl p) = (lo, .inr e') := by
  show (match pNum T n lo hi p with
    | .inl q => (q.1, Sum.inl q.2)
    | .inr e => (lo, Sum.inr e)) = _
  rw [e]
theorem ms_num (X : RSt h m T n s) {lo hi : Nat} (hlo : lo < 2 ^ 20) (hhi : hi ≤ 99) : ∃ z h', fX10_number m (nI lo) (nI hi) h = some (.inl (some (.int z)), h') ∧ Frx h h' m ∧ RSt h' m T n (pS T n lo hi s).2 ∧ vaL z (pS T n lo hi s) := by
  cases s with
  | inl p =>
    have X : RP h m T n p := X
    obtain ⟨z, h1, a1, a2, a3⟩ := m_number X hlo hhi
    refine ⟨z, h1, a1, a2, ?_⟩
    cases e : pNum T n lo hi p with
    | inl q =>
      rw [e] at a3
      rw [pS_i e]
      exact ⟨a3.2, fun _ => a3.1⟩
    | inr e' =>
      rw [e] at a3
      rw [pS_e e]
      exact ⟨⟨X.1.fr a2, a3.2, (pNum_er X.2.2.2 e).2⟩, fun q => by obtain ⟨p', hp⟩ := q; cases hp⟩
  | inr e => exact ⟨0, h, X.2.1.number X.1.1.k _ _, Frx.refl h m, X, fun q => by obtain ⟨p', hp⟩ := q; cases hp⟩
theorem ms_sign (X : RSt h m T n s) {c : Nat} (hc : c < 256) : ∃ h', fX10_sign m (nI c) h = some (.inl none, h') ∧ Frx h h' m ∧ RSt h' m T n (gS T n c s) := by
  cases s with
  | inl p =>
    have X : RP h m T n p := X
    obtain ⟨h1, a1, a2, a3⟩ := m_sign X hc
    refine ⟨h1, a1, a2, ?_⟩
    have eg : gS T n c (.inl p) = pSig T n c p := rfl
    rw [eg]
    cases e : pSig T n c p with
    | inl q =>
      rw [e] at a3
      exact a3
    | inr e' =>
      rw [e] at a3
      exact ⟨X.1.fr a2, a3, (pSig_er X.2.2.2 e).2⟩
  | inr e => exact ⟨h, X.2.1.sign X.1.1.k _, Frx.refl h m, X⟩
theorem cs_num (X : CSt h x T n s) {lo hi : Nat} (hlo : lo < 2 ^ 20) (hhi : hi ≤ 99) : ∃ z h', fX3_readNumber (x + 27) (nI lo) (nI hi) h = some (.inl (some (.int z)), h') ∧ FrC h h' x ∧ CSt h' x T n (pS T n lo hi s).2 ∧ z = nI (pS T n lo hi s).1 := by
  cases s with
  | inl p =>
    have X : CP h x T n p := X
    obtain ⟨z, h1, a1, a2, a3⟩ := c_number X hlo hhi
    refine ⟨z, h1, a1, a2, ?_⟩
    cases e : pNum T n lo hi p with
    | inl q =>
      rw [e] at a3
      rw [pS_i e]
      exact ⟨a3.2, a3.1⟩
    | inr e' =>
      rw [e] at a3
      rw [pS_e e]
      exact ⟨⟨X.1.fr a2, a3.2, (pNum_er X.2.2.2 e).2⟩, a3.1⟩
  | inr e => exact ⟨nI lo, h, X.2.1.number X.1.k _ _, FrC.refl h x, X, rfl⟩
theorem cs_sign (X : CSt h x T n s) {c : Nat} (hc : c = 32 ∨ c = 59 ∨ c = 91 ∨ c = 93) : ∃ h', fX3_readSign (x + 27) (nI c) h = some (.inl none, h') ∧ FrC h h' x ∧ CSt h' x T n (gS T n c s) := by
  cases s with
  | inl p =>
    have X : CP h x T n p := X
    obtain ⟨h1, a1, a2, a3⟩ := c_sign X hc
    refine ⟨h1, a1, a2, ?_⟩
    have eg : gS T n c (.inl p) = pSig T n c p := rfl
    rw [eg]
    cases e : pSig T n c p with
    | inl q =>
      rw [e] at a3
      exact a3
    | inr e' =>
      rw [e] at a3
      exact ⟨X.1.fr a2, a3, (pSig_er X.2.2.2 e).2⟩
  | inr e => exact ⟨h, X.2.1.sign X.1.k _, FrC.refl h x, X⟩
theorem ok_pS {lo hi : Nat} (o : okR (pS T n lo hi s).2) : okR s := by
  cases s with
  | inl p => exact ⟨p, rfl⟩
  | inr e => exact o
/-- another row than the object and its text -/
theorem RX.row (X : RX h m T n) {r i : Nat} {v : Int32} (hr : r ≠ m ∧ r ≠ m + 1) : RX (h.1, upI h.2 r i v) m T n := ⟨X.1.eq rfl, by show upI _ _ _ _ m 2 = _; rw [upI_ne (Ne.symm hr.1)]; exact X.2.1, X.2.2.1, fun j hj => by show upI _ _ _ _ (m + 1) j = _; rw [upI_ne (Ne.symm hr.2)]; exact X.2.2.2.1 j hj, X.2.2.2.2⟩
theorem RSt.row (X : RSt h m T n s) {r i : Nat} {v : Int32} (hr : r ≠ m ∧ r ≠ m + 1) : RSt (h.1, upI h.2 r i v) m T n s := by
  have hm : upI h.2 r i v m = h.2 m := upI_ne (Ne.symm hr.1)
  cases s with
  | inl p =>
    have X : RP h m T n p := X
    exact ⟨X.1.row hr, by show upI _ _ _ _ m 4 = _; rw [hm]; exact X.2.1, by show upI _ _ _ _ m 5 = _; rw [hm]; exact X.2.2.1, X.2.2.2⟩
  | inr e => exact ⟨X.1.row hr, ⟨X.2.1.1, by show upI _ _ _ _ m 5 = _; rw [hm]; exact X.2.1.2.1, by show upI _ _ _ _ m 6 = _; rw [hm]; exact X.2.1.2.2.1, by obtain ⟨p', q1, q2⟩ := X.2.1.2.2.2; exact ⟨p', q1, by show upI _ _ _ _ m 4 = _; rw [hm]; exact q2⟩⟩, X.2.2⟩
/-- what reading into a row may change -/
def Frr (h h' : Hp) (m r : Nat) : Prop := h'.1 = h.1 ∧ (∀ a, a ≠ m → a ≠ r → h'.2 a = h.2 a) ∧ (∀ j, j ≠ 4 → j ≠ 5 → j ≠ 6 → h'.2 m j = h.2 m j)
theorem Frr.refl (h : Hp) (m r : Nat) : Frr h h m r := ⟨rfl, fun _ _ _ => rfl, fun _ _ _ _ => rfl⟩
theorem Frr.trans {h h1 h2 : Hp} {m r : Nat} (a : Frr h h1 m r) (b : Frr h1 h2 m r) : Frr h h2 m r := ⟨b.1.trans a.1, fun y q1 q2 => by rw [b.2.1 y q1 q2, a.2.1 y q1 q2], fun j q1 q2 q3 => by rw [b.2.2 j q1 q2 q3, a.2.2 j q1 q2 q3]⟩
theorem Frx.r {r : Nat} (f : Frx h h' m) : Frr h h' m r := ⟨f.1, fun a q _ => f.2.1 a q, f.2.2⟩
theorem frr_up {r i : Nat} {v : Int32} (hr : r ≠ m) : Frr h (h.1, upI h.2 r i v) m r := ⟨rfl, fun a _ q => upI_ne q, fun j _ _ _ => by show upI _ _ _ _ m j = _; rw [upI_ne (Ne.symm hr)]⟩
/-- a number is read into a place of a row -/
theorem ms_put (X : RSt h m T n s) {r lo hi i : Nat} (hr : r ≠ m ∧ r ≠ m + 1) (hlo : lo < 2 ^ 20) (hhi : hi ≤ 99) : ∃ z h', fX10_number m (nI lo) (nI hi) h = some (.inl (some (.int z)), h') ∧ h'.1 = h.1 ∧ Frr h (h'.1, upI h'.2 r i z) m r ∧ RSt (h'.1, upI h'.2 r i z) m T n (pS T n lo hi s).2 ∧ (∀ j, (h'.1, upI h'.2 r i z).2 r j = if j = i then z else h.2 r j) ∧ vaL z (pS T n lo hi s) := by
  obtain ⟨z, h1, a1, a2, a3, a4⟩ := ms_num X hlo hhi
  refine ⟨z, h1, a1, a2.1, a2.r.trans (frr_up hr.1), a3.row hr, fun j => ?_, a4⟩
  show upI _ _ _ _ r j = _
  rw [upI_at, a2.2.1 r hr.1]
/-- what a row tells of a step, once all went well -/
def rwA (h : Hp) (r k : Nat) (v : Nat × Nat × Nat) : Prop := (k < 8 ∨ k = 11 → h.2 r 1 = nI v.1) ∧ (k < 5 ∨ k = 6 → h.2 r 2 = nI v.2.1) ∧ (k = 2 ∨ k = 4 → h.2 r 3 = nI v.2.2)
theorem m_numbers (X : RSt h m T n s) {r k : Nat} (hr : r ≠ m ∧ r ≠ m + 1) (hk1 : kH h r = 1) (hk5 : lH h r = 5) (h0 : h.2 r 0 = nI k) (hk : k ≤ 10) : ∃ h', fX10_numbers m r h = some (.inl none, h') ∧ Frr h h' m r ∧ h'.2 r 0 = nI k ∧ RSt h' m T n (nums T n k s).2 ∧ (okR (nums T n k s).2 → rwA h' r k (nums T n k s).1) := by
  have K : ∀ {g : Hp}, g.1 = h.1 → kH g r = 1 := fun e => (kh_eq e r).trans hk1
  have L : ∀ {g : Hp}, g.1 = h.1 → lH g r = 5 := fun e => (lh_eq e r).trans hk5
  have KM : ∀ {g : Hp}, g.1 = h.1 → kH g m = 18 := fun e => (kh_eq e m).trans X.rx.1.k
  have i0 : inB 0 5 = true := by decide
  have i1 : inB 1 5 = true := by decide
  have i2 : inB 2 5 = true := by decide
  have i3 : inB 3 5 = true := by decide
  unfold fX10_numbers kX10_numbers_0
  rw [if_pos hk1, hk5, if_pos i0, h0, show FF = 999996 + 1 + 1 + 1 + 1 from rfl]
  by_cases q7 : 7 ≤ k
  · rw [if_pos (by rw [k7, nI_leI (by decide) (by omega)]; exact q7), zX10_numbers_20]
    unfold kX10_numbers_20
    rw [if_neg (by rw [k3, nI_ltI (by omega) (by decide)]; omega), if_pos (show ¬ nI k = 6 by rw [k6, nI_eq (by omega) (by decide)]; omega), zX10_numbers_41]
    unfold kX10_numbers_41
    rw [if_pos (show ¬ nI k = 2 by rw [k2, nI_eq (by omega) (by decide)]; omega), zX10_numbers_56]
    unfold kX10_numbers_56
    rw [if_pos (show ¬ nI k = 3 by rw [k3, nI_eq (by omega) (by decide)]; omega), zX10_numbers_71]
    unfold kX10_numbers_71
    rw [if_pos (show ¬ nI k = 4 by rw [k4, nI_eq (by omega) (by decide)]; omega)]
    unfold nums
    rw [if_neg (show ¬ (k < 3 ∨ k = 6) by omega), if_neg (show ¬ k = 3 by omega), if_neg (show ¬ k = 4 by omega), if_neg (show ¬ k = 5 by omega)]
    by_cases e7 : k = 7
    · obtain ⟨z, h1, a1, a2, a3, a4, a5, a6⟩ := ms_put X (i := 1) hr (lo := 0) (hi := 15) (by decide) (by decide)
      have a1 : fX10_number m 0 15 h = _ := a1
      rw [if_neg (fun w => w (by rw [e7]; rfl)), if_pos X.rx.1.k, a1, bI_s, if_pos (K a2), L a2, if_pos i1, if_pos e7]
      refine ⟨_, rfl, a3, by rw [a5, if_neg (by decide)]; exact h0, a4, fun o => ⟨fun _ => ?_, fun w => by omega, fun w => by omega⟩⟩
      rw [a5, if_pos rfl]
      exact a6 o
    · rw [if_pos (show ¬ nI k = 7 by rw [k7, nI_eq (by omega) (by decide)]; exact e7), if_neg e7, if_neg (show ¬ k = 11 by omega)]
      exact ⟨h, rfl, Frr.refl h m r, h0, X, fun _ => ⟨fun w => by omega, fun w => by omega, fun w => by omega⟩⟩
  · obtain ⟨z, h1, a1, a2, a3, a4, a5, a6⟩ := ms_put X (i := 1) hr (lo := 0) (hi := 11) (by decide) (by decide)
    have a1 : fX10_number m 0 11 h = _ := a1
    rw [if_neg (by rw [k7, nI_leI (by decide) (by omega)]; exact q7), if_pos X.rx.1.k, a1, bI_s, if_pos (K a2), L a2, if_pos i1, zX10_numbers_20]
    unfold kX10_numbers_20
    have A2 : (h1.1, upI h1.2 r 1 z).1 = h.1 := a2
    have n36 : (if ¬ nI k = 6 then gX10_numbers (999996 + 1 + 1 + 1) 41 [.ref m, .ref r, .int (nI k)] [] (h1.1, upI h1.2 r 1 z) else (if kH (h1.1, upI h1.2 r 1 z) m = 18 then (bI (fX10_number m 1 99 (h1.1, upI h1.2 r 1 z)) fun z10 h9 => (if kH h9 r = 1 then (if inB 2 (lH h9 r) = true then (gX10_numbers (999996 + 1 + 1 + 1) 41 [.ref m, .ref r, .int (nI k)] [] (h9.1, (upI h9.2 r 2 z10))) else none) else none)) else none)) = (if ¬ k = 6 then gX10_numbers (999996 + 1 + 1 + 1) 41 [.ref m, .ref r, .int (nI k)] [] (h1.1, upI h1.2 r 1 z) else (if kH (h1.1, upI h1.2 r 1 z) m = 18 then (bI (fX10_number m 1 99 (h1.1, upI h1.2 r 1 z)) fun z10 h9 => (if kH h9 r = 1 then (if inB 2 (lH h9 r) = true then (gX10_numbers (999996 + 1 + 1 + 1) 41 [.ref m, .ref r, .int (nI k)] [] (h9.1, (upI h9.2 r 2 z10))) else none) else none)) else none)) := by
      by_cases e6 : k = 6
      · rw [if_neg (show ¬ ¬ nI k = 6 from fun w => w (by rw [e6]; rfl)), if_neg (show ¬ ¬ k = 6 from fun w => w e6)]
      · rw [if_pos (show ¬ nI k = 6 by rw [k6, nI_eq (by omega) (by decide)]; exact e6), if_pos e6]
    by_cases q3 : k < 3 ∨ k = 6
    · obtain ⟨z2, h2, b1, b2, b3, b4, b5, b6⟩ := ms_put a4 (i := 2) hr (lo := 1) (hi := 99) (by decide) (by decide)
      have b1 : fX10_number m 1 99 (h1.1, upI h1.2 r 1 z) = _ := b1
      have B2 : h2.1 = h.1 := b2.trans A2
      have st : (if nI k < 3 then (if kH (h1.1, upI h1.2 r 1 z) m = 18 then (bI (fX10_number m 1 99 (h1.1, upI h1.2 r 1 z)) fun z3 h2 => (if kH h2 r = 1 then (if inB 2 (lH h2 r) = true then (gX10_numbers (999996 + 1 + 1 + 1) 41 [.ref m, .ref r, .int (nI k)] [] (h2.1, (upI h2.2 r 2 z3))) else none) else none)) else none) else (if ¬ nI k = 6 then gX10_numbers (999996 + 1 + 1 + 1) 41 [.ref m, .ref r, .int (nI k)] [] (h1.1, upI h1.2 r 1 z) else (if kH (h1.1, upI h1.2 r 1 z) m = 18 then (bI (fX10_number m 1 99 (h1.1, upI h1.2 r 1 z)) fun z10 h9 => (if kH h9 r = 1 then (if inB 2 (lH h9 r) = true then (gX10_numbers (999996 + 1 + 1 + 1) 41 [.ref m, .ref r, .int (nI k)] [] (h9.1, (upI h9.2 r 2 z10))) else none) else none)) else none))) = gX10_numbers (999996 + 1 + 1 + 1) 41 [.ref m, .ref r, .int (nI k)] [] (h2.1, upI h2.2 r 2 z2) := by
        rw [n36, b1, bI_s, if_pos (K B2), L B2, if_pos i2, if_pos (KM A2)]
        by_cases e3 : k < 3
        · rw [if_pos (by rw [k3, nI_ltI (by omega) (by decide)]; exact e3)]
        · rw [if_neg (by rw [k3, nI_ltI (by omega) (by decide)]; exact e3), if_neg (fun w => w (by omega))]
      rw [st, zX10_numbers_41]
      unfold kX10_numbers_41 nums
      rw [if_pos q3]
      have C2 : (h2.1, upI h2.2 r 2 z2).1 = h.1 := B2
      have r1 : (h2.1, upI h2.2 r 2 z2).2 r 1 = z := by rw [b5, if_neg (by decide), a5, if_pos rfl]
      have r0 : (h2.1, upI h2.2 r 2 z2).2 r 0 = nI k := by rw [b5, if_neg (by decide), a5, if_neg (by decide)]; exact h0
      have r2 : (h2.1, upI h2.2 r 2 z2).2 r 2 = z2 := by rw [b5, if_pos rfl]
      have n56 : ∀ g : Hp, gX10_numbers (999996 + 1 + 1) 56 [.ref m, .ref r, .int (nI k)] [] g = some (.inl none, g) := fun g => by
        rw [zX10_numbers_56]
        unfold kX10_numbers_56
        rw [if_pos (show ¬ nI k = 3 by rw [k3, nI_eq (by omega) (by decide)]; omega), zX10_numbers_71]
        unfold kX10_numbers_71
        rw [if_pos (show ¬ nI k = 4 by rw [k4, nI_eq (by omega) (by decide)]; omega), if_pos (show ¬ nI k = 7 by rw [k7, nI_eq (by omega) (by decide)]; omega)]
      by_cases e2 : k = 2
      · obtain ⟨z3, h3, c1, c2, c3, c4, c5, c6⟩ := ms_put b4 (i := 3) hr (lo := 0) (hi := 11) (by decide) (by decide)
        have c1 : fX10_number m 0 11 (h2.1, upI h2.2 r 2 z2) = _ := c1
        have D2 : h3.1 = h.1 := c2.trans C2
        rw [if_neg (fun w => w (by rw [e2]; rfl)), if_pos (KM C2), c1, bI_s, if_pos (K D2), L D2, if_pos i3, n56, if_pos e2]
        refine ⟨_, rfl, (a3.trans b3).trans c3, by rw [c5, if_neg (by decide)]; exact r0, c4, fun o => ⟨fun _ => ?_, fun _ => ?_, fun _ => ?_⟩⟩
        · rw [c5, if_neg (by decide), r1]
          exact a6 (ok_pS (ok_pS o))
        · rw [c5, if_neg (by decide), r2]
          exact b6 (ok_pS o)
        · rw [c5, if_pos rfl]
          exact c6 o
      · rw [if_pos (show ¬ nI k = 2 by rw [k2, nI_eq (by omega) (by decide)]; exact e2), n56, if_neg e2]
        refine ⟨_, rfl, a3.trans b3, r0, b4, fun o => ⟨fun _ => ?_, fun _ => ?_, fun w => by omega⟩⟩
        · rw [r1]
          exact a6 (ok_pS o)
        · rw [r2]
          exact b6 o
    · have st : (if nI k < 3 then (if kH (h1.1, upI h1.2 r 1 z) m = 18 then (bI (fX10_number m 1 99 (h1.1, upI h1.2 r 1 z)) fun z3 h2 => (if kH h2 r = 1 then (if inB 2 (lH h2 r) = true then (gX10_numbers (999996 + 1 + 1 + 1) 41 [.ref m, .ref r, .int (nI k)] [] (h2.1, (upI h2.2 r 2 z3))) else none) else none)) else none) else (if ¬ nI k = 6 then gX10_numbers (999996 + 1 + 1 + 1) 41 [.ref m, .ref r, .int (nI k)] [] (h1.1, upI h1.2 r 1 z) else (if kH (h1.1, upI h1.2 r 1 z) m = 18 then (bI (fX10_number m 1 99 (h1.1, upI h1.2 r 1 z)) fun z10 h9 => (if kH h9 r = 1 then (if inB 2 (lH h9 r) = true then (gX10_numbers (999996 + 1 + 1 + 1) 41 [.ref m, .ref r, .int (nI k)] [] (h9.1, (upI h9.2 r 2 z10))) else none) else none)) else none))) = gX10_numbers (999996 + 1 + 1 + 1) 41 [.ref m, .ref r, .int (nI k)] [] (h1.1, upI h1.2 r 1 z) := by
        rw [n36, if_neg (by rw [k3, nI_ltI (by omega) (by decide)]; omega), if_pos (show ¬ k = 6 by omega)]
      rw [st, zX10_numbers_41]
      unfold kX10_numbers_41
      rw [if_pos (show ¬ nI k = 2 by rw [k2, nI_eq (by omega) (by decide)]; omega), zX10_numbers_56]
      unfold kX10_numbers_56 nums
      rw [if_neg q3]
      have r1 : (h1.1, upI h1.2 r 1 z).2 r 1 = z := by rw [a5, if_pos rfl]
      have r0 : (h1.1, upI h1.2 r 1 z).2 r 0 = nI k := by rw [a5, if_neg (by decide)]; exact h0
      by_cases e3 : k = 3
      · obtain ⟨z2, h2, b1, b2, b3, b4, b5, b6⟩ := ms_put a4 (i := 2) hr (lo := 0) (hi := 99) (by decide) (by decide)
        have b1 : fX10_number m 0 99 (h1.1, upI h1.2 r 1 z) = _ := b1
        have B2 : h2.1 = h.1 := b2.trans A2
        rw [if_neg (fun w => w (by rw [e3]; rfl)), if_pos (KM A2), b1, bI_s, if_pos (K B2), L B2, if_pos i2, zX10_numbers_71]
        unfold kX10_numbers_71
        rw [if_pos (show ¬ nI k = 4 by rw [k4, nI_eq (by omega) (by decide)]; omega), if_pos (show ¬ nI k = 7 by rw [k7, nI_eq (by omega) (by decide)]; omega), if_pos e3]
        refine ⟨_, rfl, a3.trans b3, by rw [b5, if_neg (by decide)]; exact r0, b4, fun o => ⟨fun _ => ?_, fun _ => ?_, fun w => by omega⟩⟩
        · rw [b5, if_neg (by decide), r1]
          exact a6 (ok_pS o)
        · rw [b5, if_pos rfl]
          exact b6 o
      · rw [if_pos (show ¬ nI k = 3 by rw [k3, nI_eq (by omega) (by decide)]; exact e3), zX10_numbers_71]
        unfold kX10_numbers_71
        rw [if_neg e3]
        by_cases e4 : k = 4
        · obtain ⟨z2, h2, b1, b2, b3, b4, b5, b6⟩ := ms_put a4 (i := 2) hr (lo := 0) (hi := 31) (by decide) (by decide)
          have b1 : fX10_number m 0 31 (h1.1, upI h1.2 r 1 z) = _ := b1
          have B2 : h2.1 = h.1 := b2.trans A2
          have C2 : (h2.1, upI h2.2 r 2 z2).1 = h.1 := B2
          obtain ⟨z3, h3, c1, c2, c3, c4, c5, c6⟩ := ms_put b4 (i := 3) hr (lo := 0) (hi := 99) (by decide) (by decide)
          have c1 : fX10_number m 0 99 (h2.1, upI h2.2 r 2 z2) = _ := c1
          have D2 : h3.1 = h.1 := c2.trans C2
          rw [if_neg (fun w => w (by rw [e4]; rfl)), if_pos (KM A2), b1, bI_s, if_pos (K B2), L B2, if_pos i2, if_pos (KM B2), c1, bI_s, if_pos (K D2), L D2, if_pos i3, if_pos (show ¬ nI k = 7 by rw [k7, nI_eq (by omega) (by decide)]; omega), if_pos e4]
          refine ⟨_, rfl, (a3.trans b3).trans c3, by rw [c5, if_neg (by decide), b5, if_neg (by decide)]; exact r0, c4, fun o => ⟨fun _ => ?_, fun _ => ?_, fun _ => ?_⟩⟩
          · rw [c5, if_neg (by decide), b5, if_neg (by decide), r1]
            exact a6 (ok_pS (ok_pS o))
          · rw [c5, if_neg (by decide), b5, if_pos rfl]
            exact b6 (ok_pS o)
          · rw [c5, if_pos rfl]
            exact c6 o
        · rw [if_pos (show ¬ nI k = 4 by rw [k4, nI_eq (by omega) (by decide)]; exact e4), if_pos (show ¬ nI k = 7 by rw [k7, nI_eq (by omega) (by decide)]; omega), if_neg e4, if_pos (show k = 5 by omega)]
          refine ⟨_, rfl, a3, r0, a4, fun o => ⟨fun _ => ?_, fun w => by omega, fun w => by omega⟩⟩
          rw [r1]
          exact a6 o
end RD
