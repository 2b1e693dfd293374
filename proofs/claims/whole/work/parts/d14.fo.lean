/-! ===== the steps of a text: what is read, and the reference's reading of it ===== -/
/-- a step: its number, three numbers, how many steps its brackets hold; an again is followed by these -/
abbrev Ro : Type := Nat × Nat × Nat × Nat × Nat
abbrev Fo : Type := List Ro
def fsz (F : Fo) : Nat := F.length
abbrev Nd : Type := (Nat × Nat × Nat × Nat) ⊕ (Nat × Fo)
def fco (d : Nd) (r : Fo) : Fo := match d with
  | .inl v => (v.1, v.2.1, v.2.2.1, v.2.2.2, 0) :: r
  | .inr v => (11, v.1, 0, 0, fsz v.2) :: (v.2 ++ r)
def nsz (d : Nd) : Nat := match d with
  | .inl _ => 1
  | .inr v => 1 + fsz v.2
theorem fsz_co (d : Nd) (r : Fo) : fsz (fco d r) = nsz d + fsz r := by
  cases d with
  | inl v =>
    show ((v.1, v.2.1, v.2.2.1, v.2.2.2, 0) :: r : Fo).length = 1 + r.length
    rw [List.length_cons]
    omega
  | inr v =>
    show ((11, v.1, 0, 0, fsz v.2) :: (v.2 ++ r) : Fo).length = 1 + v.2.length + r.length
    rw [List.length_cons, List.length_append]
    omega
/-- the word of a step: its number (the reference's), and the place behind it -/
def hdW (T : Nat → Nat) (n d p : Nat) : (Nat × Nat) ⊕ Ft := match kwd (lts T n p) with
  | none => .inr (1, p)
  | some w => if w = 12 then .inr (1, p) else if w = 11 ∧ d = 6 then .inr (3, p) else .inl (rop w, p + (lts T n p).length)
/-- one step, B reads what is between the brackets of an again -/
def pOne (T : Nat → Nat) (n d : Nat) (B : Nat → (Fo × Nat) ⊕ Ft) (p : Nat) : (Nd × Nat) ⊕ Ft := match hdW T n d p with
  | .inr e => .inr e
  | .inl (k, q) => if k = 11 then (match gS T n 91 (pS T n 0 60 (.inl q)).2 with
      | .inr e => .inr e
      | .inl q2 => match B q2 with
        | .inr e => .inr e
        | .inl (F, q3) => match pSig T n 59 (q3 + 1) with
          | .inr e => .inr e
          | .inl q4 => .inl (.inr ((pS T n 0 60 (.inl q)).1, F), q4))
    else (match gS T n 59 (nums T n k (.inl q)).2 with
      | .inr e => .inr e
      | .inl q2 => .inl (.inl (k, (nums T n k (.inl q)).1), q2))
/-- is it over here -/
def ovr (T : Nat → Nat) (n d q : Nat) : Bool := decide ((d = 0 ∧ n ≤ q) ∨ (0 < d ∧ q < n ∧ T q = 93))
def pFo (T : Nat → Nat) (n : Nat) : Nat → Nat → Nat → (Fo × Nat) ⊕ Ft
  | 0, _, p => .inr (1, p)
  | f + 1, d, p => if ovr T n d (bk T n p) = true then .inl ([], bk T n p) else match pOne T n d (pFo T n f (d + 1)) (bk T n p) with
    | .inr e => .inr e
    | .inl (x, q) => match pFo T n f d q with
      | .inr e => .inr e
      | .inl (r, q2) => .inl (fco x r, q2)
/-! rows of the reference -/
def rwT (h : Hp) (m i k : Nat) (v : Nat × Nat × Nat) (e : Nat) : Prop := h.2 (m + 38 + i) 0 = nI k ∧ rwA h (m + 38 + i) k v ∧ h.2 (m + 38 + i) 4 = nI e
def LayR (h : Hp) (m i : Nat) (F : Fo) : Prop := ∀ (j : Nat) (v : Ro), F[j]? = some v → rwT h m (i + j) v.1 (v.2.1, v.2.2.1, v.2.2.2.1) (i + j + 1 + v.2.2.2.2)
def LayN (h : Hp) (m i : Nat) (d : Nd) : Prop := match d with
  | .inl v => rwT h m i v.1 v.2 (i + 1)
  | .inr v => rwT h m i 11 (v.1, 0, 0) (i + 1 + fsz v.2) ∧ LayR h m (i + 1) v.2
theorem rwT.cg {h h' : Hp} {m i k e : Nat} {v : Nat × Nat × Nat} (R : rwT h m i k v e) (q : h'.2 (m + 38 + i) = h.2 (m + 38 + i)) : rwT h' m i k v e := by
  unfold rwT rwA at R ⊢
  rw [q]
  exact R
theorem LayR.cg {h h' : Hp} {m : Nat} (F : Fo) (i : Nat) (R : LayR h m i F) (q : ∀ a, m + 38 + i ≤ a → a < m + 38 + i + fsz F → h'.2 a = h.2 a) : LayR h' m i F := fun j v hv => by
  have hj : j < F.length := (List.getElem?_eq_some_iff.mp hv).1
  exact (R j v hv).cg (q _ (by omega) (by unfold fsz; omega))
theorem LayN.cg {h h' : Hp} {m i : Nat} {d : Nd} (R : LayN h m i d) (q : ∀ a, m + 38 + i ≤ a → a < m + 38 + i + nsz d → h'.2 a = h.2 a) : LayN h' m i d := by
  cases d with
  | inl v => exact rwT.cg R (q _ (by omega) (by show _ < _ + 1; omega))
  | inr v =>
    have e : nsz (.inr v) = 1 + fsz v.2 := rfl
    rw [e] at q
    exact ⟨R.1.cg (q _ (by omega) (by omega)), LayR.cg v.2 (i + 1) R.2 (fun y h1 h2 => q y (by omega) (by omega))⟩
theorem LayN.co {h : Hp} {m i : Nat} {d : Nd} {r : Fo} (R : LayN h m i d) (Q : LayR h m (i + nsz d) r) : LayR h m i (fco d r) := by
  cases d with
  | inl v =>
    intro j w hw
    have hw : ((v.1, v.2.1, v.2.2.1, v.2.2.2, 0) :: r : Fo)[j]? = some w := hw
    cases j with
    | zero =>
      rw [List.getElem?_cons_zero] at hw
      injection hw with hw
      rw [← hw]
      exact R
    | succ j =>
      rw [List.getElem?_cons_succ] at hw
      have := Q j w hw
      have e : i + nsz (.inl v) + j = i + (j + 1) := by show i + 1 + j = _; omega
      rw [e] at this
      exact this
  | inr v =>
    intro j w hw
    have hw : ((11, v.1, 0, 0, fsz v.2) :: (v.2 ++ r) : Fo)[j]? = some w := hw
    cases j with
    | zero =>
      rw [List.getElem?_cons_zero] at hw
      injection hw with hw
      rw [← hw]
      exact R.1
    | succ j =>
      rw [List.getElem?_cons_succ] at hw
      by_cases e : j < v.2.length
      · rw [List.getElem?_append_left e] at hw
        have := R.2 j w hw
        rw [show i + 1 + j = i + (j + 1) by omega] at this
        exact this
      · rw [List.getElem?_append_right (by omega)] at hw
        have := Q (j - v.2.length) w hw
        have e2 : i + nsz (.inr v) + (j - v.2.length) = i + (j + 1) := by show i + (1 + v.2.length) + _ = _; omega
        rw [e2] at this
        exact this
/-- what reading a step may change -/
def Fq (h h' : Hp) (m i : Nat) : Prop := h'.1 = h.1 ∧ (∀ a, a ≠ m → a < m + 38 + i ∨ m + 118 ≤ a → h'.2 a = h.2 a) ∧ (∀ j, j ≠ 4 → j ≠ 5 → j ≠ 6 → j ≠ 8 → j ≠ 18 → h'.2 m j = h.2 m j)
theorem Fq.refl (h : Hp) (m i : Nat) : Fq h h m i := ⟨rfl, fun _ _ _ => rfl, fun _ _ _ _ _ _ => rfl⟩
theorem Fq.trans {h h1 h2 : Hp} {m i j : Nat} (a : Fq h h1 m i) (b : Fq h1 h2 m j) (hij : i ≤ j) : Fq h h2 m i := ⟨b.1.trans a.1, fun y q1 q2 => by rw [b.2.1 y q1 (by omega), a.2.1 y q1 q2], fun k q1 q2 q3 q4 q5 => by rw [b.2.2 k q1 q2 q3 q4 q5, a.2.2 k q1 q2 q3 q4 q5]⟩
theorem Frx.q {h h' : Hp} {m : Nat} (i : Nat) (f : Frx h h' m) : Fq h h' m i := ⟨f.1, fun a q _ => f.2.1 a q, fun j q1 q2 q3 _ _ => f.2.2 j q1 q2 q3⟩
theorem Frr.q {h h' : Hp} {m i : Nat} (hi : i < 80) (f : Frr h h' m (m + 38 + i)) : Fq h h' m i := ⟨f.1, fun a q1 q2 => f.2.1 a q1 (by omega), fun j q1 q2 q3 _ _ => f.2.2 j q1 q2 q3⟩
theorem fq_8 (h : Hp) (m i : Nat) (v : Int32) : Fq h (h.1, upI h.2 m 8 v) m i := ⟨rfl, fun a q _ => upI_ne q, fun j _ _ _ q _ => by show upI _ _ _ _ m j = _; rw [upI_at, if_neg q]⟩
theorem fq_r {h : Hp} {m i : Nat} (hi : i < 80) (j : Nat) (v : Int32) : Fq h (h.1, upI h.2 (m + 38 + i) j v) m i := ⟨rfl, fun a q1 q2 => upI_ne (by omega), fun j _ _ _ _ _ => by show upI _ _ _ _ m j = _; rw [upI_ne (by omega)]⟩
section RS1
variable {h h' : Hp} {m n p i d : Nat} {T : Nat → Nat} {s : Rd}
theorem RX.fq (X : RX h m T n) (f : Fq h h' m i) : RX h' m T n := ⟨X.1.eq f.1, (f.2.2 2 (by decide) (by decide) (by decide) (by decide) (by decide)).trans X.2.1, X.2.2.1, fun k hk => by rw [f.2.1 (m + 1) (by omega) (by omega)]; exact X.2.2.2.1 k hk, X.2.2.2.2⟩
/-- the same with the reader's place and fault as they were -/
theorem RSt.fq (X : RSt h m T n s) (f : Fq h h' m i) (e4 : h'.2 m 4 = h.2 m 4) (e5 : h'.2 m 5 = h.2 m 5) (e6 : h'.2 m 6 = h.2 m 6) : RSt h' m T n s := by
  cases s with
  | inl p =>
    have X : RP h m T n p := X
    exact ⟨X.1.fq f, by rw [e4]; exact X.2.1, by rw [e5]; exact X.2.2.1, X.2.2.2⟩
  | inr e => exact ⟨X.1.fq f, ⟨X.2.1.1, by rw [e5]; exact X.2.1.2.1, by rw [e6]; exact X.2.1.2.2.1, by rw [e4]; exact X.2.1.2.2.2⟩, X.2.2⟩
theorem MS.stepRow {h : Hp} {m : Nat} (M : MS h m) {k : Nat} (hk : k < 80) : rH h m 21 = m + 37 ∧ kH h (m + 37) = 7 ∧ lH h (m + 37) = 80 ∧ rH h (m + 37) k = m + 38 + k ∧ kH h (m + 38 + k) = 1 ∧ lH h (m + 38 + k) = 5 := by
  obtain ⟨⟨a1, a2, a3⟩, a4⟩ := M.stp
  obtain ⟨b1, b2, b3⟩ := a4 k hk
  rw [show m + 37 + 1 + k = m + 38 + k by omega] at b1 b2 b3
  exact ⟨a1, a2, a3, b1, b2, b3⟩
/-- what a step leaves -/
def outS (h h' : Hp) (m : Nat) (T : Nat → Nat) (n d i : Nat) (o : (Nd × Nat) ⊕ Ft) : Prop := Fq h h' m i ∧ match o with
  | .inr e => RX h' m T n ∧ RE h' m e ∧ e.2 ≤ n
  | .inl v => RP h' m T n v.2 ∧ h'.2 m 18 = nI (i + nsz v.1) ∧ h'.2 m 8 = nI d ∧ LayN h' m i v.1
/-- what the steps between brackets leave, behind the bracket -/
def outB (h h' : Hp) (m : Nat) (T : Nat → Nat) (n d i : Nat) (o : (Fo × Nat) ⊕ Ft) : Prop := Fq h h' m i ∧ match o with
  | .inr e => RX h' m T n ∧ RE h' m e ∧ e.2 ≤ n
  | .inl v => RP h' m T n (v.2 + 1) ∧ h'.2 m 18 = nI (i + fsz v.1) ∧ h'.2 m 8 = nI d ∧ LayR h' m i v.1
theorem rop_tab : ∀ w : Fin 13, rop w.1 ≤ 12 ∧ (rop w.1 = 11 ↔ w.1 = 11) ∧ (rop w.1 = 12 ↔ w.1 = 12) := by decide +kernel
theorem kwd_lt {l : List Nat} {w : Nat} (h : kwd l = some w) : w < 13 ∧ l = Wd.getD w [] := by
  unfold kwd at h
  have h1 := List.mem_of_find?_eq_some h
  have h2 := List.find?_some h
  exact ⟨List.mem_range.mp h1, of_decide_eq_true h2⟩
end RS1
