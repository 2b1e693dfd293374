/-! ===== the abstract store: DISK, the changes, what is put off; MEMORY is DISK with all changes ===== -/
/-- number, block, place (16: all), value, four needs -/
abbrev Ch : Type := Nat × Nat × Nat × Nat × Int × Int × Int × Int
abbrev cI (c : Ch) : Nat := c.1
abbrev cB (c : Ch) : Nat := c.2.1
abbrev cP (c : Ch) : Nat := c.2.2.1
abbrev cV (c : Ch) : Nat := c.2.2.2.1
abbrev c1 (c : Ch) : Int := c.2.2.2.2.1
abbrev c2 (c : Ch) : Int := c.2.2.2.2.2.1
abbrev c3 (c : Ch) : Int := c.2.2.2.2.2.2.1
abbrev c4 (c : Ch) : Int := c.2.2.2.2.2.2.2
/-- what (0 a block, 1 a node), of which, until which change -/
abbrev La : Type := Nat × Nat × Nat
/-- DISK, changes, put off, made, and writes, held back, crashes -/
abbrev St : Type := (Nat → Nat) × List Ch × List La × Nat × Int32 × Int32 × Int32
abbrev sD (S : St) : Nat → Nat := S.1
abbrev sC (S : St) : List Ch := S.2.1
abbrev sL (S : St) : List La := S.2.2.1
abbrev sM (S : St) : Nat := S.2.2.2.1
abbrev sW (S : St) : Int32 := S.2.2.2.2.1
abbrev sH (S : St) : Int32 := S.2.2.2.2.2.1
abbrev sK (S : St) : Int32 := S.2.2.2.2.2.2
/-- a change touches a byte -/
def tch (c : Ch) (x : Nat) : Bool := cB c == x / 16 && (cP c == 16 || cP c == x % 16)
/-- a byte, behind some changes -/
def vA (d : Nat → Nat) (l : List Ch) (x : Nat) : Nat := l.foldl (fun v c => if tch c x then cV c else v) (d x)
def mm (S : St) (x : Nat) : Nat := vA (sD S) (sC S) x
/-- the byte on one of the two sides -/
def sd (S : St) (w x : Nat) : Nat := if w = 0 then mm S x else sD S x
theorem vA_nil (d : Nat → Nat) (x : Nat) : vA d [] x = d x := rfl
theorem vA_app (d : Nat → Nat) (l m : List Ch) (x : Nat) : vA d (l ++ m) x = vA (vA d l) m x := by unfold vA; rw [List.foldl_append]
theorem vA_one (d : Nat → Nat) (c : Ch) (x : Nat) : vA d [c] x = if tch c x then cV c else d x := rfl
theorem vA_cons (d : Nat → Nat) (c : Ch) (l : List Ch) (x : Nat) : vA d (c :: l) x = vA (vA d [c]) l x := vA_app d [c] l x
def chB (M : Nat) (c : Ch) : Prop := 1 ≤ cI c ∧ cI c ≤ M ∧ cB c < 16 ∧ cP c ≤ 16 ∧ cV c < 128 ∧ (∀ n ∈ [c1 c, c2 c, c3 c, c4 c], -16 < n ∧ n < cI c)
/-- 4294967295: it is done -/
def laB (M : Nat) (e : La) : Prop := e.1 ≤ 1 ∧ e.2.1 < 16 ∧ 1 ≤ e.2.2 ∧ (e.2.2 ≤ M ∨ e.2.2 = 4294967295)
/-- bounds -/
def Bd (S : St) : Prop := (sC S).length ≤ 200 ∧ (sL S).length ≤ 160 ∧ sM S < 2 ^ 31 ∧ (∀ x, sD S x < 128) ∧ (∀ c ∈ sC S, chB (sM S) c) ∧ (∀ e ∈ sL S, laB (sM S) e) ∧ (sC S).Pairwise (fun a b => cI a < cI b)
theorem vA_lt {d : Nat → Nat} {l : List Ch} {N : Nat} (hd : ∀ x, d x < N) (hl : ∀ c ∈ l, cV c < N) (x : Nat) : vA d l x < N := by
  induction l generalizing d with
  | nil => exact hd x
  | cons c l ih =>
    rw [vA_cons]
    refine ih (fun y => ?_) (fun e he => hl e (List.mem_cons_of_mem _ he))
    rw [vA_one]
    split
    · exact hl c List.mem_cons_self
    · exact hd y
theorem bd_mm {S : St} (b : Bd S) (x : Nat) : mm S x < 128 := vA_lt b.2.2.2.1 (fun c hc => (b.2.2.2.2.1 c hc).2.2.2.2.1) x
theorem bd_sd {S : St} (b : Bd S) (w x : Nat) : sd S w x < 128 := by
  unfold sd
  split
  · exact bd_mm b x
  · exact b.2.2.2.1 x
theorem tch_iff {c : Ch} {x : Nat} : tch c x = true ↔ cB c = x / 16 ∧ (cP c = 16 ∨ cP c = x % 16) := by simp [tch]
theorem kh_eq {h h' : Hp} (e : h'.1 = h.1) (r : Nat) : kH h' r = kH h r := by show h'.1.2.2.1 r = h.1.2.2.1 r; rw [e]
theorem lh_eq {h h' : Hp} (e : h'.1 = h.1) (r : Nat) : lH h' r = lH h r := by show h'.1.2.2.2.1 r = h.1.2.2.2.1 r; rw [e]
theorem rh_eq {h h' : Hp} (e : h'.1 = h.1) (r k : Nat) : rH h' r k = rH h r k := by show h'.1.2.2.2.2 r k = h.1.2.2.2.2 r k; rw [e]
theorem nh_eq {h h' : Hp} (e : h'.1 = h.1) : nH h' = nH h := by show h'.1.1 = h.1.1; rw [e]
theorem zh_eq {h h' : Hp} (e : h'.1 = h.1) : zH h' = zH h := by show h'.1.2.1 = h.1.2.1; rw [e]
