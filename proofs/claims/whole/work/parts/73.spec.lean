/-! ===== the abstract store's steps ===== -/
def fd (B : Nat → Nat) (n f : Nat) : Nat := B (16 + 4 * n + f)
def isK (B : Nat → Nat) (n t : Nat) : Bool := decide (0 < fd B n 0) && fd B n 1 == t
def eb (b : Nat) : List Nat := if b = 0 then [] else (List.range 8).map (fun j => 16 * b + 2 * j)
/-- where the entries of a directory are -/
def ents (B : Nat → Nat) (n : Nat) : List Nat := eb (fd B n 2) ++ eb (fd B n 3)
def fent (B : Nat → Nat) (n name : Nat) : Option Nat := (ents B n).find? (fun e => B e == name)
def same (S : St) (b p v : Nat) : Bool := if p = 16 then (List.range 16).all (fun i => mm S (16 * b + i) == v) else mm S (16 * b + p) == v
def mk (S : St) (b p v : Nat) (n1 n2 n3 n4 : Int) : St := if same S b p v then S else (sD S, sC S ++ [(sM S + 1, b, p, v, n1, n2, n3, n4)], sL S, sM S + 1, sW S, sH S, sK S)
def mkI (S : St) (b p v : Nat) : Nat := if same S b p v then 0 else sM S + 1
def mkF (S : St) (n f v : Nat) (n1 n2 : Int) : St := mk S (1 + n / 4) (4 * (n % 4) + f) v n1 n2 0 0
def mkFI (S : St) (n f v : Nat) : Nat := mkI S (1 + n / 4) (4 * (n % 4) + f) v
def putO (S : St) (what of until_ : Nat) : St := (sD S, sC S, sL S ++ [(what, of, until_)], sM S, sW S, sH S, sK S)
def dirt (S : St) (b : Nat) : Bool := (sC S).any (fun c => cB c == b)
/-- one need is met: of a block all (below 0), or of a change -/
def okN (c : Ch) (old : List (Ch × Bool)) (n : Int) : Bool := old.all (fun e => !(decide (n < 0) && decide ((cB e.1 : Int) = -n)) && !(decide ((cI e.1 : Int) = n) && !(cB e.1 == cB c && e.2)))
def mayG (c : Ch) (old : List (Ch × Bool)) : Bool := okN c old (c1 c) && okN c old (c2 c) && okN c old (c3 c) && okN c old (c4 c) && old.all (fun e => !(cB e.1 == cB c) || e.2 || !(cP e.1 == 16 || cP c == 16 || cP c == cP e.1))
def goF (b : Nat) (acc : List (Ch × Bool)) (c : Ch) : List (Ch × Bool) := acc ++ [(c, cB c == b && mayG c acc)]
/-- which changes go with a block -/
def goes (b : Nat) (l : List Ch) : List (Ch × Bool) := l.foldl (goF b) []
def gone (g : List (Ch × Bool)) : List Ch := (g.filter (fun q => q.2)).map Prod.fst
def held (g : List (Ch × Bool)) : List Ch := (g.filter (fun q => !q.2)).map Prod.fst
def zer (S : St) (n f : Nat) : St := if fd (mm S) n f = 0 then S else putO (mkF S n f 0 0 0) 0 (fd (mm S) n f) (mkFI S n f 0)
def empt (S : St) (n : Nat) : St := zer (zer (mkF S n 1 0 0 0) n 2) n 3
def setL (S : St) (n k : Nat) : St := if k = 0 then empt (mkF S n 0 k 0 0) n else mkF S n 0 k 0 0
def less (S : St) (n : Nat) : St := if fd (mm S) n 0 = 0 then S else setL S n (fd (mm S) n 0 - 1)
def dol (S : St) (e : La) : St := if e.1 = 0 then mk S 0 e.2.1 0 0 0 0 0 else less S e.2.1
def isDue (G : List Ch) (e : La) : Bool := G.any (fun c => cI c == e.2.2)
def wr (S : St) (b : Nat) : St :=
  ((sL S).filter (isDue (gone (goes b (sC S))))).foldl dol
    (vA (sD S) (gone (goes b (sC S))), held (goes b (sC S)), (sL S).filter (fun e => !isDue (gone (goes b (sC S))) e), sM S, sW S + 1, sH S + nI ((held (goes b (sC S))).filter (fun c => cB c == b)).length, sK S)
def wrs (S : St) (b : Nat) : St := if dirt S b then wr S b else S
/-! what goes: pure facts -/
theorem goes_snoc (b : Nat) (l : List Ch) (c : Ch) : goes b (l ++ [c]) = goes b l ++ [(c, cB c == b && mayG c (goes b l))] := by
  unfold goes
  rw [List.foldl_append]
  rfl
theorem snoc_ind {α : Type} {P : List α → Prop} (h0 : P []) (hs : ∀ l x, P l → P (l ++ [x])) (l : List α) : P l := by
  have h : ∀ r : List α, P r.reverse := fun r => by
    induction r with
    | nil => exact h0
    | cons x r ih => rw [List.reverse_cons]; exact hs _ _ ih
  have := h l.reverse
  rwa [List.reverse_reverse] at this
theorem goes_fst (b : Nat) (l : List Ch) : (goes b l).map Prod.fst = l := by
  refine snoc_ind (P := fun l => (goes b l).map Prod.fst = l) rfl (fun l c ih => ?_) l
  rw [goes_snoc, List.map_append, ih]
  rfl
theorem goes_len (b : Nat) (l : List Ch) : (goes b l).length = l.length := by
  have := congrArg List.length (goes_fst b l)
  rwa [List.length_map] at this
/-- none that is held back shares a byte with a later one that goes -/
def apart (p q : Ch × Bool) : Prop := p.2 = false → q.2 = true → ∀ x, tch p.1 x = true → tch q.1 x = true → False
theorem goes_mem {b : Nat} {l : List Ch} {q : Ch × Bool} (h : q ∈ goes b l) : q.1 ∈ l := by
  have := List.mem_map_of_mem (f := Prod.fst) h
  rwa [goes_fst] at this
theorem goes_blk (b : Nat) (l : List Ch) : ∀ q ∈ goes b l, q.2 = true → cB q.1 = b := by
  refine snoc_ind (P := fun l => ∀ q ∈ goes b l, q.2 = true → cB q.1 = b) (fun q hq => nomatch hq) (fun l c ih q hq hg => ?_) l
  rw [goes_snoc] at hq
  rcases List.mem_append.mp hq with h | h
  · exact ih q h hg
  · rw [List.mem_singleton] at h
    subst h
    simp only [Bool.and_eq_true, beq_iff_eq] at hg
    exact hg.1
theorem goes_apart (b : Nat) (l : List Ch) : (goes b l).Pairwise apart := by
  refine snoc_ind (P := fun l => (goes b l).Pairwise apart) List.Pairwise.nil (fun l c ih => ?_) l
  rw [goes_snoc]
  refine List.pairwise_append.mpr ⟨ih, List.pairwise_singleton _ _, fun p hp q hq hpf hqt x hx hy => ?_⟩
  rw [List.mem_singleton] at hq
  subst hq
  simp only [Bool.and_eq_true, beq_iff_eq] at hqt
  obtain ⟨h1, h2⟩ := hqt
  unfold mayG at h2
  simp only [Bool.and_eq_true] at h2
  have h3 := List.all_eq_true.mp h2.2 p hp
  simp only [tch, Bool.and_eq_true, Bool.or_eq_true, beq_iff_eq] at hx hy
  simp only [hpf, Bool.or_false, Bool.or_eq_true, Bool.not_eq_true', Bool.or_eq_false_iff, beq_eq_false_iff_ne] at h3
  rcases h3 with h3 | h3
  · exact h3 (by rw [hx.1, hy.1])
  · obtain ⟨⟨e1, e2⟩, e3⟩ := h3
    rcases hx.2 with q | q
    · exact e1 q
    · rcases hy.2 with q2 | q2
      · exact e2 q2
      · exact e3 (by rw [q, q2])
theorem vA_congr {d d' : Nat → Nat} {x : Nat} (h : d x = d' x) (l : List Ch) : vA d l x = vA d' l x := by unfold vA; rw [h]
theorem vA_no {d : Nat → Nat} {l : List Ch} {x : Nat} (h : ∀ c ∈ l, tch c x = false) : vA d l x = d x := by
  induction l generalizing d with
  | nil => rfl
  | cons c l ih =>
    rw [vA_cons, ih (fun e he => h e (List.mem_cons_of_mem _ he)), vA_one, h c List.mem_cons_self]
    rfl
theorem gone_mem {g : List (Ch × Bool)} {c : Ch} : c ∈ gone g ↔ (c, true) ∈ g := by
  unfold gone
  rw [List.mem_map]
  constructor
  · rintro ⟨⟨a, f⟩, h, rfl⟩
    have h2 := List.mem_filter.mp h
    have : f = true := h2.2
    subst this
    exact h2.1
  · intro h
    exact ⟨(c, true), List.mem_filter.mpr ⟨h, rfl⟩, rfl⟩
theorem held_mem {g : List (Ch × Bool)} {c : Ch} : c ∈ held g ↔ (c, false) ∈ g := by
  unfold held
  rw [List.mem_map]
  constructor
  · rintro ⟨⟨a, f⟩, h, rfl⟩
    have h2 := List.mem_filter.mp h
    have : f = false := by cases f; rfl; exact absurd h2.2 (by simp)
    subst this
    exact h2.1
  · intro h
    exact ⟨(c, false), List.mem_filter.mpr ⟨h, rfl⟩, rfl⟩
theorem gone_cons (q : Ch × Bool) (g : List (Ch × Bool)) : gone (q :: g) = if q.2 then q.1 :: gone g else gone g := by
  unfold gone
  rw [List.filter_cons]
  split <;> rfl
theorem held_cons (q : Ch × Bool) (g : List (Ch × Bool)) : held (q :: g) = if q.2 then held g else q.1 :: held g := by
  unfold held
  rw [List.filter_cons]
  cases q.2 <;> rfl
theorem gone_app (g k : List (Ch × Bool)) : gone (g ++ k) = gone g ++ gone k := by simp [gone]
theorem held_app (g k : List (Ch × Bool)) : held (g ++ k) = held g ++ held k := by simp [held]
/-- what went first, then what was held: all is as it was -/
theorem vA_split {g : List (Ch × Bool)} (hp : g.Pairwise apart) (d : Nat → Nat) (x : Nat) : vA (vA d (gone g)) (held g) x = vA d (g.map Prod.fst) x := by
  induction g generalizing d with
  | nil => rfl
  | cons q g ih =>
    obtain ⟨c, f⟩ := q
    rw [List.pairwise_cons] at hp
    have ih := ih hp.2 (vA d [c])
    rw [gone_cons, held_cons, List.map_cons, vA_cons d c]
    cases f with
    | true =>
      simp only [if_true]
      rw [← ih]
      exact vA_congr (by rw [vA_cons]) _
    | false =>
      simp only [Bool.false_eq_true, if_false]
      rw [vA_cons, ← ih]
      refine vA_congr ?_ _
      rw [vA_one]
      by_cases e : tch c x = true
      · rw [if_pos e]
        have h0 : ∀ e' ∈ gone g, tch e' x = false := fun e' he => by
          have h1 := hp.1 _ (gone_mem.mp he) rfl rfl x e
          cases h2 : tch e' x
          · rfl
          · exact absurd h2 (fun q => h1 q)
        rw [vA_no h0, vA_one, if_pos e]
      · rw [if_neg e]
        exact vA_congr (by rw [vA_one, if_neg e]) _
/-- the value of a byte rolled back -/
def rb (d : Nat → Nat) (x : Nat) : List Ch → List (Ch × Bool) → Nat → Nat
  | _, [], v => v
  | P, q :: t, v => if !q.2 && tch q.1 x then vA d P x else rb d x (P ++ [q.1]) t v
theorem rb_eq (d : Nat → Nat) (x : Nat) : ∀ (g : List (Ch × Bool)) (P : List Ch), g.Pairwise apart → rb d x P g (vA d (P ++ g.map Prod.fst) x) = vA (vA d P) (gone g) x := by
  intro g
  induction g with
  | nil => intro P _; simp [rb, gone, vA_nil]
  | cons q g ih =>
    intro P hp
    obtain ⟨c, f⟩ := q
    rw [List.pairwise_cons] at hp
    have ih := ih (P ++ [c]) hp.2
    unfold rb
    rw [gone_cons, List.map_cons]
    rw [show P ++ c :: g.map Prod.fst = (P ++ [c]) ++ g.map Prod.fst by simp, ih]
    cases f with
    | true =>
      simp only [Bool.not_true, Bool.false_and, Bool.false_eq_true, if_false, if_true]
      rw [vA_cons]
      exact vA_congr (by rw [vA_app]) _
    | false =>
      simp only [Bool.not_false, Bool.true_and, Bool.false_eq_true, if_false]
      by_cases e : tch c x = true
      · rw [if_pos e]
        have h0 : ∀ e' ∈ gone g, tch e' x = false := fun e' he => by
          have h1 := hp.1 _ (gone_mem.mp he) rfl rfl x e
          cases h2 : tch e' x
          · rfl
          · exact absurd h2 (fun q => h1 q)
        rw [vA_no h0]
      · rw [if_neg e]
        exact vA_congr (by rw [vA_app, vA_one, if_neg e]) _
theorem mm_mk (S : St) (b p v : Nat) (n1 n2 n3 n4 : Int) (x : Nat) : mm (mk S b p v n1 n2 n3 n4) x = if same S b p v then mm S x else if tch (sM S + 1, b, p, v, n1, n2, n3, n4) x then v else mm S x := by
  unfold mk
  by_cases e : same S b p v = true
  · rw [if_pos e, if_pos e]
  · rw [if_neg e, if_neg e]
    unfold mm
    show vA (sD S) (sC S ++ [_]) x = _
    rw [vA_app, vA_one]
