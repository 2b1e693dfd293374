/-! ===== the invariant: kinds of changes; what goes ===== -/
def nd0 (c : Ch) : Prop := c1 c = 0 ∧ c2 c = 0 ∧ c3 c = 0 ∧ c4 c = 0
def isLT (c : Ch) : Prop := 1 ≤ cB c ∧ cB c ≤ 3 ∧ cP c < 16 ∧ cP c % 4 < 2
def isPT (c : Ch) : Prop := 1 ≤ cB c ∧ cB c ≤ 3 ∧ cP c < 16 ∧ 2 ≤ cP c % 4
def Kd (z : Nat) (c : Ch) : Prop :=
  (cB c = 0 ∧ 4 ≤ cP c ∧ cP c < 16 ∧ cV c ≤ 1 ∧ nd0 c) ∨
  (isLT c ∧ nd0 c ∧ (cP c % 4 = 1 → cV c ≤ 2)) ∨
  (isPT c ∧ ((cV c = 0 ∧ nd0 c) ∨ (4 ≤ cV c ∧ cV c < z ∧ 0 ≤ c1 c ∧ c3 c = 0 ∧ c4 c = 0 ∧ (c2 c < 0 → c2 c = -(cV c : Int))))) ∨
  (4 ≤ cB c ∧ cB c < z ∧ ((cP c = 16 ∧ nd0 c) ∨ (cP c < 16 ∧ 0 ≤ c1 c ∧ 0 ≤ c2 c ∧ 0 ≤ c3 c ∧ 0 ≤ c4 c)))
def Kds (S : St) (z : Nat) : Prop := ∀ c ∈ sC S, Kd z c
/-- the byte that a change puts (of those that put one alone) -/
abbrev ad (c : Ch) : Nat := 16 * cB c + cP c
theorem tch_ad {c : Ch} (hp : cP c < 16) {x : Nat} : tch c x = true ↔ x = ad c := by
  rw [tch_iff]
  show _ ↔ x = 16 * cB c + cP c
  omega
theorem Kd.lt16 {z : Nat} {c : Ch} (k : Kd z c) (h : cB c < 4) : cP c < 16 := by
  rcases k with k | k | k | k
  · exact k.2.2.1
  · exact k.1.2.2.1
  · exact k.1.2.2.1
  · omega
theorem Kd.pt {z : Nat} {c : Ch} (k : Kd z c) (h : isPT c) : (cV c = 0 ∧ nd0 c) ∨ (4 ≤ cV c ∧ cV c < z ∧ 0 ≤ c1 c ∧ c3 c = 0 ∧ c4 c = 0 ∧ (c2 c < 0 → c2 c = -(cV c : Int))) := by
  obtain ⟨h1, h2, h3, h4⟩ := h
  rcases k with k | k | k | k
  · omega
  · have := k.1.2.2.2; omega
  · exact k.2
  · omega
theorem Kd.plain {z : Nat} {c : Ch} (k : Kd z c) (h : cB c = 0 ∨ isLT c ∨ (isPT c ∧ cV c = 0) ∨ cP c = 16) : nd0 c := by
  rcases k with k | k | k | k
  · exact k.2.2.2.2
  · exact k.2.1
  · rcases h with h | h | h | h
    · have := k.1.1; omega
    · have := k.1.2.2.2; have := h.2.2.2; omega
    · rcases k.2 with q | q
      · exact q.2
      · have := h.2; omega
    · have := k.1.2.2.1; omega
  · rcases h with h | h | h | h
    · omega
    · have := h.2.1; omega
    · have := h.1.2.1; omega
    · rcases k.2.2 with q | q
      · exact q.2
      · omega
theorem Kds.na {S : St} {z : Nat} (K : Kds S z) : Na S := fun c hc h => by
  rcases K c hc with k | k | k | k
  · have := k.2.2.2.2.2.1; omega
  · have := k.2.1.2.1; omega
  · refine ⟨by have := k.1.2.1; omega, ?_⟩
    rcases k.2 with q | q
    · have := q.2.2.1; omega
    · have := q.2.2.2.2.2 h; omega
  · rcases k.2.2 with q | q
    · have := q.2.2.1; omega
    · omega
theorem may_nd0 {c : Ch} {acc : List (Ch × Bool)} (h : nd0 c) (h1 : ∀ e ∈ acc, 1 ≤ cI e.1) : mayG c acc = acc.all (fun e => !(cB e.1 == cB c) || e.2 || !(cP e.1 == 16 || cP c == 16 || cP c == cP e.1)) := by
  have hok : okN c acc 0 = true := by
    refine List.all_eq_true.mpr (fun e he => ?_)
    have := h1 e he
    simp only [Bool.and_eq_true, Bool.not_eq_true', Bool.and_eq_false_iff, decide_eq_false_iff_not]
    exact ⟨Or.inl (by omega), Or.inl (by omega)⟩
  unfold mayG
  rw [h.1, h.2.1, h.2.2.1, h.2.2.2, hok]
  rfl
/-- a change without needs is held back only behind one that shares a byte -/
theorem held_why {b : Nat} {l : List Ch} {P T : List (Ch × Bool)} {c : Ch} (h1 : ∀ c ∈ l, 1 ≤ cI c) (hg : goes b l = P ++ (c, false) :: T) (hb : cB c = b) (hn : nd0 c) : ∃ e, (e, false) ∈ P ∧ cB e = b ∧ (cP e = 16 ∨ cP c = 16 ∨ cP c = cP e) := by
  have hl : l = P.map Prod.fst ++ c :: T.map Prod.fst := by
    have := goes_fst b l
    rw [hg] at this
    rw [← this]
    simp
  have hP : goes b (P.map Prod.fst) = P ∧ mayG c P = false := by
    have key : ∀ T' : List Ch, ∀ (P : List (Ch × Bool)) (q : Ch × Bool) (T : List (Ch × Bool)), goes b (P.map Prod.fst ++ q.1 :: T') = P ++ q :: T → T.map Prod.fst = T' → goes b (P.map Prod.fst) = P ∧ q.2 = (cB q.1 == b && mayG q.1 P) := by
      intro T'
      refine snoc_ind (P := fun T' => ∀ (P : List (Ch × Bool)) (q : Ch × Bool) (T : List (Ch × Bool)), goes b (P.map Prod.fst ++ q.1 :: T') = P ++ q :: T → T.map Prod.fst = T' → goes b (P.map Prod.fst) = P ∧ q.2 = (cB q.1 == b && mayG q.1 P)) ?_ ?_ T'
      · intro P q T h hT
        have hT : T = [] := List.map_eq_nil_iff.mp hT
        subst hT
        rw [show P.map Prod.fst ++ q.1 :: [] = P.map Prod.fst ++ [q.1] from rfl, goes_snoc] at h
        obtain ⟨e1, e2⟩ := List.append_inj' h rfl
        refine ⟨e1, ?_⟩
        have := List.cons.inj e2
        rw [← this.1, e1]
      · intro T'' y ih P q T h hT
        rcases List.eq_nil_or_concat T with rfl | ⟨T2, w, rfl⟩
        · simp at hT
        · rw [List.concat_eq_append] at h hT
          rw [List.map_append] at hT
          obtain ⟨e1, e2⟩ := List.append_inj' hT rfl
          rw [show P.map Prod.fst ++ q.1 :: (T'' ++ [y]) = (P.map Prod.fst ++ q.1 :: T'') ++ [y] by simp, goes_snoc, show P ++ q :: (T2 ++ [w]) = (P ++ q :: T2) ++ [w] by simp] at h
          obtain ⟨e3, e4⟩ := List.append_inj' h rfl
          exact ih P q T2 e3 e1
    have := key (T.map Prod.fst) P (c, false) T (by rw [← hl]; exact hg) rfl
    refine ⟨this.1, ?_⟩
    have h2 := this.2
    simp only [hb, beq_self_eq_true, Bool.true_and] at h2
    exact h2.symm
  have hPi : ∀ e ∈ P, 1 ≤ cI e.1 := fun e he => h1 _ (by rw [hl]; exact List.mem_append_left _ (List.mem_map_of_mem he))
  have hm := hP.2
  rw [may_nd0 hn hPi, List.all_eq_false] at hm
  obtain ⟨q, hq, hq2⟩ := hm
  rw [Bool.not_eq_true] at hq2
  simp only [Bool.or_eq_false_iff, Bool.not_eq_false', beq_iff_eq, Bool.or_eq_true] at hq2
  obtain ⟨⟨q1, q2⟩, q3⟩ := hq2
  refine ⟨q.1, by rw [← q2]; exact hq, by rw [q1, hb], ?_⟩
  rcases q3 with (q3 | q3) | q3
  · exact Or.inl q3
  · exact Or.inr (Or.inl q3)
  · exact Or.inr (Or.inr q3)
section I1
variable {S : St} {z b : Nat}
theorem ids1 (B : Bd S) : ∀ c ∈ sC S, 1 ≤ cI c := fun c hc => (B.2.2.2.2.1 c hc).1
/-- of blocks 0 to 3 none is held back but pointers -/
theorem held_pt (B : Bd S) (K : Kds S z) (hb : b < 4) : ∀ c ∈ held (goes b (sC S)), cB c = b → isPT c := by
  intro c hc hcb
  have hmem := held_mem.mp hc
  obtain ⟨P, T, hPT⟩ := List.append_of_mem hmem
  have key : ∀ n, ∀ (P T : List (Ch × Bool)) (c : Ch), P.length ≤ n → goes b (sC S) = P ++ (c, false) :: T → cB c = b → isPT c := by
    intro n
    induction n with
    | zero =>
      intro P T c hn hg hcb
      have hk := K c (goes_mem (b := b) (l := sC S) (q := (c, false)) (by rw [hg]; simp))
      by_cases hpt : isPT c
      · exact hpt
      · exfalso
        have hnd : nd0 c := hk.plain (by
          rcases hk with k | k | k | k
          · exact Or.inl k.1
          · exact Or.inr (Or.inl k.1)
          · exact absurd k.1 hpt
          · omega)
        obtain ⟨e, he, -⟩ := held_why (ids1 B) hg hcb hnd
        have : P = [] := List.length_eq_zero_iff.mp (by omega)
        rw [this] at he
        cases he
    | succ n ih =>
      intro P T c hn hg hcb
      have hk := K c (goes_mem (b := b) (l := sC S) (q := (c, false)) (by rw [hg]; simp))
      by_cases hpt : isPT c
      · exact hpt
      · exfalso
        have hnd : nd0 c := hk.plain (by
          rcases hk with k | k | k | k
          · exact Or.inl k.1
          · exact Or.inr (Or.inl k.1)
          · exact absurd k.1 hpt
          · omega)
        obtain ⟨e, he, he1, he2⟩ := held_why (ids1 B) hg hcb hnd
        obtain ⟨P1, P2, hP⟩ := List.append_of_mem he
        have hg2 : goes b (sC S) = P1 ++ (e, false) :: (P2 ++ (c, false) :: T) := by rw [hg, hP]; simp
        have hept := ih P1 _ e (by rw [hP] at hn; simp at hn; omega) hg2 he1
        have hc16 := hk.lt16 (by omega)
        have he16 := hept.2.2.1
        have : cP c = cP e := by omega
        apply hpt
        unfold isPT at hept ⊢
        omega
  exact key P.length P T c (Nat.le_refl _) hPT hcb
theorem held_of (B : Bd S) {pre l : List Ch} {c : Ch} (e : held (goes b (sC S)) = pre ++ c :: l) : ∃ P1 P2, goes b (sC S) = P1 ++ (c, false) :: P2 ∧ held P1 = pre ∧ sC S = P1.map Prod.fst ++ c :: P2.map Prod.fst ∧ ∀ x, tch c x = true → vA (vA (sD S) (gone (goes b (sC S)))) pre x = vA (sD S) (P1.map Prod.fst) x := by
  obtain ⟨P1, P2, e1, e2⟩ := held_split e
  refine ⟨P1, P2, e1, e2, ?_, fun x hx => by rw [← e2]; exact was_eq (goes_apart b (sC S)) e1 hx (sD S)⟩
  have := goes_fst b (sC S)
  rw [e1] at this
  rw [← this]
  simp
theorem mm_held (S : St) (b x : Nat) : vA (vA (sD S) (gone (goes b (sC S)))) (held (goes b (sC S))) x = mm S x := by
  rw [vA_split (goes_apart b (sC S)), goes_fst]
  rfl
/-- what stands on DISK behind a write: LT bytes and the map as in MEMORY -/
theorem dsk_lt (B : Bd S) (K : Kds S z) (hb : b < 4) {x : Nat} (hx : x / 16 = b) (hl : b = 0 ∨ x % 4 < 2) : vA (sD S) (gone (goes b (sC S))) x = mm S x := by
  rw [← mm_held S b x]
  refine (vA_no (fun c hc => ?_)).symm
  cases ht : tch c x with
  | false => rfl
  | true =>
    exfalso
    obtain ⟨t1, t2⟩ := tch_iff.mp ht
    have hp := held_pt B K hb c hc (by omega)
    unfold isPT at hp
    omega
theorem dsk_ne {x : Nat} (hx : x / 16 ≠ b) (l : List Ch) : vA (sD S) (gone (goes b l)) x = sD S x := by
  refine vA_no (fun c hc => ?_)
  have h5 : cB c = b := goes_blk b l _ (gone_mem.mp hc) rfl
  cases h6 : tch c x
  · rfl
  · have := (tch_iff.mp h6).1
    omega
/-- pointers are made where none is -/
def PA (S : St) : Prop := ∀ pre c l, sC S = pre ++ c :: l → isPT c → cV c ≠ 0 → vA (sD S) pre (ad c) = 0
theorem PA.wr (B : Bd S) (A : PA S) {pre l : List Ch} {c : Ch} (e : held (goes b (sC S)) = pre ++ c :: l) (hp : isPT c) (hv : cV c ≠ 0) : vA (vA (sD S) (gone (goes b (sC S)))) pre (ad c) = 0 := by
  obtain ⟨P1, P2, -, -, e3, e4⟩ := held_of B e
  rw [e4 _ ((tch_ad hp.2.2.1).mpr rfl)]
  exact A _ c _ e3 hp hv
theorem first_tch {l : List Ch} {x : Nat} : (∀ c ∈ l, tch c x = false) ∨ ∃ pre c post, l = pre ++ c :: post ∧ tch c x = true ∧ ∀ c' ∈ pre, tch c' x = false := by
  induction l with
  | nil => exact Or.inl (fun c hc => by cases hc)
  | cons c l ih =>
    cases h : tch c x with
    | true => exact Or.inr ⟨[], c, l, rfl, h, fun c' hc => by cases hc⟩
    | false =>
      rcases ih with ih | ⟨pre, d, post, e1, e2, e3⟩
      · refine Or.inl (fun d hd => ?_)
        rcases List.mem_cons.mp hd with rfl | w
        · exact h
        · exact ih d w
      · refine Or.inr ⟨c :: pre, d, post, by rw [e1]; rfl, e2, fun d' hd => ?_⟩
        rcases List.mem_cons.mp hd with rfl | w
        · exact h
        · exact e3 d' w
theorem last_tch {d : Nat → Nat} {x : Nat} (l : List Ch) : ((∀ c ∈ l, tch c x = false) ∧ vA d l x = d x) ∨ ∃ pre c post, l = pre ++ c :: post ∧ tch c x = true ∧ vA d l x = cV c ∧ ∀ c' ∈ post, tch c' x = false := by
  refine snoc_ind (P := fun l => ((∀ c ∈ l, tch c x = false) ∧ vA d l x = d x) ∨ ∃ pre c post, l = pre ++ c :: post ∧ tch c x = true ∧ vA d l x = cV c ∧ ∀ c' ∈ post, tch c' x = false) (Or.inl ⟨fun c hc => (by cases hc), rfl⟩) (fun l c ih => ?_) l
  rw [vA_app, vA_one]
  cases h : tch c x with
  | true => exact Or.inr ⟨l, c, [], rfl, h, rfl, fun c' hc => by cases hc⟩
  | false =>
    simp only [Bool.false_eq_true, if_false]
    rcases ih with ⟨i1, i2⟩ | ⟨pre, y, post, e1, e2, e3, e4⟩
    · refine Or.inl ⟨fun y hy => ?_, i2⟩
      rcases List.mem_append.mp hy with w | w
      · exact i1 y w
      · rw [List.mem_singleton] at w
        subst w
        exact h
    · refine Or.inr ⟨pre, y, post ++ [c], by rw [e1]; simp, e2, e3, fun y' hy => ?_⟩
      rcases List.mem_append.mp hy with w | w
      · exact e4 y' w
      · rw [List.mem_singleton] at w
        subst w
        exact h
/-- a pointer on DISK behind a write: none, or as in MEMORY -/
theorem dsk_pt (B : Bd S) (K : Kds S z) (A : PA S) (hb : 1 ≤ b ∧ b ≤ 3) {x : Nat} (hx : x / 16 = b) (hl : 2 ≤ x % 4) : vA (sD S) (gone (goes b (sC S))) x = 0 ∨ ((∀ c ∈ held (goes b (sC S)), tch c x = false) ∧ vA (sD S) (gone (goes b (sC S))) x = mm S x) := by
  have hm := mm_held S b x
  rcases first_tch (l := held (goes b (sC S))) (x := x) with h | ⟨pre, c, post, e1, e2, e3⟩
  · right
    refine ⟨h, ?_⟩
    rw [← hm, vA_no h]
  · left
    obtain ⟨t1, t2⟩ := tch_iff.mp e2
    have hk := K c ((held_sub b (sC S)).subset (by rw [e1]; simp))
    have h16 := hk.lt16 (by omega)
    have hpt : isPT c := ⟨by omega, by omega, h16, by omega⟩
    have hv : vA (vA (sD S) (gone (goes b (sC S)))) pre x = vA (sD S) (gone (goes b (sC S))) x := vA_no e3
    have hxa : x = ad c := (tch_ad h16).mp e2
    by_cases hz : cV c = 0
    · exfalso
      obtain ⟨P1, P2, g1, g2, g3, g4⟩ := held_of B e1
      have hnd : nd0 c := hk.plain (Or.inr (Or.inr (Or.inl ⟨hpt, hz⟩)))
      obtain ⟨e, he, he1, he2⟩ := held_why (ids1 B) g1 (by omega) hnd
      have hee : e ∈ pre := by rw [← g2]; exact held_mem.mpr he
      have hke := K e ((held_sub b (sC S)).subset (by rw [e1]; exact List.mem_append_left _ hee))
      have he16 := hke.lt16 (by omega)
      have := e3 e hee
      rw [(tch_ad he16).mpr (by rw [hxa]; show 16 * cB c + cP c = 16 * cB e + cP e; omega)] at this
      cases this
    · rw [← hv, hxa]
      exact PA.wr B A e1 hpt hz
end I1
