/-! ===== no rings: births of nodes, ids of pointers; behind a write ===== -/
def lastI (l : List Ch) (a : Nat) (q : Int) : Int := l.foldl (fun q c => if tch c a then (cI c : Int) else q) q
theorem lastI_app (l m : List Ch) (a : Nat) (q : Int) : lastI (l ++ m) a q = lastI m a (lastI l a q) := by unfold lastI; rw [List.foldl_append]
theorem lastI_one (c : Ch) (a : Nat) (q : Int) : lastI [c] a q = if tch c a then (cI c : Int) else q := rfl
theorem lastI_cons (c : Ch) (l : List Ch) (a : Nat) (q : Int) : lastI (c :: l) a q = lastI l a (if tch c a then (cI c : Int) else q) := rfl
theorem lastI_no {l : List Ch} {a : Nat} {q : Int} (h : ∀ c ∈ l, tch c a = false) : lastI l a q = q := by
  induction l generalizing q with
  | nil => rfl
  | cons c l ih =>
    rw [lastI_cons, h c List.mem_cons_self]
    exact ih (fun d hd => h d (List.mem_cons_of_mem _ hd))
theorem lastI_le {l : List Ch} {a M : Nat} {q : Int} (hl : ∀ c ∈ l, cI c ≤ M) (hq : q ≤ M) : lastI l a q ≤ M := by
  induction l generalizing q with
  | nil => exact hq
  | cons c l ih =>
    rw [lastI_cons]
    refine ih (fun d hd => hl d (List.mem_cons_of_mem _ hd)) ?_
    split
    · exact Int.ofNat_le.mpr (hl c List.mem_cons_self)
    · exact hq
theorem lastI_split {g : List (Ch × Bool)} (hp : g.Pairwise apart) (a : Nat) (q : Int) : lastI (held g) a (lastI (gone g) a q) = lastI (g.map Prod.fst) a q := by
  induction g generalizing q with
  | nil => rfl
  | cons x g ih =>
    obtain ⟨c, f⟩ := x
    rw [List.pairwise_cons] at hp
    rw [gone_cons, held_cons, List.map_cons, lastI_cons, ← ih hp.2]
    cases f with
    | true =>
      simp only [if_true]
      rw [lastI_cons]
    | false =>
      simp only [Bool.false_eq_true, if_false]
      rw [lastI_cons]
      by_cases e : tch c a = true
      · have h0 : ∀ d ∈ gone g, tch d a = false := fun d hd => by
          have h1 := hp.1 _ (gone_mem.mp hd) rfl rfl a e
          cases h2 : tch d a
          · rfl
          · exact absurd h2 (fun w => h1 w)
        rw [lastI_no h0, lastI_no h0]
      · rw [if_neg e, if_neg e]
abbrev ta (n : Nat) : Nat := 16 + 4 * n + 1
abbrev tM (S : St) (t : Nat → Int) (n : Nat) : Int := lastI (sC S) (ta n) (t n)
abbrev pM (S : St) (p : Nat → Int) (x : Nat) : Int := lastI (sC S) x (p x)
/-- a named entry's node, if it is a directory, is younger than pid -/
def yok (S : St) (t : Nat → Int) (y : Nat) (pid : Int) : Prop := (fd (mm S) y 1 = 2 → pid < tM S t y) ∧ (fd (sD S) y 1 = 2 → pid < t y)
/-- the entries of a directory's block: as they are behind P, and what Q changes -/
def DE (S : St) (t : Nat → Int) (P Q : List Ch) (b : Nat) (pid : Int) : Prop :=
  (∀ u, u < 8 → vA (sD S) P (16 * b + 2 * u) ≠ 0 → vA (sD S) P (16 * b + 2 * u + 1) < 12 ∧ yok S t (vA (sD S) P (16 * b + 2 * u + 1)) pid) ∧
  (∀ pre g l, Q = pre ++ g :: l → cB g = b → cP g % 2 = 0 → cV g ≠ 0 → (pid : Int) < c1 g ∧ vA (sD S) (P ++ pre) (ad g + 1) < 12 ∧ (fd (mm S) (vA (sD S) (P ++ pre) (ad g + 1)) 1 = 2 → c1 g < tM S t (vA (sD S) (P ++ pre) (ad g + 1))) ∧
    (fd (sD S) (vA (sD S) (P ++ pre) (ad g + 1)) 1 = 2 → c1 g < t (vA (sD S) (P ++ pre) (ad g + 1)) ∨ ∃ w ∈ sC S, (cI w : Int) = c1 g ∧ cB w = 1 + vA (sD S) (P ++ pre) (ad g + 1) / 4)) ∧
  (∀ q ∈ Q, cB q = b → cP q % 2 = 1 → ∃ g ∈ Q, cB g = b ∧ cP g + 1 = cP q ∧ c4 g = cI q ∧ cI q < cI g ∧ ∀ g' ∈ Q, cI q < cI g' → cI g ≤ cI g') ∧
  (∀ pre q l, Q = pre ++ q :: l → cB q = b → cP q % 2 = 1 → vA (sD S) (P ++ pre) (ad q - 1) = 0 ∧ ∀ g ∈ pre, tch g (ad q - 1) = true → ∃ w ∈ pre, tch w (ad q - 1) = true ∧ cI g ≤ cI w ∧ (cI w : Int) = c1 q)
section R1
variable {S : St} {z b : Nat} {t : Nat → Int}
/-- what a change needs of another, if it goes -/
theorem go_need (B : Bd S) {c w : Ch} (hc : c ∈ gone (goes b (sC S))) (hw : w ∈ sC S) (hn : (cI w : Int) ∈ [c1 c, c2 c, c3 c, c4 c]) : w ∈ gone (goes b (sC S)) := by
  have hcS := (gone_sub b (sC S)).subset hc
  obtain ⟨pre, l, e⟩ := List.append_of_mem hcS
  obtain ⟨P1, P2, g1, g2, g3⟩ := go_ok B e hc
  have hch := B.2.2.2.2.1 c hcS
  have hlt2 : cI w < cI c := by
    have := (hch.2.2.2.2.2 _ hn).2
    omega
  have hwp : w ∈ pre := by
    have hpw := B.2.2.2.2.2.2
    rw [e] at hw hpw
    rcases List.mem_append.mp hw with q | q
    · exact q
    · rcases List.mem_cons.mp q with q | q
      · rw [q] at hlt2; omega
      · have := (List.pairwise_cons.mp (List.pairwise_append.mp hpw).2.1).1 w q
        omega
  rw [← g2] at hwp
  obtain ⟨q, hq, hq2⟩ := List.mem_map.mp hwp
  have hok : okN c P1 (cI w : Int) = true := by
    unfold mayG at g3
    simp only [Bool.and_eq_true] at g3
    simp only [List.mem_cons, List.not_mem_nil, or_false] at hn
    rcases hn with h | h | h | h
    · rw [h]; exact g3.1.1.1.1
    · rw [h]; exact g3.1.1.1.2
    · rw [h]; exact g3.1.1.2
    · rw [h]; exact g3.1.2
  have := List.all_eq_true.mp hok q hq
  rw [hq2] at this
  simp only [decide_true, Bool.true_and, Bool.not_not, Bool.and_eq_true] at this
  refine gone_mem.mpr ?_
  rw [g1]
  refine List.mem_append_left _ ?_
  have hq3 : q = (w, true) := by rw [← hq2, ← this.2.2]
  rw [← hq3]
  exact hq
/-- one that is held holds a later one that shares a byte -/
theorem held_later (B : Bd S) {g w : Ch} {x : Nat} (hg : g ∈ held (goes b (sC S))) (hw : w ∈ gone (goes b (sC S))) (hlt : cI g < cI w) (h1 : tch g x = true) (h2 : tch w x = true) : False := by
  obtain ⟨P1, P2, g1⟩ := List.append_of_mem (held_mem.mp hg)
  have hap := goes_apart b (sC S)
  rw [g1] at hap
  have hwg := gone_mem.mp hw
  rw [g1] at hwg
  have hpw3 := B.2.2.2.2.2.2
  have hf := goes_fst b (sC S)
  rw [g1] at hf
  rw [← hf, List.map_append, List.map_cons] at hpw3
  rcases List.mem_append.mp hwg with w' | w'
  · have := (List.pairwise_append.mp hpw3).2.2 w (List.mem_map.mpr ⟨(w, true), w', rfl⟩) g (by simp)
    omega
  · rcases List.mem_cons.mp w' with w' | w'
    · cases w'
    · exact (List.pairwise_cons.mp (List.pairwise_append.mp hap).2.1).1 _ w' rfl rfl x h1 h2
/-- in a prefix of which nothing behind it has gone at a byte -/
theorem pre_same {G1 G2 : List (Ch × Bool)} (hg : goes b (sC S) = G1 ++ G2) {x : Nat} (h : ∀ c ∈ gone G2, tch c x = false) : vA (vA (sD S) (gone (goes b (sC S)))) (held G1) x = vA (sD S) (G1.map Prod.fst) x := by
  have hap := goes_apart b (sC S)
  rw [hg] at hap
  rw [← vA_split (List.pairwise_append.mp hap).1]
  refine vA_congr ?_ _
  rw [hg, gone_app, vA_app, vA_no h]
def tW (S : St) (b : Nat) (t : Nat → Int) (n : Nat) : Int := lastI (gone (goes b (sC S))) (ta n) (t n)
theorem tM_w (S : St) (b : Nat) (t : Nat → Int) (n : Nat) : tM (wrK S b) (tW S b t) n = tM S t n := by
  show lastI (held (goes b (sC S))) (ta n) (lastI (gone (goes b (sC S))) (ta n) (t n)) = _
  rw [lastI_split (goes_apart b (sC S)), goes_fst]
/-- tags and births on DISK behind a write -/
theorem tag_w (B : Bd S) (K : Kds S z) {y : Nat} (hy : y < 12) : (1 + y / 4 = b ∧ fd (sD (wrK S b)) y 1 = fd (mm S) y 1 ∧ tW S b t y = tM S t y) ∨ (1 + y / 4 ≠ b ∧ fd (sD (wrK S b)) y 1 = fd (sD S) y 1 ∧ tW S b t y = t y) := by
  by_cases h : 1 + y / 4 = b
  · refine Or.inl ⟨h, dsk_lt B K (by omega) (by omega) (by omega), ?_⟩
    unfold tW
    have : tM S t y = lastI (held (goes b (sC S))) (ta y) (lastI (gone (goes b (sC S))) (ta y) (t y)) := by
      rw [lastI_split (goes_apart b (sC S)), goes_fst]
    rw [this, lastI_no (l := held (goes b (sC S)))]
    intro c hc
    cases ht : tch c (ta y) with
    | false => rfl
    | true =>
      exfalso
      obtain ⟨t1, t2⟩ := tch_iff.mp ht
      have hp := held_pt B K (b := b) (by omega) c hc (by unfold ta at t1; omega)
      unfold isPT at hp
      unfold ta at *
      omega
  · refine Or.inr ⟨h, dsk_ne (by omega) _, ?_⟩
    unfold tW
    refine lastI_no (fun c hc => ?_)
    have h5 : cB c = b := goes_blk b (sC S) _ (gone_mem.mp hc) rfl
    cases h6 : tch c (ta y)
    · rfl
    · have := (tch_iff.mp h6).1
      unfold ta at this
      omega
theorem yok_w (B : Bd S) (K : Kds S z) {y : Nat} {pid : Int} (hy : y < 12) (h : yok S t y pid) : yok (wrK S b) (tW S b t) y pid := by
  have hm : fd (mm (wrK S b)) y 1 = fd (mm S) y 1 := mm_wrK S b _
  refine ⟨fun h2 => ?_, fun h2 => ?_⟩
  · rw [hm] at h2
    rw [tM_w]
    exact h.1 h2
  · rcases tag_w (b := b) (t := t) B K hy with ⟨-, e1, e2⟩ | ⟨-, e1, e2⟩
    · rw [e1] at h2
      rw [e2]
      exact h.1 h2
    · rw [e1] at h2
      rw [e2]
      exact h.2 h2
theorem DE_w (B : Bd S) (K : Kds S z) {P Q : List Ch} {bb : Nat} {pid : Int} (h4 : 4 ≤ bb) (ePQ : sC S = P ++ Q) (hgood : ∀ c ∈ Q, good bb c) (D : DE S t P Q bb pid) {GP GQ : List (Ch × Bool)} (k1 : goes b (sC S) = GP ++ GQ) (k2 : GP.map Prod.fst = P) (k3 : GQ.map Prod.fst = Q) : DE (wrK S b) (tW S b t) (held GP) (held GQ) bb pid := by
  obtain ⟨d1, d2, d3, d4⟩ := D
  have hpw := B.2.2.2.2.2.2
  have hQS : ∀ c ∈ Q, c ∈ sC S := fun c hc => by rw [ePQ]; exact List.mem_append_right _ hc
  have hGQ : ∀ c, c ∈ gone GQ → c ∈ Q ∧ c ∈ gone (goes b (sC S)) := fun c hc => ⟨by rw [← k3]; exact List.mem_map.mpr ⟨(c, true), gone_mem.mp hc, rfl⟩, by rw [k1, gone_app]; exact List.mem_append_right _ hc⟩
  have hHQ : ∀ c, c ∈ held GQ → c ∈ Q ∧ c ∈ held (goes b (sC S)) := fun c hc => ⟨by rw [← k3]; exact List.mem_map.mpr ⟨(c, false), held_mem.mp hc, rfl⟩, by rw [k1, held_app]; exact List.mem_append_right _ hc⟩
  have hGo : ∀ c ∈ Q, c ∈ gone (goes b (sC S)) → c ∈ gone GQ := fun c hc hg => by
    rw [k1, gone_app] at hg
    rcases List.mem_append.mp hg with w | w
    · exfalso
      have hcP : c ∈ P := by rw [← k2]; exact List.mem_map.mpr ⟨(c, true), gone_mem.mp w, rfl⟩
      rw [ePQ] at hpw
      exact absurd ((List.pairwise_append.mp hpw).2.2 c hcP c hc) (Nat.lt_irrefl _)
    · exact w
  -- places of changes of the block, by bytes
  have hpl : ∀ {c : Ch} {u : Nat}, c ∈ Q → u < 16 → tch c (16 * bb + u) = true → cB c = bb ∧ cP c = u := fun {c u} hc hu ht => by
    obtain ⟨t1, t2⟩ := tch_iff.mp ht
    have hcb : cB c = bb := by omega
    have := (hgood c hc hcb).1
    exact ⟨hcb, by omega⟩
  have hpt : ∀ {c : Ch} {u : Nat}, cB c = bb → cP c = u → u < 16 → tch c (16 * bb + u) = true := fun {c u} h1 h2 h3 => tch_iff.mpr ⟨by omega, Or.inr (by omega)⟩
  -- if a NAME change goes, so do all NODE changes ahead of it
  have L1 : ∀ {g q : Ch}, g ∈ gone GQ → q ∈ Q → cB q = bb → cP q % 2 = 1 → cB g = bb → cP g + 1 = cP q → cI q < cI g → q ∈ gone GQ := fun {g q} hg hq h1 h2 h3 h5 hlt => by
    obtain ⟨g1, a1, a2, a3, a4, a5, a6⟩ := d3 q hq h1 h2
    obtain ⟨hgQ, hgG⟩ := hGQ g hg
    have hle := a6 g hgQ hlt
    have hg1 : g1 ∈ gone (goes b (sC S)) := by
      by_cases he : cI g1 = cI g
      · rw [go_ids B (hQS g1 a1) (hQS g hgQ) he]; exact hgG
      · have hin := hQS g1 a1
        rw [← goes_fst b (sC S)] at hin
        obtain ⟨y, hy, hy2⟩ := List.mem_map.mp hin
        cases hf : y.2 with
        | true => exact gone_mem.mpr (by rw [← hy2, ← hf]; exact hy)
        | false =>
          exfalso
          have hh : g1 ∈ held (goes b (sC S)) := held_mem.mpr (by rw [← hy2, ← hf]; exact hy)
          have hgp := (hgood g hgQ h3).1
          exact held_later B hh hgG (by omega) (hpt a2 (show cP g1 = cP g by omega) hgp) (hpt h3 rfl hgp)
    exact hGo q hq (go_need B hg1 (hQS q hq) (by simp [a4]))
  -- a NODE change goes only with the latest NAME change ahead of it
  have L2 : ∀ {pre l : List Ch} {q g : Ch}, Q = pre ++ q :: l → q ∈ gone GQ → cB q = bb → cP q % 2 = 1 → g ∈ pre → tch g (ad q - 1) = true → ∃ w ∈ pre, tch w (ad q - 1) = true ∧ cI g ≤ cI w ∧ w ∈ gone GQ := fun {pre l q g} e hq h1 h2 hg ht => by
    obtain ⟨-, h3⟩ := d4 pre q l e h1 h2
    obtain ⟨w, w1, w2, w3, w4⟩ := h3 g hg ht
    have hwQ : w ∈ Q := by rw [e]; exact List.mem_append_left _ w1
    exact ⟨w, w1, w2, w3, hGo w hwQ (go_need B (hGQ q hq).2 (hQS w hwQ) (by simp [w4]))⟩
  have hQord : ∀ {pre l : List Ch} {c d : Ch}, Q = pre ++ c :: l → d ∈ l → cI c < cI d := fun {pre l c d} e hd => by
    rw [ePQ, e] at hpw
    exact (List.pairwise_cons.mp (List.pairwise_append.mp (List.pairwise_append.mp hpw).2.1).2.1).1 d hd
  have hQord2 : ∀ {pre l : List Ch} {c d : Ch}, Q = pre ++ c :: l → d ∈ pre → cI d < cI c := fun {pre l c d} e hd => by
    rw [ePQ, e] at hpw
    exact (List.pairwise_append.mp (List.pairwise_append.mp hpw).2.1).2.2 d hd c (by simp)
  have hQin : ∀ {pre l : List Ch} {c d : Ch}, Q = pre ++ c :: l → d ∈ Q → cI d < cI c → d ∈ pre := fun {pre l c d} e hd hlt => by
    rw [e] at hd
    rcases List.mem_append.mp hd with w | w
    · exact w
    · rcases List.mem_cons.mp w with w | w
      · rw [w] at hlt; omega
      · have := hQord e w; omega
  -- splits of Q and of its flags
  have hsp : ∀ {pre l : List Ch} {c : Ch}, held GQ = pre ++ c :: l → ∃ A1 A2, GQ = A1 ++ (c, false) :: A2 ∧ held A1 = pre ∧ Q = A1.map Prod.fst ++ c :: A2.map Prod.fst := fun {pre l c} e => by
    obtain ⟨A1, A2, e1, e2⟩ := held_split e
    exact ⟨A1, A2, e1, e2, by rw [← k3, e1]; simp⟩
  have hDv : ∀ {A1 A2 : List (Ch × Bool)} {c : Ch} {x : Nat}, GQ = A1 ++ (c, false) :: A2 → (∀ d ∈ gone A2, tch d x = false) → vA (vA (sD S) (gone (goes b (sC S)))) (held GP ++ held A1) x = vA (sD S) (P ++ A1.map Prod.fst) x := fun {A1 A2 c x} e h => by
    have h1 : goes b (sC S) = (GP ++ A1) ++ (c, false) :: A2 := by rw [k1, e]; simp
    have := pre_same h1 (x := x) (fun d hd => by
      rw [gone_cons] at hd
      exact h d hd)
    rw [held_app, List.map_append, k2] at this
    exact this
  refine ⟨fun u hu hne => ?_, fun pre g l e hgb hge hgv => ?_, fun q hq hqb hqo => ?_, fun pre q l e hqb hqo => ?_⟩
  · -- the entries behind P
    have hne : vA (vA (sD S) (gone (goes b (sC S)))) (held GP) (16 * bb + 2 * u) ≠ 0 := hne
    show vA (vA (sD S) (gone (goes b (sC S)))) (held GP) (16 * bb + 2 * u + 1) < 12 ∧ yok _ _ (vA (vA (sD S) (gone (goes b (sC S)))) (held GP) (16 * bb + 2 * u + 1)) pid
    have hap := goes_apart b (sC S)
    rw [k1] at hap
    obtain ⟨pp1, pp2, pp3⟩ := List.pairwise_append.mp hap
    rcases last_tch (d := vA (sD S) (gone GP)) (x := 16 * bb + 2 * u) (gone GQ) with ⟨n1, -⟩ | ⟨r1, g, r2, e1, e2, e3, e4⟩
    · have hv : vA (vA (sD S) (gone (goes b (sC S)))) (held GP) (16 * bb + 2 * u) = vA (sD S) P (16 * bb + 2 * u) := by rw [pre_same k1 n1, k2]
      rw [hv] at hne
      have hno : ∀ c ∈ gone GQ, tch c (16 * bb + 2 * u + 1) = false := fun q hq => by
        cases ht : tch q (16 * bb + 2 * u + 1) with
        | false => rfl
        | true =>
          exfalso
          obtain ⟨hqQ, -⟩ := hGQ q hq
          obtain ⟨x1, x2⟩ := hpl hqQ (show 2 * u + 1 < 16 by omega) ht
          obtain ⟨pre, l, e⟩ := List.append_of_mem hqQ
          obtain ⟨y1, -⟩ := d4 pre q l e x1 (by omega)
          have had : ad q - 1 = 16 * bb + 2 * u := by show 16 * cB q + cP q - 1 = _; omega
          rw [had, vA_app] at y1
          rcases last_tch (d := vA (sD S) P) (x := 16 * bb + 2 * u) pre with ⟨-, w2⟩ | ⟨s1, g, s2, f1, f2, -, -⟩
          · rw [w2] at y1; exact hne y1
          · obtain ⟨w, w1, w2, -, w4⟩ := L2 e hq x1 (by omega) (show g ∈ pre by rw [f1]; simp) (by rw [had]; exact f2)
            have := n1 w w4
            rw [had] at w2
            rw [w2] at this
            cases this
      have hv2 : vA (vA (sD S) (gone (goes b (sC S)))) (held GP) (16 * bb + 2 * u + 1) = vA (sD S) P (16 * bb + 2 * u + 1) := by rw [pre_same k1 hno, k2]
      rw [hv2]
      obtain ⟨z1, z2⟩ := d1 u hu hne
      exact ⟨z1, yok_w B K z1 z2⟩
    · -- the last NAME change that went
      have hg : g ∈ gone GQ := by rw [e1]; simp
      obtain ⟨hgQ, hgG⟩ := hGQ g hg
      obtain ⟨x1, x2⟩ := hpl hgQ (show 2 * u < 16 by omega) e2
      obtain ⟨pre, l, e⟩ := List.append_of_mem hgQ
      have hnoP : ∀ c' ∈ held GP, tch c' (16 * bb + 2 * u) = false := fun c' hc' => by
        cases h : tch c' (16 * bb + 2 * u) with
        | false => rfl
        | true => exact absurd (pp3 _ (held_mem.mp hc') _ (gone_mem.mp hg) rfl rfl _ h e2) (fun w => w)
      have hval : vA (vA (sD S) (gone (goes b (sC S)))) (held GP) (16 * bb + 2 * u) = cV g := by
        rw [vA_no hnoP, k1, gone_app, vA_app, e3]
      rw [hval] at hne
      have had : ad g + 1 = 16 * bb + 2 * u + 1 := by show 16 * cB g + cP g + 1 = _; omega
      obtain ⟨y1, y2, y3, y4⟩ := d2 pre g l e x1 (by omega) hne
      rw [had] at y2 y3 y4
      have hbeh : ∀ q ∈ gone GQ, tch q (16 * bb + 2 * u + 1) = true → cI q < cI g := fun q hq ht => by
        obtain ⟨hqQ, -⟩ := hGQ q hq
        obtain ⟨z1, z2⟩ := hpl hqQ (show 2 * u + 1 < 16 by omega) ht
        rcases Nat.lt_trichotomy (cI q) (cI g) with w | w | w
        · exact w
        · have := go_ids B (hQS q hqQ) (hQS g hgQ) w
          rw [this] at z2; omega
        · exfalso
          obtain ⟨pre', l', e'⟩ := List.append_of_mem hqQ
          have hgp : g ∈ pre' := hQin e' hgQ w
          have hadq : ad q - 1 = 16 * bb + 2 * u := by show 16 * cB q + cP q - 1 = _; omega
          obtain ⟨w, w1, w2, w3, w4⟩ := L2 e' hq z1 (by omega) hgp (by rw [hadq]; exact e2)
          rw [hadq] at w2
          -- w is at or behind g, and went: so it is g
          have hwm : w ∈ r1 ++ g :: r2 := by rw [← e1]; exact w4
          have hwg : w = g := by
            rcases List.mem_append.mp hwm with q1 | q1
            · exfalso
              have hpg : (gone GQ).Pairwise (fun a b => cI a < cI b) := by
                have h1 : (gone GQ).Sublist (sC S) := by
                  have h2 : (gone (goes b (sC S))).Sublist (sC S) := gone_sub b (sC S)
                  rw [k1, gone_app] at h2
                  exact (List.sublist_append_right _ _).trans h2
                exact B.2.2.2.2.2.2.sublist h1
              rw [e1] at hpg
              have := (List.pairwise_append.mp hpg).2.2 w q1 g (by simp)
              omega
            · rcases List.mem_cons.mp q1 with q1 | q1
              · exact q1
              · have := e4 w q1
                rw [w2] at this
                cases this
          obtain ⟨v1, -⟩ := d4 pre' q l' e' z1 (by omega)
          rw [hadq] at v1
          -- g is the last NAME change ahead of q that touches the byte, so its value stands there
          obtain ⟨-, h3⟩ := d4 pre' q l' e' z1 (by omega)
          have hlast : vA (sD S) (P ++ pre') (16 * bb + 2 * u) = cV g := by
            rcases last_tch (d := vA (sD S) P) (x := 16 * bb + 2 * u) pre' with ⟨n1, -⟩ | ⟨s1, g', s2, f1, f2, f3, f4⟩
            · have := n1 g hgp
              rw [e2] at this
              cases this
            · rw [vA_app, f3]
              have hg'p : g' ∈ pre' := by rw [f1]; simp
              obtain ⟨w', a1, a2, a3, a4⟩ := h3 g' hg'p (by rw [hadq]; exact f2)
              -- both needs are the same change, which is g
              obtain ⟨w'', b1, b2, b3, b4⟩ := h3 g hgp (by rw [hadq]; exact e2)
              have hw1 : w' = w'' := go_ids B (hQS w' (by rw [e']; exact List.mem_append_left _ a1)) (hQS w'' (by rw [e']; exact List.mem_append_left _ b1)) (by omega)
              have hw2 : w'' ∈ gone GQ := hGo w'' (by rw [e']; exact List.mem_append_left _ b1) (go_need B (hGQ q hq).2 (hQS w'' (by rw [e']; exact List.mem_append_left _ b1)) (by simp [b4]))
              have hw3 : w'' = g := by
                have hwm2 : w'' ∈ r1 ++ g :: r2 := by rw [← e1]; exact hw2
                rcases List.mem_append.mp hwm2 with q1 | q1
                · exfalso
                  have hpg : (gone GQ).Pairwise (fun a b => cI a < cI b) := by
                    have h1 : (gone GQ).Sublist (sC S) := by
                      have h2 : (gone (goes b (sC S))).Sublist (sC S) := gone_sub b (sC S)
                      rw [k1, gone_app] at h2
                      exact (List.sublist_append_right _ _).trans h2
                    exact B.2.2.2.2.2.2.sublist h1
                  rw [e1] at hpg
                  have := (List.pairwise_append.mp hpg).2.2 w'' q1 g (by simp)
                  omega
                · rcases List.mem_cons.mp q1 with q1 | q1
                  · exact q1
                  · have := e4 w'' q1
                    rw [hadq] at b2
                    rw [b2] at this
                    cases this
              rw [hw1, hw3] at a3
              -- g' is at or ahead of g; g lies ahead of q too; g' is the last: g' = g
              have hgg : g = g' := by
                rw [f1] at hgp
                rcases List.mem_append.mp hgp with q1 | q1
                · exfalso
                  have hpw2 := hpw
                  rw [ePQ, e', f1] at hpw2
                  have := (List.pairwise_append.mp (List.pairwise_append.mp (List.pairwise_append.mp hpw2).2.1).1).2.2 g q1 g' (by simp)
                  omega
                · rcases List.mem_cons.mp q1 with q1 | q1
                  · exact q1
                  · have := f4 g q1
                    rw [e2] at this
                    cases this
              rw [hgg]
          rw [hlast] at v1
          exact hne v1
      -- the node
      have hnode : vA (vA (sD S) (gone (goes b (sC S)))) (held GP) (16 * bb + 2 * u + 1) = vA (sD S) (P ++ pre) (16 * bb + 2 * u + 1) := by
        rcases last_tch (d := vA (sD S) P) (x := 16 * bb + 2 * u + 1) pre with ⟨n1, n2⟩ | ⟨s1, q, s2, f1, f2, f3, f4⟩
        · -- no NODE change ahead of g
          have hno : ∀ c ∈ gone GQ, tch c (16 * bb + 2 * u + 1) = false := fun q hq => by
            cases ht : tch q (16 * bb + 2 * u + 1) with
            | false => rfl
            | true =>
              have := n1 q (hQin e (hGQ q hq).1 (hbeh q hq ht))
              rw [ht] at this
              cases this
          rw [pre_same k1 hno, k2, vA_app, n2]
        · have hqp : q ∈ pre := by rw [f1]; simp
          have hqQ : q ∈ Q := by rw [e]; exact List.mem_append_left _ hqp
          obtain ⟨z1, z2⟩ := hpl hqQ (show 2 * u + 1 < 16 by omega) f2
          have hqg : q ∈ gone GQ := L1 hg hqQ z1 (by omega) x1 (by omega) (hQord2 e hqp)
          have hnoP2 : ∀ c' ∈ held GP, tch c' (16 * bb + 2 * u + 1) = false := fun c' hc' => by
            cases h : tch c' (16 * bb + 2 * u + 1) with
            | false => rfl
            | true => exact absurd (pp3 _ (held_mem.mp hc') _ (gone_mem.mp hqg) rfl rfl _ h f2) (fun w => w)
          rw [vA_no hnoP2, k1, gone_app, vA_app, vA_app, f3]
          rcases last_tch (d := vA (sD S) (gone GP)) (x := 16 * bb + 2 * u + 1) (gone GQ) with ⟨n1, -⟩ | ⟨m1, q', m2, j1, j2, j3, j4⟩
          · have := n1 q hqg
            rw [f2] at this
            cases this
          · rw [j3]
            have hq'g : q' ∈ gone GQ := by rw [j1]; simp
            have hq'p := hQin e (hGQ q' hq'g).1 (hbeh q' hq'g j2)
            -- both are the last
            have hqq : q' = q := by
              have hqm : q ∈ m1 ++ q' :: m2 := by rw [← j1]; exact hqg
              have hpg : (gone GQ).Pairwise (fun a b => cI a < cI b) := by
                have h1 : (gone GQ).Sublist (sC S) := by
                  have h2 : (gone (goes b (sC S))).Sublist (sC S) := gone_sub b (sC S)
                  rw [k1, gone_app] at h2
                  exact (List.sublist_append_right _ _).trans h2
                exact B.2.2.2.2.2.2.sublist h1
              rw [j1] at hpg
              rw [f1] at hq'p
              have hpw2 := hpw
              rw [ePQ, e, f1] at hpw2
              have hps := (List.pairwise_append.mp (List.pairwise_append.mp hpw2).2.1).1
              rcases List.mem_append.mp hq'p with a | a
              · exfalso
                have h1 := (List.pairwise_append.mp hps).2.2 q' a q (by simp)
                rcases List.mem_append.mp hqm with w | w
                · have := (List.pairwise_append.mp hpg).2.2 q w q' (by simp); omega
                · rcases List.mem_cons.mp w with w | w
                  · rw [w] at h1; omega
                  · have := j4 q w; rw [f2] at this; cases this
              · rcases List.mem_cons.mp a with a | a
                · exact a
                · have := f4 q' a; rw [j2] at this; cases this
            rw [hqq]
      rw [hnode]
      refine ⟨y2, ?_⟩
      have hyk : yok S t (vA (sD S) (P ++ pre) (16 * bb + 2 * u + 1)) pid := by
        refine ⟨fun h2 => by have := y3 h2; omega, fun h2 => ?_⟩
        rcases y4 h2 with q | ⟨w, w1, w2, w3⟩
        · omega
        · exfalso
          have hwg := go_need B hgG w1 (by simp [w2])
          have hwb : cB w = b := goes_blk b (sC S) _ (gone_mem.mp hwg) rfl
          have hgb : cB g = b := goes_blk b (sC S) _ (gone_mem.mp hgG) rfl
          omega
      exact yok_w B K y2 hyk
  · -- NAME changes that are held
    obtain ⟨A1, A2, e1, e2, e3⟩ := hsp e
    obtain ⟨y1, y2, y3, y4⟩ := d2 _ g _ e3 hgb hge hgv
    have hgH : g ∈ held GQ := by rw [e]; simp
    obtain ⟨hgQ, hgG⟩ := hHQ g hgH
    have hgp := (hgood g hgQ hgb).1
    have hno : ∀ d ∈ gone A2, tch d (ad g + 1) = false := fun q hq => by
      cases ht : tch q (ad g + 1) with
      | false => rfl
      | true =>
        exfalso
        have hqg : q ∈ gone GQ := by rw [e1, gone_app, gone_cons]; exact List.mem_append_right _ hq
        obtain ⟨hqQ, hqG⟩ := hGQ q hqg
        have hadg : ad g + 1 = 16 * bb + (cP g + 1) := by show 16 * cB g + cP g + 1 = _; omega
        rw [hadg] at ht
        obtain ⟨z1, z2⟩ := hpl hqQ (show cP g + 1 < 16 by omega) ht
        have hlt : cI g < cI q := hQord e3 (List.mem_map.mpr ⟨(q, true), gone_mem.mp hq, rfl⟩)
        obtain ⟨pre', l', e'⟩ := List.append_of_mem hqQ
        have hadq : ad q - 1 = 16 * bb + cP g := by show 16 * cB q + cP q - 1 = _; omega
        obtain ⟨w, w1, w2, w3, w4⟩ := L2 e' hqg z1 (by omega) (hQin e' hgQ hlt) (by rw [hadq]; exact hpt hgb rfl hgp)
        rw [hadq] at w2
        by_cases he : cI w = cI g
        · have := go_ids B (hQS w (hGQ w w4).1) (hQS g hgQ) he
          rw [this] at w4
          exact gh_ne B (hGQ g w4).2 hgG rfl
        · exact held_later B hgG (hGQ w w4).2 (by omega) (hpt hgb rfl hgp) w2
    have hv : vA (sD (wrK S b)) (held GP ++ pre) (ad g + 1) = vA (sD S) (P ++ A1.map Prod.fst) (ad g + 1) := by rw [← e2]; exact hDv e1 hno
    rw [hv]
    have hm : fd (mm (wrK S b)) (vA (sD S) (P ++ A1.map Prod.fst) (ad g + 1)) 1 = fd (mm S) (vA (sD S) (P ++ A1.map Prod.fst) (ad g + 1)) 1 := mm_wrK S b _
    refine ⟨y1, y2, fun h2 => by rw [hm] at h2; rw [tM_w]; exact y3 h2, fun h2 => ?_⟩
    rcases tag_w (b := b) (t := t) B K y2 with ⟨-, f1, f2⟩ | ⟨f0, f1, f2⟩
    · rw [f1] at h2
      rw [f2]
      exact Or.inl (y3 h2)
    · rw [f1] at h2
      rw [f2]
      rcases y4 h2 with q | ⟨w, w1, w2, w3⟩
      · exact Or.inl q
      · exact Or.inr ⟨w, not_go w1 (by omega), w2, w3⟩
  · -- NODE changes that are held
    obtain ⟨hqQ, hqG⟩ := hHQ q hq
    obtain ⟨g, a1, a2, a3, a4, a5, a6⟩ := d3 q hqQ hqb hqo
    have hgH : g ∈ held GQ := by
      have hin := a1
      rw [← k3] at hin
      obtain ⟨y, hy, hy2⟩ := List.mem_map.mp hin
      cases hf : y.2 with
      | false => exact held_mem.mpr (by rw [← hy2, ← hf]; exact hy)
      | true =>
        exfalso
        have hgg : g ∈ gone GQ := gone_mem.mpr (by rw [← hy2, ← hf]; exact hy)
        have := go_need B (hGQ g hgg).2 (hQS q hqQ) (by simp [a4])
        exact gh_ne B this hqG rfl
    exact ⟨g, hgH, a2, a3, a4, a5, fun g' hg' => a6 g' (hHQ g' hg').1⟩
  · obtain ⟨A1, A2, e1, e2, e3⟩ := hsp e
    have hqH : q ∈ held GQ := by rw [e]; simp
    obtain ⟨hqQ, hqG⟩ := hHQ q hqH
    have hqp := (hgood q hqQ hqb).1
    obtain ⟨y1, y2⟩ := d4 _ q _ e3 hqb hqo
    have hadq : ad q - 1 = 16 * bb + (cP q - 1) := by show 16 * cB q + cP q - 1 = _; omega
    have hno : ∀ d ∈ gone A2, tch d (ad q - 1) = false := fun g hg => by
      cases ht : tch g (ad q - 1) with
      | false => rfl
      | true =>
        exfalso
        have hgg : g ∈ gone GQ := by rw [e1, gone_app, gone_cons]; exact List.mem_append_right _ hg
        rw [hadq] at ht
        obtain ⟨z1, z2⟩ := hpl (hGQ g hgg).1 (show cP q - 1 < 16 by omega) ht
        have hlt : cI q < cI g := hQord e3 (List.mem_map.mpr ⟨(g, true), gone_mem.mp hg, rfl⟩)
        have := L1 hgg hqQ hqb hqo z1 (by omega) hlt
        exact gh_ne B (hGQ q this).2 hqG rfl
    have hv : vA (sD (wrK S b)) (held GP ++ pre) (ad q - 1) = vA (sD S) (P ++ A1.map Prod.fst) (ad q - 1) := by rw [← e2]; exact hDv e1 hno
    rw [hv]
    refine ⟨y1, fun g hg ht => ?_⟩
    have hgH : g ∈ held A1 := by rw [e2]; exact hg
    have hgp : g ∈ A1.map Prod.fst := List.mem_map.mpr ⟨(g, false), held_mem.mp hgH, rfl⟩
    obtain ⟨w, w1, w2, w3, w4⟩ := y2 g hgp ht
    refine ⟨w, ?_, w2, w3, w4⟩
    rw [← e2]
    obtain ⟨y, hy, hy2⟩ := List.mem_map.mp w1
    cases hf : y.2 with
    | false => exact held_mem.mpr (by rw [← hy2, ← hf]; exact hy)
    | true =>
      exfalso
      have hwg : w ∈ gone GQ := by rw [e1, gone_app]; exact List.mem_append_left _ (gone_mem.mpr (by rw [← hy2, ← hf]; exact hy))
      have hgQH : g ∈ held GQ := by rw [e]; exact List.mem_append_left _ hg
      by_cases he : cI w = cI g
      · have := go_ids B (hQS w (hGQ w hwg).1) (hQS g (hHQ g hgQH).1) he
        rw [this] at hwg
        exact gh_ne B (hGQ g hwg).2 (hHQ g hgQH).2 rfl
      · exact held_later B (hHQ g hgQH).2 (hGQ w hwg).2 (by omega) ht w2
end R1
