/-! ===== SETTLE: what is held back of data waits for pointers ===== -/
def Fr (S : St) : Prop := ∀ c ∈ sC S, ∀ w ∈ sC S, (cI w : Int) ∈ [c1 c, c2 c, c3 c, c4 c] → ¬ (cB w = 0 ∨ isLT w)
def Tl (b : Nat) (S : St) : Prop := ∀ d ∈ sC S, cB d = b → ∃ c ∈ sC S, cB c = b ∧ cI c ≤ cI d ∧ ∃ w ∈ sC S, pnz w ∧ (cI w : Int) = c3 c
section K3
variable {S : St} {z k : Nat}
theorem fr_of (h0 : Fb 0 S) (h1 : Fb 1 S) (h2 : Fb 2 S) (h3 : Fb 3 S) : Fr S := fun c hc w hw hn q => by
  have hb : cB w = 0 ∨ cB w = 1 ∨ cB w = 2 ∨ cB w = 3 := by
    rcases q with q | q
    · exact Or.inl q
    · unfold isLT at q; omega
  rcases hb with e | e | e | e
  · exact h0 c hc w hw hn e q
  · exact h1 c hc w hw hn e q
  · exact h2 c hc w hw hn e q
  · exact h3 c hc w hw hn e q
theorem fr_fb (h : Fr S) (b : Nat) : Fb b S := fun c hc w hw hn _ => h c hc w hw hn
theorem fr_wrs (L : Lk S) (B : Bn S) (h : Fr S) (b : Nat) : Fr (wrs S b) := fr_of (fb_wrs L B (fr_fb h 0) b) (fb_wrs L B (fr_fb h 1) b) (fb_wrs L B (fr_fb h 2) b) (fb_wrs L B (fr_fb h 3) b)
theorem inv_lk (I : Inv S z k) : Lk S := I.2.1.2.2.2.1
theorem okN_f {c : Ch} {acc : List (Ch × Bool)} {n : Int} (h : okN c acc n = false) : ∃ e ∈ acc, (n < 0 ∧ (cB e.1 : Int) = -n) ∨ ((cI e.1 : Int) = n ∧ ¬ (cB e.1 = cB c ∧ e.2 = true)) := by
  unfold okN at h
  rw [List.all_eq_false] at h
  obtain ⟨e, he, q⟩ := h
  refine ⟨e, he, ?_⟩
  by_cases q1 : n < 0 ∧ (cB e.1 : Int) = -n
  · exact Or.inl q1
  · by_cases q2 : (cI e.1 : Int) = n ∧ ¬ (cB e.1 = cB c ∧ e.2 = true)
    · exact Or.inr q2
    · exfalso
      apply q
      simp only [Bool.and_eq_true, Bool.not_eq_true', Bool.and_eq_false_iff, decide_eq_false_iff_not, Bool.not_eq_false', beq_iff_eq]
      constructor
      · by_cases r : n < 0
        · right; exact fun r2 => q1 ⟨r, r2⟩
        · left; exact r
      · by_cases r : (cI e.1 : Int) = n
        · right
          by_cases r2 : cB e.1 = cB c ∧ e.2 = true
          · exact r2
          · exact absurd ⟨r, r2⟩ q2
        · left; exact r
theorem okN_t {c : Ch} {acc : List (Ch × Bool)} {n : Int} (h : ∀ e ∈ acc, ¬ (n < 0 ∧ (cB e.1 : Int) = -n) ∧ (cI e.1 : Int) ≠ n) : okN c acc n = true := by
  cases q : okN c acc n with
  | true => rfl
  | false =>
    obtain ⟨e, he, r⟩ := okN_f q
    obtain ⟨g1, g2⟩ := h e he
    rcases r with r | r
    · exact absurd r g1
    · exact absurd r.1 g2
theorem cnf_t {b : Nat} {c : Ch} {acc : List (Ch × Bool)} (hb : cB c = b) (h : ∀ e ∈ acc, cB e.1 = b → e.2 = true) : acc.all (fun e => !(cB e.1 == cB c) || e.2 || !(cP e.1 == 16 || cP c == 16 || cP c == cP e.1)) = true := by
  rw [List.all_eq_true]
  intro e he
  by_cases q : cB e.1 = b
  · simp [h e he q]
  · have : (cB e.1 == cB c) = false := by rw [hb]; simpa using q
    simp [this]
theorem tl_pre (I : Inv S z k) (N : Nk S) (F : Fr S) {b : Nat} (hb : 4 ≤ b) : ∀ (p rest : List Ch), sC S = p ++ rest →
    (∀ q ∈ goes b p, cB q.1 = b → q.2 = true) ∨ ∃ c w, (c, false) ∈ goes b p ∧ cB c = b ∧ w ∈ sC S ∧ pnz w ∧ (cI w : Int) = c3 c ∧ ∀ q ∈ goes b p, cB q.1 = b → q.2 = false → cI c ≤ cI q.1 := by
  intro p
  refine snoc_ind (P := fun p => ∀ rest : List Ch, sC S = p ++ rest → (∀ q ∈ goes b p, cB q.1 = b → q.2 = true) ∨ ∃ c w, (c, false) ∈ goes b p ∧ cB c = b ∧ w ∈ sC S ∧ pnz w ∧ (cI w : Int) = c3 c ∧ ∀ q ∈ goes b p, cB q.1 = b → q.2 = false → cI c ≤ cI q.1) (fun rest _ => Or.inl (fun q hq => (by cases hq))) (fun p x ih rest e => ?_) p
  have e' : sC S = p ++ x :: rest := by rw [e]; simp
  have pw := I.2.1.1.1.2.2.2.2.2.2
  have hx : x ∈ sC S := by rw [e']; simp
  have hlt : ∀ c ∈ p, cI c < cI x := fun c hc => by
    rw [e'] at pw
    exact (List.pairwise_append.mp pw).2.2 c hc x List.mem_cons_self
  rw [goes_snoc]
  rcases ih (x :: rest) e' with h | ⟨c, w, h1, h2, h3, h4, h5, h6⟩
  · by_cases hxb : cB x = b
    · cases hm : mayG x (goes b p) with
      | true =>
        left
        intro q hq hqb
        rcases List.mem_append.mp hq with r | r
        · exact h q r hqb
        · rw [List.mem_singleton] at r
          rw [r]
          simp [hxb]
      | false =>
        right
        have hK := I.2.1.1.2.1 x hx
        have hn := (N.2.1 x hx).1 (by omega)
        obtain ⟨n1, n2, n3, n4⟩ := hn
        have hpos : 0 ≤ c1 x ∧ 0 ≤ c2 x ∧ 0 ≤ c3 x ∧ 0 ≤ c4 x := by
          unfold Kd isLT isPT nd0 at hK
          omega
        have hno : ∀ (n : Int), 0 ≤ n → n ∈ [c1 x, c2 x, c3 x, c4 x] → okN x (goes b p) n = false → ∃ w ∈ sC S, (cI w : Int) = n ∧ cB w ≠ b ∧ ¬ (cB w = 0 ∨ isLT w) := fun n hn hmem hok => by
          obtain ⟨e, he, r⟩ := okN_f hok
          have hes : e.1 ∈ sC S := by rw [e']; exact List.mem_append_left _ (goes_mem he)
          rcases r with r | ⟨r1, r2⟩
          · omega
          · refine ⟨e.1, hes, r1, fun q => r2 ⟨by rw [q, hxb], h e he q⟩, ?_⟩
            rw [← r1] at hmem
            exact F x hx e.1 hes hmem
        have hw : ∃ w ∈ sC S, pnz w ∧ (cI w : Int) = c3 x := by
          unfold mayG at hm
          rw [cnf_t hxb h, Bool.and_true] at hm
          simp only [Bool.and_eq_false_iff] at hm
          rcases hm with ((hm | hm) | hm) | hm
          · obtain ⟨w, hw, w1, w2, w3⟩ := hno _ hpos.1 (by simp) hm
            rcases n1 w hw w1 with q | q
            · exact absurd (Or.inr q) w3
            · exact absurd (q.trans hxb) w2
          · obtain ⟨w, hw, w1, w2, w3⟩ := hno _ hpos.2.1 (by simp) hm
            exact absurd (Or.inr (n2 w hw w1)) w3
          · obtain ⟨w, hw, w1, w2, w3⟩ := hno _ hpos.2.2.1 (by simp) hm
            exact ⟨w, hw, n3 w hw w1, w1⟩
          · obtain ⟨w, hw, w1, w2, w3⟩ := hno _ hpos.2.2.2 (by simp) hm
            exact absurd ((n4 w hw w1).trans hxb) w2
        obtain ⟨w, hw, w1, w2⟩ := hw
        refine ⟨x, w, List.mem_append_right _ (by simp), hxb, hw, w1, w2, fun q hq hqb hqf => ?_⟩
        rcases List.mem_append.mp hq with r | r
        · rw [h q r hqb] at hqf; cases hqf
        · rw [List.mem_singleton] at r
          rw [r]
          exact Nat.le_refl _
    · left
      intro q hq hqb
      rcases List.mem_append.mp hq with r | r
      · exact h q r hqb
      · rw [List.mem_singleton] at r
        rw [r] at hqb
        exact absurd hqb hxb
  · right
    refine ⟨c, w, List.mem_append_left _ h1, h2, h3, h4, h5, fun q hq hqb hqf => ?_⟩
    rcases List.mem_append.mp hq with r | r
    · exact h6 q r hqb hqf
    · rw [List.mem_singleton] at r
      rw [r]
      exact Nat.le_of_lt (hlt c (goes_mem h1))
theorem tl_new (I : Inv S z k) (N : Nk S) (F : Fr S) {b : Nat} (hb : 4 ≤ b) : Tl b (wrs S b) := fun d hd hdb => by
  rcases wrs_ex (inv_lk I) b with ⟨q, e⟩ | ⟨-, ⟨h1, X, h2, h3⟩, -⟩
  · rw [e] at hd
    rw [dirt_iff.mpr ⟨d, hd, hdb⟩] at q
    cases q
  · rw [h2] at hd ⊢
    rcases List.mem_append.mp hd with r | r
    · have hd2 : (d, false) ∈ goes b (sC S) := held_mem.mp r
      rcases tl_pre I N F hb (sC S) [] (by simp) with g | ⟨c, w, g1, g2, g3, g4, g5, g6⟩
      · exact absurd (g _ hd2 hdb) (by simp)
      · refine ⟨c, List.mem_append_left _ (held_mem.mpr g1), g2, g6 _ hd2 hdb rfl, w, List.mem_append_left _ (not_go g3 ?_), g4, g5⟩
        have := g4.1
        unfold isPT at this
        omega
    · have := (h3 d r).2.2.1
      omega
theorem tl_keep (L : Lk S) {b b' : Nat} (hb : 4 ≤ b) (hb' : 4 ≤ b') (hne : b ≠ b') (T : Tl b S) : Tl b (wrs S b') := fun d hd hdb => by
  rcases wrs_mem L b' hd with q | q
  · obtain ⟨c, c1, c2, c3, w, w1, w2, w3⟩ := T d q hdb
    refine ⟨c, wrs_stay L c1 (by omega), c2, c3, w, wrs_stay L w1 ?_, w2, w3⟩
    have := w2.1
    unfold isPT at this
    omega
  · omega
theorem tl_keeps : ∀ (l : List Nat) (S : St) (b : Nat), 4 ≤ b → (∀ x ∈ l, 4 ≤ x ∧ x ≠ b) → Inv S z (k + 240 * l.length) → Tl b S → Tl b (syF S l) := by
  intro l
  induction l with
  | nil => intro S b _ _ _ T; exact T
  | cons x l ih =>
    intro S b hb hl I T
    rw [List.length_cons] at I
    obtain ⟨h1, h2⟩ := hl x List.mem_cons_self
    exact ih (wrs S x) b hb (fun y hy => hl y (List.mem_cons_of_mem _ hy)) (inv_wrs (I.le (by omega)) x) (tl_keep (inv_lk I) hb h1 (fun q => h2 q.symm) T)
theorem tl_all : ∀ (l : List Nat) (S : St), l.Pairwise (fun a b => a ≠ b) → (∀ x ∈ l, 4 ≤ x) → Inv S z (k + 240 * l.length) → Nk S → Fr S → (∀ b ∈ l, Tl b (syF S l)) ∧ Fr (syF S l) := by
  intro l
  induction l with
  | nil => intro S _ _ _ _ F; exact ⟨fun b hb => (by cases hb), F⟩
  | cons x l ih =>
    intro S hp hl I N F
    rw [List.length_cons] at I
    obtain ⟨p1, p2⟩ := List.pairwise_cons.mp hp
    have hx := hl x List.mem_cons_self
    have I1 : Inv (wrs S x) z (k + 240 * l.length) := inv_wrs (I.le (by omega)) x
    have L := inv_lk I
    obtain ⟨i1, i2⟩ := ih (wrs S x) p2 (fun y hy => hl y (List.mem_cons_of_mem _ hy)) I1 (nk_wrs N x) (fr_wrs L N.1 F x)
    refine ⟨fun b hb => ?_, i2⟩
    rcases List.mem_cons.mp hb with q | q
    · rw [q]
      exact tl_keeps l (wrs S x) x hx (fun y hy => ⟨hl y (List.mem_cons_of_mem _ hy), fun r => p1 y hy r.symm⟩) I1 (tl_new I N F hx)
    · exact i1 b q
/-! pointers that are pending -/
def pb (c : Ch) : Bool := decide (1 ≤ cB c) && decide (cB c ≤ 3) && decide (cP c < 16) && decide (2 ≤ cP c % 4) && decide (cV c ≠ 0)
theorem pb_iff {c : Ch} : pb c = true ↔ pnz c := by
  unfold pb pnz isPT
  simp only [Bool.and_eq_true, decide_eq_true_eq]
  constructor
  · rintro ⟨⟨⟨⟨a, b⟩, c⟩, d⟩, e⟩; exact ⟨⟨a, b, c, d⟩, e⟩
  · rintro ⟨⟨a, b, c, d⟩, e⟩; exact ⟨⟨⟨⟨a, b⟩, c⟩, d⟩, e⟩
def pp (S : St) : Nat := ((sC S).filter pb).length
theorem pp_ex {Y Y' : St} (h : Ex Y Y') : pp Y' = pp Y := by
  obtain ⟨-, X, h2, h3⟩ := h
  unfold pp
  rw [h2, List.filter_append, List.length_append]
  have : X.filter pb = [] := by
    rw [List.filter_eq_nil_iff]
    intro x hx q
    exact (h3 x hx).2.2.2 (pb_iff.mp q)
  rw [this]
  rfl
theorem pp_wrs (L : Lk S) (b : Nat) : pp (wrs S b) ≤ pp S := by
  rcases wrs_ex L b with ⟨-, e⟩ | ⟨-, h, -⟩
  · rw [e]; exact Nat.le_refl _
  · rw [pp_ex h]
    exact ((held_sub b (sC S)).filter pb).length_le
theorem pp_lt (L : Lk S) {b : Nat} {w : Ch} (hw : w ∈ sC S) (hp : pnz w) (hn : w ∉ sC (wrs S b)) : pp (wrs S b) < pp S := by
  rcases wrs_ex L b with ⟨-, e⟩ | ⟨-, h, -⟩
  · rw [e] at hn; exact absurd hw hn
  · rw [pp_ex h]
    have hs := (held_sub b (sC S)).filter pb
    rcases Nat.lt_or_ge (pp (wrK S b)) (pp S) with q | q
    · exact q
    · exfalso
      have e := hs.eq_of_length_le q
      have h1 : w ∈ (sC S).filter pb := List.mem_filter.mpr ⟨hw, pb_iff.mpr hp⟩
      rw [← e] at h1
      have h2 : w ∈ sC (wrK S b) := (List.mem_filter.mp h1).1
      obtain ⟨-, X, h3, -⟩ := h
      rw [h3] at hn
      exact hn (List.mem_append_left _ h2)
theorem pp_syF : ∀ (l : List Nat) (S : St), Inv S z (k + 240 * l.length) → pp (syF S l) ≤ pp S := by
  intro l
  induction l with
  | nil => intro S _; exact Nat.le_refl _
  | cons x l ih =>
    intro S I
    rw [List.length_cons] at I
    exact Nat.le_trans (ih (wrs S x) (inv_wrs (I.le (by omega)) x)) (pp_wrs (inv_lk I) x)
theorem pp_12 (I : Inv S z k) : pp S ≤ 12 := by
  have hz := I.1
  have C := I.2.1.1
  have qc := C.2.2.2.2.2.2.2.1
  have pw := C.1.2.2.2.2.2.2
  unfold pp
  have := sub_len (((sC S).filter pb).map cV) (List.range' 4 12) ?_ ?_
  · rw [List.length_map, List.length_range'] at this
    exact this
  · rw [List.pairwise_map]
    refine List.Pairwise.imp_of_mem ?_ (pw.filter pb)
    intro a b ha hb hlt e
    obtain ⟨a1, a2⟩ := List.mem_filter.mp ha
    obtain ⟨b1, b2⟩ := List.mem_filter.mp hb
    have := qc a a1 b b1 (pb_iff.mp a2).1 (pb_iff.mp b2).1 e (pb_iff.mp a2).2
    rw [this] at hlt
    omega
  · intro x hx
    obtain ⟨c, hc, rfl⟩ := List.mem_map.mp hx
    obtain ⟨c1, c2⟩ := List.mem_filter.mp hc
    have hk := (C.2.1 c c1).pt (pb_iff.mp c2).1
    have := (pb_iff.mp c2).2
    rw [List.mem_range'_1]
    omega
/-- the first pointer that is pending goes with its block -/
theorem star_go (I : Inv S z k) (N : Nk S) (F : Fr S) {w : Ch} (hw : w ∈ sC S) (hp : pnz w) (hmin : ∀ c ∈ sC S, pnz c → cI w ≤ cI c) (hdat : ∀ d ∈ sC S, cB d = cV w → cI w < cI d) : w ∉ sC (wrs S (cB w)) := by
  have Bd1 := I.2.1.1.1
  have pw := Bd1.2.2.2.2.2.2
  have hpt := hp.1
  have key : ∀ (p rest : List Ch), sC S = p ++ rest → ∀ q ∈ goes (cB w) p, cB q.1 = cB w → cI q.1 ≤ cI w → q.2 = true := by
    intro p
    refine snoc_ind (P := fun p => ∀ rest : List Ch, sC S = p ++ rest → ∀ q ∈ goes (cB w) p, cB q.1 = cB w → cI q.1 ≤ cI w → q.2 = true) (fun rest _ q hq => (by cases hq)) (fun p x ih rest e => ?_) p
    have e' : sC S = p ++ x :: rest := by rw [e]; simp
    have hx : x ∈ sC S := by rw [e']; simp
    have hps : ∀ c ∈ p, c ∈ sC S := fun c hc => by rw [e']; exact List.mem_append_left _ hc
    have hlt : ∀ c ∈ p, cI c < cI x := fun c hc => by
      rw [e'] at pw
      exact (List.pairwise_append.mp pw).2.2 c hc x List.mem_cons_self
    intro q hq hqb hqi
    rw [goes_snoc] at hq
    rcases List.mem_append.mp hq with r | r
    · exact ih (x :: rest) e' q r hqb hqi
    · rw [List.mem_singleton] at r
      rw [r] at hqb hqi ⊢
      have hqb : cB x = cB w := hqb
      have hqi : cI x ≤ cI w := hqi
      have hall : ∀ e ∈ goes (cB w) p, cB e.1 = cB w → e.2 = true := fun e he heb => ih (x :: rest) e' e he heb (by have := hlt e.1 (goes_mem he); omega)
      have h1 : ∀ e ∈ goes (cB w) p, 1 ≤ cI e.1 := fun e he => (N.1 e.1 (hps _ (goes_mem he))).1
      have z0 : okN x (goes (cB w) p) 0 = true := okN_t (fun e he => ⟨by omega, by have := h1 e he; omega⟩)
      show (cB x == cB w && mayG x (goes (cB w) p)) = true
      rw [hqb, beq_self_eq_true, Bool.true_and]
      unfold mayG
      rw [cnf_t hqb hall, Bool.and_true]
      have hK := I.2.1.1.2.1 x hx
      have hnd : nd0 x ∨ pnz x := by
        unfold isPT at hpt
        rcases hK with q | q | q | q
        · exact Or.inl q.2.2.2.2
        · exact Or.inl q.2.1
        · rcases q.2 with r | r
          · exact Or.inl r.2
          · exact Or.inr ⟨q.1, by omega⟩
        · omega
      rcases hnd with ⟨d1, d2, d3, d4⟩ | hpx
      · rw [d1, d2, d3, d4, z0]
        rfl
      · have hxw : x = w := go_ids Bd1 hx hw (by have := hmin x hx hpx; omega)
        have hkd := hK.pt hpx.1
        obtain ⟨m1, m2⟩ := (N.2.1 x hx).2 hpx.1
        have hv := hpx.2
        have hd3 : c3 x = 0 ∧ c4 x = 0 := by
          rcases hkd with r | r
          · exact absurd r.1 hv
          · exact ⟨r.2.2.2.1, r.2.2.2.2.1⟩
        have o1 : okN x (goes (cB w) p) (c1 x) = true := okN_t (fun e he => by
          have hes := hps _ (goes_mem he)
          refine ⟨?_, fun q => ?_⟩
          · rcases hkd with r | r
            · exact absurd r.1 hv
            · omega
          · exact F x hx e.1 hes (by rw [q]; simp) (Or.inl (m1 e.1 hes q)))
        have o2 : okN x (goes (cB w) p) (c2 x) = true := okN_t (fun e he => by
          have hes := hps _ (goes_mem he)
          have hl := hlt e.1 (goes_mem he)
          refine ⟨fun q => ?_, fun q => ?_⟩
          · rcases hkd with r | r
            · exact hv r.1
            · have := r.2.2.2.2.2 q.1
              have h9 := hdat e.1 hes (by rw [← hxw]; omega)
              rw [← hxw] at h9
              omega
          · have h9 := hdat e.1 hes (by rw [← hxw]; exact m2 e.1 hes q)
            rw [← hxw] at h9
            omega)
        rw [hd3.1, hd3.2, z0, o1, o2]
        rfl
  intro hin
  rcases wrs_ex (inv_lk I) (cB w) with ⟨q, -⟩ | ⟨-, ⟨h1, X, h2, h3⟩, -⟩
  · rw [dirt_iff.mpr ⟨w, hw, rfl⟩] at q
    cases q
  · rw [h2] at hin
    rcases List.mem_append.mp hin with r | r
    · have := key (sC S) [] (by simp) _ (held_mem.mp r) rfl (Nat.le_refl _)
      cases this
    · have h4 := (h3 w r).2.1
      have h5 := (N.1 w hw).2.1
      have h4 : sM S < cI w := h4
      omega
end K3
