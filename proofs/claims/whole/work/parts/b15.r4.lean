/-! ===== no rings: what is made ===== -/
section R4s
variable {S S' : St} {z : Nat} {t p : Nat → Int} {X : List Ch}
theorem split_l {Q X pre l : List Ch} {g : Ch} (e : Q ++ X = pre ++ g :: l) : (∃ l', l = l' ++ X ∧ Q = pre ++ g :: l') ∨ ∃ pre', pre = Q ++ pre' ∧ X = pre' ++ g :: l := by
  rcases List.append_eq_append_iff.mp e with ⟨a, h1, h2⟩ | ⟨a, h1, h2⟩
  · exact Or.inr ⟨a, h1, h2⟩
  · cases a with
    | nil => exact Or.inr ⟨[], by simpa using h1.symm, by simpa using h2.symm⟩
    | cons y a =>
      obtain ⟨h3, h4⟩ := List.cons.inj h2
      refine Or.inl ⟨a, h4, ?_⟩
      rw [h1, h3]
theorem DE_ext (B : Bd S) (e1 : sD S' = sD S) (e2 : sC S' = sC S ++ X) {P Q : List Ch} {bb : Nat} {pid : Int} (ePQ : sC S = P ++ Q) (hpid : pid ≤ sM S) (hXi : ∀ c ∈ X, sM S < cI c)
    (hy : ∀ y, y < 12 → ∀ k : Int, k ≤ sM S → (fd (mm S) y 1 = 2 → k < tM S t y) → fd (mm S') y 1 = 2 → k < tM S' t y)
    (x2 : ∀ pre g l, X = pre ++ g :: l → cB g = bb → cP g % 2 = 0 → cV g ≠ 0 → (pid : Int) < c1 g ∧ vA (sD S) (sC S ++ pre) (ad g + 1) < 12 ∧ (fd (mm S') (vA (sD S) (sC S ++ pre) (ad g + 1)) 1 = 2 → c1 g < tM S' t (vA (sD S) (sC S ++ pre) (ad g + 1))) ∧ (fd (sD S) (vA (sD S) (sC S ++ pre) (ad g + 1)) 1 = 2 → ∃ w ∈ sC S', (cI w : Int) = c1 g ∧ cB w = 1 + vA (sD S) (sC S ++ pre) (ad g + 1) / 4))
    (x3 : ∀ q ∈ X, cB q = bb → cP q % 2 = 1 → ∃ g ∈ X, cB g = bb ∧ cP g + 1 = cP q ∧ c4 g = cI q ∧ cI q < cI g ∧ ∀ g' ∈ X, cI q < cI g' → cI g ≤ cI g')
    (x4 : ∀ pre q l, X = pre ++ q :: l → cB q = bb → cP q % 2 = 1 → vA (sD S) (sC S ++ pre) (ad q - 1) = 0 ∧ ∀ g ∈ Q ++ pre, tch g (ad q - 1) = true → ∃ w ∈ Q ++ pre, tch w (ad q - 1) = true ∧ cI g ≤ cI w ∧ (cI w : Int) = c1 q)
    (D : DE S t P Q bb pid) : DE S' t P (Q ++ X) bb pid := by
  obtain ⟨d1, d2, d3, d4⟩ := D
  have hQS : ∀ c ∈ Q, c ∈ sC S := fun c hc => by rw [ePQ]; exact List.mem_append_right _ hc
  unfold DE
  rw [e1]
  refine ⟨fun u hu hne => ?_, fun pre g l e h1 h2 h3 => ?_, fun q hq h1 h2 => ?_, fun pre q l e h1 h2 => ?_⟩
  · obtain ⟨y1, y2, y3⟩ := d1 u hu hne
    refine ⟨y1, fun h => ?_, fun h => ?_⟩
    · have := hy _ y1 (pid : Int) (by omega) (fun h' => by have := y2 h'; omega) h
      omega
    · rw [e1] at h
      exact y3 h
  · rcases split_l e with ⟨l', -, r2⟩ | ⟨pre', r1, r2⟩
    · obtain ⟨y1, y2, y3, y4⟩ := d2 pre g l' r2 h1 h2 h3
      have hgS := hQS g (by rw [r2]; simp)
      have hch := B.2.2.2.2.1 g hgS
      have hc1 : c1 g ≤ sM S := by
        have h5 := (hch.2.2.2.2.2 (c1 g) (by simp)).2
        have h6 := hch.2.1
        omega
      refine ⟨y1, y2, fun h => hy _ y2 _ hc1 y3 h, fun h => ?_⟩
      rcases y4 h with w | ⟨w, w1, w2⟩
      · exact Or.inl w
      · exact Or.inr ⟨w, by rw [e2]; exact List.mem_append_left _ w1, w2⟩
    · obtain ⟨y1, y2, y3, y4⟩ := x2 pre' g l r2 h1 h2 h3
      have hpp : P ++ pre = sC S ++ pre' := by rw [r1, ePQ, List.append_assoc]
      rw [hpp]
      exact ⟨y1, y2, y3, fun h => Or.inr (y4 h)⟩
  · rcases List.mem_append.mp hq with w | w
    · obtain ⟨g, a1, a2, a3, a4, a5, a6⟩ := d3 q w h1 h2
      refine ⟨g, List.mem_append_left _ a1, a2, a3, a4, a5, fun g' hg' hlt => ?_⟩
      rcases List.mem_append.mp hg' with k | k
      · exact a6 g' k hlt
      · have h5 := hXi g' k
        have h6 := (B.2.2.2.2.1 g (hQS g a1)).2.1
        omega
    · obtain ⟨g, a1, a2, a3, a4, a5, a6⟩ := x3 q w h1 h2
      refine ⟨g, List.mem_append_right _ a1, a2, a3, a4, a5, fun g' hg' hlt => ?_⟩
      rcases List.mem_append.mp hg' with k | k
      · have h5 := hXi q w
        have h6 := (B.2.2.2.2.1 g' (hQS g' k)).2.1
        omega
      · exact a6 g' k hlt
  · rcases split_l e with ⟨l', -, r2⟩ | ⟨pre', r1, r2⟩
    · exact d4 pre q l' r2 h1 h2
    · have hpp : P ++ pre = sC S ++ pre' := by rw [r1, ePQ, List.append_assoc]
      rw [hpp, r1]
      exact x4 pre' q l r2 h1 h2
/-- changes of other blocks -/
theorem DE_fr (B : Bd S) (e1 : sD S' = sD S) (e2 : sC S' = sC S ++ X) {P Q : List Ch} {bb : Nat} {pid : Int} (ePQ : sC S = P ++ Q) (hpid : pid ≤ sM S) (hXi : ∀ c ∈ X, sM S < cI c) (hX : ∀ c ∈ X, cB c ≠ bb)
    (hy : ∀ y, y < 12 → ∀ k : Int, k ≤ sM S → (fd (mm S) y 1 = 2 → k < tM S t y) → fd (mm S') y 1 = 2 → k < tM S' t y) (D : DE S t P Q bb pid) : DE S' t P (Q ++ X) bb pid :=
  DE_ext B e1 e2 ePQ hpid hXi hy (fun pre g l e h => absurd h (hX g (by rw [e]; simp))) (fun q hq h => absurd h (hX q hq)) (fun pre q l e h => absurd h (hX q (by rw [e]; simp))) D
/-- whose pointer a block is -/
def Whs (S : St) (p : Nat → Int) (bb : Nat) (pid : Int) : Prop := (∃ x, pa x ∧ sD S x = bb ∧ pid = p x) ∨ ∃ c ∈ sC S, isPT c ∧ cV c = bb ∧ pid = cI c
theorem hp_le (B : Bd S) (N : Nr S t p) {bb : Nat} {pid : Int} (h : Whs S p bb pid) : pid ≤ sM S := by
  rcases h with ⟨x, -, -, h⟩ | ⟨c, hc, -, -, h⟩
  · rw [h]; exact N.1.2 x
  · rw [h]; exact Int.ofNat_le.mpr (B.2.2.2.2.1 c hc).2.1
/-- changes of blocks from 4 on -/
theorem nr_data (C : Co S z) (N : Nr S t p) (e1 : sD S' = sD S) (e2 : sC S' = sC S ++ X) (e3 : sM S ≤ sM S') (hX : ∀ c ∈ X, 4 ≤ cB c) (hXp : ∀ c ∈ X, ¬ isPT c) (hg : ∀ bb, dirB S bb → ∀ c ∈ X, good bb c)
    (hD : ∀ P Q bb pid, sC S = P ++ Q → (∀ c ∈ Q, good bb c) → 4 ≤ bb → dirB S bb → Whs S p bb pid → DE S t P Q bb pid → DE S' t P (Q ++ X) bb pid) : Nr S' t p := by
  obtain ⟨⟨n1, n2⟩, r1, r2, r3, r5⟩ := N
  have hnt : ∀ {y : Nat}, y < 64 → ∀ c ∈ X, tch c y = false := fun {y} hy c hc => by
    cases h : tch c y with
    | false => rfl
    | true =>
      have := (tch_iff.mp h).1
      have := hX c hc
      omega
  have hmm : ∀ {y : Nat}, y < 64 → mm S' y = mm S y := fun {y} hy => by
    show vA (sD S') (sC S') y = vA (sD S) (sC S) y
    rw [e1, e2, vA_app, vA_no (hnt hy)]
  have htx : ∀ {x : Nat}, pa x → tg x < 64 ∧ x < 64 := fun {x} hx => by unfold tg pa at *; omega
  refine ⟨⟨fun n => by have := n1 n; omega, fun x => by have := n2 x; omega⟩, fun x hx ht hn => ?_, fun x hx ht hn => ?_, fun x hx ht hn => ?_, fun pre c l e hp hv hlast ht => ?_⟩
  · rw [e1] at ht hn
    exact r1 x hx ht hn
  · rw [hmm (htx hx).1] at ht
    rw [hmm (htx hx).2] at hn
    have := r2 x hx ht hn
    show lastI (sC S') (ta (nx x)) _ < lastI (sC S') x _
    rw [e2, lastI_app, lastI_app, lastI_no (hnt (by rw [ta_nx hx]; exact (htx hx).1)), lastI_no (hnt (htx hx).2)]
    exact this
  · rw [e1] at ht hn ⊢
    rw [e2]
    have h4 : 4 ≤ sD S x := by
      rcases C.2.2.2.2.1 x hx with w | w
      · exact absurd w hn
      · exact w.1
    exact hD [] (sC S) _ _ rfl (C.2.2.2.2.2.2.2.2.2.2.2.1 x hx ht hn).2 h4 ⟨x, hx, Or.inr ⟨ht, rfl⟩⟩ (Or.inl ⟨x, hx, rfl, rfl⟩) (r3 x hx ht hn)
  · rw [e2] at e
    rw [hmm (htx (pa_of hp)).1] at ht
    rcases split_l e with ⟨l', g1, g2⟩ | ⟨pre', g1, g2⟩
    · have hl' : ∀ c' ∈ l', tch c' (ad c) = false := fun c' hc' => hlast c' (by rw [g1]; exact List.mem_append_left _ hc')
      obtain ⟨P, Q, k1, k2, k3, k4⟩ := r5 pre c l' g2 hp hv hl' ht
      have hcS : c ∈ sC S := by rw [g2]; simp
      have hmx : mm S (ad c) = cV c := by
        show vA (sD S) (sC S) (ad c) = cV c
        rw [g2]
        exact vA_last ((tch_ad hp.2.2.1).mpr rfl) hl'
      have h4 : 4 ≤ cV c := by
        rcases (C.2.1 c hcS).pt hp with w | w
        · exact absurd w.1 hv
        · exact w.1
      have hdb : dirB S (cV c) := ⟨ad c, pa_of hp, Or.inl ⟨ht, hmx⟩⟩
      refine ⟨P, Q ++ X, by rw [e2, k1, List.append_assoc], fun c' hc' => ?_, k3, hD P Q _ _ k1 k2 h4 hdb (Or.inr ⟨c, hcS, hp, rfl, rfl⟩) k4⟩
      rcases List.mem_append.mp hc' with w | w
      · exact k2 c' w
      · exact hg _ hdb c' w
    · exact absurd hp (hXp c (by rw [g2]; simp))
end R4s
