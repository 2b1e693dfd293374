/-! ===== no rings: the invariant, behind a write ===== -/
abbrev nx (x : Nat) : Nat := (x - 16) / 4
theorem ta_nx {x : Nat} (h : pa x) : ta (nx x) = tg x := by unfold ta nx tg pa at *; omega
def R1 (S : St) (t p : Nat → Int) : Prop := ∀ x, pa x → sD S (tg x) = 2 → sD S x ≠ 0 → t (nx x) < p x
def R2 (S : St) (t p : Nat → Int) : Prop := ∀ x, pa x → mm S (tg x) = 2 → mm S x ≠ 0 → tM S t (nx x) < pM S p x
def R3 (S : St) (t p : Nat → Int) : Prop := ∀ x, pa x → sD S (tg x) = 2 → sD S x ≠ 0 → DE S t [] (sC S) (sD S x) (p x)
def R5 (S : St) (t : Nat → Int) : Prop := ∀ pre c l, sC S = pre ++ c :: l → isPT c → cV c ≠ 0 → (∀ c' ∈ l, tch c' (ad c) = false) → mm S (tg (ad c)) = 2 → ∃ P Q, sC S = P ++ Q ∧ (∀ c' ∈ Q, good (cV c) c') ∧ Blk c P ∧ DE S t P Q (cV c) (cI c)
def Nr (S : St) (t p : Nat → Int) : Prop := ((∀ n, t n ≤ sM S) ∧ ∀ x, p x ≤ sM S) ∧ R1 S t p ∧ R2 S t p ∧ R3 S t p ∧ R5 S t
section R2s
variable {S : St} {z b : Nat} {t p : Nat → Int}
def pWr (S : St) (b : Nat) (p : Nat → Int) (x : Nat) : Int := lastI (gone (goes b (sC S))) x (p x)
theorem pM_w (S : St) (b : Nat) (p : Nat → Int) (x : Nat) : pM (wrK S b) (pWr S b p) x = pM S p x := by
  show lastI (held (goes b (sC S))) x (lastI (gone (goes b (sC S))) x (p x)) = _
  rw [lastI_split (goes_apart b (sC S)), goes_fst]
theorem blk_w (B : Bd S) {c : Ch} {P Q : List Ch} (e1 : sC S = P ++ Q) {GP GQ : List (Ch × Bool)} (k1 : goes b (sC S) = GP ++ GQ) (k2 : GP.map Prod.fst = P) (e4 : Blk c P) : Blk c (held GP) := by
  have hsub : ∀ c' ∈ held GP, c' ∈ P := fun c' hc' => by rw [← k2]; exact List.mem_map.mpr ⟨(c', false), held_mem.mp hc', rfl⟩
  rcases e4 with h | ⟨P0, w, h1, h2, h3, h4⟩ | ⟨h1, h2, h3⟩
  · exact Or.inl (fun c' hc' => h c' (hsub c' hc'))
  · have hGP : ∃ GP0 fw, GP = GP0 ++ [(w, fw)] := by
      rcases List.eq_nil_or_concat GP with rfl | ⟨GP0, q, rfl⟩
      · rw [h1] at k2; simp at k2
      · rw [List.concat_eq_append] at k2 ⊢
        rw [List.map_append, h1] at k2
        obtain ⟨u1, u2⟩ := List.append_inj' k2 rfl
        have : q.1 = w := (List.cons.inj u2).1
        exact ⟨GP0, q.2, by rw [← this]⟩
    obtain ⟨GP0, fw, hGP⟩ := hGP
    cases fw with
    | false =>
      refine Or.inr (Or.inl ⟨held GP0, w, ?_, h2, h3, h4⟩)
      rw [hGP, held_app]
      rfl
    | true =>
      refine Or.inl (fun c' hc' hq => ?_)
      rw [hGP, held_app] at hc'
      have hc0 : c' ∈ held GP0 := by simpa [held] using hc'
      have hap2 := goes_apart b (sC S)
      rw [k1, hGP] at hap2
      have hcP : cP c' ≤ 16 := (B.2.2.2.2.1 c' (by rw [e1]; exact List.mem_append_left _ (hsub c' (by rw [hGP, held_app]; exact List.mem_append_left _ hc0)))).2.2.2.1
      have := (List.pairwise_append.mp (List.pairwise_append.mp hap2).1).2.2 _ (held_mem.mp hc0) (w, true) (by simp) rfl rfl
      by_cases h16 : cP c' = 16
      · exact this (16 * cB c') (tch_iff.mpr ⟨by show cB c' = _; omega, Or.inl h16⟩) (tch_iff.mpr ⟨by show cB w = _; omega, Or.inl h3⟩)
      · exact this (16 * cB c' + cP c') (tch_iff.mpr ⟨by show cB c' = _; omega, Or.inr (by show cP c' = _; omega)⟩) (tch_iff.mpr ⟨by show cB w = _; omega, Or.inl h3⟩)
  · by_cases hex : ∃ e ∈ held GP, cB e = cV c
    · exact Or.inr (Or.inr ⟨h1, hex, fun e' he' => h3 e' (hsub e' he')⟩)
    · exact Or.inl (fun c' hc' hq => hex ⟨c', hc', hq⟩)
/-- a split behind a part that does not hold it -/
theorem split_r {P Q pre l : List Ch} {g : Ch} (e : P ++ Q = pre ++ g :: l) (h : g ∉ P) : ∃ pre', pre = P ++ pre' ∧ Q = pre' ++ g :: l := by
  rcases List.append_eq_append_iff.mp e with ⟨a, h1, h2⟩ | ⟨a, h1, h2⟩
  · exact ⟨a, h1, h2⟩
  · cases a with
    | nil => exact ⟨[], by simpa using h1.symm, by simpa using h2.symm⟩
    | cons y a =>
      exfalso
      have : g = y := (List.cons.inj h2).1
      refine h ?_
      rw [h1, this]
      simp
theorem DE_nil (B : Bd S) {P Q : List Ch} {bb : Nat} {pid : Int} (ePQ : sC S = P ++ Q) (hgood : ∀ c ∈ Q, good bb c) (hno : ∀ c ∈ P, cB c ≠ bb) (D : DE S t P Q bb pid) : DE S t [] (sC S) bb pid := by
  obtain ⟨d1, d2, d3, d4⟩ := D
  have hnt : ∀ {y : Nat}, y / 16 = bb → ∀ c ∈ P, tch c y = false := fun {y} hy c hc => by
    cases h : tch c y with
    | false => rfl
    | true =>
      have := (tch_iff.mp h).1
      exact absurd (by omega) (hno c hc)
  have hv : ∀ {y : Nat}, y / 16 = bb → vA (sD S) P y = sD S y := fun {y} hy => vA_no (hnt hy)
  rw [ePQ]
  refine ⟨fun u hu hne => ?_, fun pre g l e h1 h2 h3 => ?_, fun q hq h1 h2 => ?_, fun pre q l e h1 h2 => ?_⟩
  · have h := d1 u hu
    rw [hv (by omega), hv (by omega)] at h
    exact h hne
  · obtain ⟨pre', r1, r2⟩ := split_r e (fun h => hno g h h1)
    have := d2 pre' g l r2 h1 h2 h3
    rw [← r1] at this
    exact this
  · have hqQ : q ∈ Q := by
      rcases List.mem_append.mp hq with w | w
      · exact absurd h1 (hno q w)
      · exact w
    obtain ⟨g, a1, a2, a3, a4, a5, a6⟩ := d3 q hqQ h1 h2
    refine ⟨g, List.mem_append_right _ a1, a2, a3, a4, a5, fun g' hg' hlt => ?_⟩
    rcases List.mem_append.mp hg' with w | w
    · have hpw := B.2.2.2.2.2.2
      rw [ePQ] at hpw
      have := (List.pairwise_append.mp hpw).2.2 g' w q hqQ
      omega
    · exact a6 g' w hlt
  · obtain ⟨pre', r1, r2⟩ := split_r e (fun h => hno q h h1)
    obtain ⟨y1, y2⟩ := d4 pre' q l r2 h1 h2
    have hqp := (hgood q (by rw [r2]; simp) h1).1
    have hblk : (ad q - 1) / 16 = bb := by show (16 * cB q + cP q - 1) / 16 = bb; omega
    rw [← r1] at y1
    refine ⟨y1, fun g hg ht => ?_⟩
    rw [r1] at hg
    rcases List.mem_append.mp hg with w | w
    · have := hnt hblk g w
      rw [ht] at this
      cases this
    · obtain ⟨w, w1, w2⟩ := y2 g w ht
      exact ⟨w, by rw [r1]; exact List.mem_append_right _ w1, w2⟩
theorem w_R1 (B : Bd S) (K : Kds S z) (A : PA S) (h1 : R1 S t p) (h2 : R2 S t p) : R1 (wrK S b) (tW S b t) (pWr S b p) := fun x hx ht hn => by
  have hx12 : nx x < 12 := by unfold nx pa at *; omega
  have hfd : ∀ v : Nat → Nat, fd v (nx x) 1 = v (tg x) := fun v => by
    show v (16 + 4 * nx x + 1) = v (tg x)
    rw [← ta_nx hx]
  rcases tag_w (b := b) (t := t) B K hx12 with ⟨e0, e1, e2⟩ | ⟨e0, e1, e2⟩
  · have hxb : x / 16 = b := by unfold nx pa at *; omega
    rw [hfd, hfd] at e1
    rw [e1] at ht
    rcases dsk_pt B K A (b := b) (by unfold pa at hx; omega) hxb hx.2.2 with h0 | ⟨k1, k2⟩
    · exact absurd h0 hn
    · have hm : mm S x ≠ 0 := by rw [← k2]; exact hn
      have := h2 x hx ht hm
      rw [e2]
      have hp : pWr S b p x = pM S p x := by
        rw [← pM_w S b p x]
        exact (lastI_no k1).symm
      rw [hp]
      exact this
  · have hxb : x / 16 ≠ b := by unfold nx pa at *; omega
    rw [hfd, hfd] at e1
    rw [e1] at ht
    have hd : sD (wrK S b) x = sD S x := dsk_ne hxb _
    rw [hd] at hn
    rw [e2]
    have hp : pWr S b p x = p x := lastI_no (fun c hc => by
      have h5 : cB c = b := goes_blk b (sC S) _ (gone_mem.mp hc) rfl
      cases h6 : tch c x
      · rfl
      · have := (tch_iff.mp h6).1
        omega)
    rw [hp]
    exact h1 x hx ht hn
theorem w_R2 (h2 : R2 S t p) : R2 (wrK S b) (tW S b t) (pWr S b p) := fun x hx ht hn => by
  rw [mm_wrK] at ht hn
  rw [tM_w, pM_w]
  exact h2 x hx ht hn
end R2s
