/-! ===== no rings: one change ===== -/
section R5s
variable {S : St} {z : Nat} {t p : Nat → Int}
theorem nr_low (C : Co S z) (N : Nr S t p) {b o v : Nat} {n1 n2 n3 n4 : Int} (hK : Kd z (sM S + 1, b, o, v, n1, n2, n3, n4)) (hb : b < 4)
    (hTA : isLT (sM S + 1, b, o, v, n1, n2, n3, n4) → o % 4 = 1 → v ≠ 0 → ∀ x, pa x → tg x = 16 * b + o → mm S x = 0)
    (hnew : isPT (sM S + 1, b, o, v, n1, n2, n3, n4) → v ≠ 0 → mm S (tg (16 * b + o)) = 2 → Blk (sM S + 1, b, o, v, n1, n2, n3, n4) (sC S) ∧ ∀ u, u < 8 → mm S (16 * v + 2 * u) = 0) : Nr (mkR S b o v n1 n2 n3 n4) t p := by
  obtain ⟨⟨m1, m2⟩, r1, r2, r3, r5⟩ := N
  have B := C.1
  have h16 : o < 16 := hK.lt16 hb
  have hL : ∀ (y : Nat) (q : Int), lastI (sC (mkR S b o v n1 n2 n3 n4)) y q = if tch (sM S + 1, b, o, v, n1, n2, n3, n4) y then ((sM S + 1 : Nat) : Int) else lastI (sC S) y q := fun y q => by
    show lastI (sC S ++ [_]) y q = _
    rw [lastI_app, lastI_one]
  have hT : ∀ n, tM S t n ≤ sM S := fun n => lastI_le (fun c hc => (B.2.2.2.2.1 c hc).2.1) (m1 n)
  have htag : ∀ {x : Nat}, pa x → mm (mkR S b o v n1 n2 n3 n4) (tg x) = 2 → (tch (sM S + 1, b, o, v, n1, n2, n3, n4) (tg x) = false ∧ mm S (tg x) = 2) ∨ mm S x = 0 := fun {x} hx h2 => by
    rw [mm_mkR] at h2
    cases ht : tch (sM S + 1, b, o, v, n1, n2, n3, n4) (tg x) with
    | false => rw [ht] at h2; exact Or.inl ⟨rfl, h2⟩
    | true =>
      rw [ht, if_pos rfl] at h2
      right
      have had : tg x = 16 * b + o := (tch_ad (c := (sM S + 1, b, o, v, n1, n2, n3, n4)) h16).mp ht
      have hl : isLT (sM S + 1, b, o, v, n1, n2, n3, n4) ∧ o % 4 = 1 := by
        show (1 ≤ b ∧ b ≤ 3 ∧ o < 16 ∧ o % 4 < 2) ∧ o % 4 = 1
        unfold tg pa at *
        omega
      exact hTA hl.1 hl.2 (by omega) x hx had
  have hy : ∀ y, y < 12 → ∀ k : Int, k ≤ sM S → (fd (mm S) y 1 = 2 → k < tM S t y) → fd (mm (mkR S b o v n1 n2 n3 n4)) y 1 = 2 → k < tM (mkR S b o v n1 n2 n3 n4) t y := fun y _ k hk h1 h2 => by
    show k < lastI (sC (mkR S b o v n1 n2 n3 n4)) (ta y) (t y)
    rw [hL]
    unfold fd at h2
    rw [mm_mkR] at h2
    cases ht : tch (sM S + 1, b, o, v, n1, n2, n3, n4) (ta y) with
    | true => rw [if_pos rfl]; omega
    | false =>
      rw [ht] at h2
      exact h1 h2
  have hfr : ∀ {P Q : List Ch} {bb : Nat} {pid : Int}, sC S = P ++ Q → 4 ≤ bb → pid ≤ sM S → DE S t P Q bb pid → DE (mkR S b o v n1 n2 n3 n4) t P (Q ++ [(sM S + 1, b, o, v, n1, n2, n3, n4)]) bb pid := fun {P Q bb pid} e h4 hp D =>
    DE_fr (S' := mkR S b o v n1 n2 n3 n4) (X := [(sM S + 1, b, o, v, n1, n2, n3, n4)]) B rfl rfl e hp (fun c hc => by rw [List.mem_singleton] at hc; subst hc; exact Nat.lt_succ_self _) (fun c hc => by rw [List.mem_singleton] at hc; subst hc; show b ≠ bb; omega) hy D
  refine ⟨⟨fun n => by have := m1 n; show _ ≤ ((sM S + 1 : Nat) : Int); omega, fun x => by have := m2 x; show _ ≤ ((sM S + 1 : Nat) : Int); omega⟩, r1, fun x hx ht hn => ?_, fun x hx ht hn => ?_, fun pre c l e hp hv hlast ht => ?_⟩
  · show lastI _ (ta (nx x)) _ < lastI _ x _
    rw [hL, hL, ta_nx hx]
    cases hcx : tch (sM S + 1, b, o, v, n1, n2, n3, n4) x with
    | true =>
      have had : x = 16 * b + o := (tch_ad (c := (sM S + 1, b, o, v, n1, n2, n3, n4)) h16).mp hcx
      have hno : tch (sM S + 1, b, o, v, n1, n2, n3, n4) (tg x) = false := by
        cases h : tch (sM S + 1, b, o, v, n1, n2, n3, n4) (tg x) with
        | false => rfl
        | true =>
          have : tg x = 16 * b + o := (tch_ad (c := (sM S + 1, b, o, v, n1, n2, n3, n4)) h16).mp h
          unfold tg pa at *
          omega
      rw [hno, if_pos rfl]
      simp only [Bool.false_eq_true, if_false]
      have := hT (nx x)
      unfold tM at this
      rw [ta_nx hx] at this
      omega
    | false =>
      have hm : mm S x ≠ 0 := by rw [mm_mkR, hcx] at hn; exact hn
      rcases htag hx ht with ⟨w1, w2⟩ | w
      · rw [w1]
        simp only [Bool.false_eq_true, if_false]
        have := r2 x hx w2 hm
        unfold tM at this
        rw [ta_nx hx] at this
        exact this
      · exact absurd w hm
  · have h4 : 4 ≤ sD S x := by
      rcases C.2.2.2.2.1 x hx with w | w
      · exact absurd w hn
      · exact w.1
    exact hfr (P := []) (Q := sC S) rfl h4 (m2 x) (r3 x hx ht hn)
  · rcases snoc_split (show sC S ++ [_] = pre ++ c :: l from e) with ⟨k1, k2, k3⟩ | ⟨l', k1, k2⟩
    · subst k3
      have hno : tch (sM S + 1, b, o, v, n1, n2, n3, n4) (tg (16 * b + o)) = false := by
        cases h : tch (sM S + 1, b, o, v, n1, n2, n3, n4) (tg (16 * b + o)) with
        | false => rfl
        | true =>
          have h1 : tg (16 * b + o) = 16 * b + o := (tch_ad (c := (sM S + 1, b, o, v, n1, n2, n3, n4)) h16).mp h
          have h2 : 2 ≤ o % 4 := hp.2.2.2
          unfold tg at h1
          omega
      have ht' : mm S (tg (16 * b + o)) = 2 := by
        have ht : mm (mkR S b o v n1 n2 n3 n4) (tg (16 * b + o)) = 2 := ht
        rw [mm_mkR, hno] at ht
        exact ht
      obtain ⟨w1, w2⟩ := hnew hp hv ht'
      have h4 : 4 ≤ v := by
        rcases hK.pt hp with w | w
        · exact absurd w.1 hv
        · exact w.1
      refine ⟨sC S, [(sM S + 1, b, o, v, n1, n2, n3, n4)], rfl, fun c' hc' hq => ?_, w1, ?_⟩
      · rw [List.mem_singleton] at hc'
        subst hc'
        have : b = v := hq
        omega
      · have hne : ∀ {c'}, c' ∈ [(sM S + 1, b, o, v, n1, n2, n3, n4)] → cB c' ≠ v := fun {c'} hc' hq => by
          rw [List.mem_singleton] at hc'
          subst hc'
          have : b = v := hq
          omega
        refine ⟨fun u hu hne' => absurd (w2 u hu) hne', fun pre g l e h => absurd h (hne (by rw [e]; simp)), fun q hq h => absurd h (hne hq), fun pre q l e h => absurd h (hne (by rw [e]; simp))⟩
    · have hl' : ∀ c' ∈ l', tch c' (ad c) = false := fun c' hc' => hlast c' (by rw [k1]; exact List.mem_append_left _ hc')
      have hmx : mm S (ad c) = cV c := by
        show vA (sD S) (sC S) (ad c) = cV c
        rw [k2]
        exact vA_last ((tch_ad hp.2.2.1).mpr rfl) hl'
      have hcS : c ∈ sC S := by rw [k2]; simp
      have h4 : 4 ≤ cV c := by
        rcases (C.2.1 c hcS).pt hp with w | w
        · exact absurd w.1 hv
        · exact w.1
      rcases htag (pa_of hp) ht with ⟨w1, w2⟩ | w
      · obtain ⟨P, Q, a1, a2, a3, a4⟩ := r5 pre c l' k2 hp hv hl' w2
        refine ⟨P, Q ++ [_], by show sC S ++ [_] = _; rw [a1, List.append_assoc], fun c' hc' => ?_, a3, hfr a1 h4 (Int.ofNat_le.mpr (B.2.2.2.2.1 c hcS).2.1) a4⟩
        rcases List.mem_append.mp hc' with w | w
        · exact a2 c' w
        · rw [List.mem_singleton] at w
          subst w
          intro hq
          have : b = cV c := hq
          omega
      · rw [hmx] at w
        exact absurd w hv
theorem nr_map (C : Co S z) (N : Nr S t p) {o v : Nat} (hp : 4 ≤ o ∧ o < 16) (hv : v ≤ 1) : Nr (mk S 0 o v 0 0 0 0) t p := by
  cases hs : same S 0 o v with
  | true => rw [mk_t hs]; exact N
  | false =>
    rw [mk_f hs]
    exact nr_low C N (Or.inl ⟨rfl, hp.1, hp.2, hv, rfl, rfl, rfl, rfl⟩) (by decide) (fun h => by have : 1 ≤ 0 := h.1; omega) (fun h => by have : 1 ≤ 0 := h.1; omega)
theorem nr_LT (C : Co S z) (N : Nr S t p) {n f v : Nat} (hn : n < 12) (hf : f < 2) (h2 : f = 1 → v ≤ 2) (h3 : f = 1 → v ≠ 0 → fd (mm S) n 2 = 0 ∧ fd (mm S) n 3 = 0) : Nr (mkF S n f v 0 0) t p := by
  have hl : isLT (sM S + 1, 1 + n / 4, 4 * (n % 4) + f, v, 0, 0, 0, 0) := by
    show 1 ≤ 1 + n / 4 ∧ 1 + n / 4 ≤ 3 ∧ 4 * (n % 4) + f < 16 ∧ (4 * (n % 4) + f) % 4 < 2
    omega
  have hnp : ¬ isPT (sM S + 1, 1 + n / 4, 4 * (n % 4) + f, v, 0, 0, 0, 0) := fun h => by
    have := hl.2.2.2
    have := h.2.2.2
    omega
  unfold mkF
  cases hs : same S (1 + n / 4) (4 * (n % 4) + f) v with
  | true => rw [mk_t hs]; exact N
  | false =>
    rw [mk_f hs]
    refine nr_low C N (Or.inr (Or.inl ⟨hl, ⟨rfl, rfl, rfl, rfl⟩, fun h => h2 (by have : (4 * (n % 4) + f) % 4 = 1 := h; omega)⟩)) (by omega) (fun _ h1 hv0 x hx ht => ?_) (fun h => absurd h hnp)
    obtain ⟨g1, g2⟩ := h3 (by omega) hv0
    unfold fd at g1 g2
    unfold tg pa at *
    have : x = 16 + 4 * n + 2 ∨ x = 16 + 4 * n + 3 := by omega
    rcases this with q | q
    · rw [q]; exact g1
    · rw [q]; exact g2
theorem nr_putO (N : Nr S t p) (a b c : Nat) : Nr (putO S a b c) t p := N
theorem nr_zer (C : Co S z) (N : Nr S t p) {n f : Nat} (hn : n < 12) (hf : f = 2 ∨ f = 3) : Nr (mkF S n f 0 0 0) t p := by
  have hp : isPT (sM S + 1, 1 + n / 4, 4 * (n % 4) + f, 0, 0, 0, 0, 0) := by
    show 1 ≤ 1 + n / 4 ∧ 1 + n / 4 ≤ 3 ∧ 4 * (n % 4) + f < 16 ∧ 2 ≤ (4 * (n % 4) + f) % 4
    omega
  unfold mkF
  cases hs : same S (1 + n / 4) (4 * (n % 4) + f) 0 with
  | true => rw [mk_t hs]; exact N
  | false =>
    rw [mk_f hs]
    exact nr_low C N (Or.inr (Or.inr (Or.inl ⟨hp, Or.inl ⟨rfl, rfl, rfl, rfl, rfl⟩⟩))) (by omega) (fun _ _ h => absurd rfl h) (fun _ h => absurd rfl h)
theorem nr_ptr (C : Co S z) (N : Nr S t p) {n f v : Nat} {n1 n2 : Int} (hn : n < 12) (hf : f = 2 ∨ f = 3) (hv : 4 ≤ v ∧ v < z) (h1 : 0 ≤ n1) (h2 : n2 < 0 → n2 = -(v : Int))
    (hnew : fd (mm S) n 1 = 2 → Blk (sM S + 1, 1 + n / 4, 4 * (n % 4) + f, v, n1, n2, 0, 0) (sC S) ∧ ∀ u, u < 8 → mm S (16 * v + 2 * u) = 0) : Nr (mkF S n f v n1 n2) t p := by
  have hp : isPT (sM S + 1, 1 + n / 4, 4 * (n % 4) + f, v, n1, n2, 0, 0) := by
    show 1 ≤ 1 + n / 4 ∧ 1 + n / 4 ≤ 3 ∧ 4 * (n % 4) + f < 16 ∧ 2 ≤ (4 * (n % 4) + f) % 4
    omega
  unfold mkF
  cases hs : same S (1 + n / 4) (4 * (n % 4) + f) v with
  | true => rw [mk_t hs]; exact N
  | false =>
    rw [mk_f hs]
    refine nr_low C N (Or.inr (Or.inr (Or.inl ⟨hp, Or.inr ⟨hv.1, hv.2, h1, rfl, rfl, h2⟩⟩))) (by omega) (fun h => by have := h.2.2.2; have := hp.2.2.2; omega) (fun _ _ ht => hnew ?_)
    have had : 16 * (1 + n / 4) + (4 * (n % 4) + f) = 16 + 4 * n + f := by omega
    rw [had, show tg (16 + 4 * n + f) = 16 + 4 * n + 1 by unfold tg; omega] at ht
    exact ht
end R5s
