/-! ===== the invariant behind a change ===== -/
theorem mm_mkR (S : St) (b p v : Nat) (n1 n2 n3 n4 : Int) (x : Nat) : mm (mkR S b p v n1 n2 n3 n4) x = if tch (sM S + 1, b, p, v, n1, n2, n3, n4) x then v else mm S x := by
  show vA (sD S) (sC S ++ [_]) x = _
  rw [vA_app, vA_one]
  rfl
theorem snoc_split {α : Type} {l pre post : List α} {y c : α} (h : l ++ [y] = pre ++ c :: post) : (post = [] ∧ pre = l ∧ c = y) ∨ ∃ l', post = l' ++ [y] ∧ l = pre ++ c :: l' := by
  rcases List.eq_nil_or_concat post with rfl | ⟨l', w, rfl⟩
  · obtain ⟨e1, e2⟩ := List.append_inj' h rfl
    exact Or.inl ⟨rfl, e1.symm, (List.cons.inj e2).1.symm⟩
  · rw [List.concat_eq_append] at h ⊢
    have h1 : l ++ [y] = (pre ++ c :: l') ++ [w] := by rw [h]; simp
    obtain ⟨e1, e2⟩ := List.append_inj' h1 rfl
    exact Or.inr ⟨l', by rw [(List.cons.inj e2).1], e1⟩
/-- all but Q1 -/
def Co (S : St) (z : Nat) : Prop := Bd S ∧ Kds S z ∧ PA S ∧ TA S ∧ Q0 S z ∧ Q2a S ∧ Q2b S ∧ Q2c S ∧ Q3 S ∧ Q1r S ∧ E1 S ∧ E2 S ∧ E3 S
section I4
variable {S : St} {z : Nat}
theorem mm_pt (C : Co S z) {x : Nat} (hx : pa x) : mm S x = 0 ∨ (4 ≤ mm S x ∧ mm S x < z) := by
  obtain ⟨B, K, A, T, q0, -⟩ := C
  rcases last_tch (d := sD S) (x := x) (sC S) with ⟨-, h⟩ | ⟨pre, c, post, e1, e2, e3, -⟩
  · show vA (sD S) (sC S) x = 0 ∨ _
    have := q0 x hx
    unfold mm
    rw [h]
    exact this
  · have hc : c ∈ sC S := by rw [e1]; simp
    obtain ⟨k1, -⟩ := pt_of (K c hc) hx e2
    unfold mm
    rw [e3]
    rcases (K c hc).pt k1 with q | q
    · exact Or.inl q.1
    · exact Or.inr ⟨q.1, q.2.1⟩
theorem mm_src (K : Kds S z) {x : Nat} (hx : pa x) : (mm S x = sD S x ∧ ∀ c ∈ sC S, tch c x = false) ∨ ∃ c ∈ sC S, isPT c ∧ x = ad c ∧ mm S x = cV c := by
  rcases last_tch (d := sD S) (x := x) (sC S) with ⟨h1, h⟩ | ⟨pre, c, post, e1, e2, e3, -⟩
  · exact Or.inl ⟨h, h1⟩
  · have hc : c ∈ sC S := by rw [e1]; simp
    obtain ⟨k1, k2⟩ := pt_of (K c hc) hx e2
    exact Or.inr ⟨c, hc, k1, k2, e3⟩
theorem mm_occ (K : Kds S z) {x : Nat} (hx : pa x) : occ S (mm S x) := by
  rcases mm_src K hx with ⟨h, -⟩ | ⟨c, hc, h1, -, h3⟩
  · exact Or.inl ⟨x, hx, h.symm⟩
  · exact Or.inr ⟨c, hc, h1, h3.symm⟩
theorem mm_uniq (C : Co S z) {x y : Nat} (hx : pa x) (hy : pa y) (e : mm S x = mm S y) (hn : mm S x ≠ 0) : x = y := by
  obtain ⟨B, K, A, T, q0, qa, qb, qc, -⟩ := C
  rcases mm_src K hx with ⟨h, -⟩ | ⟨c, hc, h1, h2, h3⟩
  · rcases mm_src K hy with ⟨k, -⟩ | ⟨d, hd, k1, k2, k3⟩
    · exact qa x y hx hy (by rw [← h, ← k]; exact e) (by rw [← h]; exact hn)
    · exact absurd (by rw [← h, e, k3]) (qb d hd k1 (by rw [← k3, ← e]; exact hn) x hx)
  · rcases mm_src K hy with ⟨k, -⟩ | ⟨d, hd, k1, k2, k3⟩
    · exact absurd (by rw [← k, ← e, h3]) (qb c hc h1 (by rw [← h3]; exact hn) y hy)
    · have := qc c hc d hd h1 k1 (by rw [← h3, ← k3]; exact e) (by rw [← h3]; exact hn)
      rw [h2, k2, this]
/-- a block of a directory, on one of the sides -/
def dirB (S : St) (b : Nat) : Prop := ∃ x, pa x ∧ ((mm S (tg x) = 2 ∧ mm S x = b) ∨ (sD S (tg x) = 2 ∧ sD S x = b))
theorem dirB_occ (K : Kds S z) {b : Nat} (h : dirB S b) : occ S b := by
  obtain ⟨x, hx, ⟨-, h⟩ | ⟨-, h⟩⟩ := h
  · rw [← h]; exact mm_occ K hx
  · exact Or.inl ⟨x, hx, h⟩
theorem file_nd (C : Co S z) {x : Nat} (hx : pa x) (ht : mm S (tg x) = 1) (hn : mm S x ≠ 0) : ¬ dirB S (mm S x) := by
  rintro ⟨y, hy, ⟨h1, h2⟩ | ⟨h1, h2⟩⟩
  · have := mm_uniq C hy hx h2 (by rw [h2]; exact hn)
    subst this
    omega
  · have C' := C
    obtain ⟨B, K, A, T, q0, qa, qb, qc, -⟩ := C
    rcases mm_src K hx with ⟨h, h0⟩ | ⟨c, hc, k1, k2, k3⟩
    · have hyx := qa y x hy hx (by rw [h2, h]) (by rw [h2]; exact hn)
      subst hyx
      rcases last_tch (d := sD S) (x := tg y) (sC S) with ⟨-, g⟩ | ⟨pre, c, post, e1, e2, e3, -⟩
      · have : mm S (tg y) = sD S (tg y) := g
        omega
      · have hkc := K c (by rw [e1]; simp)
        obtain ⟨t1, t2⟩ := tch_iff.mp e2
        have h16 := hkc.lt16 (by unfold tg pa at *; omega)
        have had : tg y = ad c := (tch_ad h16).mp e2
        have hl : isLT c ∧ cP c % 4 = 1 := by
          unfold isLT
          have : tg y = 16 * cB c + cP c := had
          unfold tg pa at *
          omega
        have hv : cV c = 1 := by rw [← e3]; exact ht
        have := T pre c post e1 hl.1 hl.2 (by omega) y hy had
        rw [vA_no (fun c' hc' => h0 c' (by rw [e1]; simp [hc']))] at this
        omega
    · exact qb c hc k1 (by rw [← k3]; exact hn) y hy (by rw [h2, k3])
theorem occ_lt (C : Co S z) {y : Nat} (h : occ S y) (hy : y ≠ 0) : 4 ≤ y ∧ y < z := by
  obtain ⟨B, K, A, T, q0, -⟩ := C
  rcases h with ⟨x, hx, he⟩ | ⟨c, hc, k1, k2⟩
  · rcases q0 x hx with q | q
    · omega
    · omega
  · rcases (K c hc).pt k1 with q | q
    · omega
    · omega
theorem vA_last {d : Nat → Nat} {pre l : List Ch} {c : Ch} {x : Nat} (h : tch c x = true) (hl : ∀ c' ∈ l, tch c' x = false) : vA d (pre ++ c :: l) x = cV c := by
  rw [show pre ++ c :: l = (pre ++ [c]) ++ l by simp, vA_app, vA_no hl, vA_app, vA_one, if_pos h]
theorem co_add (hz : z ≤ 16) (C : Co S z) {b p v : Nat} {n1 n2 n3 n4 : Int} (hB : Bd (mkR S b p v n1 n2 n3 n4)) (hK : Kd z (sM S + 1, b, p, v, n1, n2, n3, n4))
    (hPA : isPT (sM S + 1, b, p, v, n1, n2, n3, n4) → v ≠ 0 → mm S (16 * b + p) = 0) (hTA : isLT (sM S + 1, b, p, v, n1, n2, n3, n4) → p % 4 = 1 → v ≠ 0 → ∀ x, pa x → tg x = 16 * b + p → mm S x = 0)
    (hocc : isPT (sM S + 1, b, p, v, n1, n2, n3, n4) → v ≠ 0 → ¬ occ S v ∧ mm S v ≠ 0) (hmap : b = 0 → v = 0 → ¬ occ S p) (hgood : 4 ≤ b → dirB S b → good b (sM S + 1, b, p, v, n1, n2, n3, n4))
    (hE3 : isPT (sM S + 1, b, p, v, n1, n2, n3, n4) → v ≠ 0 → mm S (tg (16 * b + p)) = 2 → ∃ P Q, sC S = P ++ Q ∧ low (vA (sD S) P) v ∧ (∀ c ∈ Q, good v c) ∧ Blk (sM S + 1, b, p, v, n1, n2, n3, n4) P) : Co (mkR S b p v n1 n2 n3 n4) z := by
  have C0 := C
  obtain ⟨B, K, A, T, q0, qa, qb, qc, q3, q1r, e1, e2, e3⟩ := C
  have hlow : ∀ {x : Nat}, pa x → tch (sM S + 1, b, p, v, n1, n2, n3, n4) (tg x) = false ∨ tch (sM S + 1, b, p, v, n1, n2, n3, n4) x = false := fun {x} hx => by
    cases h1 : tch (sM S + 1, b, p, v, n1, n2, n3, n4) (tg x) with
    | false => exact Or.inl rfl
    | true =>
      cases h2 : tch (sM S + 1, b, p, v, n1, n2, n3, n4) x with
      | false => exact Or.inr rfl
      | true =>
        exfalso
        obtain ⟨k1, k2⟩ := pt_of hK hx h2
        obtain ⟨t1, t2⟩ := tch_iff.mp h1
        have t2 : p = 16 ∨ p = tg x % 16 := t2
        have k3 : p < 16 := k1.2.2.1
        have k4 : 2 ≤ p % 4 := k1.2.2.2
        unfold tg pa at *
        omega
  have hmem : ∀ {c : Ch}, c ∈ sC (mkR S b p v n1 n2 n3 n4) → c ∈ sC S ∨ c = (sM S + 1, b, p, v, n1, n2, n3, n4) := fun {c} hc => by
    rcases List.mem_append.mp hc with w | w
    · exact Or.inl w
    · exact Or.inr (List.mem_singleton.mp w)
  have hgood4 : ∀ {bb : Nat}, 4 ≤ bb → dirB S bb → good bb (sM S + 1, b, p, v, n1, n2, n3, n4) := fun {bb} h4 hd hq => by
    have hq : b = bb := hq
    subst hq
    exact hgood h4 hd rfl
  -- a pointer's byte, and its tag, behind the change
  have hmx : ∀ {x : Nat}, pa x → mm (mkR S b p v n1 n2 n3 n4) x ≠ mm S x → isPT (sM S + 1, b, p, v, n1, n2, n3, n4) ∧ x = 16 * b + p := fun {x} hx hne => by
    rw [mm_mkR] at hne
    cases ht : tch (sM S + 1, b, p, v, n1, n2, n3, n4) x with
    | false => rw [ht] at hne; exact absurd rfl hne
    | true => exact pt_of hK hx ht
  have htag : ∀ {x : Nat}, pa x → mm (mkR S b p v n1 n2 n3 n4) (tg x) = 2 → mm S (tg x) = 2 ∨ mm S x = 0 := fun {x} hx h2 => by
    rw [mm_mkR] at h2
    cases ht : tch (sM S + 1, b, p, v, n1, n2, n3, n4) (tg x) with
    | false => rw [ht] at h2; exact Or.inl h2
    | true =>
      rw [ht, if_pos rfl] at h2
      right
      have h16 : p < 16 := by
        have : cB (sM S + 1, b, p, v, n1, n2, n3, n4) < 4 := by
          obtain ⟨t1, -⟩ := tch_iff.mp ht
          have t1 : b = tg x / 16 := t1
          show b < 4
          unfold tg pa at *
          omega
        exact hK.lt16 this
      have had : tg x = 16 * b + p := (tch_ad (c := (sM S + 1, b, p, v, n1, n2, n3, n4)) h16).mp ht
      have hl : isLT (sM S + 1, b, p, v, n1, n2, n3, n4) ∧ p % 4 = 1 := by
        show (1 ≤ b ∧ b ≤ 3 ∧ p < 16 ∧ p % 4 < 2) ∧ p % 4 = 1
        unfold tg pa at *
        omega
      exact hTA hl.1 hl.2 (by omega) x hx had
  refine ⟨hB, fun c hc => ?_, fun pre c l e hp hv => ?_, fun pre c l e hl h1 hv x hx ht => ?_, q0, qa, fun c hc hp hv x hx => ?_, fun a ha c hc h1 h2 h3 h4 => ?_, fun y hy ho => ?_, fun w hw h0 => ?_, fun x hx ht hn => ?_, fun x hx ht hn => ?_, fun pre c l e hp hv hlast ht => ?_⟩
  · rcases hmem hc with w | rfl
    · exact K c w
    · exact hK
  · rcases snoc_split (show sC S ++ [_] = pre ++ c :: l from e) with ⟨-, r2, r3⟩ | ⟨l', -, r2⟩
    · subst r3
      rw [r2]
      exact hPA hp hv
    · exact A pre c l' r2 hp hv
  · rcases snoc_split (show sC S ++ [_] = pre ++ c :: l from e) with ⟨-, r2, r3⟩ | ⟨l', -, r2⟩
    · subst r3
      rw [r2]
      exact hTA hl h1 hv x hx ht
    · exact T pre c l' r2 hl h1 hv x hx ht
  · rcases hmem hc with w | rfl
    · exact qb c w hp hv x hx
    · exact fun h => (hocc hp hv).1 (Or.inl ⟨x, hx, h⟩)
  · rcases hmem ha with wa | wa <;> rcases hmem hc with wc | wc
    · exact qc a wa c wc h1 h2 h3 h4
    · exfalso
      subst wc
      exact (hocc h2 (by rw [h3] at h4; exact h4)).1 (Or.inr ⟨a, wa, h1, h3⟩)
    · exfalso
      subst wa
      exact (hocc h1 h4).1 (Or.inr ⟨c, wc, h2, h3.symm⟩)
    · rw [wa, wc]
  · have hoS : occ S y ∨ (isPT (sM S + 1, b, p, v, n1, n2, n3, n4) ∧ v = y) := by
      rcases ho with ⟨x, hx, he⟩ | ⟨c, hc, k1, k2⟩
      · exact Or.inl (Or.inl ⟨x, hx, he⟩)
      · rcases hmem hc with w | rfl
        · exact Or.inl (Or.inr ⟨c, w, k1, k2⟩)
        · exact Or.inr ⟨k1, k2⟩
    have hmm : mm S y ≠ 0 := by
      rcases hoS with w | ⟨k1, k2⟩
      · exact q3 y hy w
      · subst k2
        exact (hocc k1 hy).2
    rw [mm_mkR]
    cases ht : tch (sM S + 1, b, p, v, n1, n2, n3, n4) y with
    | false => exact hmm
    | true =>
      rw [if_pos rfl]
      intro hv0
      obtain ⟨t1, t2⟩ := tch_iff.mp ht
      have t1 : b = y / 16 := t1
      have t2 : p = 16 ∨ p = y % 16 := t2
      have hy16 : y < z := by
        rcases hoS with w | ⟨k1, k2⟩
        · exact (occ_lt C0 w hy).2
        · rcases hK.pt k1 with q | q
          · have : v = 0 := q.1; omega
          · have : v < z := q.2.1; omega
      have hb0 : b = 0 := by omega
      have h16 := hK.lt16 (by show b < 4; omega)
      have h16 : p < 16 := h16
      have hpy : p = y := by omega
      rcases hoS with w | ⟨k1, -⟩
      · exact hmap hb0 hv0 (by rw [hpy]; exact w)
      · have : 1 ≤ b := k1.1
        omega
  · obtain ⟨hz, pre, c, l, h1, h2, h3, h4, h5⟩ := q1r w hw h0
    exact ⟨hz, pre, c, l ++ [(sM S + 1, b, p, v, n1, n2, n3, n4)], by show sC S ++ [_] = _; rw [h1]; simp, h2, h3, h4, h5⟩
  · by_cases hne : mm (mkR S b p v n1 n2 n3 n4) x = mm S x
    · rw [hne] at hn ⊢
      have h4 : 4 ≤ mm S x := by rcases mm_pt C0 hx with q | q; exact absurd q hn; exact q.1
      rcases htag hx ht with w | w
      · obtain ⟨P, Q, g1, g2, g3⟩ := e1 x hx w hn
        refine ⟨P, Q ++ [_], by show sC S ++ [_] = _; rw [g1, List.append_assoc], g2, fun c hc => ?_⟩
        rcases List.mem_append.mp hc with k | k
        · exact g3 c k
        · rw [List.mem_singleton] at k
          subst k
          exact hgood4 h4 ⟨x, hx, Or.inl ⟨w, rfl⟩⟩
      · exact absurd w hn
    · obtain ⟨k1, k2⟩ := hmx hx hne
      have htx : tch (sM S + 1, b, p, v, n1, n2, n3, n4) x = true := (tch_ad (c := (sM S + 1, b, p, v, n1, n2, n3, n4)) k1.2.2.1).mpr k2
      have hvx : mm (mkR S b p v n1 n2 n3 n4) x = v := by rw [mm_mkR, htx]; rfl
      rw [hvx] at hn ⊢
      have htn : tch (sM S + 1, b, p, v, n1, n2, n3, n4) (tg x) = false := by
        rcases hlow hx with q | q
        · exact q
        · rw [htx] at q; cases q
      have h2 : mm S (tg x) = 2 := by rw [mm_mkR, htn] at ht; exact ht
      rw [k2] at h2
      obtain ⟨P, Q, g1, g2, g3, -⟩ := hE3 k1 hn h2
      refine ⟨P, Q ++ [_], by show sC S ++ [_] = _; rw [g1, List.append_assoc], g2, fun c hc => ?_⟩
      rcases List.mem_append.mp hc with k | k
      · exact g3 c k
      · rw [List.mem_singleton] at k
        subst k
        intro hq
        exfalso
        have hq : b = v := hq
        have : b ≤ 3 := k1.2.1
        rcases hK.pt k1 with q | q
        · exact hn q.1
        · have : 4 ≤ v := q.1; omega
  · have ht : sD S (tg x) = 2 := ht
    have hn : sD S x ≠ 0 := hn
    obtain ⟨g1, g2⟩ := e2 x hx ht hn
    refine ⟨g1, fun c hc => ?_⟩
    rcases hmem hc with w | rfl
    · exact g2 c w
    · have h4 : 4 ≤ sD S x := by rcases q0 x hx with q | q; exact absurd q hn; exact q.1
      exact hgood4 h4 ⟨x, hx, Or.inr ⟨ht, rfl⟩⟩
  · rcases snoc_split (show sC S ++ [_] = pre ++ c :: l from e) with ⟨-, r2, r3⟩ | ⟨l', r1, r2⟩
    · subst r3
      have hpa := pa_of hp
      have htx : tch (sM S + 1, b, p, v, n1, n2, n3, n4) (16 * b + p) = true := (tch_ad (c := (sM S + 1, b, p, v, n1, n2, n3, n4)) hp.2.2.1).mpr rfl
      have htn : tch (sM S + 1, b, p, v, n1, n2, n3, n4) (tg (16 * b + p)) = false := by
        rcases hlow hpa with q | q
        · exact q
        · have q : tch (sM S + 1, b, p, v, n1, n2, n3, n4) (16 * b + p) = false := q
          rw [htx] at q; cases q
      have ht : mm (mkR S b p v n1 n2 n3 n4) (tg (16 * b + p)) = 2 := ht
      rw [mm_mkR, htn] at ht
      obtain ⟨P, Q, g1, g2, g3, g4⟩ := hE3 hp hv ht
      refine ⟨P, Q ++ [_], by show sC S ++ [_] = _; rw [g1, List.append_assoc], g2, fun c hc => ?_, g4⟩
      rcases List.mem_append.mp hc with k | k
      · exact g3 c k
      · rw [List.mem_singleton] at k
        subst k
        intro hq
        exfalso
        have hq : b = v := hq
        have : b ≤ 3 := hp.2.1
        rcases hK.pt hp with q | q
        · exact hv q.1
        · have : 4 ≤ v := q.1; omega
    · subst r1
      have hpa := pa_of hp
      have hl' : ∀ c' ∈ l', tch c' (ad c) = false := fun c' hc' => hlast c' (List.mem_append_left _ hc')
      have hmv : mm S (ad c) = cV c := by
        unfold mm
        rw [r2]
        exact vA_last ((tch_ad hp.2.2.1).mpr rfl) hl'
      have h2 : mm S (tg (ad c)) = 2 := by
        rcases htag hpa ht with w | w
        · exact w
        · rw [hmv] at w; exact absurd w hv
      obtain ⟨P, Q, g1, g2, g3, g4⟩ := e3 pre c l' r2 hp hv hl' h2
      refine ⟨P, Q ++ [_], by show sC S ++ [_] = _; rw [g1, List.append_assoc], g2, fun c' hc' => ?_, g4⟩
      rcases List.mem_append.mp hc' with k | k
      · exact g3 c' k
      · rw [List.mem_singleton] at k
        subst k
        have h4 : 4 ≤ cV c := by
          rcases (K c (by rw [r2]; simp)).pt hp with q | q
          · exact absurd q.1 hv
          · exact q.1
        exact hgood4 h4 ⟨ad c, hpa, Or.inl ⟨h2, hmv⟩⟩
end I4
