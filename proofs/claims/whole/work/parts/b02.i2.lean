/-! ===== the invariant: pointers, blocks, entries; behind a write ===== -/
def pa (x : Nat) : Prop := 16 ≤ x ∧ x < 64 ∧ 2 ≤ x % 4
abbrev tg (x : Nat) : Nat := x - x % 4 + 1
def occ (S : St) (b : Nat) : Prop := (∃ x, pa x ∧ sD S x = b) ∨ ∃ c ∈ sC S, isPT c ∧ cV c = b
def Q0 (S : St) (z : Nat) : Prop := ∀ x, pa x → sD S x = 0 ∨ (4 ≤ sD S x ∧ sD S x < z)
def Q2a (S : St) : Prop := ∀ x y, pa x → pa y → sD S x = sD S y → sD S x ≠ 0 → x = y
def Q2b (S : St) : Prop := ∀ c ∈ sC S, isPT c → cV c ≠ 0 → ∀ x, pa x → sD S x ≠ cV c
def Q2c (S : St) : Prop := ∀ a ∈ sC S, ∀ b ∈ sC S, isPT a → isPT b → cV a = cV b → cV a ≠ 0 → a = b
def Q3 (S : St) : Prop := ∀ b, b ≠ 0 → occ S b → mm S b ≠ 0
def Q1 (S : St) : Prop := ∀ pre c l, sC S = pre ++ c :: l → isPT c → cV c = 0 → (0, vA (sD S) pre (ad c), cI c) ∈ sL S
def Q1r (S : St) : Prop := ∀ e ∈ sL S, e.1 = 0 → e.2.1 ≠ 0 ∧ ∃ pre c l, sC S = pre ++ c :: l ∧ isPT c ∧ cV c = 0 ∧ cI c = e.2.2 ∧ vA (sD S) pre (ad c) = e.2.1
def TA (S : St) : Prop := ∀ pre c l, sC S = pre ++ c :: l → isLT c → cP c % 4 = 1 → cV c ≠ 0 → ∀ x, pa x → tg x = ad c → vA (sD S) pre x = 0
def good (b : Nat) (c : Ch) : Prop := cB c = b → cP c < 16 ∧ (cP c % 2 = 1 → cV c < 12)
def low (v : Nat → Nat) (b : Nat) : Prop := ∀ j, j < 16 → j % 2 = 1 → v (16 * b + j) < 12
def Blk (c : Ch) (P : List Ch) : Prop := (∀ c' ∈ P, cB c' ≠ cV c) ∨ (∃ P0 w, P = P0 ++ [w] ∧ cB w = cV c ∧ cP w = 16 ∧ (cI w : Int) = c2 c) ∨ (c2 c = -(cV c : Int) ∧ (∃ e ∈ P, cB e = cV c) ∧ ∀ e ∈ P, cI e < cI c)
def E1 (S : St) : Prop := ∀ x, pa x → mm S (tg x) = 2 → mm S x ≠ 0 → ∃ P Q, sC S = P ++ Q ∧ low (vA (sD S) P) (mm S x) ∧ ∀ c ∈ Q, good (mm S x) c
def E2 (S : St) : Prop := ∀ x, pa x → sD S (tg x) = 2 → sD S x ≠ 0 → low (sD S) (sD S x) ∧ ∀ c ∈ sC S, good (sD S x) c
def E3 (S : St) : Prop := ∀ pre c l, sC S = pre ++ c :: l → isPT c → cV c ≠ 0 → (∀ c' ∈ l, tch c' (ad c) = false) → mm S (tg (ad c)) = 2 → ∃ P Q, sC S = P ++ Q ∧ low (vA (sD S) P) (cV c) ∧ (∀ c' ∈ Q, good (cV c) c') ∧ Blk c P
theorem pa_blk {x : Nat} (h : pa x) : 1 ≤ x / 16 ∧ x / 16 ≤ 3 := by unfold pa at h; omega
theorem pa_of {c : Ch} (h : isPT c) : pa (ad c) := by
  unfold isPT at h
  show 16 ≤ 16 * cB c + cP c ∧ 16 * cB c + cP c < 64 ∧ 2 ≤ (16 * cB c + cP c) % 4
  omega
theorem pt_of {z : Nat} {c : Ch} (k : Kd z c) {x : Nat} (h : pa x) (t : tch c x = true) : isPT c ∧ x = ad c := by
  obtain ⟨t1, t2⟩ := tch_iff.mp t
  unfold pa at h
  have h16 := k.lt16 (by omega)
  exact ⟨⟨by omega, by omega, h16, by omega⟩, (tch_ad h16).mp t⟩
theorem go_ids {S : St} (B : Bd S) {a b : Ch} (ha : a ∈ sC S) (hb : b ∈ sC S) (h : cI a = cI b) : a = b := by
  obtain ⟨i, hi, rfl⟩ := List.getElem_of_mem ha
  obtain ⟨j, hj, rfl⟩ := List.getElem_of_mem hb
  have hp := List.pairwise_iff_getElem.mp B.2.2.2.2.2.2
  rcases Nat.lt_trichotomy i j with w | w | w
  · have := hp i j hi hj w; omega
  · subst w; rfl
  · have := hp j i hj hi w; omega
theorem gh_ne {S : St} {b : Nat} (B : Bd S) {a c : Ch} (ha : a ∈ gone (goes b (sC S))) (hc : c ∈ held (goes b (sC S))) : a ≠ c := by
  intro e
  subst e
  obtain ⟨P, T, hg⟩ := List.append_of_mem (gone_mem.mp ha)
  have h2 := held_mem.mp hc
  rw [hg] at h2
  have hp := B.2.2.2.2.2.2
  have hf := goes_fst b (sC S)
  rw [hg] at hf
  rw [← hf, List.map_append, List.map_cons] at hp
  obtain ⟨p1, p2, p3⟩ := List.pairwise_append.mp hp
  rcases List.mem_append.mp h2 with w | w
  · exact absurd (p3 a (List.mem_map.mpr ⟨(a, false), w, rfl⟩) a (by simp)) (Nat.lt_irrefl _)
  · rcases List.mem_cons.mp w with w | w
    · cases w
    · exact absurd ((List.pairwise_cons.mp p2).1 a (List.mem_map.mpr ⟨(a, false), w, rfl⟩)) (Nat.lt_irrefl _)
section I2
variable {S : St} {z b : Nat}
theorem dsk_src (B : Bd S) (K : Kds S z) {x : Nat} (hx : pa x) : vA (sD S) (gone (goes b (sC S))) x = sD S x ∨ ∃ c ∈ gone (goes b (sC S)), isPT c ∧ x = ad c ∧ vA (sD S) (gone (goes b (sC S))) x = cV c := by
  rcases last_tch (d := sD S) (x := x) (gone (goes b (sC S))) with ⟨-, h⟩ | ⟨pre, c, post, e1, e2, e3, -⟩
  · exact Or.inl h
  · have hc : c ∈ gone (goes b (sC S)) := by rw [e1]; simp
    obtain ⟨k1, k2⟩ := pt_of (K c ((gone_sub b (sC S)).subset hc)) hx e2
    exact Or.inr ⟨c, hc, k1, k2, e3⟩
theorem w_Kds (K : Kds S z) : Kds (wrK S b) z := fun c hc => K c ((held_sub b (sC S)).subset hc)
theorem w_PA (B : Bd S) (A : PA S) : PA (wrK S b) := fun pre c l e hp hv => PA.wr B A e hp hv
theorem w_Q0 (B : Bd S) (K : Kds S z) (q0 : Q0 S z) : Q0 (wrK S b) z := fun x hx => by
  rcases dsk_src (b := b) B K hx with h | ⟨c, hc, h1, -, h3⟩
  · show vA (sD S) (gone (goes b (sC S))) x = 0 ∨ _
    rw [show sD (wrK S b) x = vA (sD S) (gone (goes b (sC S))) x from rfl, h]
    exact q0 x hx
  · show vA (sD S) (gone (goes b (sC S))) x = 0 ∨ _
    rw [show sD (wrK S b) x = vA (sD S) (gone (goes b (sC S))) x from rfl, h3]
    rcases (K c ((gone_sub b (sC S)).subset hc)).pt h1 with q | q
    · exact Or.inl q.1
    · exact Or.inr ⟨q.1, q.2.1⟩
theorem w_Q2a (B : Bd S) (K : Kds S z) (qa : Q2a S) (qb : Q2b S) (qc : Q2c S) : Q2a (wrK S b) := fun x y hx hy he hn => by
  have he : vA (sD S) (gone (goes b (sC S))) x = vA (sD S) (gone (goes b (sC S))) y := he
  have hn : vA (sD S) (gone (goes b (sC S))) x ≠ 0 := hn
  rcases dsk_src (b := b) B K hx with h | ⟨c, hc, h1, h2, h3⟩
  · rcases dsk_src (b := b) B K hy with k | ⟨d, hd, k1, k2, k3⟩
    · exact qa x y hx hy (by rw [← h, ← k]; exact he) (by rw [← h]; exact hn)
    · exact absurd (by rw [← h, he, k3]) (qb d ((gone_sub b (sC S)).subset hd) k1 (by rw [← k3, ← he]; exact hn) x hx)
  · rcases dsk_src (b := b) B K hy with k | ⟨d, hd, k1, k2, k3⟩
    · exact absurd (by rw [← k, ← he, h3]) (qb c ((gone_sub b (sC S)).subset hc) h1 (by rw [← h3]; exact hn) y hy)
    · have := qc c ((gone_sub b (sC S)).subset hc) d ((gone_sub b (sC S)).subset hd) h1 k1 (by rw [← h3, ← k3]; exact he) (by rw [← h3]; exact hn)
      rw [h2, k2, this]
theorem w_Q2b (B : Bd S) (K : Kds S z) (qb : Q2b S) (qc : Q2c S) : Q2b (wrK S b) := fun c hc hp hv x hx he => by
  have he : vA (sD S) (gone (goes b (sC S))) x = cV c := he
  have hc' : c ∈ held (goes b (sC S)) := hc
  have hcS := (held_sub b (sC S)).subset hc'
  rcases dsk_src (b := b) B K hx with h | ⟨d, hd, k1, k2, k3⟩
  · exact qb c hcS hp hv x hx (by rw [← h]; exact he)
  · have := qc d ((gone_sub b (sC S)).subset hd) c hcS k1 hp (by rw [← k3]; exact he) (by rw [← k3, he]; exact hv)
    exact gh_ne B hd hc' this
theorem w_Q2c (qc : Q2c S) : Q2c (wrK S b) := fun a ha c hc => qc a ((held_sub b (sC S)).subset ha) c ((held_sub b (sC S)).subset hc)
theorem w_occ (B : Bd S) (K : Kds S z) {y : Nat} (h : occ (wrK S b) y) : occ S y := by
  rcases h with ⟨x, hx, he⟩ | ⟨c, hc, h1, h2⟩
  · rcases dsk_src (b := b) B K hx with h | ⟨d, hd, k1, k2, k3⟩
    · exact Or.inl ⟨x, hx, by rw [← h]; exact he⟩
    · exact Or.inr ⟨d, (gone_sub b (sC S)).subset hd, k1, by rw [← k3]; exact he⟩
  · exact Or.inr ⟨c, (held_sub b (sC S)).subset hc, h1, h2⟩
theorem w_Q3 (B : Bd S) (K : Kds S z) (q3 : Q3 S) : Q3 (wrK S b) := fun y hy ho => by
  rw [mm_wrK]
  exact q3 y hy (w_occ B K ho)
theorem not_due (B : Bd S) {c : Ch} (hc : c ∈ held (goes b (sC S))) {e : La} (he : cI c = e.2.2) : isDue (gone (goes b (sC S))) e = false := by
  unfold isDue
  rw [List.any_eq_false]
  intro d hd hq
  have hq : cI d = e.2.2 := by simpa using hq
  have := go_ids B ((gone_sub b (sC S)).subset hd) ((held_sub b (sC S)).subset hc) (by rw [hq, he])
  exact gh_ne B hd hc this
theorem w_Q1 (B : Bd S) (q1 : Q1 S) : Q1 (wrK S b) := fun pre c l e hp hv => by
  have e : held (goes b (sC S)) = pre ++ c :: l := e
  obtain ⟨P1, P2, g1, g2, g3, g4⟩ := held_of B e
  have h1 := q1 _ c _ g3 hp hv
  have h2 := g4 _ ((tch_ad hp.2.2.1).mpr rfl)
  refine List.mem_filter.mpr ⟨?_, ?_⟩
  · show (0, vA (vA (sD S) (gone (goes b (sC S)))) pre (ad c), cI c) ∈ sL S
    rw [h2]
    exact h1
  · rw [not_due B (c := c) (by rw [e]; simp) rfl]
    rfl
theorem split_held {pre l : List Ch} {c : Ch} (B : Bd S) (e : sC S = pre ++ c :: l) (hc : c ∈ held (goes b (sC S))) : ∃ P1 P2, goes b (sC S) = P1 ++ (c, false) :: P2 ∧ P1.map Prod.fst = pre ∧ P2.map Prod.fst = l ∧ held (goes b (sC S)) = held P1 ++ c :: held P2 := by
  obtain ⟨P1, P2, hg⟩ := List.append_of_mem (held_mem.mp hc)
  have hf := goes_fst b (sC S)
  rw [hg, List.map_append, List.map_cons] at hf
  have hlen : P1.length = pre.length := by
    have hp := B.2.2.2.2.2.2
    have h1 : (sC S)[P1.length]? = some c := by rw [← hf]; simp
    have h2 : (sC S)[pre.length]? = some c := by rw [e]; simp
    obtain ⟨i1, i2⟩ := List.getElem?_eq_some_iff.mp h1
    obtain ⟨j1, j2⟩ := List.getElem?_eq_some_iff.mp h2
    have hpw := List.pairwise_iff_getElem.mp hp
    rcases Nat.lt_trichotomy P1.length pre.length with w | w | w
    · have := hpw _ _ i1 j1 w; rw [i2, j2] at this; omega
    · exact w
    · have := hpw _ _ j1 i1 w; rw [i2, j2] at this; omega
  rw [e] at hf
  obtain ⟨e1, e2⟩ := List.append_inj hf (by rw [List.length_map]; exact hlen)
  refine ⟨P1, P2, hg, e1, (List.cons.inj e2).2, ?_⟩
  rw [hg, held_app, held_cons]
  rfl
theorem w_Q1r (B : Bd S) (q1 : Q1r S) : Q1r (wrK S b) := fun e he h0 => by
  obtain ⟨he1, he2⟩ := List.mem_filter.mp he
  obtain ⟨hz, pre, c, l, h1, h2, h3, h4, h5⟩ := q1 e he1 h0
  have hc : c ∈ sC S := by rw [h1]; simp
  have hnd : isDue (gone (goes b (sC S))) e = false := by simpa using he2
  have hch : c ∈ held (goes b (sC S)) := by
    have := goes_fst b (sC S)
    rw [← this] at hc
    obtain ⟨q, hq, hq2⟩ := List.mem_map.mp hc
    cases hf : q.2 with
    | true =>
      exfalso
      have hg : c ∈ gone (goes b (sC S)) := gone_mem.mpr (by rw [← hq2, ← hf]; exact hq)
      have : isDue (gone (goes b (sC S))) e = true := List.any_eq_true.mpr ⟨c, hg, by simp [h4]⟩
      rw [hnd] at this
      cases this
    | false => exact held_mem.mpr (by rw [← hq2, ← hf]; exact hq)
  obtain ⟨P1, P2, g1, g2, g3, g4⟩ := split_held B h1 hch
  refine ⟨hz, held P1, c, held P2, g4, h2, h3, h4, ?_⟩
  rw [← h5, ← g2]
  exact was_eq (goes_apart b (sC S)) g1 ((tch_ad h2.2.2.1).mpr rfl) (sD S)
/-- what is freed behind a write is pointed to by nothing any more -/
theorem w_free (B : Bd S) (K : Kds S z) (qa : Q2a S) (qb : Q2b S) (qc : Q2c S) (q1 : Q1r S) : ∀ e ∈ dueL S b, e.1 = 0 → e.2.1 ≠ 0 ∧ ¬ occ (wrK S b) e.2.1 := fun e he h0 => by
  obtain ⟨he1, he2⟩ := List.mem_filter.mp he
  obtain ⟨hz, pre, c, l, h1, h2, h3, h4, h5⟩ := q1 e he1 h0
  obtain ⟨d, hd, hd2⟩ := List.any_eq_true.mp he2
  have hcS : c ∈ sC S := by rw [h1]; simp
  have hdc : d = c := go_ids B ((gone_sub b (sC S)).subset hd) hcS (by rw [h4]; simpa using hd2)
  subst hdc
  have hx := pa_of h2
  refine ⟨hz, fun ho => ?_⟩
  -- where the value ahead of it comes from
  have hsrc : (sD S (ad d) = e.2.1 ∧ ∀ c' ∈ pre, tch c' (ad d) = false) ∨ ∃ c0 ∈ pre, isPT c0 ∧ ad c0 = ad d ∧ cV c0 = e.2.1 := by
    rcases last_tch (d := sD S) (x := ad d) pre with ⟨g1, g2⟩ | ⟨p1, c0, p2, g1, g2, g3, -⟩
    · exact Or.inl ⟨by rw [← g2]; exact h5, g1⟩
    · have hc0 : c0 ∈ sC S := by rw [h1, g1]; simp
      obtain ⟨k1, k2⟩ := pt_of (K c0 hc0) hx g2
      exact Or.inr ⟨c0, by rw [g1]; simp, k1, k2.symm, by rw [← g3]; exact h5⟩
  have hnot : ∀ g ∈ sC S, isPT g → cV g = e.2.1 → ∃ c0 ∈ pre, c0 = g ∧ ad c0 = ad d := fun g hg hg1 hg2 => by
    rcases hsrc with ⟨s1, -⟩ | ⟨c0, s1, s2, s3, s4⟩
    · exact absurd (by rw [s1, hg2]) (qb g hg hg1 (by rw [hg2]; exact hz) _ hx)
    · exact ⟨c0, s1, qc c0 (by rw [h1]; simp [s1]) g hg s2 hg1 (by rw [s4, hg2]) (by rw [s4]; exact hz), s3⟩
  have hpw := B.2.2.2.2.2.2
  rw [h1] at hpw
  obtain ⟨-, pw2, pw3⟩ := List.pairwise_append.mp hpw
  rcases ho with ⟨y, hy, hye⟩ | ⟨g, hg, hg1, hg2⟩
  · have hye : vA (sD S) (gone (goes b (sC S))) y = e.2.1 := hye
    rcases dsk_src (b := b) B K hy with k | ⟨g, hg, k1, k2, k3⟩
    · -- DISK as it was
      have hDy : sD S y = e.2.1 := by rw [← k]; exact hye
      have hxy : y = ad d := by
        rcases hsrc with ⟨s1, -⟩ | ⟨c0, s1, s2, s3, s4⟩
        · exact qa y (ad d) hy hx (by rw [hDy, s1]) (by rw [hDy]; exact hz)
        · exact absurd (by rw [hDy, s4]) (qb c0 (by rw [h1]; simp [s1]) s2 (by rw [s4]; exact hz) y hy)
      rcases last_tch (d := sD S) (x := y) (gone (goes b (sC S))) with ⟨g1, -⟩ | ⟨p1, g, p2, g1, g2, g3, -⟩
      · have := g1 d hd
        rw [hxy, (tch_ad h2.2.2.1).mpr rfl] at this
        cases this
      · have hgS := (gone_sub b (sC S)).subset (show g ∈ gone (goes b (sC S)) by rw [g1]; simp)
        obtain ⟨k1, k2⟩ := pt_of (K g hgS) hy g2
        exact absurd (by rw [hDy, ← g3, hye]) (qb g hgS k1 (by rw [← g3, hye]; exact hz) y hy)
    · obtain ⟨c0, s1, s2, s3⟩ := hnot g ((gone_sub b (sC S)).subset hg) k1 (by rw [← k3]; exact hye)
      -- the last that went at this byte is behind d
      have hyx : y = ad d := by rw [k2, ← s2]; exact s3
      rcases last_tch (d := sD S) (x := y) (gone (goes b (sC S))) with ⟨g1, -⟩ | ⟨p1, g', p2, g1, g2, g3, g4⟩
      · have := g1 d hd
        rw [hyx, (tch_ad h2.2.2.1).mpr rfl] at this
        cases this
      · have hgS := (gone_sub b (sC S)).subset (show g' ∈ gone (goes b (sC S)) by rw [g1]; simp)
        obtain ⟨k1', k2'⟩ := pt_of (K g' hgS) hy g2
        obtain ⟨c0', s1', s2', s3'⟩ := hnot g' hgS k1' (by rw [← g3]; exact hye)
        have hlt : cI g' < cI d := by rw [← s2']; exact pw3 c0' s1' d (by simp)
        -- d went too and lies behind g'
        have hdd : d ∈ p1 ++ g' :: p2 := by rw [← g1]; exact hd
        have hpg : (gone (goes b (sC S))).Pairwise (fun a b => cI a < cI b) := B.2.2.2.2.2.2.sublist (gone_sub b (sC S))
        rw [g1] at hpg
        rcases List.mem_append.mp hdd with w | w
        · have := (List.pairwise_append.mp hpg).2.2 d w g' (by simp)
          omega
        · rcases List.mem_cons.mp w with w | w
          · rw [w] at hlt; omega
          · have := g4 d w
            rw [hyx, (tch_ad h2.2.2.1).mpr rfl] at this
            cases this
  · have hg' : g ∈ held (goes b (sC S)) := hg
    obtain ⟨c0, s1, s2, s3⟩ := hnot g ((held_sub b (sC S)).subset hg') hg1 hg2
    subst s2
    -- c0 is held, d behind it went: they share a byte
    obtain ⟨P1, P2, g1⟩ := List.append_of_mem (held_mem.mp hg')
    have hap := goes_apart b (sC S)
    rw [g1] at hap
    have hdg := gone_mem.mp hd
    rw [g1] at hdg
    have hlt : cI c0 < cI d := pw3 c0 s1 d (by simp)
    have hpw3 := B.2.2.2.2.2.2
    have hf := goes_fst b (sC S)
    rw [g1] at hf
    rw [← hf, List.map_append, List.map_cons] at hpw3
    rcases List.mem_append.mp hdg with w | w
    · have := (List.pairwise_append.mp hpw3).2.2 d (List.mem_map.mpr ⟨(d, true), w, rfl⟩) c0 (by simp)
      omega
    · rcases List.mem_cons.mp w with w | w
      · cases w
      · exact (List.pairwise_cons.mp (List.pairwise_append.mp hap).2.1).1 _ w rfl rfl (ad d) ((tch_ad hg1.2.2.1).mpr s3.symm) ((tch_ad h2.2.2.1).mpr rfl)
end I2
