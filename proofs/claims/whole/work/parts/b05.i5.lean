/-! ===== the invariant: changes by kind ===== -/
def les (L : List La) : Nat := (L.filter (fun e => !(e.1 == 0))).length
theorem les_snoc (L : List La) (e : La) : les (L ++ [e]) = les L + if e.1 = 0 then 0 else 1 := by
  unfold les
  rw [List.filter_append, List.length_append, List.filter_cons]
  by_cases h : e.1 = 0
  · simp [h]
  · simp [h]
theorem les_le (L : List La) : les L ≤ L.length := List.length_filter_le _ _
def Cb (S : St) (i j k : Nat) : Prop := (∀ e ∈ sL S, ∃ c ∈ sC S, cI c = e.2.2) ∧ (sL S).Pairwise (fun a b => a.2.2 ≠ b.2.2) ∧ (sC S).length + 3 * les (sL S) + i ≤ 153 ∧ (sL S).length + les (sL S) + j ≤ 60 ∧ sM S + k < 2 ^ 31
/-- the map on DISK knows what DISK points to -/
def mpOk (S : St) (b : Nat) : Prop := sD S b ≠ 0 ∧ ∀ c ∈ sC S, cB c = 0 → cP c = b → cV c ≠ 0
def Mp (S : St) : Prop := (∀ x, pa x → sD S x ≠ 0 → mpOk S (sD S x)) ∧ ∀ c ∈ sC S, isPT c → cV c ≠ 0 → mpOk S (cV c) ∨ ∃ w ∈ sC S, cB w = 0 ∧ (cI w : Int) = c1 c
def Iv (S : St) (z i j k : Nat) : Prop := Co S z ∧ Q1 S ∧ Cb S i j k ∧ Lk S ∧ Mp S
theorem mp_add {S : St} {b p v : Nat} {n1 n2 n3 n4 : Int} (M : Mp S) (hmap : b = 0 → v = 0 → ¬ occ S p) (hM : isPT (sM S + 1, b, p, v, n1, n2, n3, n4) → v ≠ 0 → ∃ w ∈ sC S, cB w = 0 ∧ (cI w : Int) = n1) : Mp (mkR S b p v n1 n2 n3 n4) := by
  have hok : ∀ y, occ S y → mpOk S y → mpOk (mkR S b p v n1 n2 n3 n4) y := fun y ho h => by
    refine ⟨h.1, fun c hc h1 h2 => ?_⟩
    rcases List.mem_append.mp hc with w | w
    · exact h.2 c w h1 h2
    · rw [List.mem_singleton] at w
      subst w
      intro hv
      have h1 : b = 0 := h1
      have h2 : p = y := h2
      exact hmap h1 hv (by rw [h2]; exact ho)
  refine ⟨fun x hx hn => hok _ (Or.inl ⟨x, hx, rfl⟩) (M.1 x hx hn), fun c hc hp hv => ?_⟩
  rcases List.mem_append.mp hc with w | w
  · rcases M.2 c w hp hv with q | ⟨u, hu, q⟩
    · exact Or.inl (hok _ (Or.inr ⟨c, w, hp, rfl⟩) q)
    · exact Or.inr ⟨u, List.mem_append_left _ hu, q⟩
  · rw [List.mem_singleton] at w
    subst w
    obtain ⟨u, hu, q⟩ := hM hp hv
    exact Or.inr ⟨u, List.mem_append_left _ hu, q⟩
theorem mm_put {S : St} {b p v : Nat} {n1 n2 n3 n4 : Int} (hp : p < 16) (x : Nat) : mm (mk S b p v n1 n2 n3 n4) x = if x = 16 * b + p then v else mm S x := by
  rw [mm_mk]
  cases hs : same S b p v with
  | true =>
    rw [if_pos rfl]
    by_cases hx : x = 16 * b + p
    · rw [if_pos hx]
      unfold same at hs
      rw [if_neg (by omega)] at hs
      rw [hx]
      simpa using hs
    · rw [if_neg hx]
  | false =>
    rw [if_neg (by decide)]
    by_cases hx : x = 16 * b + p
    · rw [if_pos hx, if_pos ((tch_ad (c := (sM S + 1, b, p, v, n1, n2, n3, n4)) hp).mpr hx)]
    · rw [if_neg hx, if_neg (fun q => hx ((tch_ad (c := (sM S + 1, b, p, v, n1, n2, n3, n4)) hp).mp q))]
theorem mm_wipe {S : St} {b v : Nat} {n1 n2 n3 n4 : Int} (x : Nat) : mm (mk S b 16 v n1 n2 n3 n4) x = if x / 16 = b then v else mm S x := by
  rw [mm_mk]
  cases hs : same S b 16 v with
  | true =>
    rw [if_pos rfl]
    by_cases hx : x / 16 = b
    · rw [if_pos hx]
      unfold same at hs
      rw [if_pos rfl, List.all_eq_true] at hs
      have := hs (x % 16) (List.mem_range.mpr (by omega))
      rw [show 16 * b + x % 16 = x by omega] at this
      simpa using this
    · rw [if_neg hx]
  | false =>
    rw [if_neg (by decide)]
    by_cases hx : x / 16 = b
    · rw [if_pos hx, if_pos (tch_iff.mpr ⟨by show b = x / 16; omega, Or.inl rfl⟩)]
    · rw [if_neg hx, if_neg (fun q => hx (by have := (tch_iff.mp q).1; have : b = x / 16 := this; omega))]
theorem mm_fld {S : St} {n f v : Nat} {n1 n2 : Int} (hf : f < 4) (x : Nat) : mm (mkF S n f v n1 n2) x = if x = 16 + 4 * n + f then v else mm S x := by
  unfold mkF
  rw [mm_put (by omega)]
  congr 1
  rw [show 16 * (1 + n / 4) + (4 * (n % 4) + f) = 16 + 4 * n + f by omega]
theorem fd_fld {S : St} {n f v m g : Nat} {n1 n2 : Int} (hf : f < 4) (hg : g < 4) : fd (mm (mkF S n f v n1 n2)) m g = if m = n ∧ g = f then v else fd (mm S) m g := by
  unfold fd
  rw [mm_fld hf]
  by_cases h : m = n ∧ g = f
  · rw [if_pos (by omega), if_pos h]
  · rw [if_neg (by omega), if_neg h]
section I5
variable {S : St} {z i j k : Nat}
theorem Iv.le {i' j' k' : Nat} (I : Iv S z i j k) (h1 : i' ≤ i) (h2 : j' ≤ j) (h3 : k' ≤ k) : Iv S z i' j' k' := by
  obtain ⟨a, b, ⟨c1, c2, c3, c4, c5⟩, d⟩ := I
  exact ⟨a, b, ⟨c1, c2, by omega, by omega, by omega⟩, d⟩
theorem Iv.sl (I : Iv S z (i + 1) j (k + 1)) : Sl S 1 0 1 := by
  obtain ⟨a, b, ⟨c1, c2, c3, c4, c5⟩, d⟩ := I
  exact ⟨by omega, by omega, by omega⟩
theorem iv_add (hz : z ≤ 16) (I : Iv S z (i + 1) j (k + 1)) {b p v : Nat} {n1 n2 n3 n4 : Int} (hb : b < 16) (hp : p ≤ 16) (hv : v < 128) (hn : ∀ n ∈ [n1, n2, n3, n4], -16 < n ∧ n ≤ sM S) (hK : Kd z (sM S + 1, b, p, v, n1, n2, n3, n4)) (hq1 : ¬ (isPT (sM S + 1, b, p, v, n1, n2, n3, n4) ∧ v = 0))
    (hPA : isPT (sM S + 1, b, p, v, n1, n2, n3, n4) → v ≠ 0 → mm S (16 * b + p) = 0) (hTA : isLT (sM S + 1, b, p, v, n1, n2, n3, n4) → p % 4 = 1 → v ≠ 0 → ∀ x, pa x → tg x = 16 * b + p → mm S x = 0)
    (hocc : isPT (sM S + 1, b, p, v, n1, n2, n3, n4) → v ≠ 0 → ¬ occ S v ∧ mm S v ≠ 0) (hmap : b = 0 → v = 0 → ¬ occ S p) (hgood : 4 ≤ b → dirB S b → good b (sM S + 1, b, p, v, n1, n2, n3, n4))
    (hE3 : isPT (sM S + 1, b, p, v, n1, n2, n3, n4) → v ≠ 0 → mm S (tg (16 * b + p)) = 2 → ∃ P Q, sC S = P ++ Q ∧ low (vA (sD S) P) v ∧ (∀ c ∈ Q, good v c) ∧ Blk (sM S + 1, b, p, v, n1, n2, n3, n4) P) (hM : isPT (sM S + 1, b, p, v, n1, n2, n3, n4) → v ≠ 0 → ∃ w ∈ sC S, cB w = 0 ∧ (cI w : Int) = n1) : Iv (mk S b p v n1 n2 n3 n4) z i j k := by
  cases hs : same S b p v with
  | true => rw [mk_t hs]; exact I.le (by omega) (by omega) (by omega)
  | false =>
    have hbd := bd_mk (S := S) I.1.1 I.sl hb hp hv hn (b := b) (p := p) (v := v)
    rw [mk_f hs] at hbd ⊢
    obtain ⟨C, q1, ⟨c1, c2, c3, c4, c5⟩, hk, M⟩ := I
    refine ⟨co_add hz C hbd hK hPA hTA hocc hmap hgood hE3, fun pre c l e h1 h2 => ?_, ⟨fun e he => ?_, c2, ?_, c4, ?_⟩, hk, mp_add M hmap hM⟩
    · rcases snoc_split (show sC S ++ [_] = pre ++ c :: l from e) with ⟨-, -, r3⟩ | ⟨l', -, r2⟩
      · subst r3
        exact absurd ⟨h1, h2⟩ hq1
      · exact q1 pre c l' r2 h1 h2
    · obtain ⟨c, hc, h⟩ := c1 e he
      exact ⟨c, List.mem_append_left _ hc, h⟩
    · show (sC S ++ [_]).length + 3 * les (sL S) + i ≤ 153
      rw [len1]
      omega
    · show sM S + 1 + k < 2 ^ 31
      omega
theorem p_map (hz : z ≤ 16) (I : Iv S z (i + 1) j (k + 1)) {p v : Nat} (hp : 4 ≤ p ∧ p < 16) (hv : v ≤ 1) (ho : v = 0 → ¬ occ S p) : Iv (mk S 0 p v 0 0 0 0) z i j k := by
  refine iv_add hz I (by decide) (by omega) (by omega) (fun n hn => by simp at hn; subst hn; omega) (Or.inl ⟨rfl, hp.1, hp.2, hv, rfl, rfl, rfl, rfl⟩) (fun h => by have : 1 ≤ 0 := h.1.1; omega) (fun h => by have : 1 ≤ 0 := h.1; omega) (fun h => by have : 1 ≤ 0 := h.1; omega) (fun h => by have : 1 ≤ 0 := h.1; omega) (fun _ h => ho h) (fun h => by omega) (fun h => by have : 1 ≤ 0 := h.1; omega) (fun h => by have : 1 ≤ 0 := h.1; omega)
theorem p_LT (hz : z ≤ 16) (I : Iv S z (i + 1) j (k + 1)) {n f v : Nat} (hn : n < 12) (hf : f < 2) (hv : v < 128) (h2 : f = 1 → v ≤ 2) (h3 : f = 1 → v ≠ 0 → fd (mm S) n 2 = 0 ∧ fd (mm S) n 3 = 0) : Iv (mkF S n f v 0 0) z i j k := by
  have hl : isLT (sM S + 1, 1 + n / 4, 4 * (n % 4) + f, v, 0, 0, 0, 0) := by
    show 1 ≤ 1 + n / 4 ∧ 1 + n / 4 ≤ 3 ∧ 4 * (n % 4) + f < 16 ∧ (4 * (n % 4) + f) % 4 < 2
    omega
  have hnp : ¬ isPT (sM S + 1, 1 + n / 4, 4 * (n % 4) + f, v, 0, 0, 0, 0) := fun h => by
    have := hl.2.2.2
    have := h.2.2.2
    omega
  refine iv_add hz I (by omega) (by omega) hv (fun n hn => by simp at hn; subst hn; omega) (Or.inr (Or.inl ⟨hl, ⟨rfl, rfl, rfl, rfl⟩, fun h => h2 (by have : (4 * (n % 4) + f) % 4 = 1 := h; omega)⟩)) (fun h => hnp h.1) (fun h => absurd h hnp) (fun _ h1 hv0 x hx ht => ?_) (fun h => absurd h hnp) (fun h => by omega) (fun h => by omega) (fun h => absurd h hnp) (fun h => absurd h hnp)
  obtain ⟨g1, g2⟩ := h3 (by omega) hv0
  unfold fd at g1 g2
  unfold tg pa at *
  have : x = 16 + 4 * n + 2 ∨ x = 16 + 4 * n + 3 := by omega
  rcases this with q | q
  · rw [q]; exact g1
  · rw [q]; exact g2
theorem p_dat (hz : z ≤ 16) (I : Iv S z (i + 1) j (k + 1)) {b p v : Nat} {n1 n2 n3 n4 : Int} (hb : 4 ≤ b ∧ b < z) (hp : p ≤ 16) (hv : v < 128) (hn : ∀ n ∈ [n1, n2, n3, n4], 0 ≤ n ∧ n ≤ sM S) (h16 : p = 16 → n1 = 0 ∧ n2 = 0 ∧ n3 = 0 ∧ n4 = 0) (hg : dirB S b → p < 16 ∧ (p % 2 = 1 → v < 12)) : Iv (mk S b p v n1 n2 n3 n4) z i j k := by
  have hnp : ¬ isPT (sM S + 1, b, p, v, n1, n2, n3, n4) := fun h => by have : b ≤ 3 := h.2.1; omega
  have hnl : ¬ isLT (sM S + 1, b, p, v, n1, n2, n3, n4) := fun h => by have : b ≤ 3 := h.2.1; omega
  refine iv_add hz I (by omega) hp hv (fun n h => by have := hn n h; omega) (Or.inr (Or.inr (Or.inr ⟨hb.1, hb.2, ?_⟩))) (fun h => hnp h.1) (fun h => absurd h hnp) (fun h => absurd h hnl) (fun h => absurd h hnp) (fun h => by omega) (fun _ hd _ => hg hd) (fun h => absurd h hnp) (fun h => absurd h hnp)
  by_cases h : p = 16
  · exact Or.inl ⟨h, h16 h⟩
  · exact Or.inr ⟨by show p < 16; omega, (hn n1 (by simp)).1, (hn n2 (by simp)).1, (hn n3 (by simp)).1, (hn n4 (by simp)).1⟩
theorem p_ptr (hz : z ≤ 16) (I : Iv S z (i + 1) j (k + 1)) {n f v : Nat} {n1 n2 : Int} (hn : n < 12) (hf : f = 2 ∨ f = 3) (hv : 4 ≤ v ∧ v < z) (h1 : 0 ≤ n1 ∧ n1 ≤ sM S) (h2 : -16 < n2 ∧ n2 ≤ sM S ∧ (n2 < 0 → n2 = -(v : Int))) (h0 : fd (mm S) n f = 0) (ho : ¬ occ S v) (hm : mm S v ≠ 0)
    (hE3 : fd (mm S) n 1 = 2 → ∃ P Q, sC S = P ++ Q ∧ low (vA (sD S) P) v ∧ (∀ c ∈ Q, good v c) ∧ Blk (sM S + 1, 1 + n / 4, 4 * (n % 4) + f, v, n1, n2, 0, 0) P) (hM : ∃ w ∈ sC S, cB w = 0 ∧ (cI w : Int) = n1) : Iv (mkF S n f v n1 n2) z i j k := by
  have hp : isPT (sM S + 1, 1 + n / 4, 4 * (n % 4) + f, v, n1, n2, 0, 0) := by
    show 1 ≤ 1 + n / 4 ∧ 1 + n / 4 ≤ 3 ∧ 4 * (n % 4) + f < 16 ∧ 2 ≤ (4 * (n % 4) + f) % 4
    omega
  have had : 16 * (1 + n / 4) + (4 * (n % 4) + f) = 16 + 4 * n + f := by omega
  refine iv_add hz I (by omega) (by omega) (by omega) (fun m hm => ?_) (Or.inr (Or.inr (Or.inl ⟨hp, Or.inr ⟨hv.1, hv.2, h1.1, rfl, rfl, h2.2.2⟩⟩))) (fun h => by omega) (fun _ _ => by rw [had]; exact h0) (fun h => by have := h.2.2.2; have := hp.2.2.2; omega) (fun _ _ => ⟨ho, hm⟩) (fun h => by omega) (fun h => by omega) (fun _ _ ht => hE3 ?_) (fun _ _ => hM)
  · simp only [List.mem_cons, List.not_mem_nil, or_false] at hm
    rcases hm with w | w | w | w <;> omega
  · rw [had] at ht
    unfold fd
    rw [show tg (16 + 4 * n + f) = 16 + 4 * n + 1 by unfold tg; omega] at ht
    exact ht
theorem p_zer (hz : z ≤ 16) (I : Iv S z (i + 1) (j + 1) (k + 1)) {n f : Nat} (hn : n < 12) (hf : f = 2 ∨ f = 3) : Iv (zer S n f) z i j k := by
  unfold zer
  by_cases h0 : fd (mm S) n f = 0
  · rw [if_pos h0]; exact I.le (by omega) (by omega) (by omega)
  rw [if_neg h0]
  have hs := same_neF (S := S) (n := n) (f := f) (v := 0) (by omega) h0
  have hmi : mkFI S n f 0 = sM S + 1 := by unfold mkFI mkI; rw [hs]; rfl
  have hbd := bd_mk (S := S) I.1.1 I.sl (b := 1 + n / 4) (p := 4 * (n % 4) + f) (v := 0) (n1 := 0) (n2 := 0) (n3 := 0) (n4 := 0) (by omega) (by omega) (by decide) (fun n hn => by simp at hn; subst hn; omega)
  have hp : isPT (sM S + 1, 1 + n / 4, 4 * (n % 4) + f, 0, 0, 0, 0, 0) := by
    show 1 ≤ 1 + n / 4 ∧ 1 + n / 4 ≤ 3 ∧ 4 * (n % 4) + f < 16 ∧ 2 ≤ (4 * (n % 4) + f) % 4
    omega
  have had : 16 * (1 + n / 4) + (4 * (n % 4) + f) = 16 + 4 * n + f := by omega
  unfold mkF
  rw [mk_f hs] at hbd ⊢
  rw [hmi]
  have hx : pa (16 + 4 * n + f) := by unfold pa; omega
  have hmp := mm_pt I.1 hx
  obtain ⟨C, q1, ⟨c1, c2, c3, c4, c5⟩, hk, M⟩ := I
  have M2 := mp_add (b := 1 + n / 4) (p := 4 * (n % 4) + f) (v := 0) (n1 := 0) (n2 := 0) (n3 := 0) (n4 := 0) M (fun h => by omega) (fun _ h => absurd rfl h)
  have C2 := co_add hz C hbd (Or.inr (Or.inr (Or.inl ⟨hp, Or.inl ⟨rfl, rfl, rfl, rfl, rfl⟩⟩))) (fun _ h => absurd rfl h) (fun h => by have := h.2.2.2; have := hp.2.2.2; omega) (fun _ h => absurd rfl h) (fun h => by omega) (fun h => by omega) (fun _ h => absurd rfl h)
  obtain ⟨d1, d2, d3, d4, d5, d6, d7, d8, d9, d10, d11, d12, d13⟩ := C2
  have hlb : fd (mm S) n f < 16 := by
    have : fd (mm S) n f = mm S (16 + 4 * n + f) := rfl
    omega
  have hbd2 := bd_putO (S := mkR S (1 + n / 4) (4 * (n % 4) + f) 0 0 0 0 0) hbd (a := 0) (b := fd (mm S) n f) (c := sM S + 1) ⟨hbd.1, by show (sL S).length + 1 ≤ 160; omega, hbd.2.2.1⟩ (by decide) hlb ⟨by omega, Nat.le_refl _⟩
  refine ⟨⟨hbd2, d2, d3, d4, d5, d6, d7, d8, d9, fun e he h0' => ?_, d11, d12, d13⟩, fun pre c l e h1 h2 => ?_, ⟨fun e he => ?_, ?_, ?_, ?_, ?_⟩, fun e he => ?_, M2⟩
  · rcases List.mem_append.mp he with w | w
    · exact d10 e w h0'
    · rw [List.mem_singleton] at w
      subst w
      exact ⟨h0, sC S, (sM S + 1, 1 + n / 4, 4 * (n % 4) + f, 0, 0, 0, 0, 0), [], rfl, hp, rfl, rfl, by show mm S (16 * (1 + n / 4) + (4 * (n % 4) + f)) = _; rw [had]; rfl⟩
  · show _ ∈ sL S ++ [_]
    rcases snoc_split (show sC S ++ [_] = pre ++ c :: l from e) with ⟨-, r2, r3⟩ | ⟨l', -, r2⟩
    · subst r3
      rw [r2]
      refine List.mem_append_right _ ?_
      rw [List.mem_singleton]
      show (0, mm S (16 * (1 + n / 4) + (4 * (n % 4) + f)), sM S + 1) = _
      rw [had]
      rfl
    · exact List.mem_append_left _ (q1 pre c l' r2 h1 h2)
  · rcases List.mem_append.mp he with w | w
    · obtain ⟨c, hc, h⟩ := c1 e w
      exact ⟨c, List.mem_append_left _ hc, h⟩
    · rw [List.mem_singleton] at w
      subst w
      exact ⟨(sM S + 1, 1 + n / 4, 4 * (n % 4) + f, 0, 0, 0, 0, 0), List.mem_append_right _ (by simp), rfl⟩
  · show (sL S ++ [_]).Pairwise _
    refine List.pairwise_append.mpr ⟨c2, List.pairwise_singleton _ _, fun e he e' he' => ?_⟩
    rw [List.mem_singleton] at he'
    subst he'
    obtain ⟨c, hc, h⟩ := c1 e he
    have := (C.1.2.2.2.2.1 c hc).2.1
    show e.2.2 ≠ sM S + 1
    omega
  · show (sC S ++ [_]).length + 3 * les (sL S ++ [_]) + i ≤ 153
    rw [len1, les_snoc, if_pos rfl]
    omega
  · show (sL S ++ [_]).length + les (sL S ++ [_]) + j ≤ 60
    rw [len1, les_snoc, if_pos rfl]
    omega
  · show sM S + 1 + k < 2 ^ 31
    omega
  · rcases List.mem_append.mp he with w | w
    · exact hk e w
    · rw [List.mem_singleton] at w
      subst w
      exact Or.inl rfl
end I5
