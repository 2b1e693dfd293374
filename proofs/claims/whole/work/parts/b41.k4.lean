/-! ===== SETTLE: rounds ===== -/
abbrev rng (z : Nat) : List Nat := List.range' 0 z
def EE (S : St) (z : Nat) : Prop := Fr S ∧ ∀ b, 4 ≤ b → b < z → Tl b S
def dD (S : St) (z : Nat) : Nat := ((List.range' 4 (z - 4)).filter (dirt S)).length
theorem flt_le {α : Type} {p q : α → Bool} : ∀ l : List α, (∀ x ∈ l, p x = true → q x = true) → (l.filter p).length ≤ (l.filter q).length := by
  intro l
  induction l with
  | nil => intro _; exact Nat.le_refl _
  | cons a l ih =>
    intro h
    have i := ih (fun x hx => h x (List.mem_cons_of_mem _ hx))
    rw [List.filter_cons, List.filter_cons]
    by_cases e : p a = true
    · rw [if_pos e, if_pos (h a List.mem_cons_self e), List.length_cons, List.length_cons]
      omega
    · rw [if_neg e]
      split
      · rw [List.length_cons]; omega
      · exact i
theorem rng_4 {z : Nat} (hz : 6 ≤ z) : rng z = [0, 1, 2, 3] ++ List.range' 4 (z - 4) := by
  obtain ⟨y, rfl⟩ : ∃ y, z = y + 4 := ⟨z - 4, by omega⟩
  rw [show y + 4 - 4 = y by omega]
  rfl
theorem syF_app (S : St) (l m : List Nat) : syF S (l ++ m) = syF (syF S l) m := by unfold syF; rw [List.foldl_append]
theorem nW_app : ∀ (l m : List Nat) (S : St), nW S (l ++ m) = nW S l + nW (syF S l) m := by
  intro l
  induction l with
  | nil => intro m S; show nW S m = 0 + nW S m; omega
  | cons b l ih =>
    intro m S
    show (if dirt S b then 1 else 0) + nW (wrs S b) (l ++ m) = (if dirt S b then 1 else 0) + nW (wrs S b) l + nW (syF (wrs S b) l) m
    rw [ih]
    omega
section K4
variable {S : St} {z k : Nat}
theorem syF_dirt : ∀ (l : List Nat) (S : St) (b : Nat), 4 ≤ b → Inv S z (k + 240 * l.length) → dirt (syF S l) b = true → dirt S b = true := by
  intro l
  induction l with
  | nil => intro S b _ _ h; exact h
  | cons x l ih =>
    intro S b hb I h
    rw [List.length_cons] at I
    exact wrs_dirt (inv_lk I) hb (ih (wrs S x) b hb (inv_wrs (I.le (by omega)) x) h)
theorem nW_data : ∀ (l : List Nat) (S : St), (∀ b ∈ l, 4 ≤ b) → Inv S z (k + 240 * l.length) → nW S l ≤ (l.filter (dirt S)).length := by
  intro l
  induction l with
  | nil => intro S _ _; exact Nat.le_refl _
  | cons x l ih =>
    intro S hl I
    rw [List.length_cons] at I
    have i := ih (wrs S x) (fun y hy => hl y (List.mem_cons_of_mem _ hy)) (inv_wrs (I.le (by omega)) x)
    have i2 := flt_le (p := dirt (wrs S x)) (q := dirt S) l (fun y hy h => wrs_dirt (inv_lk I) (hl y (List.mem_cons_of_mem _ hy)) h)
    show (if dirt S x then 1 else 0) + nW (wrs S x) l ≤ _
    rw [List.filter_cons]
    split
    · rw [List.length_cons]; omega
    · omega
theorem nW_round (I : Inv S z (k + 3840)) : nW S (rng z) ≤ 4 + dD S z := by
  obtain ⟨hz1, hz2⟩ := I.1
  rw [rng_4 hz1, nW_app]
  have h1 := nW_le [0, 1, 2, 3] S
  have I1 : Inv (syF S [0, 1, 2, 3]) z (k + 2880) := inv_syF [0, 1, 2, 3] S (I.le (by show k + 2880 + 240 * 4 ≤ _; omega))
  have h2 := nW_data (k := k) (List.range' 4 (z - 4)) (syF S [0, 1, 2, 3]) (fun b hb => by rw [List.mem_range'_1] at hb; omega) (I1.le (by rw [List.length_range']; omega))
  have h3 := flt_le (p := dirt (syF S [0, 1, 2, 3])) (q := dirt S) (List.range' 4 (z - 4)) (fun b hb h => syF_dirt (k := k + 2880) [0, 1, 2, 3] S b (by rw [List.mem_range'_1] at hb; omega) (I.le (by show k + 2880 + 240 * 4 ≤ _; omega)) h)
  unfold dD
  have h1 : nW S [0, 1, 2, 3] ≤ 4 := h1
  omega
theorem fr_syF : ∀ (l : List Nat) (S : St), Inv S z (k + 240 * l.length) → Nk S → Fr S → Fr (syF S l) := by
  intro l
  induction l with
  | nil => intro S _ _ F; exact F
  | cons x l ih =>
    intro S I N F
    rw [List.length_cons] at I
    exact ih (wrs S x) (inv_wrs (I.le (by omega)) x) (nk_wrs N x) (fr_wrs (inv_lk I) N.1 F x)
theorem ee_of (I : Inv S z (k + 3840)) (N : Nk S) (F : Fr (syF S [0, 1, 2, 3])) : EE (syF S (rng z)) z := by
  obtain ⟨hz1, hz2⟩ := I.1
  rw [rng_4 hz1, syF_app]
  have I1 : Inv (syF S [0, 1, 2, 3]) z (k + 2880) := inv_syF [0, 1, 2, 3] S (I.le (by show k + 2880 + 240 * 4 ≤ _; omega))
  have N1 : Nk (syF S [0, 1, 2, 3]) := nk_syF _ _ N
  obtain ⟨h1, h2⟩ := tl_all (k := k) (List.range' 4 (z - 4)) (syF S [0, 1, 2, 3]) (by
    have := List.nodup_range' (s := 4) (n := z - 4) (step := 1)
    exact this) (fun b hb => by rw [List.mem_range'_1] at hb; omega) (I1.le (by rw [List.length_range']; omega)) N1 F
  exact ⟨h2, fun b hb1 hb2 => h1 b (by rw [List.mem_range'_1]; omega)⟩
theorem ee_first (I : Inv S z (k + 3840)) (N : Nk S) : EE (syF S (rng z)) z := by
  refine ee_of I N ?_
  have L0 := inv_lk I
  have i1 : Inv (wrs S 0) z (k + 3600) := inv_wrs (k := k + 3600) (I.le (by omega)) 0
  have i2 : Inv (wrs (wrs S 0) 1) z (k + 3360) := inv_wrs (k := k + 3360) (i1.le (by omega)) 1
  have i3 : Inv (wrs (wrs (wrs S 0) 1) 2) z (k + 3120) := inv_wrs (k := k + 3120) (i2.le (by omega)) 2
  have n1 := nk_wrs N 0
  have n2 := nk_wrs n1 1
  have n3 := nk_wrs n2 2
  have f0 := fb_new I N.1 (b := 0) (by decide)
  have f01 := fb_wrs (inv_lk i1) n1.1 f0 1
  have f02 := fb_wrs (inv_lk i2) n2.1 f01 2
  have f03 := fb_wrs (inv_lk i3) n3.1 f02 3
  have f1 := fb_new i1 n1.1 (b := 1) (by decide)
  have f12 := fb_wrs (inv_lk i2) n2.1 f1 2
  have f13 := fb_wrs (inv_lk i3) n3.1 f12 3
  have f2 := fb_new i2 n2.1 (b := 2) (by decide)
  have f23 := fb_wrs (inv_lk i3) n3.1 f2 3
  have f3 := fb_new i3 n3.1 (b := 3) (by decide)
  exact fr_of f03 f13 f23 f3
theorem ee_next (I : Inv S z (k + 3840)) (N : Nk S) (E : EE S z) : EE (syF S (rng z)) z :=
  ee_of I N (fr_syF (k := k + 2880) [0, 1, 2, 3] S (I.le (by show k + 2880 + 240 * 4 ≤ _; omega)) N E.1)
theorem dD_pp (I : Inv S z k) (N : Nk S) (E : EE S z) : dD S z ≤ pp S := by
  classical
  have hz := I.1
  have hch : ∀ b, ∃ i : Nat, (4 ≤ b ∧ b < z ∧ dirt S b = true) → ∃ c ∈ sC S, cB c = b ∧ (i : Int) = c3 c ∧ ∃ w ∈ sC S, pnz w ∧ cI w = i := fun b => by
    by_cases h : 4 ≤ b ∧ b < z ∧ dirt S b = true
    · obtain ⟨d, hd, hdb⟩ := dirt_iff.mp h.2.2
      obtain ⟨c, hc, c1, c2, w, hw, w1, w2⟩ := E.2 b h.1 h.2.1 d hd hdb
      exact ⟨cI w, fun _ => ⟨c, hc, c1, w2, w, hw, w1, rfl⟩⟩
    · exact ⟨0, fun q => absurd q h⟩
  obtain ⟨f, hf⟩ := Classical.axiomOfChoice hch
  have hg : ∀ b ∈ (List.range' 4 (z - 4)).filter (dirt S), 4 ≤ b ∧ b < z ∧ dirt S b = true := fun b hb => by
    obtain ⟨h1, h2⟩ := List.mem_filter.mp hb
    rw [List.mem_range'_1] at h1
    exact ⟨h1.1, by omega, h2⟩
  have := sub_len (((List.range' 4 (z - 4)).filter (dirt S)).map f) (((sC S).filter pb).map cI) ?_ ?_
  · rw [List.length_map, List.length_map] at this
    exact this
  · rw [List.pairwise_map]
    have hnd : (List.range' 4 (z - 4)).Pairwise (fun a b => a ≠ b) := List.nodup_range' (s := 4) (n := z - 4) (step := 1)
    refine List.Pairwise.imp_of_mem ?_ (hnd.filter (dirt S))
    intro a b ha hb hne e
    obtain ⟨c, hc, c1, c2, w, hw, w1, w2⟩ := hf a (hg a ha)
    obtain ⟨c', hc', c1', c2', w', hw', w1', w2'⟩ := hf b (hg b hb)
    have h0 := (N.1 w hw).1
    have := N.2.2 c hc c' hc' (by rw [← c2, ← c2', e]) (by rw [← c2]; omega)
    rw [this] at c1
    exact hne (c1.symm.trans c1')
  · intro x hx
    obtain ⟨b, hb, rfl⟩ := List.mem_map.mp hx
    obtain ⟨c, hc, c1, c2, w, hw, w1, w2⟩ := hf b (hg b hb)
    exact List.mem_map.mpr ⟨w, List.mem_filter.mpr ⟨hw, pb_iff.mpr w1⟩, w2⟩
theorem syF_sub : ∀ (l : List Nat) (S : St), Inv S z (k + 240 * l.length) → ∀ c ∈ sC (syF S l), c ∈ sC S ∨ (cB c < 4 ∧ ¬ pnz c) := by
  intro l
  induction l with
  | nil => intro S _ c hc; exact Or.inl hc
  | cons x l ih =>
    intro S I c hc
    rw [List.length_cons] at I
    rcases ih (wrs S x) (inv_wrs (I.le (by omega)) x) c hc with q | q
    · rcases wrs_mem (inv_lk I) x q with r | r
      · exact Or.inl r
      · exact Or.inr ⟨r.2.2.1, r.2.2.2⟩
    · exact Or.inr q
theorem syF_stay : ∀ (l : List Nat) (S : St) (w : Ch), Inv S z (k + 240 * l.length) → w ∈ sC S → (∀ x ∈ l, x ≠ cB w) → w ∈ sC (syF S l) := by
  intro l
  induction l with
  | nil => intro S w _ h _; exact h
  | cons x l ih =>
    intro S w I h hl
    rw [List.length_cons] at I
    exact ih (wrs S x) w (inv_wrs (I.le (by omega)) x) (wrs_stay (inv_lk I) h (fun q => hl x List.mem_cons_self q.symm)) (fun y hy => hl y (List.mem_cons_of_mem _ hy))
/-- each round one pointer goes at least -/
theorem pp_round (I : Inv S z (k + 3840)) (N : Nk S) (E : EE S z) (h0 : pp S ≠ 0) : pp (syF S (rng z)) < pp S := by
  obtain ⟨hz1, hz2⟩ := I.1
  have Bd1 := I.2.1.1.1
  have pw := Bd1.2.2.2.2.2.2
  obtain ⟨w, hfw⟩ : ∃ w, (sC S).find? pb = some w := by
    cases hf : (sC S).find? pb with
    | some w => exact ⟨w, rfl⟩
    | none =>
      exfalso
      apply h0
      unfold pp
      rw [List.length_eq_zero_iff, List.filter_eq_nil_iff]
      exact fun x hx => by simpa using List.find?_eq_none.mp hf x hx
  obtain ⟨hw1, P, Q, hPQ, hP⟩ := List.find?_eq_some_iff_append.mp hfw
  have hw : w ∈ sC S := by rw [hPQ]; simp
  have hp := pb_iff.mp hw1
  have hmin : ∀ c ∈ sC S, pnz c → cI w ≤ cI c := fun c hc hpc => by
    rw [hPQ] at hc pw
    rcases List.mem_append.mp hc with q | q
    · have := hP c q
      rw [pb_iff.mpr hpc] at this
      cases this
    · rcases List.mem_cons.mp q with r | r
      · rw [r]; exact Nat.le_refl _
      · exact Nat.le_of_lt ((List.pairwise_cons.mp (List.pairwise_append.mp pw).2.1).1 c r)
  have hv : 4 ≤ cV w ∧ cV w < z := by
    have := (I.2.1.1.2.1 w hw).pt hp.1
    have := hp.2
    omega
  have hdat : ∀ d ∈ sC S, cB d = cV w → cI w < cI d := fun d hd hdb => by
    obtain ⟨c, hc, c1, c2, w', hw', w1, w2⟩ := E.2 (cV w) hv.1 hv.2 d hd hdb
    have h1 := hmin w' hw' w1
    have h2 := (N.1 c hc).2.2.2.2.1
    omega
  have hB : 1 ≤ cB w ∧ cB w ≤ 3 := ⟨hp.1.1, hp.1.2.1⟩
  obtain ⟨y, rfl⟩ : ∃ y, z = cB w + 1 + y := ⟨z - cB w - 1, by omega⟩
  have er : rng (cB w + 1 + y) = rng (cB w) ++ cB w :: List.range' (cB w + 1) y := by
    have h1 : List.range' 0 (cB w + 1 + y) = List.range' 0 (cB w + 1) ++ List.range' (0 + (cB w + 1)) y := (List.range'_append_1).symm
    have h2 : List.range' 0 (cB w + 1) = List.range' 0 (cB w) ++ List.range' (0 + cB w) 1 := (List.range'_append_1).symm
    show List.range' 0 (cB w + 1 + y) = _
    rw [h1, h2, List.append_assoc, show 0 + (cB w + 1) = cB w + 1 by omega, show 0 + cB w = cB w by omega]
    rfl
  rw [er, syF_app]
  have hl0 : (rng (cB w)).length = cB w := List.length_range'
  have I0 : Inv S (cB w + 1 + y) (k + 3840 - 240 * cB w + 240 * (rng (cB w)).length) := I.le (by rw [hl0]; omega)
  have IT : Inv (syF S (rng (cB w))) (cB w + 1 + y) (k + 3840 - 240 * cB w) := inv_syF _ _ I0
  have hsub := syF_sub _ _ I0
  have hgo := star_go IT (nk_syF _ _ N) (fr_syF _ _ I0 N E.1) (w := w) (syF_stay _ _ _ I0 hw (fun x hx => by
    have := List.mem_range'_1.mp hx
    omega)) hp (fun c hc hpc => by
      rcases hsub c hc with q | q
      · exact hmin c q hpc
      · exact absurd hpc q.2) (fun d hd hdb => by
      rcases hsub d hd with q | q
      · exact hdat d q hdb
      · omega)
  have h1 := pp_lt (inv_lk IT) (w := w) (syF_stay _ _ _ I0 hw (fun x hx => by
    have := List.mem_range'_1.mp hx
    omega)) hp hgo
  have h2 := pp_syF _ _ I0
  have h3 := pp_syF (k := k) (List.range' (cB w + 1) y) (wrs (syF S (rng (cB w))) (cB w)) (inv_wrs (IT.le (by rw [List.length_range']; omega)) (cB w))
  have : syF (syF S (rng (cB w))) (cB w :: List.range' (cB w + 1) y) = syF (wrs (syF S (rng (cB w))) (cB w)) (List.range' (cB w + 1) y) := rfl
  rw [this]
  omega
end K4
