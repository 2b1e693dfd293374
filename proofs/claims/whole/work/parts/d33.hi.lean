/-! ===== histories: push, pop, take over ===== -/
/-- blocks of history g may be new or others, and their states; its length too -/
def TK (h h' : Hp) (x : Nat) (bl bl' : Nat → Nat) (g : Nat) : Prop := (∀ i, i < 16 * g ∨ 16 * g + 16 ≤ i → bl' i = bl i) ∧ (∀ i, bl i ≠ 0 → bl' i = bl i) ∧ (∀ i, bl i = 0 → bl' i ≠ 0 → nH h ≤ bl' i) ∧ Exe h h' (hO x bl g + 1) ∧ ∀ a, a < nH h → (∀ j, j < 16 → bl (16 * g + j) ≠ 0 → a < bl (16 * g + j) ∨ bl (16 * g + j) + 10 ≤ a) → a ≠ hO x bl g → h'.2 a = h.2 a
theorem hO_cg {x g : Nat} {bl bl' : Nat → Nat} (e : bl' (63 + g) = bl (63 + g)) : hO x bl' g = hO x bl g := by unfold hO; rw [e]
theorem TK.o {h h' : Hp} {x g g2 : Nat} {bl bl' : Nat → Nat} (t : TK h h' x bl bl' g) (hg : g < 4) : hO x bl' g2 = hO x bl g2 := by
  by_cases e : g2 = 0
  · rw [e, hO_0, hO_0]
  · exact hO_cg (t.1 _ (by omega))
theorem TK.refl (h : Hp) (x : Nat) (bl : Nat → Nat) (g : Nat) : TK h h x bl bl g := ⟨fun _ _ => rfl, fun _ _ => rfl, fun i q1 q2 => absurd q1 q2, (Ext.refl h).exe _, fun _ _ _ _ => rfl⟩
theorem TK.trans {h h1 h2 : Hp} {x g : Nat} {bl bl1 bl2 : Nat → Nat} (a : TK h h1 x bl bl1 g) (b : TK h1 h2 x bl1 bl2 g) (hg : g < 4) : TK h h2 x bl bl2 g := by
  have ho := a.o (g2 := g) hg
  obtain ⟨a1, a2, a3, a4, a5⟩ := a
  obtain ⟨b1, b2, b3, b4, b5⟩ := b
  rw [ho] at b4 b5
  have hn := a4.1
  refine ⟨fun i q => (b1 i q).trans (a1 i q), fun i q => by rw [b2 i (by rw [a2 i q]; exact q), a2 i q], fun i q1 q2 => ?_, a4.trans b4, fun y hy q1 q2 => ?_⟩
  · by_cases e : bl1 i = 0
    · have := b3 i e q2
      omega
    · rw [b2 i e]
      exact a3 i q1 e
  · rw [b5 y (by omega) (fun j hj q => ?_) q2, a5 y hy q1 q2]
    by_cases e : bl (16 * g + j) = 0
    · have := a3 _ e q
      omega
    · rw [a2 _ e]
      exact q1 j hj e
section HI
variable {h : Hp} {x B z g g2 j s N Z : Nat} {bl : Nat → Nat} {S : St}
theorem TK.up {h' : Hp} (hg : g < 4) (h1 : Hp) {v i : Nat} (hi : i = 16 * g + j) (hj : j < 16) (e1 : bl i ≠ 0 → v = bl i) (e2 : bl i = 0 → v = nH h) (E : Exe h h' (hO x bl g + 1)) (f : ∀ a, a < nH h → a < v ∨ v + 10 ≤ a → h'.2 a = h.2 a) : TK h h' x bl (upB bl i v) g := by
  refine ⟨fun k q => upB_ne (by omega), fun k q => ?_, fun k q1 q2 => ?_, E, fun a ha q1 q2 => ?_⟩
  · by_cases e : k = i
    · rw [e, upB_at]
      rw [e] at q
      exact e1 q
    · exact upB_ne e
  · by_cases e : k = i
    · rw [e, upB_at]
      rw [e] at q1
      rw [e2 q1]
      exact Nat.le_refl _
    · rw [upB_ne e] at q2
      exact absurd q1 q2
  · refine f a ha ?_
    by_cases e : bl i = 0
    · rw [e2 e]
      omega
    · rw [e1 e, hi]
      rw [hi] at e
      exact q1 j hj e
theorem TK.sta {h' : Hp} {bl' : Nat → Nat} (b : BS h x B bl) (C : CO h x) (t : TK h h' x bl bl' g) (hg : g < 4) (hb : g = 0 ∨ bl (63 + g) ≠ 0) {i : Nat} (hi : i < 64) (hgi : i < 16 * g ∨ 16 * g + 16 ≤ i) (q : bl i ≠ 0) (R : Sta h (bl i) S z) : Sta h' (bl' i) S z := by
  obtain ⟨q1, q2, q3, q4, q5⟩ := b.ho C hg hb
  obtain ⟨b1, b2, b3, b4, b5, b6, b7, b8⟩ := b
  rw [t.1 i hgi]
  have c := b2 i (by omega) q
  rw [bz_s hi] at c
  have := q5 i hi q
  refine R.exe t.2.2.2.1 c.2 (by omega) (fun a w1 w2 => t.2.2.2.2 a (by omega) (fun k hk qk => ?_) (by omega))
  have := b3 i (16 * g + k) (by omega) (by omega) (by omega) q qk
  rw [bz_s hi, bz_s (by omega)] at this
  omega
theorem hO_ne (b : BS h x B bl) (hg : g < 4) (hg2 : g2 < 4) (hne : g ≠ g2) (v1 : g = 0 ∨ bl (63 + g) ≠ 0) (v2 : g2 = 0 ∨ bl (63 + g2) ≠ 0) : hO x bl g ≠ hO x bl g2 := by
  intro e
  have nz : ∀ y, y < 4 → y ≠ 0 → (y = 0 ∨ bl (63 + y) ≠ 0) → hO x bl y ≠ x + 11 := fun y hy hy0 hv => by
    rcases hv with w | w
    · exact absurd w hy0
    · have := (b.2.1 (63 + y) (by omega) w).1
      have := b.1
      unfold hO
      rw [if_neg hy0]
      omega
  by_cases w1 : g = 0
  · rw [w1, hO_0] at e
    exact nz g2 hg2 (by omega) v2 e.symm
  · by_cases w2 : g2 = 0
    · rw [w2, hO_0] at e
      exact nz g hg w1 v1 e
    · have n1 : bl (63 + g) ≠ 0 := by rcases v1 with q | q; exact absurd q w1; exact q
      have n2 : bl (63 + g2) ≠ 0 := by rcases v2 with q | q; exact absurd q w2; exact q
      have := b.2.2.1 (63 + g) (63 + g2) (by omega) (by omega) (by omega) n1 n2
      have := bz_b (63 + g)
      have := bz_b (63 + g2)
      unfold hO at e
      rw [if_neg w1, if_neg w2] at e
      omega
/-- what a history holds -/
def HsC (h : Hp) (x : Nat) (bl : Nat → Nat) (g : Nat) (hs : List St) (z : Nat) : Prop := h.2 (hO x bl g) 1 = nI hs.length ∧ hs.length ≤ 16 ∧ ∀ i S, hs[i]? = some S → bl (16 * g + i) ≠ 0 ∧ Sta h (bl (16 * g + i)) S z
theorem c_take_over_go {hs : List St} (h16 : hs.length ≤ 16) (hl : ∀ S ∈ hs, (sL S).length ≤ 64) (hg : g < 4) (hg2 : g2 < 4) (hne : g ≠ g2) : ∀ (c k fl : Nat) (h : Hp) (bl : Nat → Nat), k + c = hs.length → c < fl → BS h x B bl → CO h x → (g = 0 ∨ bl (63 + g) ≠ 0) → (g2 = 0 ∨ bl (63 + g2) ≠ 0) → HsC h x bl g2 hs z → (∀ i S, i < k → hs[i]? = some S → bl (16 * g + i) ≠ 0 ∧ Sta h (bl (16 * g + i)) S z) → Rm h bl N Z →
    ∃ h' bl', gX0_takeOver fl 2 [.ref (hO x bl g), .ref (hO x bl g2), .int (nI k)] [] h = some (.inl none, h') ∧ TK h h' x bl bl' g ∧ BS h' x B bl' ∧ Rm h' bl' N Z ∧ HsC h' x bl' g hs z := by
  intro c
  induction c with
  | zero =>
    intro k fl h bl hk hfl b C v1 v2 H K rm
    obtain ⟨fl, rfl⟩ := sc (show 0 < fl by omega)
    obtain ⟨⟨k1, k2⟩, -⟩ := b.ho C hg v1
    obtain ⟨⟨k3, k4⟩, -⟩ := b.ho C hg2 v2
    refine ⟨(h.1, upI h.2 (hO x bl g) 1 (h.2 (hO x bl g2) 1)), bl, ?_, ⟨fun _ _ => rfl, fun _ _ => rfl, fun i q1 q2 => absurd q1 q2, (Ext.same rfl).exe _, fun a ha q1 q2 => upI_ne q2⟩, b.same rfl, rm, ?_, h16, fun i S hi => ?_⟩
    · rw [zX0_takeOver_2]
      unfold kX0_takeOver_2
      rw [if_pos k3, if_pos (by rw [H.1, nI_leI (by omega) (by omega)]; omega), if_pos k1]
    · show upI _ _ _ _ _ 1 = _
      rw [upI_at, if_pos rfl]
      exact H.1
    · have hi' : i < hs.length := (List.getElem?_eq_some_iff.mp hi).1
      obtain ⟨u1, u2⟩ := K i S (by omega) hi
      obtain ⟨q1, q2, q3, q4, q5⟩ := b.ho C hg v1
      have := q5 (16 * g + i) (by omega) u1
      exact ⟨u1, u2.up (fun a w1 w2 => upI_ne (by omega))⟩
  | succ c ih =>
    intro k fl h bl hk hfl b C v1 v2 H K rm
    obtain ⟨fl, rfl⟩ := sc (show 0 < fl by omega)
    obtain ⟨⟨k1, k2⟩, -, -, -, w5⟩ := b.ho C hg v1
    obtain ⟨⟨k3, k4, k5, k6⟩, q2, q3', -, q5'⟩ := b.ho C hg2 v2
    obtain ⟨S, hS⟩ : ∃ S, hs[k]? = some S := ⟨hs[k], List.getElem?_eq_getElem (by omega)⟩
    obtain ⟨u1, u2⟩ := H.2.2 k S hS
    have c2 := b.2.1 (16 * g2 + k) (by omega) u1
    rw [bz_s (by omega)] at c2
    have w6 := w5 (16 * g2 + k) (by omega) u1
    obtain ⟨h1, v, a1, a2, a3, a4, a5, a6, a7, a8, a9⟩ := c_keep (g := g) (j := k) (s := bl (16 * g2 + k)) b C hg v1 (by omega) u2 c2.2 (by omega) (fun q => by
      have := b.2.2.1 (16 * g2 + k) (16 * g + k) (by omega) (by omega) (by omega) u1 q
      rw [bz_s (by omega), bz_s (by omega)] at this
      omega) (hl S (List.mem_of_getElem? hS)) rm
    have t1 : TK h h1 x bl (upB bl (16 * g + k) v) g := TK.up hg h rfl (by omega) a3 a4 a7 a8
    have eg := t1.o (g2 := g) hg
    have eg2 := t1.o (g2 := g2) hg
    have C1 : CO h1 x := C.exe a7 (by have := b.1; omega) (by
      obtain ⟨-, -, -, q4, -⟩ := b.ho C hg v1
      have := b.1
      rcases q4 with w | w
      · rw [w]; omega
      · omega)
    have b63 : ∀ i, upB bl (16 * g + k) v (63 + i) = bl (63 + i) ∨ i = 0 := fun i => by
      by_cases e : i = 0
      · exact Or.inr e
      · exact Or.inl (upB_ne (by omega))
    have v1' : g = 0 ∨ upB bl (16 * g + k) v (63 + g) ≠ 0 := by
      rcases v1 with w | w
      · exact Or.inl w
      · rcases b63 g with e | e
        · rw [e]; exact Or.inr w
        · exact Or.inl e
    have v2' : g2 = 0 ∨ upB bl (16 * g + k) v (63 + g2) ≠ 0 := by
      rcases v2 with w | w
      · exact Or.inl w
      · rcases b63 g2 with e | e
        · rw [e]; exact Or.inr w
        · exact Or.inl e
    have H1 : HsC h1 x (upB bl (16 * g + k) v) g2 hs z := by
      refine ⟨?_, h16, fun i S' hi => ?_⟩
      · rw [eg2, t1.2.2.2.2 (hO x bl g2) (by omega) (fun j hj q => by have := q5' (16 * g + j) (by omega) q; omega) (fun e => hO_ne b hg hg2 hne v1 v2 e.symm)]
        exact H.1
      · obtain ⟨y1, y2⟩ := H.2.2 i S' hi
        have hi' : i < hs.length := (List.getElem?_eq_some_iff.mp hi).1
        exact ⟨by rw [t1.2.1 _ y1]; exact y1, t1.sta b C hg v1 (by omega) (by omega) y1 y2⟩
    have K1 : ∀ i S', i < k + 1 → hs[i]? = some S' → upB bl (16 * g + k) v (16 * g + i) ≠ 0 ∧ Sta h1 (upB bl (16 * g + k) v (16 * g + i)) S' z := fun i S' hi hS' => by
      by_cases e : i = k
      · subst e
        rw [hS] at hS'
        injection hS' with hS'
        rw [upB_at, ← hS']
        exact ⟨a2, a6⟩
      · obtain ⟨y1, y2⟩ := K i S' (by omega) hS'
        rw [upB_ne (by omega)]
        refine ⟨y1, ?_⟩
        have c3 := b.2.1 (16 * g + i) (by omega) y1
        rw [bz_s (by omega)] at c3
        have w7 := w5 (16 * g + i) (by omega) y1
        refine y2.exe a7 c3.2 (by omega) (fun a p1 p2 => a8 a (by omega) ?_)
        by_cases e0 : bl (16 * g + k) = 0
        · rw [a4 e0]
          omega
        · rw [a3 e0]
          have := b.2.2.1 (16 * g + i) (16 * g + k) (by omega) (by omega) (by omega) y1 e0
          rw [bz_s (by omega), bz_s (by omega)] at this
          omega
    obtain ⟨h', bl', d1, d2, d3, d4, d5⟩ := ih (k + 1) fl h1 _ (by omega) (by omega) a5 C1 v1' v2' H1 K1 a9
    rw [eg, eg2] at d1
    refine ⟨h', bl', ?_, t1.trans d2 hg, d3, d4, d5⟩
    rw [zX0_takeOver_2]
    unfold kX0_takeOver_2
    rw [if_pos k3, if_neg (by rw [H.1, nI_leI (by omega) (by omega)]; omega), k4, if_pos k5, k6, if_pos (inB_nI (by omega) (by decide)), nI_clamp (by omega), q2 k (by omega), if_neg u1, if_pos k1, a1, bV_s, nI_1]
    exact d1
theorem c_takeOver {hs : List St} (hl : ∀ S ∈ hs, (sL S).length ≤ 64) (hg : g < 4) (hg2 : g2 < 4) (hne : g ≠ g2) (b : BS h x B bl) (C : CO h x) (v1 : g = 0 ∨ bl (63 + g) ≠ 0) (v2 : g2 = 0 ∨ bl (63 + g2) ≠ 0) (H : HsC h x bl g2 hs z) (rm : Rm h bl N Z) :
    ∃ h' bl', fX0_takeOver (hO x bl g) (hO x bl g2) h = some (.inl none, h') ∧ TK h h' x bl bl' g ∧ BS h' x B bl' ∧ Rm h' bl' N Z ∧ HsC h' x bl' g hs z := by
  have := c_take_over_go (x := x) (B := B) (z := z) (N := N) (Z := Z) H.2.1 hl hg hg2 hne hs.length 0 FF h bl (by omega) (show hs.length < 1000000 by have := H.2.1; omega) b C v1 v2 H (fun i S hi _ => by omega) rm
  unfold fX0_takeOver kX0_takeOver_0
  exact this
end HI
