/-! ===== what the class holds between two calls ===== -/
def CM (h : Hp) (x : Nat) (T : Nat → Nat) (n : Nat) (ls : List (Nat × Nat)) (fp rs : Int32) (rf : Nat → Int32) : Prop := (h.2 x 12 = nI n ∧ n ≤ 600 ∧ (∀ i, i < n → h.2 (x + 26) i = cby (T i)) ∧ ∀ i, i < n → T i < 256) ∧ (CBk h x ls ∧ h.2 x 13 = nI ls.length) ∧ (h.2 x 14 = fp ∧ h.2 x 15 = rs) ∧ ∀ i, i < 4 → h.2 (x + 41) i = rf i
def CI (h : Hp) (x : Nat) (bl : Nat → Nat) (im : List (St × List St)) (z : Nat) : Prop := h.2 x 11 = nI im.length ∧ im.length ≤ 3 ∧ ∀ g v, im[g]? = some v → bl (64 + g) ≠ 0 ∧ Sta h (bl (64 + g) + 1) v.1 z ∧ HsC h x bl (g + 1) v.2 z
def CW (h : Hp) (x B : Nat) (bl : Nat → Nat) (S : St) (z : Nat) (T : Nat → Nat) (n : Nat) (ls : List (Nat × Nat)) (fp rs : Int32) (rf : Nat → Int32) (hi : List St) (im : List (St × List St)) : Prop := CQ h x S z ∧ CM h x T n ls fp rs rf ∧ BS h x B bl ∧ HsC h x bl 0 hi z ∧ CI h x bl im z
/-- what a call of the class may do to the rest of the heap -/
def KC (h h' : Hp) (x B : Nat) : Prop := nH h ≤ nH h' ∧ (∀ a, a < nH h → kH h' a = kH h a ∧ lH h' a = lH h a) ∧ ∀ a, a < nH h → a < B → a < x ∨ x + 92 ≤ a → rH h' a = rH h a ∧ h'.2 a = h.2 a
theorem KC.refl (h : Hp) (x B : Nat) : KC h h x B := ⟨Nat.le_refl _, fun _ _ => ⟨rfl, rfl⟩, fun _ _ _ _ => ⟨rfl, rfl⟩⟩
theorem KC.trans {h h1 h2 : Hp} {x B : Nat} (a : KC h h1 x B) (b : KC h1 h2 x B) : KC h h2 x B := ⟨Nat.le_trans a.1 b.1, fun y hy => ⟨(b.2.1 y (Nat.lt_of_lt_of_le hy a.1)).1.trans (a.2.1 y hy).1, (b.2.1 y (Nat.lt_of_lt_of_le hy a.1)).2.trans (a.2.1 y hy).2⟩, fun y hy q1 q2 => ⟨(b.2.2 y (Nat.lt_of_lt_of_le hy a.1) q1 q2).1.trans (a.2.2 y hy q1 q2).1, (b.2.2 y (Nat.lt_of_lt_of_le hy a.1) q1 q2).2.trans (a.2.2 y hy q1 q2).2⟩⟩
theorem KC.of {h h' : Hp} {x B : Nat} (e : h'.1 = h.1) (f : ∀ a, a < B → a < x ∨ x + 92 ≤ a → h'.2 a = h.2 a) : KC h h' x B := ⟨by rw [nh_eq e]; exact Nat.le_refl _, fun a _ => ⟨kh_eq e a, lh_eq e a⟩, fun a _ q1 q2 => ⟨funext (fun k => rh_eq e a k), f a q1 q2⟩⟩
theorem KC.ext {h h' : Hp} {x B : Nat} (E : Ext h h') (f : ∀ a, a < nH h → a < B → a < x ∨ x + 92 ≤ a → h'.2 a = h.2 a) : KC h h' x B := ⟨E.1, fun a ha => ⟨E.k ha, E.l ha⟩, fun a ha q1 q2 => ⟨(E.2 a ha).2.2, f a ha q1 q2⟩⟩
section CWS
variable {h h' : Hp} {x B z n g N Z : Nat} {bl bl' : Nat → Nat} {S : St} {T : Nat → Nat} {ls : List (Nat × Nat)} {fp rs : Int32} {rf : Nat → Int32} {hi hs : List St} {im : List (St × List St)}
theorem CM.cg (e0 : h'.2 x = h.2 x) (e26 : h'.2 (x + 26) = h.2 (x + 26)) (e38 : h'.2 (x + 38) = h.2 (x + 38)) (e40 : h'.2 (x + 41) = h.2 (x + 41)) (A : CM h x T n ls fp rs rf) : CM h' x T n ls fp rs rf := by
  unfold CM CBk at A ⊢
  rw [e0, e26, e38, e40]
  exact A
theorem HsC.ext (E : Ext h h') (b : BS h x B bl) (C : CO h x) (hg : g < 4) (hb : g = 0 ∨ bl (63 + g) ≠ 0) (f0 : h'.2 (hO x bl g) = h.2 (hO x bl g)) (f : ∀ a, a < nH h → B ≤ a → h'.2 a = h.2 a) (H : HsC h x bl g hs z) : HsC h' x bl g hs z := by
  obtain ⟨q1, q2, q3, q4, q5⟩ := b.ho C hg hb
  refine ⟨by rw [f0]; exact H.1, H.2.1, fun i S hS => ?_⟩
  obtain ⟨u1, u2⟩ := H.2.2 i S hS
  have hi' : i < hs.length := (List.getElem?_eq_some_iff.mp hS).1
  have h16 := H.2.1
  have c := b.2.1 (16 * g + i) (by omega) u1
  rw [bz_s (by omega)] at c
  exact ⟨u1, u2.ext E c.2 (fun a w1 w2 => f a (by omega) (by omega))⟩
theorem CI.ext (E : Ext h h') (b : BS h x B bl) (C : CO h x) (f : ∀ a, a < nH h → a = x ∨ a = x + 11 ∨ B ≤ a → h'.2 a = h.2 a) (H : CI h x bl im z) : CI h' x bl im z := by
  have b1 := b.1
  refine ⟨by rw [f x (by omega) (by omega)]; exact H.1, H.2.1, fun g v hv => ?_⟩
  obtain ⟨u1, u2, u3⟩ := H.2.2 g v hv
  have hi' : g < im.length := (List.getElem?_eq_some_iff.mp hv).1
  have h3 := H.2.1
  have c := b.2.1 (64 + g) (by omega) u1
  rw [bz_i] at c
  exact ⟨u1, u2.ext E (by omega) (fun a w1 w2 => f a (by omega) (by omega)), u3.ext E b C (by omega) (Or.inr (by rw [show 63 + (g + 1) = 64 + g by omega]; exact u1)) (f _ (by rw [hO_s]; omega) (by rw [hO_s]; omega)) (fun a ha q => f a ha (by omega))⟩
theorem CW.ext (E : Ext h h') (f : ∀ a, a < nH h → pers x a → h'.2 a = h.2 a) (A : CW h x B bl S z T n ls fp rs rf hi im) : CW h' x B bl S z T n ls fp rs rf hi im := by
  obtain ⟨⟨C, R⟩, A2, A3, A4, A5⟩ := A
  have b1 := A3.1
  have f2 : ∀ a, a < nH h → a < x + 15 ∨ a = x + 26 ∨ a = x + 38 ∨ a = x + 41 ∨ x + 92 ≤ a → h'.2 a = h.2 a := f
  refine ⟨⟨C.ext E (by omega), R.ext E (by omega) (fun a w1 w2 => f2 a (by omega) (by omega))⟩, A2.cg (f2 _ (by omega) (by omega)) (f2 _ (by omega) (by omega)) (f2 _ (by omega) (by omega)) (f2 _ (by omega) (by omega)), A3.ext E, A4.ext E A3 C (by omega) (Or.inl rfl) (f2 _ (by rw [hO_0]; omega) (by rw [hO_0]; omega)) (fun a ha q => f2 a ha (by omega)), A5.ext E A3 C (fun a ha q => f2 a ha (by omega))⟩
theorem CW.scr (s : Scr h h' x) (A : CW h x B bl S z T n ls fp rs rf hi im) : CW h' x B bl S z T n ls fp rs rf hi im := A.ext (Ext.same s.1) (fun a _ q => s.2 a q)
theorem HsC.tk {g2 : Nat} (b : BS h x B bl) (C : CO h x) (t : TK h h' x bl bl' g) (hg : g < 4) (v1 : g = 0 ∨ bl (63 + g) ≠ 0) (hg2 : g2 < 4) (hne : g ≠ g2) (v2 : g2 = 0 ∨ bl (63 + g2) ≠ 0) (H : HsC h x bl g2 hs z) : HsC h' x bl' g2 hs z := by
  obtain ⟨q1, q2, q3, q4, q5⟩ := b.ho C hg2 v2
  refine ⟨?_, H.2.1, fun i S' hi => ?_⟩
  · rw [t.o hg, t.2.2.2.2 (hO x bl g2) (by omega) (fun j hj q => by have := q5 (16 * g + j) (by omega) q; omega) (fun e => hO_ne b hg hg2 hne v1 v2 e.symm)]
    exact H.1
  · obtain ⟨y1, y2⟩ := H.2.2 i S' hi
    have hi' : i < hs.length := (List.getElem?_eq_some_iff.mp hi).1
    have := H.2.1
    exact ⟨by rw [t.2.1 _ y1]; exact y1, t.sta b C hg v1 (by omega) (by omega) y1 y2⟩
theorem TK.thn {k : Nat} (b : BS h x B bl) (C : CO h x) (t : TK h h' x bl bl' g) (hg : g < 4) (v1 : g = 0 ∨ bl (63 + g) ≠ 0) (hk : k < 3) (u : bl (64 + k) ≠ 0) (R : Sta h (bl (64 + k) + 1) S z) : Sta h' (bl' (64 + k) + 1) S z := by
  rw [t.1 _ (by omega)]
  have c := b.2.1 (64 + k) (by omega) u
  rw [bz_i] at c
  have b1 := b.1
  have eo : hO x bl g < bl (64 + k) ∨ bl (64 + k) + 11 ≤ hO x bl g := by
    cases g with
    | zero => rw [hO_0]; omega
    | succ g =>
      rw [hO_s]
      by_cases e : g = k
      · rw [e]; omega
      · have hb : bl (64 + g) ≠ 0 := by
          rcases v1 with q | q
          · omega
          · rw [show 63 + (g + 1) = 64 + g by omega] at q; exact q
        have := b.2.2.1 (64 + g) (64 + k) (by omega) (by omega) (by omega) hb u
        rw [bz_i, bz_i] at this
        omega
  refine R.exe t.2.2.2.1 (by omega) (by omega) (fun a w1 w2 => t.2.2.2.2 a (by omega) (fun j hj q => ?_) (by omega))
  have := b.2.2.1 (64 + k) (16 * g + j) (by omega) (by omega) (by omega) u q
  rw [bz_i, bz_s (by omega)] at this
  omega
/-- the object itself stays over a change of a history -/
theorem TK.own {a : Nat} (b : BS h x B bl) (t : TK h h' x bl bl' g) (hg : g < 4) (v1 : g = 0 ∨ bl (63 + g) ≠ 0) (ha : a < B) (h11 : a ≠ x + 11) : h'.2 a = h.2 a := by
  have b1 := b.1
  refine t.2.2.2.2 a (by omega) (fun j hj q => ?_) ?_
  · have := (b.2.1 (16 * g + j) (by omega) q).1
    omega
  · cases g with
    | zero => rw [hO_0]; exact h11
    | succ g =>
      rw [hO_s]
      have hb : bl (64 + g) ≠ 0 := by
        rcases v1 with q | q
        · omega
        · rw [show 63 + (g + 1) = 64 + g by omega] at q; exact q
      have := (b.2.1 (64 + g) (by omega) hb).1
      omega
theorem TK.co (b : BS h x B bl) (t : TK h h' x bl bl' g) (hg : g < 4) (v1 : g = 0 ∨ bl (63 + g) ≠ 0) (C : CO h x) : CO h' x := by
  obtain ⟨q1, q2, q3, q4, q5⟩ := b.ho C hg v1
  have b1 := b.1
  exact C.exe t.2.2.2.1 (by omega) (by omega)
theorem TK.kc (b : BS h x B bl) (C : CO h x) (t : TK h h' x bl bl' g) (hg : g < 4) (v1 : g = 0 ∨ bl (63 + g) ≠ 0) : KC h h' x B := by
  obtain ⟨q1, q2, q3, q4, q5⟩ := b.ho C hg v1
  exact ⟨t.2.2.2.1.1, t.2.2.2.1.2.1, fun a ha q1 q2 => ⟨t.2.2.2.1.2.2 a ha (by omega), t.own b hg v1 q1 (by omega)⟩⟩
theorem TK.sta1 (b : BS h x B bl) (C : CO h x) (t : TK h h' x bl bl' g) (hg : g < 4) (v1 : g = 0 ∨ bl (63 + g) ≠ 0) (R : Sta h (x + 1) S z) : Sta h' (x + 1) S z := by
  obtain ⟨q1, q2, q3, q4, q5⟩ := b.ho C hg v1
  have b1 := b.1
  exact R.exe t.2.2.2.1 (by omega) (by omega) (fun a w1 w2 => t.own b hg v1 (by omega) (by omega))
/-- the class keeps the state ahead of a WORK -/
theorem c_push (A : CW h x B bl S z T n ls fp rs rf hi im) (h16 : hi.length < 16) (h64 : (sL S).length ≤ 64) (rm : Rm h bl N Z) :
    ∃ h' bl', fX0_push (x + 11) (x + 1) h = some (.inl none, h') ∧ CW h' x B bl' S z T n ls fp rs rf (hi ++ [S]) im ∧ Rm h' bl' N Z ∧ KC h h' x B ∧ ∀ a, a < B → a ≠ x + 11 → h'.2 a = h.2 a := by
  obtain ⟨⟨C, R⟩, A2, A3, A4, A5⟩ := A
  have b1 := A3.1
  have v0 : (0 : Nat) = 0 ∨ bl (63 + 0) ≠ 0 := Or.inl rfl
  obtain ⟨h1, v, a1, a2, a3, a4, a5, a6, a7, a8, a9⟩ := c_keep (g := 0) (j := hi.length) (s := x + 1) A3 C (by omega) v0 h16 R (by omega) (by rw [hO_0]; omega) (fun q => by have := (A3.2.1 (16 * 0 + hi.length) (by omega) q).1; omega) h64 rm
  have t1 : TK h h1 x bl (upB bl (16 * 0 + hi.length) v) 0 := TK.up (by omega) h rfl h16 a3 a4 a7 a8
  have C1 := t1.co A3 (by omega) v0 C
  have l1 : h1.2 (x + 11) 1 = nI hi.length := by
    have : h1.2 (x + 11) = h.2 (x + 11) := a8 (x + 11) (by omega) (by
      by_cases e : bl (16 * 0 + hi.length) = 0
      · rw [a4 e]; omega
      · rw [a3 e]
        have := (A3.2.1 (16 * 0 + hi.length) (by omega) e).1
        omega)
    rw [this]
    have := A4.1
    rw [hO_0] at this
    exact this
  rw [hO_0] at a1
  obtain ⟨h2, hh2⟩ : ∃ h2 : Hp, h2 = (h1.1, upI h1.2 (x + 11) 1 (nI (hi.length + 1))) := ⟨_, rfl⟩
  have e1 : h2.1 = h1.1 := by rw [hh2]
  have e2 : ∀ a, a ≠ x + 11 → h2.2 a = h1.2 a := fun a q => by rw [hh2]; exact upI_ne q
  have K1 := t1.kc A3 C (by omega) v0
  refine ⟨h2, _, ?_, ⟨⟨C1.eq e1, Sta.eqs e1 (fun a w1 w2 => e2 a (by omega)) (t1.sta1 A3 C (by omega) v0 R)⟩, ?_, a5.same e1, ⟨?_, ?_, fun i S' hS' => ?_⟩, ?_⟩, ⟨by rw [nh_eq e1]; exact a9.1, by rw [zh_eq e1]; exact a9.2⟩, K1.trans (KC.of e1 (fun a q1 q2 => e2 a (by omega))), fun a q1 q2 => by rw [e2 a q2]; exact t1.own A3 (by omega) v0 q1 q2⟩
  · unfold fX0_push kX0_push_0
    rw [if_pos C.his.1.2]
    have := A4.1
    rw [hO_0] at this
    rw [this, if_neg (by rw [k16, nI_leI (by decide) (by omega)]; omega), a1, bV_s, if_pos C1.his.1.2, l1, nI_1, hh2]
  · exact A2.cg (by rw [e2 x (by omega), t1.own A3 (by omega) v0 (by omega) (by omega)]) (by rw [e2 _ (by omega), t1.own A3 (by omega) v0 (by omega) (by omega)]) (by rw [e2 _ (by omega), t1.own A3 (by omega) v0 (by omega) (by omega)]) (by rw [e2 _ (by omega), t1.own A3 (by omega) v0 (by omega) (by omega)])
  · rw [hO_0, hh2]
    show upI _ _ _ _ (x + 11) 1 = _
    rw [upI_at, if_pos rfl, List.length_append, List.length_singleton]
  · rw [List.length_append, List.length_singleton]; omega
  · have kk : ∀ i, i < 16 → upB bl (16 * 0 + hi.length) v (16 * 0 + i) ≠ 0 → ∀ S', Sta h1 (upB bl (16 * 0 + hi.length) v (16 * 0 + i)) S' z → Sta h2 (upB bl (16 * 0 + hi.length) v (16 * 0 + i)) S' z := fun i hi0 q S' r => Sta.eqs e1 (fun a w1 w2 => e2 a (by have := (a5.2.1 (16 * 0 + i) (by omega) q).1; omega)) r
    by_cases e : i = hi.length
    · rw [e, List.getElem?_append_right (Nat.le_refl _), Nat.sub_self] at hS'
      injection hS' with hS'
      rw [e, upB_at, ← hS']
      have := kk hi.length h16 (by rw [upB_at]; exact a2) S (by rw [upB_at]; exact a6)
      rw [upB_at] at this
      exact ⟨a2, this⟩
    · have hi' : i < (hi ++ [S]).length := (List.getElem?_eq_some_iff.mp hS').1
      rw [List.length_append, List.length_singleton] at hi'
      rw [List.getElem?_append_left (by omega)] at hS'
      obtain ⟨y1, y2⟩ := A4.2.2 i S' hS'
      have y3 : upB bl (16 * 0 + hi.length) v (16 * 0 + i) ≠ 0 := by rw [upB_ne (by omega)]; exact y1
      refine ⟨y3, kk i (by omega) y3 S' ?_⟩
      rw [upB_ne (by omega)]
      have c3 := A3.2.1 (16 * 0 + i) (by omega) y1
      rw [bz_s (by omega)] at c3
      refine y2.exe a7 c3.2 (by rw [hO_0]; omega) (fun a p1 p2 => a8 a (by omega) ?_)
      by_cases e0 : bl (16 * 0 + hi.length) = 0
      · rw [a4 e0]
        omega
      · rw [a3 e0]
        have := A3.2.2.1 (16 * 0 + i) (16 * 0 + hi.length) (by omega) (by omega) (by omega) y1 e0
        rw [bz_s (by omega), bz_s (by omega)] at this
        omega
  · refine ⟨by rw [e2 x (by omega), t1.own A3 (by omega) v0 (by omega) (by omega)]; exact A5.1, A5.2.1, fun k v' hv' => ?_⟩
    obtain ⟨u1, u2, u3⟩ := A5.2.2 k v' hv'
    have hk : k < im.length := (List.getElem?_eq_some_iff.mp hv').1
    have h3 := A5.2.1
    have v4 : k + 1 = 0 ∨ bl (63 + (k + 1)) ≠ 0 := Or.inr (by rw [show 63 + (k + 1) = 64 + k by omega]; exact u1)
    have y1 := t1.thn A3 C (by omega) v0 (by omega) u1 u2
    have y2 := HsC.tk A3 C t1 (by omega) v0 (by omega) (by omega) v4 u3
    have u1' : upB bl (16 * 0 + hi.length) v (64 + k) ≠ 0 := by rw [t1.2.1 _ u1]; exact u1
    have c := a5.2.1 (64 + k) (by omega) u1'
    exact ⟨u1', Sta.eqs e1 (fun a w1 w2 => e2 a (by omega)) y1, y2.ext (Ext.same e1) a5 C1 (by omega) (Or.inr (by rw [show 63 + (k + 1) = 64 + k by omega]; exact u1')) (e2 _ (by rw [hO_s]; omega)) (fun a ha q => e2 a (by omega))⟩
end CWS
