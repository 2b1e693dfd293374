/-! ===== shapes of both objects; SETTLE by the class and by the reference ===== -/
def ARR (h : Hp) (o f a k l : Nat) : Prop := rH h o f = a ∧ kH h a = k ∧ lH h a = l
def DO (h : Hp) (r : Nat) : Prop := kH h r = 13 ∧ (rH h r 0 = r + 1 ∧ kH h (r + 1) = 14) ∧ (∀ i, i < 6 → ARR h (r + 1) (2 + i) (r + 2 + i) 1 64) ∧ ARR h r 1 (r + 8) 1 16 ∧ ARR h r 5 (r + 9) 2 600 ∧ ARR h r 8 (r + 10) 1 6
def CO (h : Hp) (x : Nat) : Prop := kH h x = 19 ∧ (rH h x 0 = x + 1 ∧ SO h (x + 1)) ∧ ((rH h x 1 = x + 11 ∧ kH h (x + 11) = 10) ∧ ARR h (x + 11) 0 (x + 12) 5 16) ∧ ARR h x 2 (x + 13) 6 3 ∧ (ARR h x 3 (x + 14) 5 5 ∧ ∀ i, i < 5 → rH h (x + 14) i = x + 42 + 10 * i ∧ SO h (x + 42 + 10 * i)) ∧ (rH h x 4 = x + 15 ∧ PO h (x + 15)) ∧ (rH h x 5 = x + 20 ∧ TO h (x + 20)) ∧ ARR h x 6 (x + 26) 2 600 ∧ (rH h x 7 = x + 27 ∧ DO h (x + 27)) ∧ ARR h x 8 (x + 38) 1 16 ∧ ARR h x 9 (x + 39) 2 256 ∧ ARR h x 10 (x + 41) 1 4 ∧ ARR h x 16 (x + 40) 1 12
def ROWS (h : Hp) (a n l : Nat) : Prop := ∀ i, i < n → ARR h a i (a + 1 + i) 1 l
def MS (h : Hp) (m : Nat) : Prop := MO h m ∧ ARR h m 9 (m + 1) 1 600 ∧ ARR h m 10 (m + 2) 1 4 ∧ (ARR h m 19 (m + 3) 7 16 ∧ ROWS h (m + 3) 16 2) ∧ (ARR h m 20 (m + 20) 7 16 ∧ ROWS h (m + 20) 16 2) ∧ (ARR h m 21 (m + 37) 7 80 ∧ ROWS h (m + 37) 80 5) ∧ ARR h m 22 (m + 118) 1 3398 ∧ ARR h m 23 (m + 119) 1 3398 ∧ (ARR h m 24 (m + 120) 7 16 ∧ ROWS h (m + 120) 16 3398) ∧ (ARR h m 25 (m + 137) 7 3 ∧ ROWS h (m + 137) 3 57767) ∧ (ARR h m 26 (m + 141) 7 5 ∧ ROWS h (m + 141) 5 3398) ∧ ARR h m 35 (m + 150) 1 256 ∧ ARR h m 37 (m + 151) 1 5
theorem ARR.eq {h h' : Hp} {o f a k l : Nat} (e : h'.1 = h.1) (A : ARR h o f a k l) : ARR h' o f a k l := ⟨(rh_eq e o f).trans A.1, (kh_eq e a).trans A.2.1, (lh_eq e a).trans A.2.2⟩
theorem ROWS.eq {h h' : Hp} {a n l : Nat} (e : h'.1 = h.1) (A : ROWS h a n l) : ROWS h' a n l := fun i hi => (A i hi).eq e
theorem SO.eq1 {h h' : Hp} {s : Nat} (e : h'.1 = h.1) (A : SO h s) : SO h' s := by
  unfold SO at A ⊢
  simp only [kh_eq e, lh_eq e, rh_eq e]
  exact A
theorem DO.eq {h h' : Hp} {s : Nat} (e : h'.1 = h.1) (A : DO h s) : DO h' s := by
  obtain ⟨a1, a2, a3, a4, a5, a6⟩ := A
  exact ⟨(kh_eq e _).trans a1, ⟨(rh_eq e _ _).trans a2.1, (kh_eq e _).trans a2.2⟩, fun i hi => (a3 i hi).eq e, a4.eq e, a5.eq e, a6.eq e⟩
theorem CO.eq {h h' : Hp} {x : Nat} (e : h'.1 = h.1) (A : CO h x) : CO h' x := by
  obtain ⟨a1, ⟨a2, a3⟩, ⟨⟨a4, a5⟩, a6⟩, a7, ⟨a8, a9⟩, ⟨a10, a11⟩, ⟨a12, a13⟩, a14, ⟨a15, a16⟩, a17, a18, a19, a20⟩ := A
  exact ⟨(kh_eq e _).trans a1, ⟨(rh_eq e _ _).trans a2, a3.eq1 e⟩, ⟨⟨(rh_eq e _ _).trans a4, (kh_eq e _).trans a5⟩, a6.eq e⟩, a7.eq e, ⟨a8.eq e, fun i hi => ⟨(rh_eq e _ _).trans (a9 i hi).1, (a9 i hi).2.eq1 e⟩⟩, ⟨(rh_eq e _ _).trans a10, a11.eq e⟩, ⟨(rh_eq e _ _).trans a12, a13.eq e⟩, a14.eq e, ⟨(rh_eq e _ _).trans a15, a16.eq e⟩, a17.eq e, a18.eq e, a19.eq e, a20.eq e⟩
theorem MS.eq {h h' : Hp} {m : Nat} (e : h'.1 = h.1) (A : MS h m) : MS h' m := by
  obtain ⟨a1, a2, a3, ⟨a4, a5⟩, ⟨a6, a7⟩, ⟨a8, a9⟩, a10, a11, ⟨a12, a13⟩, ⟨a14, a15⟩, ⟨a16, a17⟩, a18, a19⟩ := A
  exact ⟨a1.eq e, a2.eq e, a3.eq e, ⟨a4.eq e, a5.eq e⟩, ⟨a6.eq e, a7.eq e⟩, ⟨a8.eq e, a9.eq e⟩, a10.eq e, a11.eq e, ⟨a12.eq e, a13.eq e⟩, ⟨a14.eq e, a15.eq e⟩, ⟨a16.eq e, a17.eq e⟩, a18.eq e, a19.eq e⟩
/-- addresses that a question to the class leaves alone -/
def pers (x a : Nat) : Prop := a < x + 15 ∨ a = x + 26 ∨ a = x + 38 ∨ a = x + 41 ∨ x + 92 ≤ a
def Scr (h h' : Hp) (x : Nat) : Prop := h'.1 = h.1 ∧ ∀ a, pers x a → h'.2 a = h.2 a
theorem Scr.refl (h : Hp) (x : Nat) : Scr h h x := ⟨rfl, fun _ _ => rfl⟩
theorem Scr.trans {h h1 h2 : Hp} {x : Nat} (a : Scr h h1 x) (b : Scr h1 h2 x) : Scr h h2 x := ⟨b.1.trans a.1, fun y hy => by rw [b.2 y hy, a.2 y hy]⟩
/-- the same of the reference: rows and fields -/
def perM (m a : Nat) : Prop := a < m ∨ a = m + 1 ∨ a = m + 2 ∨ (m + 3 ≤ a ∧ a ≤ m + 19) ∨ a = m + 118 ∨ (m + 120 ≤ a ∧ a ≤ m + 140) ∨ m + 152 ≤ a
def perF (j : Nat) : Prop := j = 1 ∨ j = 3 ∨ j = 11 ∨ j = 13 ∨ j = 14 ∨ j = 15 ∨ j = 16
def ScM (h h' : Hp) (m : Nat) : Prop := h'.1 = h.1 ∧ (∀ a, perM m a → h'.2 a = h.2 a) ∧ (∀ j, perF j → h'.2 m j = h.2 m j)
theorem ScM.refl (h : Hp) (x : Nat) : ScM h h x := ⟨rfl, fun _ _ => rfl, fun _ _ => rfl⟩
theorem ScM.trans {h h1 h2 : Hp} {x : Nat} (a : ScM h h1 x) (b : ScM h1 h2 x) : ScM h h2 x := ⟨b.1.trans a.1, fun y hy => by rw [b.2.1 y hy, a.2.1 y hy], fun y hy => by rw [b.2.2 y hy, a.2.2 y hy]⟩
/-! what is tracked over the writes: the most that leaks, behind how many -/
noncomputable def lkS (S : St) (z : Nat) : Nat := onesN (leakN (sD S) z)
noncomputable def spF (z : Nat) (q : St × Nat × Nat × Nat) (b : Nat) : St × Nat × Nat × Nat :=
  if dirt q.1 b then (wrs q.1 b, q.2.1 + 1, if lkS (wrs q.1 b) z ≤ q.2.2.1 then q.2.2.1 else lkS (wrs q.1 b) z, if lkS (wrs q.1 b) z ≤ q.2.2.1 then q.2.2.2 else q.2.1 + 1) else q
noncomputable def spt (z : Nat) : Nat → St × Nat × Nat × Nat → St × Nat × Nat × Nat
  | 0, q => q
  | n + 1, q => if (sC q.1).isEmpty = true then q else spt z n ((rng z).foldl (spF z) q)
theorem spt_s (z n : Nat) (q : St × Nat × Nat × Nat) : spt z (n + 1) q = if (sC q.1).isEmpty = true then q else spt z n ((rng z).foldl (spF z) q) := rfl
theorem spF_1 (z : Nat) (q : St × Nat × Nat × Nat) (b : Nat) : (spF z q b).1 = wrs q.1 b ∧ (spF z q b).2.1 = q.2.1 + if dirt q.1 b then 1 else 0 := by
  unfold spF
  cases hd : dirt q.1 b with
  | false =>
    rw [if_neg (by decide), if_neg (by decide)]
    refine ⟨?_, rfl⟩
    unfold wrs
    rw [hd]
    rfl
  | true => exact ⟨rfl, rfl⟩
theorem spFs (z : Nat) : ∀ (l : List Nat) (q : St × Nat × Nat × Nat), (l.foldl (spF z) q).1 = syF q.1 l ∧ (l.foldl (spF z) q).2.1 = q.2.1 + nW q.1 l := by
  intro l
  induction l with
  | nil => intro q; exact ⟨rfl, rfl⟩
  | cons b l ih =>
    intro q
    obtain ⟨i1, i2⟩ := ih (spF z q b)
    obtain ⟨s1, s2⟩ := spF_1 z q b
    rw [List.foldl_cons]
    refine ⟨?_, ?_⟩
    · rw [i1, s1]; rfl
    · rw [i2, s1, s2]
      show _ = q.2.1 + ((if dirt q.1 b then 1 else 0) + nW (wrs q.1 b) l)
      omega
theorem spt_eq (z : Nat) : ∀ (n : Nat) (q : St × Nat × Nat × Nat), (spt z n q).1 = (sett z n q.1).2 ∧ (spt z n q).2.1 = q.2.1 + (sett z n q.1).1 := by
  intro n
  induction n with
  | zero => intro q; exact ⟨rfl, rfl⟩
  | succ n ih =>
    intro q
    rw [spt_s, sett_s]
    by_cases e : (sC q.1).isEmpty = true
    · rw [if_pos e, if_pos e]; exact ⟨rfl, rfl⟩
    · rw [if_neg e, if_neg e]
      obtain ⟨i1, i2⟩ := ih ((rng z).foldl (spF z) q)
      obtain ⟨s1, s2⟩ := spFs z (rng z) q
      rw [s1] at i1 i2
      exact ⟨i1, by rw [i2, s2]; show _ = q.2.1 + (nW q.1 (rng z) + _); omega⟩
theorem onesN_le (x : Nat) : onesN x ≤ 16 := Nat.le_trans (List.length_filter_le _ _) (by rw [List.length_range']; exact Nat.le_refl _)
theorem inv_wfm {S : St} {z k : Nat} (I : Inv S z k) : Wf (mm S) ∧ Pg (mm S) := iv_wf I.1.2 I.2.1 I.2.2.1
theorem inv_wfd {S : St} {z k : Nat} (I : Inv S z k) : Wf (sD S) ∧ Pg (sD S) := iv_wfD I.1.2 I.2.1 I.2.2.2
section F1
variable {h : Hp} {s p z k : Nat} {S : St}
theorem isE {S : St} : (sC S).isEmpty = true ↔ sC S = [] := by cases sC S <;> simp
theorem lenE {S : St} (h : ¬ (sC S).isEmpty = true) : 0 < (sC S).length := by
  cases e : sC S with
  | nil => rw [e] at h; exact absurd rfl h
  | cons a l => rw [List.length_cons]; omega
theorem c_settle_go (hps : p + 5 ≤ s ∨ s + 10 ≤ p) : ∀ (n r a q : Nat) (S : St) (h : Hp), r + n ≤ 9999 → n < q → a + 16 * n < 2 ^ 20 → Sta h s S z → PO h p → Inv S z (k + 3840 * n) → sC (sett z n S).2 = [] →
    ∃ h', gX2_settleAll q 4 [.ref p, .ref s, .int (nI a), .int (nI r)] [] h = some (.inl (some (.int (nI (a + (sett z n S).1)))), h') ∧ OwnP h h' p s ∧ Sta h' s (sett z n S).2 z := by
  intro n
  induction n with
  | zero =>
    intro r a q S h hr hq ha R M I D
    obtain ⟨q, rfl⟩ := sc hq
    have D : sC S = [] := D
    refine ⟨h, ?_, OwnP.refl h, R⟩
    rw [zX2_settleAll_4]
    unfold kX2_settleAll_4
    rw [if_neg (by rw [show (10000 : Int32) = nI 10000 from rfl, nI_leI (by decide) (by omega)]; omega), if_pos R.so.1, R.un, D, if_pos (by decide)]
    rfl
  | succ n ih =>
    intro r a q S h hr hq ha R M I D
    obtain ⟨q, rfl⟩ := sc hq
    obtain ⟨hz1, hz2⟩ := I.1
    have hB1 := R.bd.1
    rw [sett_s] at D ⊢
    rw [zX2_settleAll_4]
    unfold kX2_settleAll_4
    rw [if_neg (by rw [show (10000 : Int32) = nI 10000 from rfl, nI_leI (by decide) (by omega)]; omega), if_pos R.so.1, R.un]
    by_cases e : (sC S).isEmpty = true
    · rw [if_pos e] at D ⊢
      rw [isE.mp e]
      exact ⟨h, rfl, OwnP.refl h, R⟩
    · rw [if_neg e] at D ⊢
      have hl := lenE e
      have hlen : (rng z).length = z := List.length_range'
      obtain ⟨h1, a1, a2, a3⟩ := c_sync hps R M (inv_Wcs (k := k) (rng z) S (I.le (by rw [hlen]; omega)))
      have I1 : Inv (syF S (rng z)) z (k + 3840 * n) := inv_syF _ _ (I.le (by rw [hlen]; omega))
      have hnl := nW_le (rng z) S
      rw [hlen] at hnl
      obtain ⟨h2, i1, i2, i3⟩ := ih (r + 1) (a + nW S (rng z)) q (syF S (rng z)) h1 (by omega) (by omega) (by omega) a3 (M.eq a2.1) I1 D
      refine ⟨h2, ?_, a2.trans i2, i3⟩
      rw [if_neg (by rw [nI_le0 (by omega)]; omega), if_pos M.1, a1, bI_s, nI_add, nI_1, i1]
      show _ = some (Sum.inl (some (Value.int (nI (a + (nW S (rng z) + _))))), h2)
      rw [Nat.add_assoc]
theorem c_settleAll (hps : p + 5 ≤ s ∨ s + 10 ≤ p) (R : Sta h s S z) (M : PO h p) (I : Inv S z (k + 3840 * 16)) (N : Nk S) :
    ∃ h', fX2_settleAll p s h = some (.inl (some (.int (nI (sett z 16 S).1))), h') ∧ OwnP h h' p s ∧ Sta h' s (sett z 16 S).2 z := by
  obtain ⟨h', a1, a2, a3⟩ := c_settle_go (k := k) hps 16 0 0 FF S h (by decide) (by decide) (by decide) R M I (settles_ends I N).1
  refine ⟨h', ?_, a2, a3⟩
  rw [Nat.zero_add] at a1
  exact a1
end F1
