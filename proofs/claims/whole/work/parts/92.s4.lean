/-! ===== the reference does a step ===== -/
/-- what a row of things put off may tell -/
def Lk (S : St) : Prop := ∀ e ∈ sL S, e.1 = 0 ∨ e.2.1 < 12
/-- room for what a write brings -/
def Wb (S : St) (b : Nat) : Prop := dirt S b = true → Sl (wr0 S b) (co1 ((sL S).filter (isDue (gone (goes b (sC S)))))) (co2 ((sL S).filter (isDue (gone (goes b (sC S)))))) (co1 ((sL S).filter (isDue (gone (goes b (sC S))))))
/-- a state in which the reference's row may be written -/
def Wg (S : St) : Prop := Pt S ∧ Lu S ∧ Lk S
def syF (S : St) (l : List Nat) : St := l.foldl wrs S
def sSyn (S : St) (z : Nat) : Bool × St := (!(sC S).all (fun c => decide (z ≤ cB c)), syF S (List.range' 0 z))
/-- every write of a row of writes may be done -/
def Wr : St → List Nat → Prop
  | _, [] => True
  | S, b :: l => Wg S ∧ Wb S b ∧ Wr (wrs S b) l
def anyW : St → List Nat → Bool
  | _, [] => false
  | S, b :: l => dirt S b || anyW (wrs S b) l
/-- a result, and what of the reference's object may have changed -/
def Rez (x : RS) (o : Option Value) (h : Hp) (m r : Nat) (S : St) : Prop := ∃ h', x = some (.inl o, h') ∧ h'.1 = h.1 ∧ (∀ a, a ≠ r → a ≠ m → a ≠ m + 147 → a ≠ m + 148 → a ≠ m + 149 → h'.2 a = h.2 a) ∧ (∀ j, j ≠ 30 → h'.2 m j = h.2 m j) ∧ Row h' r S
section S4
variable {h : Hp} {r m : Nat} {S : St}
theorem Res.rez {x : RS} {o : Option Value} (hr : r ≠ m) (a : Res x o h r S) : Rez x o h m r S := by
  obtain ⟨h', a1, a2, a3, a4⟩ := a
  exact ⟨h', a1, a2, fun a ha _ _ _ _ => a3 a ha, fun j _ => by rw [a3 m hr.symm], a4⟩
theorem m_sweepsOne (R : Row h r S) (W : Wf (mm S)) (hm : kH h m = 18) {z : Nat} (hz : h.2 m 11 = nI z) (hz1 : 6 ≤ z) (hz2 : z ≤ 16) (sl : Sl S 4 2 4) : Res (fX10_sweepsOne m r h) (some (.int (b2i (sSwp S z).1))) h r (sSwp S z).2 := by
  have h1 := m_sweepAt R W hm hz hz1 hz2
  unfold fX10_sweepsOne kX10_sweepsOne_0 sSwp
  rw [if_pos hm, h1, bI_s]
  unfold swAt
  cases hn : swN S with
  | some n =>
    have hmem := List.mem_of_find?_eq_some hn
    have hgt := List.find?_some hn
    have hn12 : n < 12 := by simp at hmem; omega
    have hgt : nmd (mm S) n + cntL S 1 n < fd (mm S) n 0 := by simpa using hgt
    have g0 : fd (mm S) n 0 < 128 := bd_mm R.bd _
    have hnm := q_named R.rb0 W (k := n) (by omega)
    rw [show nI (256 * 0) = 0 from rfl] at hnm
    have hla := m_later R (w := 1) (k := n) (by decide) (by omega)
    have hla' : fX10_later r 1 (nI n) h = some (.inl (some (.int (nI (cntL S 1 n)))), h) := hla
    dsimp only
    rw [oI_s, if_pos (by rw [nI_eqm (by omega)]; exact fun q => q), if_pos (by rw [k100, nI_ltI (by omega) (by decide)]; omega), hnm, bI_s, hla', bI_s, nI_add]
    refine res_bI (m_field R (sl.le (by omega) (by omega) (by omega)) hn12 (by decide) (by omega) ⟨by decide, by omega⟩ ⟨by decide, by omega⟩ (f := 0) (v := nmd (mm S) n + cntL S 1 n) (n1 := 0) (n2 := 0)) (fun h5 _ _ R5 => ?_)
    unfold setL
    by_cases e : nmd (mm S) n + cntL S 1 n = 0
    · rw [if_neg (by rw [e]; decide), if_pos e]
      have s1 : Sl (mkF S n 0 (nmd (mm S) n + cntL S 1 n) 0 0) 3 2 3 := sl_mk sl
      exact res_bV (m_empties R5 (pt_mkF (fun a b c d => W.1 a b c d) hn12 (by decide) (Or.inr (by decide))) hn12 (i := 0) (j := 0) (k := 0) s1) (fun h6 _ _ R6 => res_t R6)
    · rw [if_pos (by rw [nI_eq0 (by omega)]; exact e), if_neg e]
      exact res_t R5
  | none =>
    cases hb : swB S z with
    | some b =>
      have hmem := List.mem_of_find?_eq_some hb
      have hb16 : 4 ≤ b ∧ b < 16 := by simp at hmem; omega
      have e1 : ¬ nI (100 + b) = -1 := by rw [nI_eqm (by omega)]; exact fun q => q
      have e2 : ¬ nI (100 + b) < 100 := by rw [k100, nI_ltI (by omega) (by decide)]; omega
      have e3 : nI (100 + b) - 100 = nI b := by rw [k100, pk_sub (by omega), show 100 + b - 100 = b by omega]
      simp only [Option.map_some, oI_s, e1, e2, e3, not_false_eq_true, if_true, if_false]
      exact res_bI (m_bare R (sl.le (by omega) (by omega) (by omega)) (b := 0) (p := b) (v := 0) (by decide) (by omega) (by decide)) (fun h5 _ _ R5 => res_t R5)
    | none =>
      simp only [Option.map_none, oI_n, not_true_eq_false, if_false]
      exact res_f R
theorem b2i_orb (a b : Bool) : b2i a ||| b2i b = b2i (a || b) := by cases a <;> cases b <;> decide
theorem m_syncs (hr : r ≠ m ∧ r ≠ m + 147 ∧ r ≠ m + 148 ∧ r ≠ m + 149) {z : Nat} (hz2 : z ≤ 16) : ∀ (c b q : Nat) (a : Bool) (S : St) (h : Hp), b + c = z → c < q → Row h r S → MO h m → h.2 m 11 = nI z → Wr S (List.range' b c) →
    Rez (gX10_syncs q 4 [.ref m, .ref r, .int (b2i a), .int (nI b)] [] h) (some (.int (b2i (a || anyW S (List.range' b c))))) h m r (syF S (List.range' b c)) := by
  intro c
  induction c with
  | zero =>
    intro b q a S h hb hq R M hz w
    obtain ⟨q, rfl⟩ := sc hq
    refine ⟨h, ?_, rfl, fun _ _ _ _ _ _ => rfl, fun _ _ => rfl, R⟩
    rw [zX10_syncs_4]
    simp (maxSteps := 3000000) (disch := omega) only [kX10_syncs_4, M.1, hz, ↓reduceIte, if_true, if_false, ite_not, not_true_eq_false, not_false_eq_true, ↓qqI_p, ↓qqR_p, ↓qqV_p, ↓qqIx_p, ↓qqRx_p, ↓qqVx_p, qqI_s, qqR_s, qqV_s, qqIx_s, qqRx_s, qqVx_s, qqIx_t, qqVx_t, ↓letH_s, inB_nI, nI_leI, nI_ltI, nI_eq, nI_eq0, nI_eqm, nI_eqn, nI_le0, nI_lt0, nI_0lt, nI_0le, nI_clamp, pk_mul, nI_add, pk_div, pk_sub, rem_n, z_add, add_z, m_cell, kmk, lmk, rmk, b2i_0, b2i_n1, bft, le_t, le_f, lt_t, lt_f, eq_t, eq_f, k1, k2, k3, k4, k5, k6, k7, k8, k9, k10, k11, k12, k13, k15, k16, k20, k24, k30, k60, k64, k99, k100, k200, k255, k256, k512, k2912, k3392, k3393, k3394, k3395, k3396, k3397, k3398]
    simp [anyW]
  | succ c ih =>
    intro b q a S h hb hq R M hz w
    obtain ⟨q, rfl⟩ := sc hq
    rw [List.range'_succ] at w ⊢
    obtain ⟨⟨w1, w2, w3⟩, w4, w5⟩ := w
    obtain ⟨h1, a1, a2, a3, a4, a5⟩ := m_writes (b := b) (by omega) hr R M w1 w2 w3 w4
    obtain ⟨h2, c1, c2, c3, c4, c5⟩ := ih (b + 1) q (a || dirt S b) (wrs S b) h1 (by omega) (by omega) a5 (M.eq a2) (by rw [a4 11 (by decide)]; exact hz) w5
    refine ⟨h2, ?_, c2.trans a2, fun x y1 y2 y3 y4 y5 => by rw [c3 x y1 y2 y3 y4 y5, a3 x y1 y2 y3 y4 y5], fun j hj => by rw [c4 j hj, a4 j hj], c5⟩
    rw [zX10_syncs_4]
    unfold anyW
    rw [← Bool.or_assoc, ← c1]
    simp (maxSteps := 3000000) (disch := omega) only [kX10_syncs_4, M.1, hz, a1, b2i_orb, ↓reduceIte, if_true, if_false, ite_not, not_true_eq_false, not_false_eq_true, ↓qqI_p, ↓qqR_p, ↓qqV_p, ↓qqIx_p, ↓qqRx_p, ↓qqVx_p, qqI_s, qqR_s, qqV_s, qqIx_s, qqRx_s, qqVx_s, qqIx_t, qqVx_t, ↓letH_s, inB_nI, nI_leI, nI_ltI, nI_eq, nI_eq0, nI_eqm, nI_eqn, nI_le0, nI_lt0, nI_0lt, nI_0le, nI_clamp, pk_mul, nI_add, pk_div, pk_sub, rem_n, z_add, add_z, m_cell, kmk, lmk, rmk, b2i_0, b2i_n1, bft, le_t, le_f, lt_t, lt_f, eq_t, eq_f, k1, k2, k3, k4, k5, k6, k7, k8, k9, k10, k11, k12, k13, k15, k16, k20, k24, k30, k60, k64, k99, k100, k200, k255, k256, k512, k2912, k3392, k3393, k3394, k3395, k3396, k3397, k3398]
/-- what a step asks: of its numbers -/
def okS (k a b c : Nat) : Prop := k ≤ 10 ∧ (k < 7 → a < 12) ∧ (k = 7 → a < 16) ∧ (k < 3 ∨ k = 6 → 0 < b ∧ b < 128) ∧ (k = 2 → c < 12) ∧ (k = 3 → b < 128) ∧ (k = 4 → b < 32 ∧ c < 128)
def full (S : St) : Bool := decide (60 ≤ (sC S).length) || decide (30 ≤ (sL S).length)
/-- a step, by the reference's numbers -/
noncomputable def sDo (S : St) (z k a b c : Nat) : Bool × St :=
  if (k < 7 ∨ k = 10) ∧ full S = true then (false, S)
  else if k = 0 then sBeg S z a b 1
  else if k = 1 then sBeg S z a b 2
  else if k = 2 then sLink S a b c
  else if k = 3 then sGrow S z a b
  else if k = 4 then sPut S a b c
  else if k = 5 then sCut S a
  else if k = 6 then sDrop S a b
  else if k = 7 then (dirt S a, wrs S a)
  else if k = 8 then (anyW S (List.range' 0 z), syF S (List.range' 0 z))
  else if k = 9 then (true, sCrs S)
  else sSwp S z
/-- what a step needs of the state -/
def Rdy (S : St) (z k a : Nat) : Prop := Wf (mm S) ∧ (k < 7 ∨ k = 10 → full S = false → Sl S 7 2 7) ∧ (k = 7 → Wg S ∧ Wb S a) ∧ (k = 8 → Wr S (List.range' 0 z))
theorem Rez.ok {x : RS} {b : Bool} {S' : St} (a : Rez x (some (.int (b2i b))) h m r S') : Rez (bI x fun z3 h2 => (if (z3 = 0 ∨ z3 = 1) then (some (.inl (some (.int z3)), h2)) else none)) (some (.int (b2i b))) h m r S' := by
  obtain ⟨h', a1, a2⟩ := a
  refine ⟨h', ?_, a2⟩
  rw [a1, bI_s, if_pos (by cases b <;> decide)]
theorem m_does {s k a b c z : Nat} (R : Row h r S) (M : MO h m) (hr : r ≠ m ∧ r ≠ m + 147 ∧ r ≠ m + 148 ∧ r ≠ m + 149) (hz : h.2 m 11 = nI z) (hz1 : 6 ≤ z) (hz2 : z ≤ 16) (hs1 : kH h s = 1) (hs2 : lH h s = 5) (h0 : h.2 s 0 = nI k) (ha : h.2 s 1 = nI a) (hb : h.2 s 2 = nI b) (hc : h.2 s 3 = nI c) (ok : okS k a b c) (rd : Rdy S z k a) :
    Rez (fX10_does m r s h) (some (.int (b2i (sDo S z k a b c).1))) h m r (sDo S z k a b c).2 := by
  obtain ⟨o1, o2, o3, o4, o5, o6, o7⟩ := ok
  obtain ⟨W, d1, d2, d3⟩ := rd
  have hfull := m_isFull R
  have hm := M.1
  unfold fX10_does kX10_does_0
  rw [if_pos hs1, hs2, if_pos (by decide), if_pos (by decide), if_pos (by decide), h0, ha, hb]
  have core : ((k < 7 ∨ k = 10) → full S = false) → Rez (gX10_does FF 35 [.ref m, .ref r, .ref s, .int (nI k), .int (nI a), .int (nI b)] [] h) (some (.int (b2i (sDo S z k a b c).1))) h m r (sDo S z k a b c).2 := by
    intro hf
    have hnf : ¬ ((k < 7 ∨ k = 10) ∧ full S = true) := fun q => by rw [hf q.1] at q; exact absurd q.2 (by decide)
    unfold sDo
    rw [if_neg hnf, show FF = 999999 + 1 from rfl, zX10_does_35]
    unfold kX10_does_35
    have hk : k = 0 ∨ k = 1 ∨ k = 2 ∨ k = 3 ∨ k = 4 ∨ k = 5 ∨ k = 6 ∨ k = 7 ∨ k = 8 ∨ k = 9 ∨ k = 10 := by omega
    rcases hk with rfl | rfl | rfl | rfl | rfl | rfl | rfl | rfl | rfl | rfl | rfl
    · have sl := d1 (Or.inl (by decide)) (hf (Or.inl (by decide)))
      have o4 := o4 (Or.inl (by decide))
      rw [if_pos (by decide), if_pos hm, if_pos rfl]
      exact (Res.rez hr.1 (m_begins R W hm hz hz1 hz2 (sl.le (by omega) (by omega) (by omega)) (o2 (by decide)) o4.2 (t := 1) (Or.inl rfl))).ok
    · have sl := d1 (Or.inl (by decide)) (hf (Or.inl (by decide)))
      have o4 := o4 (Or.inl (by decide))
      rw [if_neg (by decide), if_pos (by decide), if_pos hm, if_neg (by decide), if_pos rfl]
      exact (Res.rez hr.1 (m_begins R W hm hz hz1 hz2 (sl.le (by omega) (by omega) (by omega)) (o2 (by decide)) o4.2 (t := 2) (Or.inr rfl))).ok
    · have sl := d1 (Or.inl (by decide)) (hf (Or.inl (by decide)))
      have o4 := o4 (Or.inl (by decide))
      rw [if_neg (by decide), if_neg (by decide), if_pos (by decide), if_pos hs1, hs2, if_pos (by decide), if_pos hm, if_neg (by decide), if_neg (by decide), if_pos rfl, hc]
      exact (Res.rez hr.1 (m_links R W hm (sl.le (by omega) (by omega) (by omega)) (o2 (by decide)) o4.2 (o5 rfl))).ok
    · have sl := d1 (Or.inl (by decide)) (hf (Or.inl (by decide)))
      rw [if_neg (by decide), if_neg (by decide), if_neg (by decide), if_pos (by decide), if_pos hm, if_neg (by decide), if_neg (by decide), if_neg (by decide), if_pos rfl]
      exact (Res.rez hr.1 (m_grows R hm hz hz1 hz2 (sl.le (by omega) (by omega) (by omega)) (o2 (by decide)) (o6 rfl))).ok
    · have sl := d1 (Or.inl (by decide)) (hf (Or.inl (by decide)))
      rw [if_neg (by decide), if_neg (by decide), if_neg (by decide), if_neg (by decide), if_pos (by decide), if_pos hs1, hs2, if_pos (by decide), if_neg (by decide), if_neg (by decide), if_neg (by decide), if_neg (by decide), if_pos rfl, hc]
      exact (Res.rez hr.1 (m_setsByte R W.1 (sl.le (by omega) (by omega) (by omega)) (o2 (by decide)) (o7 rfl).1 (o7 rfl).2)).ok
    · have sl := d1 (Or.inl (by decide)) (hf (Or.inl (by decide)))
      rw [if_neg (by decide), if_neg (by decide), if_neg (by decide), if_neg (by decide), if_neg (by decide), if_pos (by decide), if_neg (by decide), if_neg (by decide), if_neg (by decide), if_neg (by decide), if_neg (by decide), if_pos rfl]
      exact (Res.rez hr.1 (m_cuts R W.1 (sl.le (by omega) (by omega) (by omega)) (o2 (by decide)))).ok
    · have sl := d1 (Or.inl (by decide)) (hf (Or.inl (by decide)))
      have o4 := o4 (Or.inr rfl)
      rw [if_neg (by decide), if_neg (by decide), if_neg (by decide), if_neg (by decide), if_neg (by decide), if_neg (by decide), if_pos (by decide), if_neg (by decide), if_neg (by decide), if_neg (by decide), if_neg (by decide), if_neg (by decide), if_neg (by decide), if_pos rfl]
      exact (Res.rez hr.1 (m_drops R W (sl.le (by omega) (by omega) (by omega)) (o2 (by decide)) o4)).ok
    · obtain ⟨⟨w1, w2, w3⟩, w4⟩ := d2 rfl
      rw [if_neg (by decide), if_neg (by decide), if_neg (by decide), if_neg (by decide), if_neg (by decide), if_neg (by decide), if_neg (by decide), if_pos (by decide), if_pos hm, if_neg (by decide), if_neg (by decide), if_neg (by decide), if_neg (by decide), if_neg (by decide), if_neg (by decide), if_neg (by decide), if_pos rfl]
      exact Rez.ok (m_writes (o3 rfl) hr R M w1 w2 w3 w4)
    · have w := d3 rfl
      rw [if_neg (by decide), if_neg (by decide), if_neg (by decide), if_neg (by decide), if_neg (by decide), if_neg (by decide), if_neg (by decide), if_neg (by decide), if_pos (by decide), if_pos hm, if_neg (by decide), if_neg (by decide), if_neg (by decide), if_neg (by decide), if_neg (by decide), if_neg (by decide), if_neg (by decide), if_neg (by decide), if_pos rfl]
      have := m_syncs hr hz2 z 0 FF false S h (by omega) (by show _ < 1000000; omega) R M hz w
      rw [Bool.false_or] at this
      exact Rez.ok this
    · rw [if_neg (by decide), if_neg (by decide), if_neg (by decide), if_neg (by decide), if_neg (by decide), if_neg (by decide), if_neg (by decide), if_neg (by decide), if_neg (by decide), if_pos (by decide), if_neg (by decide), if_neg (by decide), if_neg (by decide), if_neg (by decide), if_neg (by decide), if_neg (by decide), if_neg (by decide), if_neg (by decide), if_neg (by decide), if_pos rfl]
      exact (Res.rez hr.1 (m_crashes R)).ok (b := true)
    · have sl := d1 (Or.inr rfl) (hf (Or.inr rfl))
      rw [if_neg (by decide), if_neg (by decide), if_neg (by decide), if_neg (by decide), if_neg (by decide), if_neg (by decide), if_neg (by decide), if_neg (by decide), if_neg (by decide), if_neg (by decide), if_pos hm, if_neg (by decide), if_neg (by decide), if_neg (by decide), if_neg (by decide), if_neg (by decide), if_neg (by decide), if_neg (by decide), if_neg (by decide), if_neg (by decide), if_neg (by decide)]
      exact (Res.rez hr.1 (m_sweepsOne R W hm hz hz1 hz2 (sl.le (by omega) (by omega) (by omega)))).ok
  have refu : (k < 7 ∨ k = 10) → full S = true → Rez (some (.inl (some (.int 0)), h)) (some (.int (b2i (sDo S z k a b c).1))) h m r (sDo S z k a b c).2 := fun q1 q2 => by
    unfold sDo
    rw [if_pos ⟨q1, q2⟩]
    exact Res.rez hr.1 (res_f R)
  have hfl : fX10_isFull r h = some (.inl (some (.int (b2i (full S)))), h) := hfull
  by_cases h7 : k < 7
  · rw [if_pos (by rw [k7, nI_ltI (by omega) (by decide)]; exact h7), hfl, bI_s]
    cases hf : full S with
    | false => rw [if_pos b2i_f]; exact core (fun _ => hf)
    | true => rw [if_neg (by decide)]; exact refu (Or.inl h7) hf
  · rw [if_neg (by rw [k7, nI_ltI (by omega) (by decide)]; exact h7)]
    by_cases h10 : k = 10
    · rw [if_neg (by rw [h10]; decide), hfl, bI_s]
      cases hf : full S with
      | false => rw [if_pos b2i_f]; exact core (fun _ => hf)
      | true => rw [if_neg (by decide)]; exact refu (Or.inr h10) hf
    · rw [if_pos (by rw [k10, nI_eq (by omega) (by decide)]; exact h10)]
      exact core (fun q => by omega)
end S4
