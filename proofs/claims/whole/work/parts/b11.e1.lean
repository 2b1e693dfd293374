/-! ===== the reference copies a row, makes all safe; what is dirty ===== -/
theorem RowA.congr {A A' : Nat → Int32} {S : St} (B : Bd S) (e : ∀ x, x < 3398 → A' x = A x) (R : RowA A S) : RowA A' S := by
  obtain ⟨r1, r2, r3, r4, r5, r6, r7, r8, r9, r10⟩ := R
  have hb1 := B.1
  have hb2 := B.2.1
  refine ⟨fun x hx => by rw [e _ (by omega)]; exact r1 x hx, fun x hx => by rw [e _ (by omega)]; exact r2 x hx, by rw [e _ (by decide)]; exact r3, by rw [e _ (by decide)]; exact r4, by rw [e _ (by decide)]; exact r5, by rw [e _ (by decide)]; exact r6, by rw [e _ (by decide)]; exact r7, by rw [e _ (by decide)]; exact r8, fun pre c l q => ?_, fun pre c l q => ?_⟩
  · have hl : (sC S).length = pre.length + 1 + l.length := by rw [q]; simp; omega
    exact (r9 pre c l q).mv (fun i hi => e _ (by omega))
  · have hl : (sL S).length = pre.length + 1 + l.length := by rw [q]; simp; omega
    obtain ⟨q1, q2, q3⟩ := r10 pre c l q
    exact ⟨by rw [e _ (by omega)]; exact q1, by rw [e _ (by omega)]; exact q2, by rw [e _ (by omega)]; exact q3⟩
section EE1
variable {h : Hp} {r r2 m z : Nat} {S : St}
theorem m_copies_go (hr : r ≠ r2) : ∀ (c x n : Nat) (h : Hp), x + c = 3398 → c < n → kH h r = 1 → lH h r = 3398 → kH h r2 = 1 → lH h r2 = 3398 →
    ∃ h', gX10_copies n 2 [.ref r, .ref r2, .int (nI x)] [] h = some (.inl none, h') ∧ h'.1 = h.1 ∧ (∀ a, a ≠ r2 → h'.2 a = h.2 a) ∧ ∀ y, h'.2 r2 y = if x ≤ y ∧ y < 3398 then h.2 r y else h.2 r2 y := by
  intro c
  induction c with
  | zero =>
    intro x n h hx hn k1 l1 k2 l2
    obtain ⟨n, rfl⟩ := sc hn
    refine ⟨h, ?_, rfl, fun _ _ => rfl, fun y => by rw [if_neg (by omega)]⟩
    rw [zX10_copies_2]
    unfold kX10_copies_2
    rw [if_pos (by rw [k3398, nI_leI (by decide) (by omega)]; omega)]
  | succ c ih =>
    intro x n h hx hn k1 l1 k2 l2
    obtain ⟨n, rfl⟩ := sc hn
    obtain ⟨h', i1, i2, i3, i4⟩ := ih (x + 1) n (h.1, upI h.2 r2 x (h.2 r x)) (by omega) (by omega) k1 l1 k2 l2
    refine ⟨h', ?_, i2, fun a ha => by rw [i3 a ha]; exact upI_ne ha, fun y => ?_⟩
    · rw [zX10_copies_2, ← i1]
      unfold kX10_copies_2
      rw [if_neg (by rw [k3398, nI_leI (by decide) (by omega)]; omega), if_pos k1, l1, if_pos (inB_nI (by omega) (by decide)), if_pos k2, l2, if_pos (inB_nI (by omega) (by decide)), nI_clamp (by omega), nI_1]
    · rw [i4]
      dsimp only
      rw [upI_at, upI_ne hr]
      by_cases q : y = x
      · rw [if_neg (by omega), if_pos q, if_pos (by omega), q]
      · rw [if_neg (c := y = x) q]
        by_cases q2 : x + 1 ≤ y ∧ y < 3398
        · rw [if_pos q2, if_pos (by omega)]
        · rw [if_neg q2, if_neg (by omega)]
theorem m_copies (R : Row h r S) (hr : r ≠ r2) (k2 : kH h r2 = 1) (l2 : lH h r2 = 3398) : Res (fX10_copies r r2 h) none h r2 S := by
  obtain ⟨h', i1, i2, i3, i4⟩ := m_copies_go hr 3398 0 FF h rfl (by decide) R.k R.l k2 l2
  refine ⟨h', i1, i2, i3, (kh_eq i2 r2).trans k2, (lh_eq i2 r2).trans l2, R.2.2.1.congr R.bd (fun x hx => by rw [i4, if_pos (by omega)]), R.bd⟩
theorem m_safe (R : Row h r S) : Res (fX10_safe r h) none h r (sSafe S) := by
  have go : ∀ (c x n : Nat) (h : Hp), x + c = 256 → c < n → kH h r = 1 → lH h r = 3398 → ∃ h', gX10_safe n 2 [.ref r, .int (nI x)] [] h = some (.inl none, h') ∧ h'.1 = h.1 ∧ (∀ a, a ≠ r → h'.2 a = h.2 a) ∧ ∀ y, h'.2 r y = if y = 3392 ∨ y = 3393 then 0 else if 256 + x ≤ y ∧ y < 512 then h.2 r (y - 256) else h.2 r y := by
    intro c
    induction c with
    | zero =>
      intro x n h hx hn k1 l1
      obtain ⟨n, rfl⟩ := sc hn
      refine ⟨(h.1, upI (upI h.2 r 3392 0) r 3393 0), ?_, rfl, fun a ha => by dsimp only; rw [upI_ne ha, upI_ne ha], fun y => ?_⟩
      · rw [zX10_safe_2]
        unfold kX10_safe_2
        rw [if_pos (by rw [k256, nI_leI (by decide) (by omega)]; omega), if_pos k1, l1, if_pos (by decide), if_pos (by decide)]
      · dsimp only
        rw [upI_at, upI_at]
        by_cases q : y = 3393
        · rw [if_pos q, if_pos (Or.inr q)]
        · rw [if_neg q]
          by_cases q2 : y = 3392
          · rw [if_pos q2, if_pos (Or.inl q2)]
          · rw [if_neg q2, if_neg (c := y = 3392 ∨ y = 3393) (by omega), if_neg (by omega)]
    | succ c ih =>
      intro x n h hx hn k1 l1
      obtain ⟨n, rfl⟩ := sc hn
      obtain ⟨h', i1, i2, i3, i4⟩ := ih (x + 1) n (h.1, upI h.2 r (256 + x) (h.2 r x)) (by omega) (by omega) k1 l1
      refine ⟨h', ?_, i2, fun a ha => by rw [i3 a ha]; exact upI_ne ha, fun y => ?_⟩
      · rw [zX10_safe_2, ← i1]
        unfold kX10_safe_2
        rw [if_neg (by rw [k256, nI_leI (by decide) (by omega)]; omega), if_pos k1, l1, z_add, if_pos (inB_nI (by omega) (by decide)), k256, nI_add, if_pos (inB_nI (by omega) (by decide)), nI_clamp (by omega), nI_clamp (by omega), nI_1]
      · rw [i4]
        dsimp only
        by_cases q : y = 3392 ∨ y = 3393
        · rw [if_pos q, if_pos q]
        · rw [if_neg q, if_neg q, upI_at, upI_at]
          by_cases q2 : y = 256 + x
          · rw [if_neg (by omega), if_pos q2, if_pos (by omega), show y - 256 = x by omega]
          · rw [if_neg (c := y = 256 + x) q2]
            by_cases q3 : 256 + (x + 1) ≤ y ∧ y < 512
            · rw [if_pos q3, if_neg (by omega), if_pos (by omega)]
            · rw [if_neg q3, if_neg (by omega)]
  obtain ⟨h', i1, i2, i3, i4⟩ := go 256 0 FF h rfl (by decide) R.k R.l
  obtain ⟨r1, r2, r3, r4, r5, r6, r7, r8, r9, r10⟩ := R.2.2.1
  refine ⟨h', i1, i2, i3, (kh_eq i2 r).trans R.k, (lh_eq i2 r).trans R.l, ⟨fun x hx => ?_, fun x hx => ?_, ?_, ?_, ?_, ?_, ?_, ?_, fun pre c l e => (by have e : ([] : List Ch) = pre ++ c :: l := e; simp at e), fun pre c l e => (by have e : ([] : List La) = pre ++ c :: l := e; simp at e)⟩, ?_⟩
  · rw [i4, if_neg (by omega), if_neg (by omega)]; exact r1 x hx
  · rw [i4, if_neg (by omega), if_pos (by omega), show 256 + x - 256 = x by omega]; exact r1 x hx
  · rw [i4, if_pos (Or.inl rfl)]; rfl
  · rw [i4, if_pos (Or.inr rfl)]; rfl
  · rw [i4, if_neg (by omega), if_neg (by omega)]; exact r5
  · rw [i4, if_neg (by omega), if_neg (by omega)]; exact r6
  · rw [i4, if_neg (by omega), if_neg (by omega)]; exact r7
  · rw [i4, if_neg (by omega), if_neg (by omega)]; exact r8
  · obtain ⟨b1, b2, b3, b4, b5, b6, b7⟩ := R.bd
    exact ⟨by show (0 : Nat) ≤ 200; omega, by show (0 : Nat) ≤ 160; omega, b3, fun x => bd_mm R.bd x, fun c hc => (by cases hc), fun e he => (by cases he), List.Pairwise.nil⟩
def dirtN (S : St) (z : Nat) : Nat := bitsOf (dirt S) z
theorem dirtN_lt (S : St) {z : Nat} (hz : z ≤ 16) : dirtN S z < 2 ^ 16 := Nat.lt_of_lt_of_le (bitsOf_lt _ z) (Nat.pow_le_pow_right (by decide) hz)
theorem m_dirty (R : Row h r S) (hm : kH h m = 18) (hz : h.2 m 11 = nI z) (hz2 : z ≤ 16) : fX10_dirty m r h = some (.inl (some (.int (nI (dirtN S z)))), h) := by
  have go : ∀ (c b q : Nat), b + c = z → c < q → gX10_dirty q 4 [.ref m, .ref r, .int (nI (dirtN S b)), .int (nI b)] [] h = some (.inl (some (.int (nI (dirtN S z)))), h) := by
    intro c
    induction c with
    | zero =>
      intro b q hb hq
      obtain ⟨q, rfl⟩ := sc hq
      rw [zX10_dirty_4]
      unfold kX10_dirty_4
      rw [if_pos hm, hz, if_pos (by rw [nI_leI (by omega) (by omega)]; omega), show b = z by omega]
    | succ c ih =>
      intro b q hb hq
      obtain ⟨q, rfl⟩ := sc hq
      have ih := ih (b + 1) q (by omega) (by omega)
      have hlt := dirtN_lt S (z := b) (by omega)
      have hp : 2 ^ b < 2 ^ 31 := p2lt (by omega)
      have hd : dirtN S (b + 1) = dirtN S b ||| (if dirt S b then 2 ^ b else 0) := rfl
      rw [zX10_dirty_4]
      unfold kX10_dirty_4
      rw [if_pos hm, hz, if_neg (by rw [nI_leI (by omega) (by omega)]; omega), m_isDirty R (by omega), bI_s, nI_1]
      cases hdd : dirt S b with
      | false =>
        rw [if_pos (show b2i false = 0 from rfl), or_z]
        rw [hd, hdd, if_neg (by decide), Nat.or_zero] at ih
        exact ih
      | true =>
        rw [if_neg (show ¬ b2i true = 0 by decide), k1, one_shl (by omega), or_nI31 (by omega) hp]
        rw [hd, hdd, if_pos rfl] at ih
        exact ih
  exact go z 0 FF (by omega) (by show _ < 1000000; omega)
end EE1
section EE2
variable {h : Hp} {s z : Nat} {S : St}
theorem dirt_or (S : St) (z : Nat) (hz : z ≤ 16) (Z : Zb S z) : (sC S).foldl (fun a c => a ||| 2 ^ cB c) 0 = dirtN S z := by
  have key : ∀ (l : List Ch) (a k : Nat), (l.foldl (fun a c => a ||| 2 ^ cB c) a).testBit k = (a.testBit k || l.any (fun c => cB c == k)) := by
    intro l
    induction l with
    | nil => intro a k; simp
    | cons c l ih =>
      intro a k
      rw [List.foldl_cons, ih, Nat.testBit_or, Nat.testBit_two_pow, List.any_cons, Bool.or_assoc]
      congr 2
  have hlt : ∀ (l : List Ch) (a : Nat), (∀ c ∈ l, cB c < z) → a < 2 ^ z → l.foldl (fun a c => a ||| 2 ^ cB c) a < 2 ^ z := by
    intro l
    induction l with
    | nil => intro a _ ha; exact ha
    | cons c l ih =>
      intro a hl ha
      rw [List.foldl_cons]
      exact ih _ (fun d hd => hl d (List.mem_cons_of_mem _ hd)) (Nat.or_lt_two_pow ha (Nat.pow_lt_pow_right (by decide) (hl c List.mem_cons_self)))
  refine bitsOf_eq (hlt _ _ Z (Nat.two_pow_pos _)) (fun k _ => ?_)
  rw [key, Nat.zero_testBit, Bool.false_or]
  rfl
theorem c_dirty (R : Sta h s S z) (Z : Zb S z) : fX5_dirtyBlocks s h = some (.inl (some (.int (nI (dirtN S z)))), h) := by
  obtain ⟨hz1, hz2⟩ := R.2.2.1
  have hB1 := R.bd.1
  have go : ∀ (l pre : List Ch) (n a : Nat), sC S = pre ++ l → l.length < n → a < 2 ^ 16 → gX5_dirtyBlocks n 4 [.ref s, .int (nI a), .int (nI pre.length)] [] h = some (.inl (some (.int (nI (l.foldl (fun a c => a ||| 2 ^ cB c) a)))), h) := by
    intro l
    induction l with
    | nil =>
      intro pre n a e hn ha
      obtain ⟨n, rfl⟩ := sc hn
      have hl : (sC S).length = pre.length := by rw [e]; simp
      rw [zX5_dirtyBlocks_4]
      unfold kX5_dirtyBlocks_4
      rw [if_pos R.so.1, R.un, if_pos (by rw [nI_leI (by omega) (by omega)]; omega)]
      rfl
    | cons c l ih =>
      intro pre n a e hn ha
      obtain ⟨n, rfl⟩ := sc hn
      obtain ⟨hc, hl, hl2⟩ := R.ch e
      obtain ⟨q1, -⟩ := R.cst e
      have hcb : cB c < 16 := hc.2.2.1
      have hp : 2 ^ cB c < 2 ^ 16 := Nat.pow_lt_pow_right (by decide) hcb
      have ih := ih (pre ++ [c]) n (a ||| 2 ^ cB c) (app1 e) (by simp at hn; omega) (Nat.or_lt_two_pow ha hp)
      rw [len1] at ih
      rw [zX5_dirtyBlocks_4]
      unfold kX5_dirtyBlocks_4
      rw [if_pos R.so.1, R.un, hl2, if_neg (by rw [nI_leI (by omega) (by omega)]; omega), so_r2 R.so, if_pos (so_k2 R.so), so_l2 R.so, if_pos (inB_nI (by omega) (by decide)), nI_clamp (by omega), q1, nI_1, k1, one_shl (by omega), or_nI31 (by omega) (by omega)]
      exact ih
  have := go (sC S) [] FF 0 rfl (by show _ < 1000000; omega) (by decide)
  rw [dirt_or S z hz2 Z] at this
  exact this
end EE2
