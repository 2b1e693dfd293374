/-! ===== a step keeps the invariant; and it gives what both sides ask ===== -/
/-- the invariant, with room for k changes more -/
def Inv (S : St) (z k : Nat) : Prop := (6 ≤ z ∧ z ≤ 16) ∧ Iv S z 0 0 k ∧ WL (mm S) ∧ WL (sD S)
section I8
variable {S : St} {z k : Nat}
theorem Inv.le {k' : Nat} (I : Inv S z k) (h : k' ≤ k) : Inv S z k' := ⟨I.1, I.2.1.le (Nat.le_refl _) (Nat.le_refl _) h, I.2.2⟩
theorem inv_room (I : Inv S z (k + 7)) (hf : full S = false) : Iv S z 7 2 (k + 7) := by
  obtain ⟨hz, ⟨C, q1, ⟨c1, c2, c3, c4, c5⟩, hk, M⟩, -⟩ := I
  unfold full at hf
  rw [Bool.or_eq_false_iff, decide_eq_false_iff_not, decide_eq_false_iff_not] at hf
  have := les_le (sL S)
  exact ⟨C, q1, ⟨c1, c2, by omega, by omega, c5⟩, hk, M⟩
theorem sD_gets (S : St) (n b f v : Nat) : sD (gets S n b f v) = sD S := by
  unfold gets gets2 mkF
  rw [sD_mk, sD_mk, sD_mk]
theorem sD_name (S : St) (e nm node n1 n2 n3 : Nat) : sD (nameE S e nm node n1 n2 n3) = sD S := by
  unfold nameE
  rw [sD_mk, sD_mk]
theorem sD_beg1 (S : St) (z d nm : Nat) : sD (sBeg S z d nm 1).2 = sD S := by
  rw [sBeg_1]
  split
  · rw [sD_name]
    unfold mkF
    rw [sD_mk, sD_mk]
  · rfl
theorem sD_beg2 (S : St) (z d nm : Nat) : sD (sBeg S z d nm 2).2 = sD S := by
  rw [sBeg_2]
  split
  · rw [sD_name, sD_gets]
    unfold mkF
    rw [sD_mk, sD_mk]
  · rfl
theorem sD_link (S : St) (d nm n : Nat) : sD (sLink S d nm n).2 = sD S := by
  rw [sLink_m]
  split
  · split
    · rw [sD_name]
      unfold mkF
      rw [sD_mk]
    · rfl
  · rfl
theorem sD_grow (S : St) (z n v : Nat) : sD (sGrow S z n v).2 = sD S := by
  unfold sGrow
  split
  · split
    · rfl
    · rw [sD_gets]
  · rfl
theorem sD_put (S : St) (n i v : Nat) : sD (sPut S n i v).2 = sD S := by
  unfold sPut
  generalize (if i < 16 then 2 else 3) = f
  split
  · rw [sD_mk]
  · rfl
theorem sD_cut (S : St) (n : Nat) : sD (sCut S n).2 = sD S := by
  unfold sCut
  split
  · show sD (mkF S n (cutF S n) 0 0 0) = sD S
    exact sD_mk _ _ _ _ _ _ _ _
  · rfl
theorem sD_drop (S : St) (d nm : Nat) : sD (sDrop S d nm).2 = sD S := by
  unfold sDrop
  split
  · split
    · rfl
    · show sD (mk S _ _ _ _ _ _ _) = sD S
      exact sD_mk _ _ _ _ _ _ _ _
  · rfl
theorem sD_swp (S : St) (z : Nat) : sD (sSwp S z).2 = sD S := by
  unfold sSwp
  split
  · exact sD_setL _ _ _
  · split
    · exact sD_mk _ _ _ _ _ _ _ _
    · rfl
theorem inv_wrs (I : Inv S z (k + 240)) (b : Nat) : Inv (wrs S b) z k := by
  obtain ⟨i1, i2, i3⟩ := iv_wrs I.1.2 I.2.1 I.2.2.1 I.2.2.2 b
  exact ⟨I.1, i1, i2, i3⟩
theorem inv_syF : ∀ (l : List Nat) (S : St), Inv S z (k + 240 * l.length) → Inv (syF S l) z k := by
  intro l
  induction l with
  | nil => intro S I; exact I
  | cons b l ih =>
    intro S I
    rw [List.length_cons] at I
    exact ih (wrs S b) (inv_wrs (I.le (by omega)) b)
theorem inv_crs (I : Inv S z k) : Inv (sCrs S) z k := by
  obtain ⟨i1, i2, i3⟩ := iv_crs I.2.1 I.2.2.2
  exact ⟨I.1, i1.le (by omega) (by omega) (Nat.le_refl _), i2, i3⟩
/-- a step -/
theorem inv_step {op a b c : Nat} (I : Inv S z (k + 3840)) (ok : okS op a b c) : Inv (sDo S z op a b c).2 z k := by
  obtain ⟨o1, o2, o3, o4, o5, o6, o7⟩ := ok
  obtain ⟨hz1, hz⟩ := I.1
  unfold sDo
  by_cases hfl : (op < 7 ∨ op = 10) ∧ full S = true
  · rw [if_pos hfl]; exact I.le (by omega)
  rw [if_neg hfl]
  have hr : (op < 7 ∨ op = 10) → Iv S z 7 2 (k + 3840) := fun h => (inv_room (k := k + 3833) I (by
    cases hf : full S with
    | false => rfl
    | true => exact absurd ⟨h, hf⟩ hfl))
  -- room for the number of changes: it is not touched by the steps
  have fin : ∀ S' : St, Iv S' z 0 0 0 → WL (mm S') → sD S' = sD S → sM S' ≤ sM S + 7 → Inv S' z k := fun S' J W hD hM => by
    obtain ⟨C, q1, ⟨c1, c2, c3, c4, c5⟩, hk, M⟩ := J
    have := I.2.1.2.2.1.2.2.2.2
    exact ⟨I.1, ⟨C, q1, ⟨c1, c2, c3, c4, by omega⟩, hk, M⟩, W, by rw [hD]; exact I.2.2.2⟩
  have hMk : ∀ (S : St) (b p v : Nat) (n1 n2 n3 n4 : Int), sM (mk S b p v n1 n2 n3 n4) ≤ sM S + 1 := fun S b p v n1 n2 n3 n4 => by
    unfold mk
    split
    · omega
    · show sM S + 1 ≤ sM S + 1; omega
  have hMF : ∀ (S : St) (n f v : Nat) (n1 n2 : Int), sM (mkF S n f v n1 n2) ≤ sM S + 1 := fun S n f v n1 n2 => hMk _ _ _ _ _ _ _ _
  have hMg : ∀ (S : St) (n b f v : Nat), sM (gets S n b f v) ≤ sM S + 3 := fun S n b f v => by
    have h1 := hMk S 0 b 1 0 0 0 0
    have h2 := hMk (mk S 0 b 1 0 0 0 0) b 16 v 0 0 0 0
    have h3 := hMF (gets2 S b v) n f b (mkI S 0 b 1 : Int) (getsN S b v)
    have h3 : sM (gets S n b f v) ≤ sM (gets2 S b v) + 1 := h3
    have h2 : sM (gets2 S b v) ≤ sM (mk S 0 b 1 0 0 0 0) + 1 := h2
    omega
  have hMn : ∀ (S : St) (e nm node n1 n2 n3 : Nat), sM (nameE S e nm node n1 n2 n3) ≤ sM S + 2 := fun S e nm node n1 n2 n3 => by
    have h1 := hMk S (e / 16) (e % 16 + 1) node (latest S (e / 16) (e % 16) : Int) 0 0 0
    have h2 := hMk (mk S (e / 16) (e % 16 + 1) node (latest S (e / 16) (e % 16) : Int) 0 0 0) (e / 16) (e % 16) nm (n1 : Int) (n2 : Int) (n3 : Int) (mkI S (e / 16) (e % 16 + 1) node : Int)
    have h2 : sM (nameE S e nm node n1 n2 n3) ≤ _ := h2
    omega
  have hMz : ∀ (S : St) (n f : Nat), sM (zer S n f) ≤ sM S + 1 := fun S n f => by
    unfold zer
    split
    · omega
    · exact hMF S n f 0 0 0
  have hkc : op = 0 ∨ op = 1 ∨ op = 2 ∨ op = 3 ∨ op = 4 ∨ op = 5 ∨ op = 6 ∨ op = 7 ∨ op = 8 ∨ op = 9 ∨ op = 10 := by omega
  rcases hkc with rfl | rfl | rfl | rfl | rfl | rfl | rfl | rfl | rfl | rfl | rfl
  · rw [if_pos rfl]
    obtain ⟨j1, j2⟩ := iv_beg1 hz (j := 0) ((hr (by decide)).le (by omega) (by omega) (by omega)) I.2.2.1 (o2 (by decide)) (nm := b) (o4 (by decide)).2
    refine fin _ j1 j2 (sD_beg1 _ _ _ _) ?_
    rw [sBeg_1]
    split
    · refine Nat.le_trans (hMn _ _ b _ _ _ _) ?_
      refine Nat.le_trans (Nat.add_le_add_right (hMF _ _ 1 1 0 0) 2) ?_
      refine Nat.le_trans (Nat.add_le_add_right (Nat.add_le_add_right (hMF S _ 0 1 0 0) 1) 2) ?_
      omega
    · show sM S ≤ _; omega
  · rw [if_neg (by decide), if_pos rfl]
    obtain ⟨j1, j2⟩ := iv_beg2 hz (j := 0) ((hr (by decide)).le (by omega) (by omega) (by omega)) I.2.2.1 (o2 (by decide)) (nm := b) (o4 (by decide)).2
    refine fin _ j1 j2 (sD_beg2 _ _ _ _) ?_
    rw [sBeg_2]
    split
    · next n bb _ _ _ =>
      refine Nat.le_trans (hMn _ _ b _ _ _ _) ?_
      refine Nat.le_trans (Nat.add_le_add_right (hMg _ _ _ _ _) 2) ?_
      refine Nat.le_trans (Nat.add_le_add_right (Nat.add_le_add_right (hMF _ _ 1 2 0 0) 3) 2) ?_
      refine Nat.le_trans (Nat.add_le_add_right (Nat.add_le_add_right (Nat.add_le_add_right (hMF S _ 0 1 0 0) 1) 3) 2) ?_
      omega
    · show sM S ≤ _; omega
  · rw [if_neg (by decide), if_neg (by decide), if_pos rfl]
    obtain ⟨j1, j2⟩ := iv_link hz (j := 0) ((hr (by decide)).le (by omega) (by omega) (by omega)) I.2.2.1 (o2 (by decide)) (nm := b) (o4 (by decide)).2 (o5 rfl)
    refine fin _ j1 j2 (sD_link _ _ _ _) ?_
    rw [sLink_m]
    split
    · split
      · refine Nat.le_trans (hMn _ _ b _ _ _ _) ?_
        refine Nat.le_trans (Nat.add_le_add_right (hMF S _ 0 _ 0 0) 2) ?_
        omega
      · show sM S ≤ _; omega
    · show sM S ≤ _; omega
  · rw [if_neg (by decide), if_neg (by decide), if_neg (by decide), if_pos rfl]
    obtain ⟨j1, j2⟩ := iv_grow hz (j := 0) ((hr (by decide)).le (by omega) (by omega) (by omega)) I.2.2.1 (o2 (by decide)) (v := b) (o6 rfl)
    refine fin _ j1 j2 (sD_grow _ _ _ _) ?_
    unfold sGrow
    split
    · split
      · show sM S ≤ _; omega
      · refine Nat.le_trans (hMg _ _ _ _ _) ?_; omega
    · show sM S ≤ _; omega
  · rw [if_neg (by decide), if_neg (by decide), if_neg (by decide), if_neg (by decide), if_pos rfl]
    obtain ⟨j1, j2⟩ := iv_put hz (j := 0) ((hr (by decide)).le (by omega) (by omega) (by omega)) I.2.2.1 (o2 (by decide)) (t := b) (v := c) (o7 rfl).2
    refine fin _ j1 j2 (sD_put _ _ _ _) ?_
    unfold sPut
    generalize (if b < 16 then 2 else 3) = f
    split
    · refine Nat.le_trans (hMk _ _ _ _ _ _ _ _) ?_; omega
    · show sM S ≤ _; omega
  · rw [if_neg (by decide), if_neg (by decide), if_neg (by decide), if_neg (by decide), if_neg (by decide), if_pos rfl]
    obtain ⟨j1, j2⟩ := iv_cut hz (j := 0) ((hr (by decide)).le (by omega) (by omega) (by omega)) I.2.2.1 (n := a) (o2 (by decide))
    refine fin _ j1 j2 (sD_cut _ _) ?_
    unfold sCut
    split
    · refine Nat.le_trans (hMF S _ _ 0 0 0) ?_; omega
    · show sM S ≤ _; omega
  · rw [if_neg (by decide), if_neg (by decide), if_neg (by decide), if_neg (by decide), if_neg (by decide), if_neg (by decide), if_pos rfl]
    obtain ⟨j1, j2⟩ := iv_drop hz (j := 0) ((hr (by decide)).le (by omega) (by omega) (by omega)) I.2.2.1 (o2 (by decide)) (nm := b) (o4 (by decide)).1
    refine fin _ j1 j2 (sD_drop _ _ _) ?_
    unfold sDrop
    split
    · split
      · show sM S ≤ _; omega
      · refine Nat.le_trans (hMk S _ _ 0 0 0 0 0) ?_; omega
    · show sM S ≤ _; omega
  · rw [if_neg (by decide), if_neg (by decide), if_neg (by decide), if_neg (by decide), if_neg (by decide), if_neg (by decide), if_neg (by decide), if_pos rfl]
    exact inv_wrs (I.le (by omega)) a
  · rw [if_neg (by decide), if_neg (by decide), if_neg (by decide), if_neg (by decide), if_neg (by decide), if_neg (by decide), if_neg (by decide), if_neg (by decide), if_pos rfl]
    exact inv_syF (List.range' 0 z) S (I.le (by rw [List.length_range']; omega))
  · rw [if_neg (by decide), if_neg (by decide), if_neg (by decide), if_neg (by decide), if_neg (by decide), if_neg (by decide), if_neg (by decide), if_neg (by decide), if_neg (by decide), if_pos rfl]
    exact inv_crs (I.le (by omega))
  · rw [if_neg (by decide), if_neg (by decide), if_neg (by decide), if_neg (by decide), if_neg (by decide), if_neg (by decide), if_neg (by decide), if_neg (by decide), if_neg (by decide), if_neg (by decide)]
    obtain ⟨j1, j2⟩ := iv_swp hz1 hz (j := 0) ((hr (by decide)).le (by omega) (by omega) (by omega)) I.2.2.1
    refine fin _ j1 j2 (sD_swp _ _) ?_
    unfold sSwp
    split
    · unfold setL
      split
      · unfold empt
        refine Nat.le_trans (hMz _ _ 3) ?_
        refine Nat.le_trans (Nat.add_le_add_right (hMz _ _ 2) 1) ?_
        refine Nat.le_trans (Nat.add_le_add_right (Nat.add_le_add_right (hMF _ _ 1 0 0 0) 1) 1) ?_
        refine Nat.le_trans (Nat.add_le_add_right (Nat.add_le_add_right (Nat.add_le_add_right (hMF S _ 0 _ 0 0) 1) 1) 1) ?_
        omega
      · refine Nat.le_trans (hMF S _ 0 _ 0 0) ?_; omega
    · split
      · refine Nat.le_trans (hMk S 0 _ 0 0 0 0 0) ?_; omega
      · show sM S ≤ _; omega
theorem inv_Wg (I : Inv S z k) : Wg S := by
  obtain ⟨hz, I1, W, D⟩ := I
  refine ⟨fun n hn f hf => (iv_wf hz.2 I1 W).1.1 n hn f hf, fun e he => ?_, I1.2.2.2.1⟩
  obtain ⟨c, hc, h⟩ := I1.2.2.1.1 e he
  rw [← h]
  exact (I1.1.1.2.2.2.2.1 c hc).2.1
theorem inv_Wb (I : Inv S z (k + 240)) (b : Nat) : Wb S b := fun _ => by
  obtain ⟨hd60, c1, c2, c3, c4, c5⟩ := w_cnt (b := b) I.2.1.1.1 I.2.1.2.2.1
  have h1 : (held (goes b (sC S))).length + 3 * les ((sL S).filter (fun e => !isDue (gone (goes b (sC S))) e)) + (0 + co1 (dueL S b)) ≤ 153 := c3
  have h5 : sM S + (k + co1 (dueL S b)) < 2 ^ 31 := c5
  have h4 := I.2.1.2.2.1.2.2.2.1
  have h6 : les (dueL S b) ≤ les (sL S) := by
    have := part_les (isDue (gone (goes b (sC S)))) (sL S)
    unfold dueL
    omega
  refine ⟨?_, ?_, ?_⟩
  · show (held (goes b (sC S))).length + co1 (dueL S b) ≤ 200
    omega
  · show (sL S).length + co2 (dueL S b) ≤ 160
    rw [co2_eq]
    omega
  · show sM S + co1 (dueL S b) < 2 ^ 31
    omega
theorem inv_Zb (I : Inv S z k) : Zb S z := fun c hc => by
  have hz := I.1.1
  rcases I.2.1.1.2.1 c hc with q | q | q | q
  · omega
  · have := q.1.2.1; omega
  · have := q.1.2.1; omega
  · exact q.2.1
theorem inv_Wc (I : Inv S z (k + 240)) (b : Nat) : Wc S z b := by
  obtain ⟨w1, w2, w3⟩ := inv_Wg I
  have h4 := I.2.1.2.2.1.2.2.2.1
  refine ⟨I.2.1.1.2.1.na, inv_Zb I, w1, w3, by omega, fun _ => ?_⟩
  obtain ⟨hd60, c1, c2, c3, c4, c5⟩ := w_cnt (b := b) I.2.1.1.1 I.2.1.2.2.1
  have h4' : (sL (wrK S b)).length + les (sL (wrK S b)) + (0 + co2 (dueL S b)) ≤ 60 := c4
  exact ⟨⟨by omega, by omega, by omega⟩, by omega⟩
theorem inv_Wr : ∀ (l : List Nat) (S : St), Inv S z (k + 240 * l.length) → Wr S l := by
  intro l
  induction l with
  | nil => intro S _; trivial
  | cons b l ih =>
    intro S I
    rw [List.length_cons] at I
    exact ⟨inv_Wg I, inv_Wb (k := k + 240 * l.length) (I.le (by omega)) b, ih _ (inv_wrs (I.le (by omega)) b)⟩
theorem inv_Wcs : ∀ (l : List Nat) (S : St), Inv S z (k + 240 * l.length) → Wcs S z l := by
  intro l
  induction l with
  | nil => intro S _; trivial
  | cons b l ih =>
    intro S I
    rw [List.length_cons] at I
    exact ⟨inv_Wc (k := k + 240 * l.length) (I.le (by omega)) b, ih _ (inv_wrs (I.le (by omega)) b)⟩
theorem inv_Sl (I : Inv S z (k + 7)) (hf : full S = false) : Sl S 7 2 7 := by
  obtain ⟨-, -, ⟨c1, c2, c3, c4, c5⟩, -⟩ := inv_room I hf
  exact ⟨by omega, by omega, by omega⟩
theorem inv_Rdy (I : Inv S z (k + 3840)) (op a : Nat) : Rdy S z op a :=
  ⟨(iv_wf I.1.2 I.2.1 I.2.2.1).1, fun _ hf => inv_Sl (k := k + 3833) I hf, fun _ => ⟨inv_Wg I, inv_Wb (k := k + 3600) I a⟩, fun _ => inv_Wr (k := k) _ S (I.le (by rw [List.length_range']; have := I.1.2; omega))⟩
theorem inv_RdC (I : Inv S z (k + 3840)) (op a : Nat) : RdC S z op a := by
  obtain ⟨f1, f2⟩ := iv_wf I.1.2 I.2.1 I.2.2.1
  refine ⟨f1, f2, fun n hn h0 => (I.2.2.1.2.2 n hn h0).1, fun d hd e he b hb hq => ?_, I.2.1.2.2.2.1, fun _ hf => inv_Sl (k := k + 3833) I hf, fun _ => inv_Wc (k := k + 3600) I a, fun _ => inv_Wcs (k := k) _ S (I.le (by rw [List.length_range']; have := I.1.2; omega))⟩
  obtain ⟨b1, b2, b3⟩ := fBlock_lt hb
  have he2 := (fent_mem he).1
  have hno := free_nocc I.2.1.1 b1 b3
  apply hno
  rcases List.mem_append.mp he2 with w | w
  · obtain ⟨w1, t, w2, w3⟩ := eb_mem.mp w
    have : fd (mm S) d 2 = b := by omega
    rw [← this]
    exact mm_occ I.2.1.1.2.1 (x := 16 + 4 * d + 2) (by unfold pa; omega)
  · obtain ⟨w1, t, w2, w3⟩ := eb_mem.mp w
    have : fd (mm S) d 3 = b := by omega
    rw [← this]
    exact mm_occ I.2.1.1.2.1 (x := 16 + 4 * d + 3) (by unfold pa; omega)
end I8
