/-! ===== no rings: the steps ===== -/
section R7s
variable {S : St} {z i j k : Nat} {t p : Nat → Int}
theorem nr_z (C : Co S z) (N : Nr S t p) {n f : Nat} (hn : n < 12) (hf : f = 2 ∨ f = 3) : Nr (zer S n f) t p := by
  unfold zer
  split
  · exact N
  · exact nr_putO (nr_zer C N hn hf) _ _ _
theorem nr_empt (hz : z ≤ 16) (I : Iv S z (i + 3) (j + 2) (k + 3)) (N : Nr S t p) {n : Nat} (hn : n < 12) : Nr (empt S n) t p := by
  have I1 : Iv (mkF S n 1 0 0 0) z (i + 2) (j + 2) (k + 2) := p_LT hz (i := i + 2) (j := j + 2) (k := k + 2) I hn (f := 1) (v := 0) (by decide) (by decide) (fun _ => by decide) (fun _ h => absurd rfl h)
  have N1 : Nr (mkF S n 1 0 0 0) t p := nr_LT I.1 N hn (f := 1) (by decide) (fun _ => by decide) (fun _ h => absurd rfl h)
  exact nr_z (p_zer hz (i := i + 1) (j := j + 1) (k := k + 1) I1 hn (Or.inl rfl)).1 (nr_z I1.1 N1 hn (Or.inl rfl)) hn (Or.inr rfl)
theorem nr_setL (hz : z ≤ 16) (I : Iv S z (i + 4) (j + 2) (k + 4)) (N : Nr S t p) {n v : Nat} (hn : n < 12) (hv : v < 128) : Nr (setL S n v) t p := by
  have h1 : Iv (mkF S n 0 v 0 0) z (i + 3) (j + 2) (k + 3) := p_LT hz I hn (f := 0) (by decide) hv (fun h => by omega) (fun h => by omega)
  have N1 : Nr (mkF S n 0 v 0 0) t p := nr_LT I.1 N hn (f := 0) (by decide) (fun h => by omega) (fun h => by omega)
  unfold setL
  split
  · exact nr_empt hz h1 N1 hn
  · exact N1
theorem mem_mk {b o v : Nat} {n1 n2 n3 n4 : Int} {c : Ch} (hc : c ∈ sC (mk S b o v n1 n2 n3 n4)) : c ∈ sC S ∨ (cB c = b ∧ cP c = o ∧ cV c = v) := by
  cases hs : same S b o v with
  | true => rw [mk_t hs] at hc; exact Or.inl hc
  | false =>
    rw [mk_f hs] at hc
    rcases List.mem_append.mp hc with w | w
    · exact Or.inl w
    · rw [List.mem_singleton] at w
      subst w
      exact Or.inr ⟨rfl, rfl, rfl⟩
theorem mem_mk2 (b o v : Nat) (n1 n2 n3 n4 : Int) {c : Ch} (hc : c ∈ sC S) : c ∈ sC (mk S b o v n1 n2 n3 n4) := by
  cases hs : same S b o v with
  | true => rw [mk_t hs]; exact hc
  | false => rw [mk_f hs]; exact List.mem_append_left _ hc
theorem tM_no {b o v n : Nat} {n1 n2 n3 n4 : Int} (h : ta n / 16 ≠ b ∨ (o ≠ 16 ∧ ta n % 16 ≠ o)) : tM (mk S b o v n1 n2 n3 n4) t n = tM S t n := by
  cases hs : same S b o v with
  | true => rw [mk_t hs]
  | false =>
    rw [mk_f hs]
    show lastI (sC S ++ [_]) (ta n) _ = lastI (sC S) (ta n) _
    rw [lastI_app, lastI_no]
    intro c hc
    rw [List.mem_singleton] at hc
    subst hc
    cases ht : tch (sM S + 1, b, o, v, n1, n2, n3, n4) (ta n) with
    | false => rfl
    | true =>
      obtain ⟨t1, t2⟩ := tch_iff.mp ht
      have t1 : b = ta n / 16 := t1
      have t2 : o = 16 ∨ o = ta n % 16 := t2
      omega
theorem nr_gets (hz : z ≤ 16) (I : Iv S z (i + 3) j (k + 3)) (N : Nr S t p) {n b f v : Nat} (hn : n < 12) (hf : f = 2 ∨ f = 3) (hb : 4 ≤ b ∧ b < z) (hm : mm S b = 0) (hv : v < 128) (ht : fd (mm S) n 1 = 2 → v = 0) : Nr (gets S n b f v) t p := by
  have hno := free_nocc I.1 hb.1 hm
  have I1 : Iv (mk S 0 b 1 0 0 0 0) z (i + 2) j (k + 2) := p_map hz I (by omega) (by decide) (fun h => by omega)
  have N1 : Nr (mk S 0 b 1 0 0 0 0) t p := nr_map I.1 N (by omega) (by decide)
  have hno1 : ¬ occ (mk S 0 b 1 0 0 0 0) b := fun h => hno (occ_mk (Or.inl rfl) h)
  have I2 : Iv (gets2 S b v) z (i + 1) j (k + 1) := p_dat hz I1 hb (by decide) hv (fun n hn => by simp at hn; subst hn; omega) (fun _ => ⟨rfl, rfl, rfl, rfl⟩) (fun hd => absurd (dirB_occ I1.1.2.1 hd) hno1)
  have N2 : Nr (gets2 S b v) t p := nr_dat I1.1 N1 hb.1 (fun hd => absurd (dirB_occ I1.1.2.1 hd) hno1)
  have hfd2 : ∀ g, g < 4 → fd (mm (gets2 S b v)) n g = fd (mm S) n g := fun g hg => by
    unfold gets2
    rw [fd_data (Or.inr hb.1) (Or.inr hb.1) hn hg, fd_data (Or.inl rfl) (Or.inl (by omega)) hn hg]
  unfold gets
  refine nr_ptr I2.1 N2 hn hf hb (Int.natCast_nonneg _) ?_ (fun h2 => ⟨?_, fun u hu => ?_⟩)
  · unfold getsN
    split
    · exact fun _ => rfl
    · intro h; omega
  · cases hs : same (mk S 0 b 1 0 0 0 0) b 16 v with
    | true =>
      have hmi2 : mkI (mk S 0 b 1 0 0 0 0) b 16 v = 0 := by unfold mkI; rw [hs]; rfl
      have hgn : getsN S b v = -(b : Int) := by unfold getsN; rw [if_pos hmi2]
      rw [hgn]
      by_cases hex : ∃ e ∈ sC (gets2 S b v), cB e = b
      · refine Or.inr (Or.inr ⟨rfl, hex, fun e he => ?_⟩)
        have := (I2.1.1.2.2.2.2.1 e he).2.1
        show cI e < sM (gets2 S b v) + 1
        omega
      · exact Or.inl (fun c hc hq => hex ⟨c, hc, hq⟩)
    | false =>
      have h1 : mkI (mk S 0 b 1 0 0 0 0) b 16 v = sM (mk S 0 b 1 0 0 0 0) + 1 := by unfold mkI; rw [hs]; rfl
      have hgn : getsN S b v = ((sM (mk S 0 b 1 0 0 0 0) + 1 : Nat) : Int) := by unfold getsN; rw [if_neg (by rw [h1]; omega), h1]
      refine Or.inr (Or.inl ⟨sC (mk S 0 b 1 0 0 0 0), (sM (mk S 0 b 1 0 0 0 0) + 1, b, 16, v, 0, 0, 0, 0), ?_, rfl, rfl, ?_⟩)
      · unfold gets2
        rw [mk_f hs]
        rfl
      · exact hgn.symm
  · have hv0 : v = 0 := ht (by rw [← hfd2 1 (by decide)]; exact h2)
    unfold gets2
    rw [mm_wipe, if_pos (by omega), hv0]
theorem nm_ne {d nm e : Nat} (he : (if newName S d nm = true then fent (mm S) d 0 else none) = some e) : nm ≠ 0 := fun h => by
  subst h
  split at he
  · next hh =>
    unfold newName at hh
    simp only [Bool.and_eq_true] at hh
    rw [he] at hh
    simp at hh
  · cases he
theorem whs_le (B : Bd S) (N : Nr S t p) {S' : St} {bb : Nat} {pid : Int} (e1 : sD S' = sD S) (h : ∀ c ∈ sC S', isPT c → cV c = bb → c ∈ sC S) (hw : Whs S' p bb pid) : pid < sM S + 1 := by
  rcases hw with ⟨x, -, -, h2⟩ | ⟨c, hc, h1, h2, h3⟩
  · have := N.1.2 x
    omega
  · have := (B.2.2.2.2.1 c (h c hc h1 h2)).2.1
    omega
theorem mmF_64 {n f v : Nat} {n1 n2 : Int} (hn : n < 12) (hf : f < 4) {e : Nat} (he : 4 ≤ e / 16) : mm (mkF S n f v n1 n2) e = mm S e := by
  rw [mm_fld hf, if_neg (by omega)]
theorem nr_beg1 (hz : z ≤ 16) (I : Iv S z 7 j 7) (W : WL (mm S)) (N : Nr S t p) {d nm : Nat} (hd : d < 12) : Nr (sBeg S z d nm 1).2 t p := by
  rw [sBeg_1]
  cases he : (if newName S d nm = true then fent (mm S) d 0 else none) with
  | none => exact N
  | some e =>
    have hnm := nm_ne he
    have hf : fent (mm S) d 0 = some e := by split at he; exact he; cases he
    obtain ⟨he2, he3⟩ := fent_mem hf
    cases hn : fNode (mm S) with
    | none => exact N
    | some n =>
      obtain ⟨n1, n2, n3⟩ := fNode_lt hn
      have heb := ent_blk I.1 hd he2
      obtain ⟨p2, p3⟩ := W.2.2 n n1 n2
      have I1 : Iv (mkF S n 0 1 0 0) z 6 j 6 := p_LT hz I n1 (f := 0) (by decide) (by decide) (fun h => by omega) (fun h => by omega)
      have N1 : Nr (mkF S n 0 1 0 0) t p := nr_LT I.1 N n1 (f := 0) (by decide) (fun h => by omega) (fun h => by omega)
      obtain ⟨I2, W2⟩ := iv_born hz (i := 5) (j := j) (k := 5) I W n1 n2 (t := 1) (Or.inl rfl)
      have N2 : Nr (mkF (mkF S n 0 1 0 0) n 1 1 0 0) t p := nr_LT I1.1 N1 n1 (f := 1) (by decide) (fun _ => by decide) (fun _ _ => by rw [fd_fld (by decide) (by decide), fd_fld (by decide) (by decide)]; simp [p2, p3])
      have hs1 := same_neF (S := S) (n := n) (f := 0) (v := 1) (by decide) (by rw [n2]; decide)
      have hi1 : mkFI S n 0 1 = sM S + 1 := by unfold mkFI mkI; rw [hs1]; rfl
      refine nr_name I2.1 N2 heb.1 (ents_even he2) (by rw [mmF_64 n1 (by decide) heb.1, mmF_64 n1 (by decide) heb.1]; exact he3) hnm n1 (fun pid hw => ?_) (fun h => ?_) ?_
      · rw [hi1]
        refine whs_le I.1.1 N (by unfold mkF; rw [sD_mk, sD_mk]) (fun c hc h1 h2 => ?_) hw
        rcases mem_mk hc with w | ⟨-, w, -⟩
        · rcases mem_mk w with w | ⟨-, w, -⟩
          · exact w
          · have := h1.2.2.2; omega
        · have := h1.2.2.2; omega
      · rw [fd_fld (by decide) (by decide), if_pos ⟨rfl, rfl⟩] at h
        cases h
      · refine ⟨(sM S + 1, 1 + n / 4, 4 * (n % 4) + 0, 1, 0, 0, 0, 0), mem_mk2 _ _ _ _ _ _ _ ?_, hi1.symm, rfl⟩
        show _ ∈ sC (mk S (1 + n / 4) (4 * (n % 4) + 0) 1 0 0 0 0)
        rw [mk_f hs1]
        exact List.mem_append_right _ (by simp)
theorem nr_beg2 (hz : z ≤ 16) (I : Iv S z 7 j 7) (W : WL (mm S)) (N : Nr S t p) {d nm : Nat} (hd : d < 12) : Nr (sBeg S z d nm 2).2 t p := by
  rw [sBeg_2]
  cases he : (if newName S d nm = true then fent (mm S) d 0 else none) with
  | none => exact N
  | some e =>
    have hnm := nm_ne he
    have hf : fent (mm S) d 0 = some e := by split at he; exact he; cases he
    obtain ⟨he2, he3⟩ := fent_mem hf
    cases hn : fNode (mm S) with
    | none => exact N
    | some n =>
      cases hb : fBlock (mm S) z with
      | none => exact N
      | some b =>
      obtain ⟨b1, b2, b3⟩ := fBlock_lt hb
      obtain ⟨n1, n2, n3⟩ := fNode_lt hn
      have heb := ent_blk I.1 hd he2
      obtain ⟨p2, p3⟩ := W.2.2 n n1 n2
      have I1 : Iv (mkF S n 0 1 0 0) z 6 j 6 := p_LT hz I n1 (f := 0) (by decide) (by decide) (fun h => by omega) (fun h => by omega)
      have N1 : Nr (mkF S n 0 1 0 0) t p := nr_LT I.1 N n1 (f := 0) (by decide) (fun h => by omega) (fun h => by omega)
      obtain ⟨I2, W2⟩ := iv_born hz (i := 5) (j := j) (k := 5) I W n1 n2 (t := 2) (Or.inr rfl)
      have N2 : Nr (mkF (mkF S n 0 1 0 0) n 1 2 0 0) t p := nr_LT I1.1 N1 n1 (f := 1) (by decide) (fun _ => by decide) (fun _ _ => by rw [fd_fld (by decide) (by decide), fd_fld (by decide) (by decide)]; simp [p2, p3])
      have hmb : mm (mkF (mkF S n 0 1 0 0) n 1 2 0 0) b = 0 := by rw [mm_fld (by decide), mm_fld (by decide), if_neg (by omega), if_neg (by omega)]; exact b3
      have I3 : Iv (gets (mkF (mkF S n 0 1 0 0) n 1 2 0 0) n b 2 0) z 2 j 2 := iv_gets hz (I2.le (by omega) (Nat.le_refl _) (by omega)) n1 (Or.inl rfl) ⟨b1, b2⟩ hmb (by rw [fd_fld (by decide) (by decide), fd_fld (by decide) (by decide)]; simp [p2]) (by decide) (fun _ => rfl)
      have N3 : Nr (gets (mkF (mkF S n 0 1 0 0) n 1 2 0 0) n b 2 0) t p := nr_gets hz (i := 2) (j := j) (k := 2) (I2.le (by omega) (Nat.le_refl _) (by omega)) N2 n1 (Or.inl rfl) ⟨b1, b2⟩ hmb (by decide) (fun _ => rfl)
      have hs1 := same_neF (S := S) (n := n) (f := 0) (v := 1) (by decide) (by rw [n2]; decide)
      have hi1 : mkFI S n 0 1 = sM S + 1 := by unfold mkFI mkI; rw [hs1]; rfl
      have hs2 := same_neF (S := mkF S n 0 1 0 0) (n := n) (f := 1) (v := 2) (by decide) (by rw [fd_fld (by decide) (by decide), if_neg (by simp), n3]; decide)
      -- the entry's block is pointed to, the new one is not
      have hbe : e / 16 ≠ b := fun h => by
        have hno := free_nocc I.1 b1 b3
        refine hno ?_
        rw [← h]
        rcases List.mem_append.mp he2 with w | w
        · obtain ⟨w1, t', w2, w3⟩ := eb_mem.mp w
          rw [show e / 16 = fd (mm S) d 2 by omega]
          exact mm_occ I.1.2.1 (x := 16 + 4 * d + 2) (by unfold pa; omega)
        · obtain ⟨w1, t', w2, w3⟩ := eb_mem.mp w
          rw [show e / 16 = fd (mm S) d 3 by omega]
          exact mm_occ I.1.2.1 (x := 16 + 4 * d + 3) (by unfold pa; omega)
      refine nr_name I3.1 N3 heb.1 (ents_even he2) ?_ hnm n1 (fun pid hw => ?_) (fun h => ?_) ?_
      · unfold gets
        rw [mmF_64 n1 (by decide) heb.1]
        unfold gets2
        rw [mm_mkne (Or.inl hbe), mm_mkne (Or.inl (by omega)), mmF_64 n1 (by decide) heb.1, mmF_64 n1 (by decide) heb.1]
        exact he3
      · rw [hi1]
        refine whs_le I.1.1 N (by rw [sD_gets]; unfold mkF; rw [sD_mk, sD_mk]) (fun c hc h1 h2 => ?_) hw
        rcases mem_mk hc with w | ⟨-, -, w⟩
        · rcases mem_mk w with w | ⟨w, -, -⟩
          · rcases mem_mk w with w | ⟨w, -, -⟩
            · rcases mem_mk w with w | ⟨-, w, -⟩
              · rcases mem_mk w with w | ⟨-, w, -⟩
                · exact w
                · have := h1.2.2.2; omega
              · have := h1.2.2.2; omega
            · have := h1.1; omega
          · have := h1.2.1; omega
        · omega
      · rw [hi1]
        have ht3 : tM (gets (mkF (mkF S n 0 1 0 0) n 1 2 0 0) n b 2 0) t n = tM (mkF (mkF S n 0 1 0 0) n 1 2 0 0) t n := by
          unfold gets gets2 mkF
          rw [tM_no (by unfold ta; omega), tM_no (by unfold ta; omega), tM_no (by unfold ta; omega)]
        rw [ht3]
        have hM1 : sM (mkF S n 0 1 0 0) = sM S + 1 := by unfold mkF; rw [mk_f hs1]; rfl
        have : tM (mkF (mkF S n 0 1 0 0) n 1 2 0 0) t n = ((sM (mkF S n 0 1 0 0) + 1 : Nat) : Int) := by
          show lastI (sC (mk (mkF S n 0 1 0 0) (1 + n / 4) (4 * (n % 4) + 1) 2 0 0 0 0)) (ta n) (t n) = _
          rw [mk_f hs2]
          show lastI (sC (mkF S n 0 1 0 0) ++ [_]) (ta n) (t n) = _
          rw [lastI_app, lastI_one, if_pos (tch_iff.mpr ⟨by show 1 + n / 4 = ta n / 16; unfold ta; omega, Or.inr (by show 4 * (n % 4) + 1 = ta n % 16; unfold ta; omega)⟩)]
        omega
      · refine ⟨(sM S + 1, 1 + n / 4, 4 * (n % 4) + 0, 1, 0, 0, 0, 0), mem_mk2 _ _ _ _ _ _ _ (mem_mk2 _ _ _ _ _ _ _ (mem_mk2 _ _ _ _ _ _ _ (mem_mk2 _ _ _ _ _ _ _ ?_))), hi1.symm, rfl⟩
        show _ ∈ sC (mk S (1 + n / 4) (4 * (n % 4) + 0) 1 0 0 0 0)
        rw [mk_f hs1]
        exact List.mem_append_right _ (by simp)
theorem nr_link (hz : z ≤ 16) (I : Iv S z 7 j 7) (N : Nr S t p) {d nm n : Nat} (hd : d < 12) (hn : n < 12) : Nr (sLink S d nm n).2 t p := by
  rw [sLink_m]
  cases he : (if newName S d nm = true then fent (mm S) d 0 else none) with
  | none => exact N
  | some e =>
    have hnm := nm_ne he
    have hf : fent (mm S) d 0 = some e := by split at he; exact he; cases he
    obtain ⟨he2, he3⟩ := fent_mem hf
    simp only []
    by_cases hk : isK (mm S) n 1 = true ∧ fd (mm S) n 0 ≤ 8
    · rw [if_pos hk]
      have hk1 := hk.1
      unfold isK at hk1
      simp at hk1
      have heb := ent_blk I.1 hd he2
      have I1 : Iv (mkF S n 0 (fd (mm S) n 0 + 1) 0 0) z 6 j 6 := p_LT hz I hn (f := 0) (by decide) (by omega) (fun h => by omega) (fun h => by omega)
      have N1 : Nr (mkF S n 0 (fd (mm S) n 0 + 1) 0 0) t p := nr_LT I.1 N hn (f := 0) (by decide) (fun h => by omega) (fun h => by omega)
      have hs1 := same_neF (S := S) (n := n) (f := 0) (v := fd (mm S) n 0 + 1) (by decide) (by omega)
      have hi1 : mkFI S n 0 (fd (mm S) n 0 + 1) = sM S + 1 := by unfold mkFI mkI; rw [hs1]; rfl
      refine nr_name I1.1 N1 heb.1 (ents_even he2) (by rw [mmF_64 hn (by decide) heb.1]; exact he3) hnm hn (fun pid hw => ?_) (fun h => ?_) ?_
      · rw [hi1]
        refine whs_le I.1.1 N (by unfold mkF; rw [sD_mk]) (fun c hc h1 h2 => ?_) hw
        rcases mem_mk hc with w | ⟨-, w, -⟩
        · exact w
        · have := h1.2.2.2; omega
      · rw [fd_fld (by decide) (by decide), if_neg (by simp)] at h
        omega
      · refine ⟨(sM S + 1, 1 + n / 4, 4 * (n % 4) + 0, fd (mm S) n 0 + 1, 0, 0, 0, 0), ?_, hi1.symm, rfl⟩
        show _ ∈ sC (mk S (1 + n / 4) (4 * (n % 4) + 0) (fd (mm S) n 0 + 1) 0 0 0 0)
        rw [mk_f hs1]
        exact List.mem_append_right _ (by simp)
    · rw [if_neg hk]
      exact N
end R7s
