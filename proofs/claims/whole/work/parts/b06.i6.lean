/-! ===== the invariant behind the steps ===== -/
def WL (B : Nat → Nat) : Prop := (∀ n, n < 12 → (fd B n 0 = 0 ↔ fd B n 1 = 0)) ∧ (∀ n, n < 12 → fd B n 1 ≤ 2) ∧ ∀ n, n < 12 → fd B n 0 = 0 → fd B n 2 = 0 ∧ fd B n 3 = 0
theorem fd_zer {S : St} {n f m g : Nat} (hf : f < 4) (hg : g < 4) : fd (mm (zer S n f)) m g = if m = n ∧ g = f then 0 else fd (mm S) m g := by
  unfold zer
  by_cases h0 : fd (mm S) n f = 0
  · rw [if_pos h0]
    by_cases h : m = n ∧ g = f
    · rw [if_pos h, h.1, h.2, h0]
    · rw [if_neg h]
  · rw [if_neg h0]
    exact fd_fld hf hg
theorem fd_empt {S : St} {n m g : Nat} (hg : g < 4) : fd (mm (empt S n)) m g = if m = n ∧ g ≠ 0 then 0 else fd (mm S) m g := by
  unfold empt
  rw [fd_zer (by decide) hg, fd_zer (by decide) hg, fd_fld (by decide) hg]
  by_cases h : m = n
  · have : g = 0 ∨ g = 1 ∨ g = 2 ∨ g = 3 := by omega
    rcases this with rfl | rfl | rfl | rfl <;> simp [h]
  · simp [h]
theorem fd_setL {S : St} {n v m g : Nat} (hg : g < 4) : fd (mm (setL S n v)) m g = if m = n then (if g = 0 then v else if v = 0 then 0 else fd (mm S) m g) else fd (mm S) m g := by
  unfold setL
  by_cases hv : v = 0
  · rw [if_pos hv, fd_empt hg, fd_fld (by decide) hg]
    by_cases h : m = n
    · by_cases h0 : g = 0
      · simp [h, h0]
      · simp [h, h0, hv]
    · simp [h]
  · rw [if_neg hv, fd_fld (by decide) hg]
    by_cases h : m = n
    · by_cases h0 : g = 0
      · simp [h, h0]
      · simp [h, h0, hv]
    · simp [h]
theorem WL.setL {S : St} (W : WL (mm S)) {n v : Nat} (hn : n < 12) (hv : v ≠ 0 → fd (mm S) n 0 ≠ 0) : WL (mm (setL S n v)) := by
  obtain ⟨w1, w2, w3⟩ := W
  refine ⟨fun m hm => ?_, fun m hm => ?_, fun m hm => ?_⟩
  · rw [fd_setL (by decide), fd_setL (by decide)]
    by_cases h : m = n
    · rw [if_pos h, if_pos h, if_pos rfl, if_neg (by decide)]
      by_cases h0 : v = 0
      · simp [h0]
      · have := hv h0
        rw [← h] at this
        have this : fd (mm S) m 1 ≠ 0 := fun q => this ((w1 m hm).mpr q)
        simp [h0, this]
    · rw [if_neg h, if_neg h]; exact w1 m hm
  · rw [fd_setL (by decide)]
    have := w2 m hm
    split
    · rw [if_neg (by decide)]
      split <;> omega
    · exact this
  · rw [fd_setL (by decide), fd_setL (by decide), fd_setL (by decide)]
    by_cases h : m = n
    · rw [if_pos h, if_pos h, if_pos h, if_pos rfl]
      intro h0
      simp [h0]
    · rw [if_neg h, if_neg h, if_neg h]; exact w3 m hm
theorem fd_data {S : St} {b p v : Nat} {n1 n2 n3 n4 : Int} (hb : b = 0 ∨ 4 ≤ b) (hp : p < 16 ∨ 4 ≤ b) {m g : Nat} (hm : m < 12) (hg : g < 4) : fd (mm (mk S b p v n1 n2 n3 n4)) m g = fd (mm S) m g := by
  unfold fd
  rw [mm_mkne]
  omega
theorem WL.data {S : St} (W : WL (mm S)) {b p v : Nat} {n1 n2 n3 n4 : Int} (hb : b = 0 ∨ 4 ≤ b) (hp : p < 16 ∨ 4 ≤ b) : WL (mm (mk S b p v n1 n2 n3 n4)) := by
  obtain ⟨w1, w2, w3⟩ := W
  refine ⟨fun m hm => ?_, fun m hm => ?_, fun m hm => ?_⟩
  · rw [fd_data hb hp hm (by decide), fd_data hb hp hm (by decide)]; exact w1 m hm
  · rw [fd_data hb hp hm (by decide)]; exact w2 m hm
  · rw [fd_data hb hp hm (by decide), fd_data hb hp hm (by decide), fd_data hb hp hm (by decide)]; exact w3 m hm
/-- a field of a linked node is set -/
theorem WL.fld {S : St} (W : WL (mm S)) {n f v : Nat} {n1 n2 : Int} (hf : f < 4) (h1 : f ≠ 1) (h0 : f = 0 → v ≠ 0 ∧ fd (mm S) n 0 ≠ 0) (h2 : 2 ≤ f → fd (mm S) n 0 ≠ 0) : WL (mm (mkF S n f v n1 n2)) := by
  obtain ⟨w1, w2, w3⟩ := W
  refine ⟨fun m hm => ?_, fun m hm => ?_, fun m hm => ?_⟩
  · rw [fd_fld hf (by decide), fd_fld hf (by decide), if_neg (c := m = n ∧ 1 = f) (by omega)]
    by_cases h : m = n ∧ 0 = f
    · obtain ⟨e1, e2⟩ := h0 h.2.symm
      rw [if_pos h]
      have : fd (mm S) m 1 ≠ 0 := fun q => e2 (by rw [← h.1]; exact (w1 m hm).mpr q)
      exact ⟨fun q => absurd q e1, fun q => absurd q this⟩
    · rw [if_neg h]; exact w1 m hm
  · rw [fd_fld hf (by decide), if_neg (by omega)]; exact w2 m hm
  · rw [fd_fld hf (by decide), fd_fld hf (by decide), fd_fld hf (by decide)]
    by_cases h : m = n
    · subst h
      by_cases hf0 : f = 0
      · obtain ⟨e1, -⟩ := h0 hf0
        rw [if_pos ⟨rfl, hf0.symm⟩]
        exact fun q => absurd q e1
      · rw [if_neg (by omega)]
        exact fun q => absurd q (h2 (by omega))
    · rw [if_neg (by omega), if_neg (by omega), if_neg (by omega)]; exact w3 m hm
section I6
variable {S : St} {z i j k : Nat}
theorem iv_empt (hz : z ≤ 16) (I : Iv S z (i + 3) (j + 2) (k + 3)) {n : Nat} (hn : n < 12) : Iv (empt S n) z i j k :=
  p_zer hz (p_zer hz (p_LT hz (i := i + 2) (j := j + 2) (k := k + 2) I hn (f := 1) (v := 0) (by decide) (by decide) (fun _ => by decide) (fun _ h => absurd rfl h)) hn (Or.inl rfl)) hn (Or.inr rfl)
theorem iv_setL (hz : z ≤ 16) (I : Iv S z (i + 4) (j + 2) (k + 4)) {n v : Nat} (hn : n < 12) (hv : v < 128) : Iv (setL S n v) z i j k := by
  have h1 : Iv (mkF S n 0 v 0 0) z (i + 3) (j + 2) (k + 3) := p_LT hz I hn (f := 0) (by decide) hv (fun h => by omega) (fun h => by omega)
  unfold setL
  split
  · exact iv_empt hz h1 hn
  · exact h1.le (by omega) (by omega) (by omega)
theorem occ_mk {b p v : Nat} {n1 n2 n3 n4 : Int} (hb : b = 0 ∨ 4 ≤ b) {y : Nat} (h : occ (mk S b p v n1 n2 n3 n4) y) : occ S y := by
  cases hs : same S b p v with
  | true => rw [mk_t hs] at h; exact h
  | false =>
    rw [mk_f hs] at h
    rcases h with h | ⟨c, hc, h1, h2⟩
    · exact Or.inl h
    · rcases List.mem_append.mp hc with w | w
      · exact Or.inr ⟨c, w, h1, h2⟩
      · rw [List.mem_singleton] at w
        subst w
        have : 1 ≤ b := h1.1
        have : b ≤ 3 := h1.2.1
        omega
theorem free_nocc (C : Co S z) {b : Nat} (h4 : 4 ≤ b) (hb : mm S b = 0) : ¬ occ S b := fun h => C.2.2.2.2.2.2.2.2.1 b (by omega) h hb
theorem iv_gets (hz : z ≤ 16) (I : Iv S z (i + 3) j (k + 3)) {n b f v : Nat} (hn : n < 12) (hf : f = 2 ∨ f = 3) (hb : 4 ≤ b ∧ b < z) (hm : mm S b = 0) (h0 : fd (mm S) n f = 0) (hv : v < 128) (ht : fd (mm S) n 1 = 2 → v = 0) : Iv (gets S n b f v) z i j k := by
  have hno := free_nocc I.1 hb.1 hm
  have I1 : Iv (mk S 0 b 1 0 0 0 0) z (i + 2) j (k + 2) := p_map hz I (by omega) (by decide) (fun h => by omega)
  have hno1 : ¬ occ (mk S 0 b 1 0 0 0 0) b := fun h => hno (occ_mk (Or.inl rfl) h)
  have I2 : Iv (gets2 S b v) z (i + 1) j (k + 1) := p_dat hz I1 hb (by decide) hv (fun n hn => by simp at hn; subst hn; omega) (fun _ => ⟨rfl, rfl, rfl, rfl⟩) (fun hd => absurd (dirB_occ I1.1.2.1 hd) hno1)
  have hno2 : ¬ occ (gets2 S b v) b := fun h => hno1 (occ_mk (Or.inr hb.1) h)
  have hs0 : same S 0 b 1 = false := same_ne (by omega) (by rw [Nat.mul_zero, Nat.zero_add, hm]; decide)
  have hmi : mkI S 0 b 1 = sM S + 1 := by unfold mkI; rw [hs0]; rfl
  have hM1 : sM (mk S 0 b 1 0 0 0 0) = sM S + 1 := by rw [mk_f hs0]; rfl
  have hM2 := sM_mk (mk S 0 b 1 0 0 0 0) b 16 v 0 0 0 0
  have hfd2 : ∀ g, g < 4 → fd (mm (gets2 S b v)) n g = fd (mm S) n g := fun g hg => by
    unfold gets2
    rw [fd_data (Or.inr hb.1) (Or.inr hb.1) hn hg, fd_data (Or.inl rfl) (Or.inl (by omega)) hn hg]
  have hmb : mm (gets2 S b v) b ≠ 0 := by
    unfold gets2
    rw [mm_mkne (Or.inl (by omega)), mm_put (by omega), if_pos (by omega)]
    decide
  unfold gets
  have hw : ∃ w ∈ sC (gets2 S b v), cB w = 0 ∧ (cI w : Int) = ((mkI S 0 b 1 : Nat) : Int) := by
    refine ⟨(sM S + 1, 0, b, 1, 0, 0, 0, 0), ?_, rfl, by rw [hmi]⟩
    unfold gets2
    rw [mk_f hs0]
    cases hs : same (mkR S 0 b 1 0 0 0 0) b 16 v with
    | true => rw [mk_t hs]; exact List.mem_append_right _ (by simp)
    | false => rw [mk_f hs]; exact List.mem_append_left _ (List.mem_append_right _ (by simp))
  refine p_ptr hz I2 hn hf hb ?_ ?_ (by rw [hfd2 f (by omega)]; exact h0) hno2 hmb (fun h2 => ?_) hw
  · rw [hmi]
    show 0 ≤ ((sM S + 1 : Nat) : Int) ∧ ((sM S + 1 : Nat) : Int) ≤ ((sM (gets2 S b v) : Nat) : Int)
    have : sM (mk S 0 b 1 0 0 0 0) ≤ sM (gets2 S b v) := hM2
    omega
  · unfold getsN
    cases hs : same (mk S 0 b 1 0 0 0 0) b 16 v with
    | true =>
      have : mkI (mk S 0 b 1 0 0 0 0) b 16 v = 0 := by unfold mkI; rw [hs]; rfl
      rw [if_pos this]
      exact ⟨by omega, by omega, fun _ => rfl⟩
    | false =>
      have h1 : mkI (mk S 0 b 1 0 0 0 0) b 16 v = sM (mk S 0 b 1 0 0 0 0) + 1 := by unfold mkI; rw [hs]; rfl
      have h3 : sM (gets2 S b v) = sM (mk S 0 b 1 0 0 0 0) + 1 := by unfold gets2; rw [mk_f hs]; rfl
      rw [if_neg (by rw [h1]; omega), h1, h3]
      exact ⟨by omega, Int.le_refl _, fun h => by omega⟩
  · have hv0 : v = 0 := ht (by rw [← hfd2 1 (by decide)]; exact h2)
    have hlow : low (mm (gets2 S b v)) b := fun t ht1 ht2 => by
      unfold gets2
      rw [mm_wipe, if_pos (by omega), hv0]
      decide
    refine ⟨sC (gets2 S b v), [], by simp, hlow, fun c hc => by simp at hc, ?_⟩
    cases hs : same (mk S 0 b 1 0 0 0 0) b 16 v with
    | true =>
      have hmi2 : mkI (mk S 0 b 1 0 0 0 0) b 16 v = 0 := by unfold mkI; rw [hs]; rfl
      have hgn : getsN S b v = -(b : Int) := by unfold getsN; rw [if_pos hmi2]
      rw [hgn]
      by_cases hex : ∃ e ∈ sC (gets2 S b v), cB e = b
      · refine Or.inr (Or.inr ⟨rfl, hex, fun e he => ?_⟩)
        have := (I2.1.1.2.2.2.2.1 e he).2.1
        show cI e < sM (gets2 S b v) + 1
        omega
      · exact Or.inl (fun c hc hq => hex ⟨c, hc, hq⟩)
    | false =>
      have h1 : mkI (mk S 0 b 1 0 0 0 0) b 16 v = sM (mk S 0 b 1 0 0 0 0) + 1 := by unfold mkI; rw [hs]; rfl
      have hgn : getsN S b v = ((sM (mk S 0 b 1 0 0 0 0) + 1 : Nat) : Int) := by unfold getsN; rw [if_neg (by rw [h1]; omega), h1]
      refine Or.inr (Or.inl ⟨sC (mk S 0 b 1 0 0 0 0), (sM (mk S 0 b 1 0 0 0 0) + 1, b, 16, v, 0, 0, 0, 0), ?_, rfl, rfl, ?_⟩)
      · unfold gets2
        rw [mk_f hs]
        rfl
      · exact hgn.symm
theorem iv_name (hz : z ≤ 16) (I : Iv S z (i + 2) j (k + 2)) {e nm node n1 n2 n3 : Nat} (he : 4 ≤ e / 16 ∧ e / 16 < z) (he2 : e % 2 = 0) (hnm : nm < 128) (hnd : node < 12) (hn : n1 ≤ sM S ∧ n2 ≤ sM S ∧ n3 ≤ sM S) : Iv (nameE S e nm node n1 n2 n3) z i j k := by
  have hlat := latest_le I.1.1 (e / 16) (e % 16)
  have I1 : Iv (mk S (e / 16) (e % 16 + 1) node (latest S (e / 16) (e % 16) : Int) 0 0 0) z (i + 1) j (k + 1) := p_dat hz I he (by omega) (by omega) (fun n hn => by
    simp only [List.mem_cons, List.not_mem_nil, or_false] at hn
    rcases hn with w | w | w | w <;> omega) (fun h => by omega) (fun _ => ⟨by omega, fun _ => hnd⟩)
  have hM := sM_mk S (e / 16) (e % 16 + 1) node (latest S (e / 16) (e % 16) : Int) 0 0 0
  have hI := mkI_le S (e / 16) (e % 16 + 1) node (latest S (e / 16) (e % 16) : Int) 0 0 0
  refine p_dat hz I1 he (by omega) hnm (fun n hn' => ?_) (fun h => by omega) (fun _ => ⟨by omega, fun h => by omega⟩)
  simp only [List.mem_cons, List.not_mem_nil, or_false] at hn'
  rcases hn' with w | w | w | w <;> omega
theorem WL.name (W : WL (mm S)) {e nm node n1 n2 n3 : Nat} (he : 4 ≤ e / 16) : WL (mm (nameE S e nm node n1 n2 n3)) := WL.data (WL.data W (Or.inr he) (Or.inr he)) (Or.inr he) (Or.inr he)
theorem WL.gets (W : WL (mm S)) {n b f v : Nat} (hn : n < 12) (hf : f = 2 ∨ f = 3) (hb : 4 ≤ b ∧ b < 16) (hl : fd (mm S) n 0 ≠ 0) : WL (mm (gets S n b f v)) := by
  have W2 : WL (mm (gets2 S b v)) := WL.data (WL.data W (Or.inl rfl) (Or.inl (by omega))) (Or.inr hb.1) (Or.inr hb.1)
  refine WL.fld W2 (by omega) (by omega) (fun h => by omega) (fun _ => ?_)
  unfold gets2
  rw [fd_data (Or.inr hb.1) (Or.inr hb.1) hn (by decide), fd_data (Or.inl rfl) (Or.inl (by omega)) hn (by decide)]
  exact hl
theorem ent_blk (C : Co S z) {d e : Nat} (hd : d < 12) (he : e ∈ ents (mm S) d) : 4 ≤ e / 16 ∧ e / 16 < z := by
  have h2 := mm_pt C (x := 16 + 4 * d + 2) (by unfold pa; omega)
  have h3 := mm_pt C (x := 16 + 4 * d + 3) (by unfold pa; omega)
  rcases List.mem_append.mp he with w | w
  · obtain ⟨w1, t, w2, w3⟩ := eb_mem.mp w
    unfold fd at w1 w3
    omega
  · obtain ⟨w1, t, w2, w3⟩ := eb_mem.mp w
    unfold fd at w1 w3
    omega
/-- LINKS and TAG of a node that begins -/
theorem iv_born (hz : z ≤ 16) (I : Iv S z (i + 2) j (k + 2)) (W : WL (mm S)) {n t : Nat} (hn : n < 12) (h0 : fd (mm S) n 0 = 0) (ht : t = 1 ∨ t = 2) : Iv (mkF (mkF S n 0 1 0 0) n 1 t 0 0) z i j k ∧ WL (mm (mkF (mkF S n 0 1 0 0) n 1 t 0 0)) := by
  have I1 : Iv (mkF S n 0 1 0 0) z (i + 1) j (k + 1) := p_LT hz I hn (f := 0) (by decide) (by decide) (fun h => by omega) (fun h => by omega)
  obtain ⟨w1, w2, w3⟩ := W
  obtain ⟨p2, p3⟩ := w3 n hn h0
  have I2 : Iv (mkF (mkF S n 0 1 0 0) n 1 t 0 0) z i j k := p_LT hz I1 hn (f := 1) (by decide) (by omega) (fun _ => by omega) (fun _ _ => by rw [fd_fld (by decide) (by decide), fd_fld (by decide) (by decide)]; simp [p2, p3])
  refine ⟨I2, fun m hm => ?_, fun m hm => ?_, fun m hm => ?_⟩
  · rw [fd_fld (by decide) (by decide), fd_fld (by decide) (by decide), fd_fld (by decide) (by decide), fd_fld (by decide) (by decide)]
    by_cases h : m = n
    · simp [h]; omega
    · simp [h]; exact w1 m hm
  · rw [fd_fld (by decide) (by decide), fd_fld (by decide) (by decide)]
    by_cases h : m = n
    · simp [h]; omega
    · simp [h]; exact w2 m hm
  · rw [fd_fld (by decide) (by decide), fd_fld (by decide) (by decide), fd_fld (by decide) (by decide), fd_fld (by decide) (by decide), fd_fld (by decide) (by decide), fd_fld (by decide) (by decide)]
    by_cases h : m = n
    · simp [h]
    · simp [h]; exact w3 m hm
theorem iv_beg1 (hz : z ≤ 16) (I : Iv S z 7 j 7) (W : WL (mm S)) {d nm : Nat} (hd : d < 12) (hnm : nm < 128) : Iv (sBeg S z d nm 1).2 z 0 j 0 ∧ WL (mm (sBeg S z d nm 1).2) := by
  rw [sBeg_1]
  cases he : (if newName S d nm = true then fent (mm S) d 0 else none) with
  | none => exact ⟨I.le (by omega) (by omega) (by omega), W⟩
  | some e =>
    have hf : fent (mm S) d 0 = some e := by split at he; exact he; cases he
    obtain ⟨he2, he3⟩ := fent_mem hf
    cases hn : fNode (mm S) with
    | none => exact ⟨I.le (by omega) (by omega) (by omega), W⟩
    | some n =>
      obtain ⟨n1, n2, n3⟩ := fNode_lt hn
      have heb := ent_blk I.1 hd he2
      obtain ⟨I2, W2⟩ := iv_born hz (i := 5) (j := j) (k := 5) I W n1 n2 (t := 1) (Or.inl rfl)
      have hI1 := mkI_le S (1 + n / 4) (4 * (n % 4) + 0) 1 0 0 0 0
      have hI2 := mkI_le (mkF S n 0 1 0 0) (1 + n / 4) (4 * (n % 4) + 1) 1 0 0 0 0
      have hM2 := sM_mk (mkF S n 0 1 0 0) (1 + n / 4) (4 * (n % 4) + 1) 1 0 0 0 0
      refine ⟨(iv_name hz (i := 0) (k := 0) (I2.le (by omega) (Nat.le_refl _) (by omega)) heb (ents_even he2) hnm n1 ⟨?_, hI2, Nat.zero_le _⟩), WL.name W2 heb.1⟩
      exact Nat.le_trans hI1 hM2
theorem iv_beg2 (hz : z ≤ 16) (I : Iv S z 7 j 7) (W : WL (mm S)) {d nm : Nat} (hd : d < 12) (hnm : nm < 128) : Iv (sBeg S z d nm 2).2 z 0 j 0 ∧ WL (mm (sBeg S z d nm 2).2) := by
  rw [sBeg_2]
  cases he : (if newName S d nm = true then fent (mm S) d 0 else none) with
  | none => exact ⟨I.le (by omega) (by omega) (by omega), W⟩
  | some e =>
    have hf : fent (mm S) d 0 = some e := by split at he; exact he; cases he
    obtain ⟨he2, he3⟩ := fent_mem hf
    cases hn : fNode (mm S) with
    | none => exact ⟨I.le (by omega) (by omega) (by omega), W⟩
    | some n =>
      cases hb : fBlock (mm S) z with
      | none => exact ⟨I.le (by omega) (by omega) (by omega), W⟩
      | some b =>
        obtain ⟨b1, b2, b3⟩ := fBlock_lt hb
        obtain ⟨n1, n2, n3⟩ := fNode_lt hn
        have heb := ent_blk I.1 hd he2
        have hp := (W.2.2 n n1 n2).1
        obtain ⟨I2, W2⟩ := iv_born hz (i := 5) (j := j) (k := 5) I W n1 n2 (t := 2) (Or.inr rfl)
        have hmb : mm (mkF (mkF S n 0 1 0 0) n 1 2 0 0) b = 0 := by rw [mm_fld (by decide), mm_fld (by decide), if_neg (by omega), if_neg (by omega)]; exact b3
        have I3 : Iv (gets (mkF (mkF S n 0 1 0 0) n 1 2 0 0) n b 2 0) z 2 j 2 := iv_gets hz (I2.le (by omega) (Nat.le_refl _) (by omega)) n1 (Or.inl rfl) ⟨b1, b2⟩ hmb (by rw [fd_fld (by decide) (by decide), fd_fld (by decide) (by decide)]; simp [hp]) (by decide) (fun _ => rfl)
        have W3 : WL (mm (gets (mkF (mkF S n 0 1 0 0) n 1 2 0 0) n b 2 0)) := WL.gets W2 n1 (Or.inl rfl) ⟨b1, by omega⟩ (by rw [fd_fld (by decide) (by decide), fd_fld (by decide) (by decide)]; simp)
        have hI1 := mkI_le S (1 + n / 4) (4 * (n % 4) + 0) 1 0 0 0 0
        have hI2 := mkI_le (mkF S n 0 1 0 0) (1 + n / 4) (4 * (n % 4) + 1) 2 0 0 0 0
        have hM2 := sM_mk (mkF S n 0 1 0 0) (1 + n / 4) (4 * (n % 4) + 1) 2 0 0 0 0
        have hM3 := sM_mk (mkF (mkF S n 0 1 0 0) n 1 2 0 0) 0 b 1 0 0 0 0
        have hM4 := sM_mk (mk (mkF (mkF S n 0 1 0 0) n 1 2 0 0) 0 b 1 0 0 0 0) b 16 0 0 0 0 0
        have hM5 := sM_mk (gets2 (mkF (mkF S n 0 1 0 0) n 1 2 0 0) b 0) (1 + n / 4) (4 * (n % 4) + 2) b (mkI (mkF (mkF S n 0 1 0 0) n 1 2 0 0) 0 b 1 : Int) (getsN (mkF (mkF S n 0 1 0 0) n 1 2 0 0) b 0) 0 0
        have hI5 := mkI_le (gets2 (mkF (mkF S n 0 1 0 0) n 1 2 0 0) b 0) (1 + n / 4) (4 * (n % 4) + 2) b (mkI (mkF (mkF S n 0 1 0 0) n 1 2 0 0) 0 b 1 : Int) (getsN (mkF (mkF S n 0 1 0 0) n 1 2 0 0) b 0) 0 0
        have hM25 := Nat.le_trans hM3 (Nat.le_trans hM4 hM5)
        exact ⟨iv_name hz (i := 0) (k := 0) I3 heb (ents_even he2) hnm n1 ⟨Nat.le_trans hI1 (Nat.le_trans hM2 hM25), Nat.le_trans hI2 hM25, hI5⟩, WL.name W3 heb.1⟩
theorem iv_link (hz : z ≤ 16) (I : Iv S z 7 j 7) (W : WL (mm S)) {d nm n : Nat} (hd : d < 12) (hnm : nm < 128) (hn : n < 12) : Iv (sLink S d nm n).2 z 0 j 0 ∧ WL (mm (sLink S d nm n).2) := by
  rw [sLink_m]
  cases he : (if newName S d nm = true then fent (mm S) d 0 else none) with
  | none => exact ⟨I.le (by omega) (by omega) (by omega), W⟩
  | some e =>
    have hf : fent (mm S) d 0 = some e := by split at he; exact he; cases he
    obtain ⟨he2, he3⟩ := fent_mem hf
    simp only []
    by_cases hk : isK (mm S) n 1 = true ∧ fd (mm S) n 0 ≤ 8
    · rw [if_pos hk]
      have hl : fd (mm S) n 0 ≠ 0 := by have := hk.1; unfold isK at this; simp at this; omega
      have heb := ent_blk I.1 hd he2
      have I1 : Iv (mkF S n 0 (fd (mm S) n 0 + 1) 0 0) z 6 j 6 := p_LT hz I hn (f := 0) (by decide) (by omega) (fun h => by omega) (fun h => by omega)
      have W1 : WL (mm (mkF S n 0 (fd (mm S) n 0 + 1) 0 0)) := WL.fld W (by decide) (by decide) (fun _ => ⟨by omega, hl⟩) (fun h => by omega)
      have hI1 := mkI_le S (1 + n / 4) (4 * (n % 4) + 0) (fd (mm S) n 0 + 1) 0 0 0 0
      exact ⟨iv_name hz (i := 0) (k := 0) (I1.le (by omega) (Nat.le_refl _) (by omega)) heb (ents_even he2) hnm hn ⟨hI1, Nat.zero_le _, Nat.zero_le _⟩, WL.name W1 heb.1⟩
    · rw [if_neg hk]
      exact ⟨I.le (by omega) (by omega) (by omega), W⟩
theorem iv_grow (hz : z ≤ 16) (I : Iv S z 7 j 7) (W : WL (mm S)) {n v : Nat} (hn : n < 12) (hv : v < 128) : Iv (sGrow S z n v).2 z 0 j 0 ∧ WL (mm (sGrow S z n v).2) := by
  unfold sGrow
  cases hb : fBlock (mm S) z with
  | none => exact ⟨I.le (by omega) (by omega) (by omega), W⟩
  | some b =>
    obtain ⟨b1, b2, b3⟩ := fBlock_lt hb
    simp only []
    by_cases hc : fd (mm S) n 0 = 0 ∨ (fd (mm S) n 2 ≠ 0 ∧ fd (mm S) n 3 ≠ 0)
    · rw [if_pos hc]; exact ⟨I.le (by omega) (by omega) (by omega), W⟩
    · rw [if_neg hc]
      have hf : (if fd (mm S) n 2 = 0 then 2 else 3) = 2 ∨ (if fd (mm S) n 2 = 0 then 2 else 3) = 3 := by split <;> simp
      refine ⟨(iv_gets hz (i := 4) (j := j) (k := 4) I hn hf ⟨b1, b2⟩ b3 ?_ ?_ (fun h => by rw [if_pos h])).le (by omega) (Nat.le_refl _) (by omega), WL.gets W hn hf ⟨b1, by omega⟩ (fun h => hc (Or.inl h))⟩
      · by_cases h2 : fd (mm S) n 2 = 0
        · rw [if_pos h2]; exact h2
        · rw [if_neg h2]
          rcases Nat.eq_zero_or_pos (fd (mm S) n 3) with q | q
          · exact q
          · exact absurd (Or.inr ⟨h2, by omega⟩) hc
      · split <;> omega
theorem iv_put (hz : z ≤ 16) (I : Iv S z 7 j 7) (W : WL (mm S)) {n t v : Nat} (hn : n < 12) (hv : v < 128) : Iv (sPut S n t v).2 z 0 j 0 ∧ WL (mm (sPut S n t v).2) := by
  unfold sPut
  by_cases hc : isK (mm S) n 1 = true ∧ fd (mm S) n (if t < 16 then 2 else 3) ≠ 0
  · rw [if_pos hc]
    have hf : (if t < 16 then 2 else 3) = 2 ∨ (if t < 16 then 2 else 3) = 3 := by split <;> simp
    generalize (if t < 16 then 2 else 3) = f at hc hf
    have hx : pa (16 + 4 * n + f) := by unfold pa; omega
    have hb : 4 ≤ fd (mm S) n f ∧ fd (mm S) n f < z := by rcases mm_pt I.1 hx with q | q; exact absurd q hc.2; exact q
    have ht : mm S (tg (16 + 4 * n + f)) = 1 := by
      have := hc.1
      unfold isK at this
      simp at this
      rw [show tg (16 + 4 * n + f) = 16 + 4 * n + 1 by unfold tg; omega]
      exact this.2
    refine ⟨(p_dat hz (i := 6) (j := j) (k := 6) I hb (by omega) hv (fun m hm => by simp at hm; subst hm; omega) (fun _ => ⟨rfl, rfl, rfl, rfl⟩) (fun hd => absurd hd (file_nd I.1 hx ht hc.2))).le (by omega) (Nat.le_refl _) (by omega), WL.data W (Or.inr hb.1) (Or.inr hb.1)⟩
  · rw [if_neg hc]; exact ⟨I.le (by omega) (by omega) (by omega), W⟩
theorem iv_cut (hz : z ≤ 16) (I : Iv S z 7 (j + 2) 7) (W : WL (mm S)) {n : Nat} (hn : n < 12) : Iv (sCut S n).2 z 0 j 0 ∧ WL (mm (sCut S n).2) := by
  unfold sCut
  by_cases hc : isK (mm S) n 1 = true ∧ fd (mm S) n (cutF S n) ≠ 0
  · rw [if_pos hc]
    have hf : cutF S n = 2 ∨ cutF S n = 3 := by unfold cutF; split <;> simp
    have he : (true, putO (mkF S n (cutF S n) 0 0 0) 0 (fd (mm S) n (cutF S n)) (mkFI S n (cutF S n) 0)).2 = zer S n (cutF S n) := by unfold zer; rw [if_neg hc.2]
    rw [he]
    refine ⟨(p_zer hz (i := 6) (j := j + 1) (k := 6) I hn hf).le (by omega) (by omega) (by omega), ?_⟩
    have hl : fd (mm S) n 0 ≠ 0 := by have := hc.1; unfold isK at this; simp at this; omega
    have : mm (zer S n (cutF S n)) = mm (mkF S n (cutF S n) 0 0 0) := by unfold zer; rw [if_neg hc.2]; rfl
    rw [this]
    exact WL.fld W (by omega) (by omega) (fun h => by omega) (fun _ => hl)
  · rw [if_neg hc]; exact ⟨I.le (by omega) (by omega) (by omega), W⟩
end I6
