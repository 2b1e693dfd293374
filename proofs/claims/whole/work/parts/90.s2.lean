/-! ===== steps ===== -/
noncomputable def sBeg (S : St) (z d nm t : Nat) : Bool × St := match newName S d nm, fNode (mm S), fBlock (mm S) z, fent (mm S) d 0 with
  | true, some n, bo, some e => match t == 2, bo with
    | true, some b => (true, nameE (gets (mkF (mkF S n 0 1 0 0) n 1 t 0 0) n b 2 0) e nm n (mkFI S n 0 1) (mkFI (mkF S n 0 1 0 0) n 1 t) (getsI (mkF (mkF S n 0 1 0 0) n 1 t 0 0) n b 2 0))
    | true, none => (false, S)
    | false, _ => (true, nameE (mkF (mkF S n 0 1 0 0) n 1 t 0 0) e nm n (mkFI S n 0 1) (mkFI (mkF S n 0 1 0 0) n 1 t) 0)
  | _, _, _, _ => (false, S)
noncomputable def sLink (S : St) (d nm n : Nat) : Bool × St := match isK (mm S) n 1 && decide (fd (mm S) n 0 ≤ 8) && newName S d nm, fent (mm S) d 0 with
  | true, some e => (true, nameE (mkF S n 0 (fd (mm S) n 0 + 1) 0 0) e nm n (mkFI S n 0 (fd (mm S) n 0 + 1)) 0 0)
  | _, _ => (false, S)
def sGrow (S : St) (z n v : Nat) : Bool × St := match fBlock (mm S) z with
  | some b => if fd (mm S) n 0 = 0 ∨ (fd (mm S) n 2 ≠ 0 ∧ fd (mm S) n 3 ≠ 0) then (false, S) else (true, gets S n b (if fd (mm S) n 2 = 0 then 2 else 3) (if fd (mm S) n 1 = 2 then 0 else v))
  | none => (false, S)
def sPut (S : St) (n i v : Nat) : Bool × St := if isK (mm S) n 1 = true ∧ fd (mm S) n (if i < 16 then 2 else 3) ≠ 0 then (decide (mkI S (fd (mm S) n (if i < 16 then 2 else 3)) (i % 16) v ≠ 0), mk S (fd (mm S) n (if i < 16 then 2 else 3)) (i % 16) v 0 0 0 0) else (false, S)
def cutF (S : St) (n : Nat) : Nat := if fd (mm S) n 3 ≠ 0 then 3 else 2
def sCut (S : St) (n : Nat) : Bool × St := if isK (mm S) n 1 = true ∧ fd (mm S) n (cutF S n) ≠ 0 then (true, putO (mkF S n (cutF S n) 0 0 0) 0 (fd (mm S) n (cutF S n)) (mkFI S n (cutF S n) 0)) else (false, S)
def hasN (B : Nat → Nat) (n : Nat) : Bool := (ents B n).any (fun e => !(B e == 0))
noncomputable def sDrop (S : St) (d nm : Nat) : Bool × St := match isK (mm S) d 2 && isR (mm S) d, fent (mm S) d nm with
  | true, some e => if fd (mm S) (mm S (e + 1)) 1 = 2 ∧ hasN (mm S) (mm S (e + 1)) = true then (false, S) else (true, putO (mk S (e / 16) (e % 16) 0 0 0 0 0) 1 (mm S (e + 1)) (mkI S (e / 16) (e % 16) 0))
  | _, _ => (false, S)
section S2
variable {h : Hp} {r m : Nat} {S : St}
theorem fNode_lt {B : Nat → Nat} {n : Nat} (hf : fNode B = some n) : n < 12 ∧ fd B n 0 = 0 ∧ fd B n 1 = 0 := by
  have h1 := List.mem_of_find?_eq_some hf
  have h2 := List.find?_some hf
  simp at h1 h2
  omega
theorem fBlock_lt {B : Nat → Nat} {z b : Nat} (hf : fBlock B z = some b) : 4 ≤ b ∧ b < z ∧ B b = 0 := by
  have h1 := List.mem_of_find?_eq_some hf
  have h2 := List.find?_some hf
  simp at h1 h2
  omega
theorem ents_even {B : Nat → Nat} {n e : Nat} (he : e ∈ ents B n) : e % 2 = 0 := by
  unfold ents at he
  rcases List.mem_append.mp he with q | q
  · obtain ⟨-, j, hj, rfl⟩ := eb_mem.mp q
    omega
  · obtain ⟨-, j, hj, rfl⟩ := eb_mem.mp q
    omega
theorem res_f (R : Row h r S) : Res (some (.inl (some (.int 0)), h)) (some (.int (b2i false))) h r S := ⟨h, rfl, rfl, fun _ _ => rfl, R⟩
theorem res_t (R : Row h r S) : Res (some (.inl (some (.int 1)), h)) (some (.int (b2i true))) h r S := ⟨h, rfl, rfl, fun _ _ => rfl, R⟩
theorem m_begins (R : Row h r S) (W : Wf (mm S)) (hm : kH h m = 18) {z : Nat} (hz : h.2 m 11 = nI z) (hz1 : 6 ≤ z) (hz2 : z ≤ 16) (sl : Sl S 7 0 7) {d nm t : Nat} (hd : d < 12) (hn : nm < 128) (ht : t = 1 ∨ t = 2) :
    Res (fX10_begins m r (nI d) (nI nm) (nI t) h) (some (.int (b2i (sBeg S z d nm t).1))) h r (sBeg S z d nm t).2 := by
  have h1 := m_freeNode R
  have h2 := m_freeBlock R hm hz hz1 hz2
  have h3 := m_isNewName (m := m) R W hd (nm := nm) (by omega)
  have h4 : fX10_entry r 0 (nI d) 0 h = _ := q_entryO R.rb0 W.1 hd (nm := 0) (by decide)
  unfold fX10_begins kX10_begins_0 sBeg
  rw [h1, bI_s, if_pos hm, h2, bI_s, if_pos hm, h3, bI_s]
  cases hnn : newName S d nm with
  | false => rw [if_pos b2i_f]; exact res_f R
  | true =>
    rw [if_neg (by decide)]
    cases hfn : fNode (mm S) with
    | none => rw [oI_n, if_pos rfl]; exact res_f R
    | some n =>
      obtain ⟨fn1, fn2, fn3⟩ := fNode_lt hfn
      rw [oI_s, if_neg (by rw [nI_eqm (by omega)]; exact fun q => q)]
      have hsome : ∃ e, fent (mm S) d 0 = some e := by
        unfold newName at hnn
        simp only [Bool.and_eq_true] at hnn
        exact Option.isSome_iff_exists.mp hnn.2.2.2
      obtain ⟨e, he⟩ := hsome
      rw [he] at h4 ⊢
      have he1 := fent_lt W.1 hd he
      have he2 := ents_even (fent_mem he).1
      have hM1 := sM_mk S (1 + n / 4) (4 * (n % 4) + 0) 1 0 0 0 0
      have hI1 := mkI_le S (1 + n / 4) (4 * (n % 4) + 0) 1 0 0 0 0
      have hM2 := sM_mk (mkF S n 0 1 0 0) (1 + n / 4) (4 * (n % 4) + 1) t 0 0 0 0
      have hI2 := mkI_le (mkF S n 0 1 0 0) (1 + n / 4) (4 * (n % 4) + 1) t 0 0 0 0
      have s1 : Sl (mkF S n 0 1 0 0) 6 0 6 := sl_mk sl
      have s2 : Sl (mkF (mkF S n 0 1 0 0) n 1 t 0 0) 5 0 5 := sl_mk s1
      have go43 : ∀ (zb : Int32) (o : Option Value) (S2 : St), (∀ h2, h2.1 = h.1 → Row h2 r (mkF (mkF S n 0 1 0 0) n 1 t 0 0) → Res (if ¬ nI t = 2 then (bV (fX10_names r (nI e) (nI nm) (nI n) (nI (mkFI S n 0 1)) (nI (mkFI (mkF S n 0 1 0 0) n 1 t)) 0 h2) fun h11 => (some (.inl (some (.int 1)), h11))) else (bI (fX10_gets r (nI n) zb 2 0 h2) fun z14 h13 => (bV (fX10_names r (nI e) (nI nm) (nI n) (nI (mkFI S n 0 1)) (nI (mkFI (mkF S n 0 1 0 0) n 1 t)) z14 h13) fun h16 => (some (.inl (some (.int 1)), h16))))) o h2 r S2) →
          Res (gX10_begins FF 43 [uV, .ref r, .int (nI d), .int (nI nm), .int (nI t), .int (nI n), .int zb, uV, uV, uV, uV] [] h) o h r S2 := fun zb o S2 hk => by
        rw [show FF = 999999 + 1 from rfl, zX10_begins_43]
        unfold kX10_begins_43
        rw [h4, bI_s]
        refine res_bI (m_field R (sl.le (by omega) (by omega) (by omega)) fn1 (by decide) (by decide) ⟨by decide, by omega⟩ ⟨by decide, by omega⟩ (f := 0) (v := 1) (n1 := 0) (n2 := 0)) (fun h5 a1 a2 R1 => ?_)
        refine res_bI (m_field R1 (s1.le (by omega) (by omega) (by omega)) fn1 (by decide) (by omega) ⟨by decide, by omega⟩ ⟨by decide, by omega⟩ (f := 1) (v := t) (n1 := 0) (n2 := 0)) (fun h6 b1 b2 R2 => ?_)
        exact hk h6 (b1.trans a1) R2
      rcases ht with rfl | rfl
      · rw [if_pos (by decide)]
        refine go43 _ _ _ (fun h2 e2 R2 => ?_)
        rw [if_pos (by decide)]
        refine res_bV (m_names R2 (s2.le (by omega) (by omega) (by omega)) he1 he2 hn (by omega) (n1 := mkFI S n 0 1) (n2 := mkFI (mkF S n 0 1 0 0) n 1 1) (n3 := 0) (Nat.le_trans hI1 hM2) hI2 (Nat.zero_le _)) (fun h5 _ _ R5 => res_t R5)
      · rw [if_neg (by decide)]
        cases hfb : fBlock (mm S) z with
        | none => rw [if_neg (by simp [oI])]; exact res_f R
        | some b =>
          obtain ⟨fb1, fb2, fb3⟩ := fBlock_lt hfb
          rw [oI_s, if_pos (by rw [nI_eqm (by omega)]; exact fun q => q)]
          refine go43 _ _ _ (fun h2 e2 R2 => ?_)
          rw [if_neg (by decide)]
          have hMg : sM (mkF (mkF S n 0 1 0 0) n 1 2 0 0) ≤ sM (gets (mkF (mkF S n 0 1 0 0) n 1 2 0 0) n b 2 0) := Nat.le_trans (Nat.le_trans (sM_mk _ _ _ _ _ _ _ _) (sM_mk _ _ _ _ _ _ _ _)) (sM_mk _ _ _ _ _ _ _ _)
          have hIg : getsI (mkF (mkF S n 0 1 0 0) n 1 2 0 0) n b 2 0 ≤ sM (gets (mkF (mkF S n 0 1 0 0) n 1 2 0 0) n b 2 0) := mkI_le _ _ _ _ _ _ _ _
          have sg : Sl (gets (mkF (mkF S n 0 1 0 0) n 1 2 0 0) n b 2 0) 2 0 2 := sl_mk (sl_mk (sl_mk s2))
          refine res_bI (m_gets R2 (s2.le (by omega) (by omega) (by omega)) fn1 (b := b) (f := 2) (v := 0) (by omega) (by decide) (by decide)) (fun h5 _ _ R5 => ?_)
          refine res_bV (m_names R5 sg he1 he2 hn (by omega) (n1 := mkFI S n 0 1) (n2 := mkFI (mkF S n 0 1 0 0) n 1 2) (n3 := getsI (mkF (mkF S n 0 1 0 0) n 1 2 0 0) n b 2 0) (Nat.le_trans hI1 (Nat.le_trans hM2 hMg)) (Nat.le_trans hI2 hMg) hIg) (fun h6 _ _ R6 => res_t R6)
theorem m_links (R : Row h r S) (W : Wf (mm S)) (hm : kH h m = 18) (sl : Sl S 7 0 7) {d nm n : Nat} (hd : d < 12) (hn : nm < 128) (hnd : n < 12) :
    Res (fX10_links m r (nI d) (nI nm) (nI n) h) (some (.int (b2i (sLink S d nm n).1))) h r (sLink S d nm n).2 := by
  have h0 : fX10_fieldOf r 0 (nI n) 0 h = _ := q_fieldOf R.rb0 hnd (f := 0) (by decide)
  have h1 : fX10_isKind r 0 (nI n) 1 h = _ := q_isKind R.rb0 hnd (t := 1) (by decide)
  have h3 := m_isNewName (m := m) R W hd (nm := nm) (by omega)
  have h4 : fX10_entry r 0 (nI d) 0 h = _ := q_entryO R.rb0 W.1 hd (nm := 0) (by decide)
  have g0 : fd (mm S) n 0 < 128 := bd_mm R.bd _
  unfold fX10_links kX10_links_0 sLink
  rw [h0, bI_s, h1, bI_s]
  cases isK (mm S) n 1 with
  | false => rw [if_pos b2i_f]; exact res_f R
  | true =>
    rw [if_neg (by decide)]
    by_cases h8 : fd (mm S) n 0 ≤ 8
    · rw [if_neg (by rw [k8, nI_ltI (by decide) (by omega)]; omega), if_pos hm, h3, bI_s]
      simp only [h8, decide_true, Bool.true_and]
      cases hnn : newName S d nm with
      | false => rw [if_neg (by decide)]; exact res_f R
      | true =>
        have hsome : ∃ e, fent (mm S) d 0 = some e := by
          unfold newName at hnn
          simp only [Bool.and_eq_true] at hnn
          exact Option.isSome_iff_exists.mp hnn.2.2.2
        obtain ⟨e, he⟩ := hsome
        rw [he] at h4 ⊢
        have he1 := fent_lt W.1 hd he
        have he2 := ents_even (fent_mem he).1
        rw [if_pos (by decide), h4, bI_s, nI_1]
        refine res_bI (m_field R (sl.le (by omega) (by omega) (by omega)) hnd (by decide) (by omega) ⟨by decide, by omega⟩ ⟨by decide, by omega⟩ (f := 0) (v := fd (mm S) n 0 + 1) (n1 := 0) (n2 := 0)) (fun h5 a1 a2 R1 => ?_)
        have s1 : Sl (mkF S n 0 (fd (mm S) n 0 + 1) 0 0) 6 0 6 := sl_mk sl
        refine res_bV (m_names R1 (s1.le (by omega) (by omega) (by omega)) he1 he2 hn (by omega) (n1 := mkFI S n 0 (fd (mm S) n 0 + 1)) (n2 := 0) (n3 := 0) (mkI_le _ _ _ _ _ _ _ _) (Nat.zero_le _) (Nat.zero_le _)) (fun h6 _ _ R6 => res_t R6)
    · rw [if_pos (by rw [k8, nI_ltI (by decide) (by omega)]; omega)]
      simp only [h8, decide_false, Bool.and_false, Bool.false_and]
      exact res_f R
theorem m_grows (R : Row h r S) (hm : kH h m = 18) {z : Nat} (hz : h.2 m 11 = nI z) (hz1 : 6 ≤ z) (hz2 : z ≤ 16) (sl : Sl S 7 0 7) {n v : Nat} (hnd : n < 12) (hv : v < 128) :
    Res (fX10_grows m r (nI n) (nI v) h) (some (.int (b2i (sGrow S z n v).1))) h r (sGrow S z n v).2 := by
  have h2 := m_freeBlock R hm hz hz1 hz2
  have f0 : fX10_fieldOf r 0 (nI n) 0 h = _ := q_fieldOf R.rb0 hnd (f := 0) (by decide)
  have f1 : fX10_fieldOf r 0 (nI n) 1 h = _ := q_fieldOf R.rb0 hnd (f := 1) (by decide)
  have f2 : fX10_fieldOf r 0 (nI n) 2 h = _ := q_fieldOf R.rb0 hnd (f := 2) (by decide)
  have f3 : fX10_fieldOf r 0 (nI n) 3 h = _ := q_fieldOf R.rb0 hnd (f := 3) (by decide)
  have g0 : fd (mm S) n 0 < 128 := bd_mm R.bd _
  have g1 : fd (mm S) n 1 < 128 := bd_mm R.bd _
  have g2 : fd (mm S) n 2 < 128 := bd_mm R.bd _
  have g3 : fd (mm S) n 3 < 128 := bd_mm R.bd _
  unfold fX10_grows kX10_grows_0 sGrow
  rw [if_pos hm, h2, bI_s, f2, bI_s, f0, bI_s]
  by_cases e0 : fd (mm S) n 0 = 0
  · rw [if_pos (by rw [e0]; rfl)]
    cases fBlock (mm S) z with
    | none => exact res_f R
    | some b => dsimp only; rw [if_pos (Or.inl e0)]; exact res_f R
  · rw [if_neg (by rw [nI_eq0 (by omega)]; exact e0)]
    cases hfb : fBlock (mm S) z with
    | none => rw [oI_n, if_pos rfl]; exact res_f R
    | some b =>
      obtain ⟨fb1, fb2, fb3⟩ := fBlock_lt hfb
      dsimp only
      rw [oI_s, if_neg (by rw [nI_eqm (by omega)]; exact fun q => q)]
      have go : ∀ f, f = 2 ∨ f = 3 → (f = 2 ↔ fd (mm S) n 2 = 0) → Res (gX10_grows FF 49 [uV, .ref r, .int (nI n), .int (nI v), .int (nI b), .int (nI (fd (mm S) n 2))] [] h) (some (.int (b2i true))) h r (gets S n b (if fd (mm S) n 2 = 0 then 2 else 3) (if fd (mm S) n 1 = 2 then 0 else v)) := fun f hf hfe => by
        rw [show FF = 999999 + 1 from rfl, zX10_grows_49]
        unfold kX10_grows_49
        by_cases e2 : fd (mm S) n 2 = 0
        · rw [if_neg (by rw [e2]; decide), f1, bI_s, if_pos e2]
          by_cases e1 : fd (mm S) n 1 = 2
          · rw [if_neg (by rw [e1]; decide), if_pos e1]
            exact res_bI (m_gets R (sl.le (by omega) (by omega) (by omega)) hnd (b := b) (f := 2) (v := 0) (by omega) (by decide) (by decide)) (fun h5 _ _ R5 => res_t R5)
          · rw [if_pos (by rw [k2, nI_eq (by omega) (by decide)]; exact e1), if_neg e1]
            exact res_bI (m_gets R (sl.le (by omega) (by omega) (by omega)) hnd (b := b) (f := 2) (v := v) (by omega) (by decide) hv) (fun h5 _ _ R5 => res_t R5)
        · rw [if_pos (by rw [nI_eq0 (by omega)]; exact e2), f1, bI_s, if_neg e2]
          by_cases e1 : fd (mm S) n 1 = 2
          · rw [if_neg (by rw [e1]; decide), if_pos e1]
            exact res_bI (m_gets R (sl.le (by omega) (by omega) (by omega)) hnd (b := b) (f := 3) (v := 0) (by omega) (by decide) (by decide)) (fun h5 _ _ R5 => res_t R5)
          · rw [if_pos (by rw [k2, nI_eq (by omega) (by decide)]; exact e1), if_neg e1]
            exact res_bI (m_gets R (sl.le (by omega) (by omega) (by omega)) hnd (b := b) (f := 3) (v := v) (by omega) (by decide) hv) (fun h5 _ _ R5 => res_t R5)
      by_cases e2 : fd (mm S) n 2 = 0
      · rw [if_pos (by rw [e2]; rfl), if_neg (c := fd (mm S) n 0 = 0 ∨ _) (by omega)]
        exact go 2 (Or.inl rfl) (by simp [e2])
      · rw [if_neg (by rw [nI_eq0 (by omega)]; exact e2), f3, bI_s]
        by_cases e3 : fd (mm S) n 3 = 0
        · rw [if_pos (by rw [e3]; rfl), if_neg (c := fd (mm S) n 0 = 0 ∨ _) (by omega)]
          exact go 3 (Or.inr rfl) (by simp [e2])
        · rw [if_neg (by rw [nI_eq0 (by omega)]; exact e3), if_pos (c := fd (mm S) n 0 = 0 ∨ _) (by omega)]
          exact res_f R
end S2
