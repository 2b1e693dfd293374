/-! ===== the class's steps: make, dir, link, grow ===== -/
def Pg (B : Nat → Nat) : Prop := ∀ n, n < 12 → ∀ f, f = 2 ∨ f = 3 → fd B n f ≠ 0 → 4 ≤ fd B n f
theorem ents_ge {B : Nat → Nat} (P : Pg B) {n e : Nat} (hn : n < 12) (he : e ∈ ents B n) : 64 ≤ e := by
  rcases List.mem_append.mp he with w | w
  · obtain ⟨w1, j, w2, w3⟩ := eb_mem.mp w
    have := P n hn 2 (Or.inl rfl) w1
    omega
  · obtain ⟨w1, j, w2, w3⟩ := eb_mem.mp w
    have := P n hn 3 (Or.inr rfl) w1
    omega
theorem nameE_R {S : St} {e nm node : Nat} (he2 : e % 2 = 0) (hne : mm S e ≠ nm) (n1 n2 n3 : Nat) : nameE S e nm node n1 n2 n3 = mkR (mk S (e / 16) (e % 16 + 1) node (latest S (e / 16) (e % 16) : Int) 0 0 0) (e / 16) (e % 16) nm (n1 : Int) (n2 : Int) (n3 : Int) (mkI S (e / 16) (e % 16 + 1) node : Int) := by
  have hmm : mm (mk S (e / 16) (e % 16 + 1) node (latest S (e / 16) (e % 16) : Int) 0 0 0) (16 * (e / 16) + e % 16) ≠ nm := by
    rw [mm_mkne (Or.inr ⟨by omega, by omega⟩), show 16 * (e / 16) + e % 16 = e by omega]
    exact hne
  unfold nameE
  rw [mk_f (same_ne (by omega) hmm)]
section C13
variable {h : Hp} {s t z : Nat} {S : St}
theorem c_freeNode (R : Sta h s S z) : fX6_freeNode t s h = some (.inl (some (.int (oI (fNode (mm S))))), h) := by
  have go : ∀ (c n q : Nat), n + c = 12 → c < q → gX6_freeNode q 2 [uV, .ref s, .int (nI n)] [] h = some (.inl (some (.int (oI ((List.range' n c).find? (fun n => fd (mm S) n 0 == 0 && fd (mm S) n 1 == 0))))), h) := by
    intro c
    induction c with
    | zero =>
      intro n q hn hq
      obtain ⟨q, rfl⟩ := sc hq
      rw [zX6_freeNode_2]
      unfold kX6_freeNode_2
      rw [if_pos (by rw [k12, nI_leI (by decide) (by omega)]; omega)]
      rfl
    | succ c ih =>
      intro n q hn hq
      obtain ⟨q, rfl⟩ := sc hq
      have ih := ih (n + 1) q (by omega) (by omega)
      have h0 : fX5_nodeField s 0 (nI n) 0 h = some (.inl (some (.int (nI (fd (mm S) n 0)))), h) := c_nodeField R.cb0 (n := n) (f := 0) (by omega) (by decide)
      have h1 : fX5_nodeField s 0 (nI n) 1 h = some (.inl (some (.int (nI (fd (mm S) n 1)))), h) := c_nodeField R.cb0 (n := n) (f := 1) (by omega) (by decide)
      have g0 : fd (mm S) n 0 < 128 := bd_mm R.bd _
      have g1 : fd (mm S) n 1 < 128 := bd_mm R.bd _
      rw [zX6_freeNode_2, List.range'_succ, List.find?_cons]
      unfold kX6_freeNode_2
      rw [if_neg (by rw [k12, nI_leI (by decide) (by omega)]; omega), if_pos R.so.1, h0, bI_s, nI_1]
      by_cases e0 : fd (mm S) n 0 = 0
      · rw [if_neg (by rw [nI_eq0 (by omega)]; simp [e0]), if_pos R.so.1, h1, bI_s]
        by_cases e1 : fd (mm S) n 1 = 0
        · rw [if_neg (by rw [nI_eq0 (by omega)]; simp [e1])]
          simp [e0, e1, oI]
        · have e1' : (fd (mm S) n 1 == 0) = false := by simpa using e1
          rw [if_pos (by rw [nI_eq0 (by omega)]; exact e1), e1', Bool.and_false]
          exact ih
      · have e0' : (fd (mm S) n 0 == 0) = false := by simpa using e0
        rw [if_pos (by rw [nI_eq0 (by omega)]; exact e0), e0', Bool.false_and]
        exact ih
  exact go 12 0 FF rfl (by decide)
theorem c_freeBlock (R : Sta h s S z) : fX6_freeBlock t s h = some (.inl (some (.int (oI (fBlock (mm S) z)))), h) := by
  obtain ⟨hz1, hz2⟩ := R.2.2.1
  have go : ∀ (c n q : Nat), n + c = z → c < q → gX6_freeBlock q 2 [uV, .ref s, .int (nI n)] [] h = some (.inl (some (.int (oI ((List.range' n c).find? (fun b => mm S b == 0))))), h) := by
    intro c
    induction c with
    | zero =>
      intro n q hn hq
      obtain ⟨q, rfl⟩ := sc hq
      rw [zX6_freeBlock_2]
      unfold kX6_freeBlock_2
      rw [if_pos R.so.1, R.sz, if_pos (by rw [nI_leI (by omega) (by omega)]; omega)]
      rfl
    | succ c ih =>
      intro n q hn hq
      obtain ⟨q, rfl⟩ := sc hq
      have ih := ih (n + 1) q (by omega) (by omega)
      have h0 : fX5_at s 0 0 (nI n) h = some (.inl (some (.int (nI (mm S n)))), h) := by
        have := c_at R.cb0 (b := 0) (p := n) (by decide) (by omega)
        rw [Nat.mul_zero, Nat.zero_add] at this
        exact this
      have g0 : mm S n < 128 := bd_mm R.bd _
      rw [zX6_freeBlock_2, List.range'_succ, List.find?_cons]
      unfold kX6_freeBlock_2
      rw [if_pos R.so.1, R.sz, if_neg (by rw [nI_leI (by omega) (by omega)]; omega), h0, bI_s, nI_1]
      by_cases e0 : mm S n = 0
      · rw [if_neg (by rw [nI_eq0 (by omega)]; simp [e0])]
        simp [e0, oI]
      · have e0' : (mm S n == 0) = false := by simpa using e0
        rw [if_pos (by rw [nI_eq0 (by omega)]; exact e0), e0']
        exact ih
  exact go (z - 4) 4 FF (by omega) (by show _ < 1000000; omega)
theorem half_lt {B : Nat → Nat} (P : Pb B) {d nm n : Nat} (hd : d < 12) (hn : half (fent B d nm) = some n) : n < 128 := by
  unfold half at hn
  cases hf : fent B d nm with
  | none => rw [hf] at hn; cases hn
  | some e =>
    rw [hf] at hn
    cases hn
    have := fent_lt P hd hf
    show e / 2 < 128
    omega
theorem bit0 {a k : Nat} (ha : a < 2 ^ 31) (hk : k < 32) : nI a >>> (nI k &&& 31) &&& 1 = 0 ↔ a.testBit k = false := by
  rw [bit_nI ha hk]
  exact b2i_0 _
theorem c_entryFor (R : Sta h s S z) (W : Wf (mm S)) {d nm : Nat} (hd : d < 12) (hnm : nm < 128) : fX6_entryFor t s (nI d) (nI nm) h = some (.inl (some (.int (oI (if newName S d nm = true then half (fent (mm S) d 0) else none)))), h) := by
  have hrl := rbits_lt (mm S)
  have h1 : fX8_entryNamed s 0 (nI d) (nI nm) h = _ := t_entryNamed R.cb0 W.1 hd (nm := nm) (by omega)
  have h2 : fX8_entryNamed s 0 (nI d) 0 h = _ := t_entryNamed R.cb0 W.1 hd (nm := 0) (by decide)
  have h3 : fX8_reachedNodes s 0 h = _ := t_reached R.cb0 W
  unfold fX6_entryFor kX6_entryFor_0 newName
  rw [h1, bI_s]
  cases hk : isK (mm S) d 2 with
  | false =>
    rw [hk] at h2
    rw [if_neg (show ¬ false = true by decide), if_neg (show ¬ ¬ (-1 : Int32) = -1 by simp), h3, bI_s]
    by_cases hb : (rbits (mm S)).testBit d = false
    · rw [if_neg (by rw [bit0 (by omega) (by omega)]; simp [hb])]
      rfl
    · rw [if_pos (by rw [bit0 (by omega) (by omega)]; exact hb), h2, bI_s]
      rfl
  | true =>
    rw [hk] at h2
    rw [if_pos rfl]
    cases hf : fent (mm S) d nm with
    | some e =>
      have := fent_lt W.1 hd hf
      rw [if_pos (by show ¬ nI (e / 2) = -1; rw [nI_eqm (by omega)]; exact id)]
      simp [oI]
    | none =>
      rw [if_neg (by show ¬ ¬ (-1 : Int32) = -1; simp), h3, bI_s]
      have hrb := rbits_bit (mm S) hd
      cases hr : isR (mm S) d with
      | false =>
        rw [hr] at hrb
        rw [if_neg (by rw [bit0 (by omega) (by omega)]; simp [hrb])]
        simp [oI]
      | true =>
        rw [hr] at hrb
        rw [if_pos (by rw [bit0 (by omega) (by omega)]; simp [hrb]), h2, bI_s, if_pos rfl]
        cases hf0 : fent (mm S) d 0 with
        | none => simp [half, oI]
        | some e => simp
def TO (h : Hp) (t : Nat) : Prop := kH h t = 16 ∧ rH h t 0 = t + 1 ∧ PO h (t + 1)
theorem TO.eq {h h' : Hp} {t : Nat} (e : h'.1 = h.1) (M : TO h t) : TO h' t := ⟨(kh_eq e t).trans M.1, (rh_eq e t 0).trans M.2.1, M.2.2.eq e⟩
theorem kt {h h' : Hp} {t k : Nat} (O : h'.1 = h.1) (M : kH h t = k) : kH h' t = k := (kh_eq O t).trans M
theorem rsc_0 (R : Sta h s S z) : RsC (some (.inl (some (.int 0)), h)) (some (.int (b2i false))) h s S z := ⟨h, rfl, Own.refl _ _, R⟩
theorem rsc_1 (R : Sta h s S z) : RsC (some (.inl (some (.int 1)), h)) (some (.int (b2i true))) h s S z := ⟨h, rfl, Own.refl _ _, R⟩
theorem sBeg_1 (S : St) (z d nm : Nat) : sBeg S z d nm 1 = match (if newName S d nm = true then fent (mm S) d 0 else none), fNode (mm S) with
    | some e, some n => (true, nameE (mkF (mkF S n 0 1 0 0) n 1 1 0 0) e nm n (mkFI S n 0 1) (mkFI (mkF S n 0 1 0 0) n 1 1) 0)
    | _, _ => (false, S) := by
  unfold sBeg
  cases newName S d nm <;> cases fNode (mm S) <;> cases fBlock (mm S) z <;> cases fent (mm S) d 0 <;> rfl
theorem sBeg_2 (S : St) (z d nm : Nat) : sBeg S z d nm 2 = match (if newName S d nm = true then fent (mm S) d 0 else none), fNode (mm S), fBlock (mm S) z with
    | some e, some n, some b => (true, nameE (gets (mkF (mkF S n 0 1 0 0) n 1 2 0 0) n b 2 0) e nm n (mkFI S n 0 1) (mkFI (mkF S n 0 1 0 0) n 1 2) (getsI (mkF (mkF S n 0 1 0 0) n 1 2 0 0) n b 2 0))
    | _, _, _ => (false, S) := by
  unfold sBeg
  cases newName S d nm <;> cases fNode (mm S) <;> cases fBlock (mm S) z <;> cases fent (mm S) d 0 <;> rfl
theorem half_if (p : Prop) [Decidable p] (x : Option Nat) : (if p then half x else none) = half (if p then x else none) := by split <;> rfl
theorem c_makeFile (R : Sta h s S z) (T : kH h t = 16) (W : Wf (mm S)) (G : Pg (mm S)) (sl : Sl S 7 0 7) {d nm : Nat} (hd : d < 12) (hnm : 0 < nm ∧ nm < 128) :
    RsC (fX6_makeFile t s (nI d) (nI nm) h) (some (.int (b2i (sBeg S z d nm 1).1))) h s (sBeg S z d nm 1).2 z := by
  unfold fX6_makeFile kX6_makeFile_0
  rw [if_pos T, c_entryFor R W hd hnm.2, bI_s, if_pos T, c_freeNode R, bI_s, sBeg_1, half_if]
  cases he : (if newName S d nm = true then fent (mm S) d 0 else none) with
  | none => rw [if_pos (show oI (half none) = -1 from rfl)]; exact rsc_0 R
  | some e =>
    have hf : fent (mm S) d 0 = some e := by split at he; exact he; cases he
    have he1 := fent_lt W.1 hd hf
    obtain ⟨he2, he3⟩ := fent_mem hf
    have he4 := ents_even he2
    have he5 := ents_ge G hd he2
    rw [if_neg (by show ¬ nI (e / 2) = -1; rw [nI_eqm (by omega)]; exact id)]
    cases hn : fNode (mm S) with
    | none => rw [if_neg (by show ¬ ¬ (-1 : Int32) = -1; simp)]; exact rsc_0 R
    | some n =>
      obtain ⟨n1, n2, n3⟩ := fNode_lt hn
      rw [if_pos (by rw [oI_s, nI_eqm (by omega)]; exact id), if_pos R.so.1]
      have hp1 : RsC (fX5_putField s (nI n) 0 1 h) _ h s _ z := c_putF R (sl.le (by omega) (by omega) (by omega)) n1 (f := 0) (v := 1) (by decide) (by decide)
      refine rsc_bI hp1 (fun h1 O1 R1 => ?_)
      have sl1 : Sl (mkF S n 0 1 0 0) 6 0 6 := sl_mk sl
      have hp2 : RsC (fX5_putField s (nI n) 1 1 h1) _ h1 s _ z := c_putF R1 (sl1.le (by omega) (by omega) (by omega)) n1 (f := 1) (v := 1) (by decide) (by decide)
      rw [if_pos R1.so.1]
      refine rsc_bI hp2 (fun h2 O2 R2 => ?_)
      have sl2 : Sl (mkF (mkF S n 0 1 0 0) n 1 1 0 0) 5 0 5 := sl_mk sl1
      have hne : mm (mkF (mkF S n 0 1 0 0) n 1 1 0 0) e ≠ nm := by
        unfold mkF
        rw [mm_mkne (Or.inl (by omega)), mm_mkne (Or.inl (by omega)), he3]
        omega
      rw [if_pos (kt (O2.1.trans O1.1) T)]
      have hne1 := c_nameEntry (t := t) R2 (sl2.le (by omega) (by omega) (by omega)) he1 he4 hnm.2 (node := n) (by omega) hne
      refine rsc_bI hne1 (fun h3 O3 R3 => ?_)
      rw [nameE_R he4 hne] at R3
      show RsC _ (some (.int (b2i true))) h3 s (nameE (mkF (mkF S n 0 1 0 0) n 1 1 0 0) e nm n (mkFI S n 0 1) (mkFI (mkF S n 0 1 0 0) n 1 1) 0) z
      rw [if_pos R3.so.1, nameE_R he4 hne]
      have i1 : IxId (mk (mkF (mkF S n 0 1 0 0) n 1 1 0 0) (e / 16) (e % 16 + 1) n (latest (mkF (mkF S n 0 1 0 0) n 1 1 0 0) (e / 16) (e % 16) : Int) 0 0 0) (pIx S (1 + n / 4) (4 * (n % 4) + 0) 1) (mkFI S n 0 1) := ix_mk (ix_mk (ix_made S (1 + n / 4) (4 * (n % 4) + 0) 1 0 0 0 0))
      have i2 : IxId (mk (mkF (mkF S n 0 1 0 0) n 1 1 0 0) (e / 16) (e % 16 + 1) n (latest (mkF (mkF S n 0 1 0 0) n 1 1 0 0) (e / 16) (e % 16) : Int) 0 0 0) (pIx (mkF S n 0 1 0 0) (1 + n / 4) (4 * (n % 4) + 1) 1) (mkFI (mkF S n 0 1 0 0) n 1 1) := ix_mk (ix_made (mkF S n 0 1 0 0) (1 + n / 4) (4 * (n % 4) + 1) 1 0 0 0 0)
      have g1 := c_needO R3 i1 (l1 := []) (m2 := 0) (m3 := 0) (m4 := _) rfl rfl rfl ⟨by omega, Int.le_refl 0, by omega⟩
      refine rsc_bV g1 (fun h4 O4 R4 => ?_)
      rw [if_pos R4.so.1]
      have g2 := c_needO R4 i2 (l1 := [_]) (m1 := _) (m3 := 0) (m4 := _) rfl rfl (by rw [if_neg (by omega), if_neg (by omega)]) ⟨by omega, Int.le_refl 0, by omega⟩
      exact rsc_bV g2 (fun h5 O5 R5 => rsc_1 R5)
theorem c_makeDir (R : Sta h s S z) (T : kH h t = 16) (W : Wf (mm S)) (G : Pg (mm S)) (hfree : ∀ n, n < 12 → fd (mm S) n 0 = 0 → fd (mm S) n 2 = 0) (sl : Sl S 7 0 7) {d nm : Nat} (hd : d < 12) (hnm : 0 < nm ∧ nm < 128) (hbe : ∀ e, fent (mm S) d 0 = some e → ∀ b, fBlock (mm S) z = some b → e / 16 ≠ b) :
    RsC (fX6_makeDirectory t s (nI d) (nI nm) h) (some (.int (b2i (sBeg S z d nm 2).1))) h s (sBeg S z d nm 2).2 z := by
  obtain ⟨hz1, hz2⟩ := R.2.2.1
  unfold fX6_makeDirectory kX6_makeDirectory_0
  rw [if_pos T, c_entryFor R W hd hnm.2, bI_s, if_pos T, c_freeNode R, bI_s, if_pos T, c_freeBlock R, bI_s, sBeg_2, half_if]
  cases he : (if newName S d nm = true then fent (mm S) d 0 else none) with
  | none => rw [if_pos (show oI (half none) = -1 from rfl)]; exact rsc_0 R
  | some e =>
    have hf : fent (mm S) d 0 = some e := by split at he; exact he; cases he
    have he1 := fent_lt W.1 hd hf
    obtain ⟨he2, he3⟩ := fent_mem hf
    have he4 := ents_even he2
    have he5 := ents_ge G hd he2
    rw [if_neg (by show ¬ nI (e / 2) = -1; rw [nI_eqm (by omega)]; exact id)]
    cases hn : fNode (mm S) with
    | none => rw [if_pos (show oI none = -1 from rfl)]; exact rsc_0 R
    | some n =>
      obtain ⟨n1, n2, n3⟩ := fNode_lt hn
      rw [if_neg (by rw [oI_s, nI_eqm (by omega)]; exact id)]
      cases hb : fBlock (mm S) z with
      | none => rw [if_neg (by show ¬ ¬ (-1 : Int32) = -1; simp)]; exact rsc_0 R
      | some b =>
        obtain ⟨b1, b2, b3⟩ := fBlock_lt hb
        have hbe := hbe e hf b hb
        rw [if_pos (by rw [oI_s, nI_eqm (by omega)]; exact id), if_pos R.so.1]
        have hp1 : RsC (fX5_putField s (nI n) 0 1 h) _ h s _ z := c_putF R (sl.le (by omega) (by omega) (by omega)) n1 (f := 0) (v := 1) (by decide) (by decide)
        refine rsc_bI hp1 (fun h1 O1 R1 => ?_)
        have sl1 : Sl (mkF S n 0 1 0 0) 6 0 6 := sl_mk sl
        have hp2 : RsC (fX5_putField s (nI n) 1 2 h1) _ h1 s _ z := c_putF R1 (sl1.le (by omega) (by omega) (by omega)) n1 (f := 1) (v := 2) (by decide) (by decide)
        rw [if_pos R1.so.1]
        refine rsc_bI hp2 (fun h2 O2 R2 => ?_)
        have sl2 : Sl (mkF (mkF S n 0 1 0 0) n 1 2 0 0) 5 0 5 := sl_mk sl1
        rw [if_pos (kt (O2.1.trans O1.1) T)]
        have hfn : fd (mm (mkF (mkF S n 0 1 0 0) n 1 2 0 0)) n 2 ≠ b := by
          unfold fd mkF
          rw [mm_mkne (Or.inr ⟨by omega, by omega⟩), mm_mkne (Or.inr ⟨by omega, by omega⟩)]
          have := hfree n n1 n2
          unfold fd at this
          omega
        have hg : RsC (fX6_giveBlock t s (nI n) 2 (nI b) 0 h2) _ h2 s _ z := c_giveBlock (t := t) R2 (sl2.le (by omega) (by omega) (by omega)) n1 (b := b) (f := 2) (v := 0) (by omega) b1 (by decide) (by decide) hfn
        rw [oI_s, oI_s]
        refine rsc_bI hg (fun h3 O3 R3 => ?_)
        have sl3 : Sl (gets (mkF (mkF S n 0 1 0 0) n 1 2 0 0) n b 2 0) 2 0 2 := sl_mk (sl_mk (sl_mk sl2))
        have hne : mm (gets (mkF (mkF S n 0 1 0 0) n 1 2 0 0) n b 2 0) e ≠ nm := by
          unfold gets gets2 mkF
          rw [mm_mkne (Or.inl (by omega)), mm_mkne (Or.inl (by omega)), mm_mkne (Or.inl (by omega)), mm_mkne (Or.inl (by omega)), mm_mkne (Or.inl (by omega)), he3]
          omega
        rw [if_pos (kt (O3.1.trans (O2.1.trans O1.1)) T)]
        have hne1 := c_nameEntry (t := t) R3 sl3 he1 he4 hnm.2 (node := n) (by omega) hne
        refine rsc_bI hne1 (fun h4 O4 R4 => ?_)
        rw [nameE_R he4 hne] at R4
        show RsC _ (some (.int (b2i true))) h4 s (nameE (gets (mkF (mkF S n 0 1 0 0) n 1 2 0 0) n b 2 0) e nm n (mkFI S n 0 1) (mkFI (mkF S n 0 1 0 0) n 1 2) (getsI (mkF (mkF S n 0 1 0 0) n 1 2 0 0) n b 2 0)) z
        rw [if_pos R4.so.1, nameE_R he4 hne]
        have i1 : IxId (mk (gets (mkF (mkF S n 0 1 0 0) n 1 2 0 0) n b 2 0) (e / 16) (e % 16 + 1) n (latest (gets (mkF (mkF S n 0 1 0 0) n 1 2 0 0) n b 2 0) (e / 16) (e % 16) : Int) 0 0 0) (pIx S (1 + n / 4) (4 * (n % 4) + 0) 1) (mkFI S n 0 1) := ix_mk (ix_mk (ix_mk (ix_mk (ix_mk (ix_made S (1 + n / 4) (4 * (n % 4) + 0) 1 0 0 0 0)))))
        have i2 : IxId (mk (gets (mkF (mkF S n 0 1 0 0) n 1 2 0 0) n b 2 0) (e / 16) (e % 16 + 1) n (latest (gets (mkF (mkF S n 0 1 0 0) n 1 2 0 0) n b 2 0) (e / 16) (e % 16) : Int) 0 0 0) (pIx (mkF S n 0 1 0 0) (1 + n / 4) (4 * (n % 4) + 1) 2) (mkFI (mkF S n 0 1 0 0) n 1 2) := ix_mk (ix_mk (ix_mk (ix_mk (ix_made (mkF S n 0 1 0 0) (1 + n / 4) (4 * (n % 4) + 1) 2 0 0 0 0))))
        have hgp : fd (mm (gets2 (mkF (mkF S n 0 1 0 0) n 1 2 0 0) b 0)) n 2 ≠ b := by
          unfold fd gets2
          rw [mm_mkne (Or.inl (by omega)), mm_mkne (Or.inl (by omega))]
          exact hfn
        have hgp2 : pIx (gets2 (mkF (mkF S n 0 1 0 0) n 1 2 0 0) b 0) (1 + n / 4) (4 * (n % 4) + 2) b = some (sC (gets2 (mkF (mkF S n 0 1 0 0) n 1 2 0 0) b 0)).length := by unfold pIx; rw [same_neF (by decide) hgp]; rfl
        have i3 : IxId (mk (gets (mkF (mkF S n 0 1 0 0) n 1 2 0 0) n b 2 0) (e / 16) (e % 16 + 1) n (latest (gets (mkF (mkF S n 0 1 0 0) n 1 2 0 0) n b 2 0) (e / 16) (e % 16) : Int) 0 0 0) (some (sC (gets2 (mkF (mkF S n 0 1 0 0) n 1 2 0 0) b 0)).length) (getsI (mkF (mkF S n 0 1 0 0) n 1 2 0 0) n b 2 0) := by
          have := ix_made (gets2 (mkF (mkF S n 0 1 0 0) n 1 2 0 0) b 0) (1 + n / 4) (4 * (n % 4) + 2) b (mkI (mkF (mkF S n 0 1 0 0) n 1 2 0 0) 0 b 1 : Int) (getsN (mkF (mkF S n 0 1 0 0) n 1 2 0 0) b 0) 0 0
          rw [hgp2] at this
          exact ix_mk this
        have g1 := c_needO R4 i1 (l1 := []) (m2 := 0) (m3 := 0) (m4 := _) rfl rfl rfl ⟨by omega, Int.le_refl 0, by omega⟩
        refine rsc_bV g1 (fun h5 O5 R5 => ?_)
        rw [if_pos R5.so.1]
        have g2 := c_needO R5 i2 (l1 := [_]) (m1 := _) (m3 := 0) (m4 := _) rfl rfl (by rw [if_neg (by omega), if_neg (by omega)]) ⟨by omega, Int.le_refl 0, by omega⟩
        refine rsc_bV g2 (fun h6 O6 R6 => ?_)
        rw [if_pos R6.so.1]
        have g3 := c_needO R6 i3 (l1 := [(mkFI S n 0 1 : Int), (mkFI (mkF S n 0 1 0 0) n 1 2 : Int)]) (l2 := [(mkI (gets (mkF (mkF S n 0 1 0 0) n 1 2 0 0) n b 2 0) (e / 16) (e % 16 + 1) n : Int)]) (m1 := (mkFI S n 0 1 : Int)) (m2 := (mkFI (mkF S n 0 1 0 0) n 1 2 : Int)) (m4 := (mkI (gets (mkF (mkF S n 0 1 0 0) n 1 2 0 0) n b 2 0) (e / 16) (e % 16 + 1) n : Int)) rfl rfl (by rw [if_neg (by omega)]) ⟨by omega, by omega, by omega⟩
        rw [oI_s] at g3
        exact rsc_bV g3 (fun h7 O7 R7 => rsc_1 R7)
end C13
