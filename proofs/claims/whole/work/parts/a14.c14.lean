/-! ===== the class's steps: link, grow, put, cut, drop ===== -/
theorem orK_zero (B : Nat → Nat) (l : List Nat) : orK B 0 l = 0 ↔ l.any (fun e => !(B e == 0)) = false := by
  constructor
  · intro h
    rw [List.any_eq_false]
    intro e he hq
    have hq2 : B e ≠ 0 := by simpa using hq
    have := (orK_bit B l (B (e + 1)) 0).mpr (Or.inr ⟨e, he, hq2, rfl⟩)
    rw [h] at this
    simp at this
  · intro h
    have hall := List.any_eq_false.mp h
    refine Nat.eq_of_testBit_eq (fun i => ?_)
    rw [Nat.zero_testBit]
    cases hb : (orK B 0 l).testBit i with
    | false => rfl
    | true =>
      rcases (orK_bit B l i 0).mp hb with q | ⟨e, he, q, -⟩
      · simp at q
      · exact absurd (hall e he) (by simp [q])
section C14
variable {h : Hp} {s t z : Nat} {S : St}
theorem c_isFile (R : Sta h s S z) {n : Nat} (hn : n < 12) : fX6_isFile t s (nI n) h = some (.inl (some (.int (b2i (isK (mm S) n 1)))), h) := by
  have h0 : fX5_nodeField s 0 (nI n) 0 h = some (.inl (some (.int (nI (fd (mm S) n 0)))), h) := c_nodeField R.cb0 hn (f := 0) (by decide)
  have h1 : fX5_nodeField s 0 (nI n) 1 h = some (.inl (some (.int (nI (fd (mm S) n 1)))), h) := c_nodeField R.cb0 hn (f := 1) (by decide)
  have g0 : fd (mm S) n 0 < 128 := bd_mm R.bd _
  have g1 : fd (mm S) n 1 < 128 := bd_mm R.bd _
  unfold fX6_isFile kX6_isFile_0 isK
  rw [if_pos R.so.1, h0, bI_s]
  by_cases e0 : fd (mm S) n 0 = 0
  · rw [if_pos (by rw [nI_eq0 (by omega)]; exact e0)]
    simp [e0, b2i]
  · have e0' : decide (0 < fd (mm S) n 0) = true := decide_eq_true (by omega)
    rw [if_neg (by rw [nI_eq0 (by omega)]; exact e0), if_pos R.so.1, h1, bI_s, e0', k1]
    by_cases e1 : fd (mm S) n 1 = 1
    · rw [if_neg (by rw [nI_eq (by omega) (by decide)]; simp [e1])]
      simp [e1, b2i, ← k1]
    · have e1' : (fd (mm S) n 1 == 1) = false := by simpa using e1
      rw [if_pos (by rw [nI_eq (by omega) (by decide)]; exact e1), e1']
      rfl
theorem sLink_m (S : St) (d nm n : Nat) : sLink S d nm n = match (if newName S d nm = true then fent (mm S) d 0 else none) with
    | some e => if isK (mm S) n 1 = true ∧ fd (mm S) n 0 ≤ 8 then (true, nameE (mkF S n 0 (fd (mm S) n 0 + 1) 0 0) e nm n (mkFI S n 0 (fd (mm S) n 0 + 1)) 0 0) else (false, S)
    | none => (false, S) := by
  unfold sLink
  by_cases h8 : fd (mm S) n 0 ≤ 8
  · cases newName S d nm <;> cases isK (mm S) n 1 <;> cases fent (mm S) d 0 <;> simp [h8]
  · cases newName S d nm <;> cases isK (mm S) n 1 <;> cases fent (mm S) d 0 <;> simp [h8]
theorem c_linkFile (R : Sta h s S z) (T : kH h t = 16) (W : Wf (mm S)) (G : Pg (mm S)) (sl : Sl S 7 0 7) {d nm n : Nat} (hd : d < 12) (hnm : 0 < nm ∧ nm < 128) (hn : n < 12) :
    RsC (fX6_linkFile t s (nI d) (nI nm) (nI n) h) (some (.int (b2i (sLink S d nm n).1))) h s (sLink S d nm n).2 z := by
  have h0 : fX5_nodeField s 0 (nI n) 0 h = some (.inl (some (.int (nI (fd (mm S) n 0)))), h) := c_nodeField R.cb0 hn (f := 0) (by decide)
  have g0 : fd (mm S) n 0 < 128 := bd_mm R.bd _
  unfold fX6_linkFile kX6_linkFile_0
  rw [if_pos T, c_entryFor R W hd hnm.2, bI_s, if_pos R.so.1, h0, bI_s, sLink_m, half_if]
  cases he : (if newName S d nm = true then fent (mm S) d 0 else none) with
  | none => rw [if_pos (show oI (half none) = -1 from rfl)]; exact rsc_0 R
  | some e =>
    have hf : fent (mm S) d 0 = some e := by split at he; exact he; cases he
    have he1 := fent_lt W.1 hd hf
    obtain ⟨he2, he3⟩ := fent_mem hf
    have he4 := ents_even he2
    have he5 := ents_ge G hd he2
    rw [if_neg (by show ¬ nI (e / 2) = -1; rw [nI_eqm (by omega)]; exact id), if_pos T, c_isFile R hn, bI_s]
    cases hk : isK (mm S) n 1 with
    | false => rw [if_pos (show b2i false = 0 from rfl)]; simp only []; rw [if_neg (by simp)]; exact rsc_0 R
    | true =>
      rw [if_neg (show ¬ b2i true = 0 by decide)]
      simp only []
      by_cases h8 : fd (mm S) n 0 ≤ 8
      · rw [if_pos (by rw [k8, nI_leI (by omega) (by decide)]; exact h8), if_pos R.so.1, nI_1, if_pos (show True ∧ fd (mm S) n 0 ≤ 8 from ⟨trivial, h8⟩)]
        have hp1 : RsC (fX5_putField s (nI n) 0 (nI (fd (mm S) n 0 + 1)) h) _ h s _ z := c_putF R (sl.le (by omega) (by omega) (by omega)) hn (f := 0) (v := fd (mm S) n 0 + 1) (by decide) (by omega)
        refine rsc_bI hp1 (fun h1 O1 R1 => ?_)
        have sl1 : Sl (mkF S n 0 (fd (mm S) n 0 + 1) 0 0) 6 0 6 := sl_mk sl
        have hne : mm (mkF S n 0 (fd (mm S) n 0 + 1) 0 0) e ≠ nm := by
          unfold mkF
          rw [mm_mkne (Or.inl (by omega)), he3]
          omega
        rw [if_pos (kt O1.1 T)]
        have hne1 := c_nameEntry (t := t) R1 (sl1.le (by omega) (by omega) (by omega)) he1 he4 hnm.2 (node := n) (by omega) hne
        refine rsc_bI hne1 (fun h3 O3 R3 => ?_)
        rw [nameE_R he4 hne] at R3
        rw [if_pos R3.so.1, nameE_R he4 hne]
        have i1 : IxId (mk (mkF S n 0 (fd (mm S) n 0 + 1) 0 0) (e / 16) (e % 16 + 1) n (latest (mkF S n 0 (fd (mm S) n 0 + 1) 0 0) (e / 16) (e % 16) : Int) 0 0 0) (pIx S (1 + n / 4) (4 * (n % 4) + 0) (fd (mm S) n 0 + 1)) (mkFI S n 0 (fd (mm S) n 0 + 1)) := ix_mk (ix_made S (1 + n / 4) (4 * (n % 4) + 0) (fd (mm S) n 0 + 1) 0 0 0 0)
        have g1 := c_needO R3 i1 (l1 := []) (m2 := 0) (m3 := 0) (m4 := _) rfl rfl rfl ⟨by omega, Int.le_refl 0, by omega⟩
        exact rsc_bV g1 (fun h4 O4 R4 => rsc_1 R4)
      · rw [if_neg (by rw [k8, nI_leI (by omega) (by decide)]; exact h8), if_neg (fun w => h8 w.2)]
        exact rsc_0 R
theorem c_grow (R : Sta h s S z) (T : kH h t = 16) (sl : Sl S 7 0 7) {n v : Nat} (hn : n < 12) (hv : v < 128) :
    RsC (fX6_growNode t s (nI n) (nI v) h) (some (.int (b2i (sGrow S z n v).1))) h s (sGrow S z n v).2 z := by
  obtain ⟨hz1, hz2⟩ := R.2.2.1
  have h0 : fX5_nodeField s 0 (nI n) 0 h = some (.inl (some (.int (nI (fd (mm S) n 0)))), h) := c_nodeField R.cb0 hn (f := 0) (by decide)
  have h1 : fX5_nodeField s 0 (nI n) 1 h = some (.inl (some (.int (nI (fd (mm S) n 1)))), h) := c_nodeField R.cb0 hn (f := 1) (by decide)
  have h2 : fX5_nodeField s 0 (nI n) 2 h = some (.inl (some (.int (nI (fd (mm S) n 2)))), h) := c_nodeField R.cb0 hn (f := 2) (by decide)
  have h3 : fX5_nodeField s 0 (nI n) 3 h = some (.inl (some (.int (nI (fd (mm S) n 3)))), h) := c_nodeField R.cb0 hn (f := 3) (by decide)
  have g0 : fd (mm S) n 0 < 128 := bd_mm R.bd _
  have g1 : fd (mm S) n 1 < 128 := bd_mm R.bd _
  have g2 : fd (mm S) n 2 < 128 := bd_mm R.bd _
  have g3 : fd (mm S) n 3 < 128 := bd_mm R.bd _
  unfold fX6_growNode kX6_growNode_0 sGrow
  rw [if_pos T, c_freeBlock R, bI_s, if_pos R.so.1, h2, bI_s, if_pos R.so.1, h3, bI_s]
  cases hb : fBlock (mm S) z with
  | none => rw [if_pos (show oI none = -1 from rfl)]; exact rsc_0 R
  | some b =>
    obtain ⟨b1, b2, b3⟩ := fBlock_lt hb
    rw [if_neg (by rw [oI_s, nI_eqm (by omega)]; exact id), if_pos R.so.1, h0, bI_s, oI_s]
    simp only []
    by_cases e0 : fd (mm S) n 0 = 0
    · rw [if_pos (by rw [nI_eq0 (by omega)]; exact e0), if_pos (Or.inl e0)]
      exact rsc_0 R
    rw [if_neg (by rw [nI_eq0 (by omega)]; exact e0)]
    have hgo : ∀ f, f = 2 ∨ f = 3 → fd (mm S) n f = 0 → f = (if fd (mm S) n 2 = 0 then 2 else 3) → RsC (gX6_growNode FF 53 [.ref t, .ref s, .int (nI n), .int (nI v), .int (nI b), .int (nI (fd (mm S) n 2)), uV, uV] [] h) (some (.int (b2i true))) h s (gets S n b f (if fd (mm S) n 1 = 2 then 0 else v)) z := fun f hf hf0 hfe => by
      have hg : ∀ v', v' < 128 → RsC (fX6_giveBlock t s (nI n) (nI f) (nI b) (nI v') h) _ h s (gets S n b f v') z := fun v' hv' => c_giveBlock (t := t) R (sl.le (by omega) (by omega) (by omega)) hn (b := b) (f := f) (v := v') (by omega) b1 (by omega) hv' (by rw [hf0]; omega)
      rw [show FF = 999999 + 1 from rfl, zX6_growNode_53]
      unfold kX6_growNode_53
      rw [if_pos R.so.1, h1, bI_s, k2]
      by_cases e1 : fd (mm S) n 1 = 2
      · rw [if_neg (by rw [nI_eq (by omega) (by decide)]; simp [e1]), if_pos e1]
        by_cases e2 : fd (mm S) n 2 = 0
        · rw [if_pos e2] at hfe
          subst hfe
          rw [if_neg (by rw [nI_eq0 (by omega)]; simp [e2]), if_pos T]
          exact rsc_bI (hg 0 (by decide)) (fun h5 O5 R5 => rsc_1 R5)
        · rw [if_neg e2] at hfe
          subst hfe
          rw [if_pos (by rw [nI_eq0 (by omega)]; exact e2), if_pos T]
          exact rsc_bI (hg 0 (by decide)) (fun h5 O5 R5 => rsc_1 R5)
      · rw [if_pos (by rw [nI_eq (by omega) (by decide)]; exact e1), if_neg e1]
        by_cases e2 : fd (mm S) n 2 = 0
        · rw [if_pos e2] at hfe
          subst hfe
          rw [if_neg (by rw [nI_eq0 (by omega)]; simp [e2]), if_pos T]
          exact rsc_bI (hg v hv) (fun h5 O5 R5 => rsc_1 R5)
        · rw [if_neg e2] at hfe
          subst hfe
          rw [if_pos (by rw [nI_eq0 (by omega)]; exact e2), if_pos T]
          exact rsc_bI (hg v hv) (fun h5 O5 R5 => rsc_1 R5)
    by_cases e2 : fd (mm S) n 2 = 0
    · rw [if_pos (by rw [nI_eq0 (by omega)]; exact e2), if_neg (fun w => by rcases w with w | w; exact e0 w; exact w.1 e2)]
      have := hgo 2 (Or.inl rfl) e2 (by rw [if_pos e2])
      simp only [if_pos e2]
      exact this
    · rw [if_neg (by rw [nI_eq0 (by omega)]; exact e2)]
      by_cases e3 : fd (mm S) n 3 = 0
      · rw [if_pos (by rw [nI_eq0 (by omega)]; exact e3), if_neg (fun w => by rcases w with w | w; exact e0 w; exact w.2 e3)]
        have := hgo 3 (Or.inr rfl) e3 (by rw [if_neg e2])
        simp only [if_neg e2]
        exact this
      · rw [if_neg (by rw [nI_eq0 (by omega)]; exact e3), if_pos (Or.inr ⟨e2, e3⟩)]
        exact rsc_0 R
theorem c_putIn (R : Sta h s S z) (T : kH h t = 16) (P : Pb (mm S)) (sl : Sl S 1 0 1) {n i v : Nat} (hn : n < 12) (hi : i < 32) (hv : v < 128) :
    RsC (fX6_putInFile t s (nI n) (nI i) (nI v) h) (some (.int (b2i (sPut S n i v).1))) h s (sPut S n i v).2 z := by
  have hm16 : nI i - nI i / 16 * 16 = nI (i % 16) := by rw [k16, pk_div (by omega) (by decide) (by decide), pk_mul, pk_sub (by omega), rem_n]
  unfold fX6_putInFile kX6_putInFile_0 sPut
  rw [if_pos T, c_isFile R hn, bI_s, hm16]
  have hput : ∀ b, b < 16 → RsC (bI (fX5_put s (nI b) (nI (i % 16)) (nI v) h) fun z13 h12 => (if z13 = (-1) then (some (.inl (some (.int 0)), h12)) else (some (.inl (some (.int 1)), h12)))) (some (.int (b2i (decide (mkI S b (i % 16) v ≠ 0))))) h s (mk S b (i % 16) v 0 0 0 0) z := fun b hb => by
    refine rsc_bI (c_putR R sl hb (p := i % 16) (by omega) hv) (fun h1 O1 R1 => ?_)
    have hB := R.bd.1
    unfold pIx mkI
    cases hs : same S b (i % 16) v with
    | true => rw [if_pos rfl, if_pos (show oI none = -1 from rfl)]; exact rsc_0 R1
    | false =>
      simp only [Bool.false_eq_true, if_false]
      rw [if_neg (by rw [oI_s, nI_eqm (by omega)]; exact id), show decide (sM S + 1 ≠ 0) = true from decide_eq_true (by omega)]
      exact rsc_1 R1
  cases hk : isK (mm S) n 1 with
  | false => rw [if_neg (by decide), if_neg (fun w => by cases w.1)]; exact rsc_0 R
  | true =>
    rw [if_pos (by decide), k16]
    by_cases e : i < 16
    · have hp := P n hn 2 (Or.inl rfl)
      have h2 : fX5_nodeField s 0 (nI n) 2 h = some (.inl (some (.int (nI (fd (mm S) n 2)))), h) := c_nodeField R.cb0 hn (f := 2) (by decide)
      rw [if_neg (by rw [nI_leI (by decide) (by omega)]; omega), if_pos R.so.1, h2, bI_s]
      simp only [if_pos e]
      by_cases e2 : fd (mm S) n 2 = 0
      · rw [if_pos (by rw [nI_eq0 (by omega)]; exact e2), if_neg (fun w => w.2 e2)]
        exact rsc_0 R
      · rw [if_neg (by rw [nI_eq0 (by omega)]; exact e2), if_pos R.so.1, if_pos ⟨trivial, e2⟩]
        exact hput _ hp
    · have hp := P n hn 3 (Or.inr rfl)
      have h2 : fX5_nodeField s 0 (nI n) 3 h = some (.inl (some (.int (nI (fd (mm S) n 3)))), h) := c_nodeField R.cb0 hn (f := 3) (by decide)
      rw [if_pos (by rw [nI_leI (by decide) (by omega)]; omega), if_pos R.so.1, h2, bI_s]
      simp only [if_neg e]
      by_cases e2 : fd (mm S) n 3 = 0
      · rw [if_pos (by rw [nI_eq0 (by omega)]; exact e2), if_neg (fun w => w.2 e2)]
        exact rsc_0 R
      · rw [if_neg (by rw [nI_eq0 (by omega)]; exact e2), if_pos R.so.1, if_pos ⟨trivial, e2⟩]
        exact hput _ hp
theorem c_cut (R : Sta h s S z) (T : kH h t = 16) (P : Pb (mm S)) (sl : Sl S 1 0 1) (h64 : (sL S).length < 64) {n : Nat} (hn : n < 12) :
    RsC (fX6_cutFile t s (nI n) h) (some (.int (b2i (sCut S n).1))) h s (sCut S n).2 z := by
  have hgo : ∀ f, f = 2 ∨ f = 3 → fd (mm S) n f ≠ 0 → RsC (bI (fX5_putField s (nI n) (nI f) 0 h) fun z17 h16 => (if kH h16 s = 15 then (bV (fX5_putOff s (100 + nI (fd (mm S) n f)) z17 h16) fun h20 => (some (.inl (some (.int 1)), h20))) else none)) (some (.int (b2i true))) h s (putO (mkF S n f 0 0 0) 0 (fd (mm S) n f) (mkFI S n f 0)) z := fun f hf hne => by
    have hp := P n hn f hf
    obtain ⟨e1, e2⟩ := mkF_neS (S := S) (n := n) (f := f) (v := 0) hne (by omega)
    obtain ⟨e3, e4⟩ := pIx_ne (S := S) (n := n) (f := f) (v := 0) hne (by omega)
    have hput : RsC (fX5_putField s (nI n) (nI f) 0 h) _ h s _ z := c_putF R sl hn (f := f) (v := 0) (by omega) (by decide)
    rw [e3, oI_s] at hput
    refine rsc_bI hput (fun h1 O1 R1 => ?_)
    rw [if_pos R1.so.1]
    have hl : (sL (mkF S n f 0 0 0)).length = (sL S).length := by unfold mkF mk; split <;> rfl
    have hpo := c_putOff R1 (by rw [hl]; exact h64) (a := 0) (b := fd (mm S) n f) (by decide) hp e4
    have ht : (100 : Int32) + nI (fd (mm S) n f) = nI (tag1 0 (fd (mm S) n f)) := by rw [k100, nI_add]; rfl
    rw [ht, e1]
    exact rsc_bV hpo (fun h2 O2 R2 => rsc_1 R2)
  have h2 : fX5_nodeField s 0 (nI n) 2 h = some (.inl (some (.int (nI (fd (mm S) n 2)))), h) := c_nodeField R.cb0 hn (f := 2) (by decide)
  have h3 : fX5_nodeField s 0 (nI n) 3 h = some (.inl (some (.int (nI (fd (mm S) n 3)))), h) := c_nodeField R.cb0 hn (f := 3) (by decide)
  have p2 := P n hn 2 (Or.inl rfl)
  have p3 := P n hn 3 (Or.inr rfl)
  unfold fX6_cutFile kX6_cutFile_0 sCut cutF
  rw [if_pos T, c_isFile R hn, bI_s]
  cases hk : isK (mm S) n 1 with
  | false => rw [if_neg (by decide), if_neg (fun w => by cases w.1)]; exact rsc_0 R
  | true =>
    rw [if_pos (by decide), if_pos R.so.1, h3, bI_s]
    by_cases e3 : fd (mm S) n 3 = 0
    · rw [if_pos (by rw [nI_eq0 (by omega)]; exact e3), if_pos R.so.1, h2, bI_s]
      simp only [e3, ne_eq, not_true_eq_false, if_false]
      by_cases e2 : fd (mm S) n 2 = 0
      · rw [if_neg (by rw [nI_eq0 (by omega)]; simp [e2]), if_neg (fun w => w.2 e2)]
        exact rsc_0 R
      · rw [if_pos (by rw [nI_eq0 (by omega)]; exact e2), if_pos R.so.1, if_pos ⟨trivial, e2⟩]
        exact hgo 2 (Or.inl rfl) e2
    · rw [if_neg (by rw [nI_eq0 (by omega)]; exact e3), if_pos R.so.1, h3, bI_s]
      simp only [e3, ne_eq, not_false_eq_true, if_true]
      rw [if_pos (by rw [nI_eq0 (by omega)]; exact e3), if_pos R.so.1, if_pos ⟨trivial, trivial⟩]
      exact hgo 3 (Or.inr rfl) e3
theorem c_drop (R : Sta h s S z) (W : Wf (mm S)) (sl : Sl S 1 0 1) (h64 : (sL S).length < 64) {d nm : Nat} (hd : d < 12) (hnm : 0 < nm ∧ nm < 128) :
    RsC (fX6_dropEntry t s (nI d) (nI nm) h) (some (.int (b2i (sDrop S d nm).1))) h s (sDrop S d nm).2 z := by
  have hrl := rbits_lt (mm S)
  have h1 : fX8_entryNamed s 0 (nI d) (nI nm) h = _ := t_entryNamed R.cb0 W.1 hd (nm := nm) (by omega)
  have h3 : fX8_reachedNodes s 0 h = _ := t_reached R.cb0 W
  have hrb := rbits_bit (mm S) hd
  unfold fX6_dropEntry kX6_dropEntry_0 sDrop
  rw [h1, bI_s]
  cases hk : isK (mm S) d 2 with
  | false =>
    rw [if_neg (show ¬ false = true by decide), if_pos rfl]
    exact rsc_0 R
  | true =>
    rw [if_pos rfl]
    have hk2 : fd (mm S) d 1 = 2 := by unfold isK at hk; simp at hk; exact hk.2
    cases hf : fent (mm S) d nm with
    | none =>
      rw [if_pos (show oI (half none) = -1 from rfl)]
      cases isR (mm S) d <;> exact rsc_0 R
    | some e =>
      have he1 := fent_lt W.1 hd hf
      obtain ⟨he2, he3⟩ := fent_mem hf
      have he4 := ents_even he2
      have hnd := W.2.2 d hd hk2 e he2 (by rw [he3]; omega)
      rw [if_neg (by show ¬ nI (e / 2) = -1; rw [nI_eqm (by omega)]; exact id), h3, bI_s]
      cases hr : isR (mm S) d with
      | false =>
        rw [hr] at hrb
        rw [if_neg (by rw [bit0 (by omega) (by omega)]; simp [hrb])]
        exact rsc_0 R
      | true =>
        rw [hr] at hrb
        have hno : fX8_nodeOfEntry s 0 (nI (e / 2)) h = _ := t_nodeOf R.cb0 he1 he4
        have hnn : fX8_namedNodes s 0 (nI (mm S (e + 1))) h = _ := t_namedNodes R.cb0 W.1 hnd (fun hk => W.2.2 _ hnd (by unfold isK at hk; simp at hk; exact hk.2))
        rw [if_pos (by rw [bit0 (by omega) (by omega)]; simp [hrb])]
        show RsC (bI (fX8_nodeOfEntry s 0 (nI (e / 2)) h) _) _ _ _ _ _
        rw [hno, bI_s, hnn, bI_s]
        simp only [Bool.and_self]
        have hlt : (if isK (mm S) (mm S (e + 1)) 2 = true then orK (mm S) 0 (ents (mm S) (mm S (e + 1))) else 0) < 2 ^ 12 := by
          split
          · next hk => exact orK_lt (W.2.2 _ hnd (by unfold isK at hk; simp at hk; exact hk.2)) (by decide)
          · decide
        have hiff : (if isK (mm S) (mm S (e + 1)) 2 = true then orK (mm S) 0 (ents (mm S) (mm S (e + 1))) else 0) = 0 ↔ ¬ (fd (mm S) (mm S (e + 1)) 1 = 2 ∧ hasN (mm S) (mm S (e + 1)) = true) := by
          by_cases hq : isK (mm S) (mm S (e + 1)) 2 = true
          · have hq2 : fd (mm S) (mm S (e + 1)) 1 = 2 := by unfold isK at hq; simp at hq; exact hq.2
            rw [if_pos hq, orK_zero]
            unfold hasN
            simp [hq2]
          · rw [if_neg hq]
            have : fd (mm S) (mm S (e + 1)) 1 ≠ 2 := fun w => hq (by
              unfold isK
              have : fd (mm S) (mm S (e + 1)) 0 ≠ 0 := fun q => by have := (W.2.1 _ hnd).mp q; omega
              simp [w]
              omega)
            simp [this]
        by_cases hz : (if isK (mm S) (mm S (e + 1)) 2 = true then orK (mm S) 0 (ents (mm S) (mm S (e + 1))) else 0) = 0
        · rw [if_pos (by rw [nI_eq0 (by omega)]; exact hz), if_pos R.so.1, if_neg (hiff.mp hz)]
          have hd8 : nI (e / 2) / 8 = nI (e / 16) := by rw [k8, pk_div (by omega) (by decide) (by decide), Nat.div_div_eq_div_mul]
          have hm8 : (nI (e / 2) - nI (e / 16) * 8) * 2 = nI (e % 16) := by rw [k8, k2, pk_mul, pk_sub (by omega), pk_mul]; congr 1; omega
          have hs : same S (e / 16) (e % 16) 0 = false := same_ne (by omega) (by rw [show 16 * (e / 16) + e % 16 = e by omega, he3]; omega)
          have hpi : pIx S (e / 16) (e % 16) 0 = some (sC S).length := by unfold pIx; rw [hs]; rfl
          have hmi : mkI S (e / 16) (e % 16) 0 = sM S + 1 := by unfold mkI; rw [hs]; rfl
          have hput : RsC (fX5_put s (nI (e / 16)) (nI (e % 16)) 0 h) _ h s _ z := c_putR R sl (b := e / 16) (p := e % 16) (v := 0) (by omega) (by omega) (by decide)
          rw [hpi, oI_s, mk_f hs] at hput
          show RsC (bI (fX5_put s (nI (e / 2) / 8) ((nI (e / 2) - nI (e / 2) / 8 * 8) * 2) 0 h) _) _ _ _ _ _
          rw [hd8, hm8]
          refine rsc_bI hput (fun h4 O4 R4 => ?_)
          rw [if_pos R4.so.1]
          have hpo := c_putOff R4 (show (sL (mkR S (e / 16) (e % 16) 0 0 0 0 0)).length < 64 from h64) (a := 1) (b := mm S (e + 1)) (by decide) (by omega) (P := sC S) (T := []) (c := (sM S + 1, e / 16, e % 16, 0, 0, 0, 0, 0)) rfl
          rw [mk_f hs, hmi]
          exact rsc_bV hpo (fun h5 O5 R5 => rsc_1 R5)
        · rw [if_neg (by rw [nI_eq0 (by omega)]; exact hz), if_pos (Decidable.not_not.mp (fun w => hz (hiff.mpr w)))]
          exact rsc_0 R
end C14
