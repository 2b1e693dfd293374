/-! ===== steps: put, cut, drop, sweep, crash ===== -/
noncomputable def swN (S : St) : Option Nat := (List.range' 1 11).find? (fun n => decide (nmd (mm S) n + cntL S 1 n < fd (mm S) n 0))
def swB (S : St) (z : Nat) : Option Nat := (List.range' 4 (z - 4)).find? (fun b => !(mm S b == 0) && ((ptrF (mm S) (lnkN (mm S)) b).isNone && cntL S 0 b == 0))
noncomputable def swAt (S : St) (z : Nat) : Option Nat := match swN S with
  | some n => some n
  | none => (swB S z).map (fun b => 100 + b)
noncomputable def sSwp (S : St) (z : Nat) : Bool × St := match swN S with
  | some n => (true, setL S n (nmd (mm S) n + cntL S 1 n))
  | none => match swB S z with
    | some b => (true, mk S 0 b 0 0 0 0 0)
    | none => (false, S)
def sCrs (S : St) : St := (sD S, [], [], sM S, sW S, sH S, sK S + 1)
section S3
variable {h : Hp} {r m : Nat} {S : St}
theorem m_setsByte (R : Row h r S) (P : Pb (mm S)) (sl : Sl S 1 0 1) {n i v : Nat} (hnd : n < 12) (hi : i < 32) (hv : v < 128) : Res (fX10_setsByte r (nI n) (nI i) (nI v) h) (some (.int (b2i (sPut S n i v).1))) h r (sPut S n i v).2 := by
  have f2 : fX10_fieldOf r 0 (nI n) 2 h = _ := q_fieldOf R.rb0 hnd (f := 2) (by decide)
  have f3 : fX10_fieldOf r 0 (nI n) 3 h = _ := q_fieldOf R.rb0 hnd (f := 3) (by decide)
  have h1 : fX10_isKind r 0 (nI n) 1 h = _ := q_isKind R.rb0 hnd (t := 1) (by decide)
  have g2 := P n hnd 2 (Or.inl rfl)
  have g3 := P n hnd 3 (Or.inr rfl)
  have b3 := R.bd.2.2.1
  unfold fX10_setsByte kX10_setsByte_0 sPut
  have go : ∀ b, b < 16 → Res (if (b2i (isK (mm S) n 1)) = 0 then (some (.inl (some (.int 0)), h)) else (if nI b = 0 then (some (.inl (some (.int 0)), h)) else (bI (fX10_bare r (nI b) (nI i - nI i / 16 * 16) (nI v) h) fun z11 h10 => (if z11 = 0 then (some (.inl (some (.int 0)), h10)) else (some (.inl (some (.int 1)), h10))))))
      (some (.int (b2i (if isK (mm S) n 1 = true ∧ b ≠ 0 then (decide (mkI S b (i % 16) v ≠ 0), mk S b (i % 16) v 0 0 0 0) else (false, S)).1))) h r (if isK (mm S) n 1 = true ∧ b ≠ 0 then (decide (mkI S b (i % 16) v ≠ 0), mk S b (i % 16) v 0 0 0 0) else (false, S)).2 := fun b hb => by
    cases isK (mm S) n 1 with
    | false => rw [if_pos b2i_f, if_neg (by simp)]; exact res_f R
    | true =>
      rw [if_neg (by decide)]
      by_cases e : b = 0
      · rw [if_pos (by rw [e]; rfl), if_neg (by simp [e])]; exact res_f R
      · rw [if_neg (by rw [nI_eq0 (by omega)]; exact e), if_pos ⟨rfl, e⟩, k16, pk_div (by omega) (by decide) (by decide), pk_mul, pk_sub (by omega), rem_n]
        refine res_bI (m_bare R sl (b := b) (p := i % 16) (v := v) hb (by omega) hv) (fun h5 _ _ R5 => ?_)
        have hle := mkI_le S b (i % 16) v 0 0 0 0
        have b5 := R5.bd.2.2.1
        dsimp only
        by_cases e5 : mkI S b (i % 16) v = 0
        · rw [if_pos (by rw [e5]; rfl), e5]; exact res_f R5
        · rw [if_neg (by rw [nI_eq0 (by omega)]; exact e5), decide_eq_true e5]; exact res_t R5
  by_cases hi2 : i < 16
  · rw [if_neg (by rw [k16, nI_leI (by decide) (by omega)]; omega), f2, bI_s, h1, bI_s]
    simp only [hi2, if_true]
    exact go _ g2
  · rw [if_pos (by rw [k16, nI_leI (by decide) (by omega)]; omega), f3, bI_s, h1, bI_s]
    simp only [hi2, if_false]
    exact go _ g3
theorem m_cuts (R : Row h r S) (P : Pb (mm S)) (sl : Sl S 1 1 1) {n : Nat} (hnd : n < 12) : Res (fX10_cuts r (nI n) h) (some (.int (b2i (sCut S n).1))) h r (sCut S n).2 := by
  have f2 : fX10_fieldOf r 0 (nI n) 2 h = _ := q_fieldOf R.rb0 hnd (f := 2) (by decide)
  have f3 : fX10_fieldOf r 0 (nI n) 3 h = _ := q_fieldOf R.rb0 hnd (f := 3) (by decide)
  have h1 : fX10_isKind r 0 (nI n) 1 h = _ := q_isKind R.rb0 hnd (t := 1) (by decide)
  have g2 := P n hnd 2 (Or.inl rfl)
  have g3 := P n hnd 3 (Or.inr rfl)
  unfold fX10_cuts kX10_cuts_0 sCut
  have go : ∀ f, f = 2 ∨ f = 3 → fd (mm S) n f ≠ 0 → Res (bI (fX10_field r (nI n) (nI f) 0 0 0 h) fun z14 h13 => (bV (fX10_putsOff r 0 (nI (fd (mm S) n f)) z14 h13) fun h16 => (some (.inl (some (.int 1)), h16)))) (some (.int (b2i true))) h r (putO (mkF S n f 0 0 0) 0 (fd (mm S) n f) (mkFI S n f 0)) := fun f hf hne => by
    obtain ⟨e1, e2⟩ := mkF_neS (S := S) (n := n) (f := f) (v := 0) hne (by omega)
    have hb := P n hnd f hf
    refine res_bI (m_field R (sl.le (by omega) (by omega) (by omega)) hnd (by omega) (by decide) ⟨by decide, by omega⟩ ⟨by decide, by omega⟩ (f := f) (v := 0) (n1 := 0) (n2 := 0)) (fun h5 _ _ R5 => ?_)
    exact res_bV (m_putsOff R5 (sl_mk sl) (a := 0) (b := fd (mm S) n f) (by decide) hb (by rw [e1, e2]; omega)) (fun h6 _ _ R6 => res_t R6)
  rw [f3, bI_s]
  by_cases e3 : fd (mm S) n 3 = 0
  · have hc : cutF S n = 2 := by unfold cutF; rw [if_neg (by simpa using e3)]
    rw [if_pos (by rw [e3]; rfl), f2, bI_s, h1, bI_s, hc]
    cases isK (mm S) n 1 with
    | false => rw [if_pos b2i_f, if_neg (by simp)]; exact res_f R
    | true =>
      rw [if_neg (by decide)]
      by_cases e2 : fd (mm S) n 2 = 0
      · rw [if_neg (by rw [e2]; decide), if_neg (by simp [e2])]; exact res_f R
      · rw [if_pos (by rw [nI_eq0 (by omega)]; exact e2), if_pos ⟨rfl, e2⟩]
        exact go 2 (Or.inl rfl) e2
  · have hc : cutF S n = 3 := by unfold cutF; rw [if_pos e3]
    rw [if_neg (by rw [nI_eq0 (by omega)]; exact e3), f3, bI_s, h1, bI_s, hc]
    cases isK (mm S) n 1 with
    | false => rw [if_pos b2i_f, if_neg (by simp)]; exact res_f R
    | true =>
      rw [if_neg (by decide), if_pos (by rw [nI_eq0 (by omega)]; exact e3), if_pos ⟨rfl, e3⟩]
      exact go 3 (Or.inr rfl) e3
theorem m_drops (R : Row h r S) (W : Wf (mm S)) (sl : Sl S 1 1 1) {d nm : Nat} (hd : d < 12) (hn : 0 < nm ∧ nm < 128) : Res (fX10_drops r (nI d) (nI nm) h) (some (.int (b2i (sDrop S d nm).1))) h r (sDrop S d nm).2 := by
  have h1 : fX10_isKind r 0 (nI d) 2 h = _ := q_isKind R.rb0 hd (t := 2) (by decide)
  have h2 := q_reached R.rb0 W
  rw [show nI (256 * 0) = 0 from rfl] at h2
  have h3 := m_has (a := rbits (mm S)) (k := d) (by have := rbits_lt (mm S); omega) (by omega) h
  rw [rbits_bit _ hd] at h3
  have h4 : fX10_entry r 0 (nI d) (nI nm) h = _ := q_entryO R.rb0 W.1 hd (by omega)
  unfold fX10_drops kX10_drops_0 sDrop
  rw [h1, bI_s]
  cases hk : isK (mm S) d 2 with
  | false => rw [if_pos b2i_f]; exact res_f R
  | true =>
    rw [if_neg (by decide), h2, bI_s, h3, bI_s]
    cases isR (mm S) d with
    | false => rw [if_pos b2i_f]; exact res_f R
    | true =>
      rw [if_neg (by decide), h4, bI_s]
      cases hf : fent (mm S) d nm with
      | none => rw [oI_n, if_neg (by decide)]; exact res_f R
      | some e =>
        obtain ⟨fe1, fe2⟩ := fent_mem hf
        have he1 := fent_lt W.1 hd hf
        have htag : fd (mm S) d 1 = 2 := by unfold isK at hk; simp at hk; exact hk.2
        have hnode := W.2.2 d hd htag e fe1 (by omega)
        have hrd := R.mem (x := e + 1) (by omega)
        rw [hf] at h4
        rw [oI_s] at h4
        rw [oI_s, if_pos (by rw [nI_eqm (by omega)]; exact fun q => q), h4, bI_s, if_pos R.k, R.l, z_add, k1, nI_add, if_pos (inB_nI (by omega) (by decide)), nI_clamp (by omega), hrd]
        have f1 : fX10_fieldOf r 0 (nI (mm S (e + 1))) (nI 1) h = _ := q_fieldOf R.rb0 hnode (f := 1) (by decide)
        have hN := q_hasNames R.rb0 W.1 hnode
        rw [show nI (256 * 0) = 0 from rfl] at hN
        rw [f1, bI_s]
        have hne : same S (e / 16) (e % 16) 0 = false := by
          unfold same
          rw [if_neg (by omega), show 16 * (e / 16) + e % 16 = e by omega, fe2]
          simp; omega
        have hI : mkI S (e / 16) (e % 16) 0 = sM S + 1 := by unfold mkI; rw [hne]; rfl
        have hM : sM (mk S (e / 16) (e % 16) 0 0 0 0 0) = sM S + 1 := by unfold mk; rw [hne]; rfl
        have go : ∀ n1 : Int32, n1 = nI 1 → Res (bI (fX10_bare r (nI e / 16) (nI e - nI e / 16 * 16) 0 h) fun z26 h25 => (bV (fX10_putsOff r n1 (nI (mm S (e + 1))) z26 h25) fun h28 => (some (.inl (some (.int n1)), h28)))) (some (.int (b2i true))) h r (putO (mk S (e / 16) (e % 16) 0 0 0 0 0) 1 (mm S (e + 1)) (mkI S (e / 16) (e % 16) 0)) := fun n1 hn1 => by
          subst hn1
          rw [k16, pk_div (by omega) (by decide) (by decide), pk_mul, pk_sub (by omega), rem_n]
          refine res_bI (m_bare R (sl.le (by omega) (by omega) (by omega)) (b := e / 16) (p := e % 16) (v := 0) (by omega) (by omega) (by decide)) (fun h5 _ _ R5 => ?_)
          exact res_bV (m_putsOff R5 (sl_mk sl) (a := 1) (b := mm S (e + 1)) (by decide) (by omega) (by rw [hI, hM]; omega)) (fun h6 _ _ R6 => res_t R6)
        have gt : fd (mm S) (mm S (e + 1)) 1 < 128 := bd_mm R.bd _
        change Res _ (some (.int (b2i (if fd (mm S) (mm S (e + 1)) 1 = 2 ∧ hasN (mm S) (mm S (e + 1)) = true then (false, S) else (true, putO (mk S (e / 16) (e % 16) 0 0 0 0 0) 1 (mm S (e + 1)) (mkI S (e / 16) (e % 16) 0))).1))) h r (if fd (mm S) (mm S (e + 1)) 1 = 2 ∧ hasN (mm S) (mm S (e + 1)) = true then (false, S) else (true, putO (mk S (e / 16) (e % 16) 0 0 0 0 0) 1 (mm S (e + 1)) (mkI S (e / 16) (e % 16) 0))).2
        by_cases ht : fd (mm S) (mm S (e + 1)) 1 = 2
        · rw [if_neg (by rw [ht]; decide), hN, bI_s]
          unfold hasN
          cases (ents (mm S) (mm S (e + 1))).any (fun e => !(mm S e == 0)) with
          | false => rw [if_pos b2i_f, if_neg (by simp)]; exact go _ rfl
          | true => rw [if_neg (by decide), if_pos ⟨ht, rfl⟩]; exact res_f R
        · rw [if_pos (by rw [k2, nI_eq (by omega) (by decide)]; exact ht), if_neg (fun q => ht q.1)]
          exact go _ rfl
theorem m_sweepAt_b (R : Row h r S) (hm : kH h m = 18) {z : Nat} (hz : h.2 m 11 = nI z) (hz2 : z ≤ 16) : ∀ (c b q : Nat), b + c = z → c < q →
    gX10_sweepAt q 41 [.ref m, .ref r, .int (nI b)] [] h = some (.inl (some (.int (oI (((List.range' b c).find? (fun b => !(mm S b == 0) && ((ptrF (mm S) (lnkN (mm S)) b).isNone && cntL S 0 b == 0))).map (fun b => 100 + b))))), h) := by
  have hl := q_linked R.rb0
  rw [show nI (256 * 0) = 0 from rfl] at hl
  have hll := lnkN_lt (mm S)
  intro c
  induction c with
  | zero =>
    intro b q hb hq
    obtain ⟨q, rfl⟩ := sc hq
    rw [zX10_sweepAt_41]
    simp (maxSteps := 3000000) (disch := omega) only [kX10_sweepAt_41, hm, hz, ↓reduceIte, if_true, if_false, ite_not, not_true_eq_false, not_false_eq_true, ↓qqI_p, ↓qqR_p, ↓qqV_p, ↓qqIx_p, ↓qqRx_p, ↓qqVx_p, qqI_s, qqR_s, qqV_s, qqIx_s, qqRx_s, qqVx_s, qqIx_t, qqVx_t, ↓letH_s, inB_nI, nI_leI, nI_ltI, nI_eq, nI_eq0, nI_eqm, nI_eqn, nI_le0, nI_lt0, nI_0lt, nI_0le, nI_clamp, pk_mul, nI_add, pk_div, pk_sub, rem_n, z_add, add_z, m_cell, kmk, lmk, rmk, b2i_0, b2i_n1, bft, le_t, le_f, lt_t, lt_f, eq_t, eq_f, k1, k2, k3, k4, k5, k6, k7, k8, k9, k10, k11, k12, k13, k15, k16, k20, k24, k30, k60, k64, k99, k100, k200, k255, k256, k512, k2912, k3392, k3393, k3394, k3395, k3396, k3397, k3398]
    rfl
  | succ c ih =>
    intro b q hb hq
    obtain ⟨q, rfl⟩ := sc hq
    have hx := R.mem (x := b) (by omega)
    have g := bd_mm R.bd b
    have hp := q_pointer R.rb0 (bits := lnkN (mm S)) (b := b) (by omega) (by omega)
    rw [show nI (256 * 0) = 0 from rfl] at hp
    have hla := m_later R (w := 0) (k := b) (by decide) (by omega)
    have hcl : cntL S 0 b ≤ 160 := Nat.le_trans (List.length_filter_le _ _) R.bd.2.1
    have hom := oI_m1' (x := ptrF (mm S) (lnkN (mm S)) b) (fun n hn => by have := ptrF_lt hn; omega)
    have hla' : fX10_later r 0 (nI b) h = some (.inl (some (.int (nI (cntL S 0 b)))), h) := hla
    have ih := ih (b + 1) q (by omega) (by omega)
    rw [zX10_sweepAt_41, List.range'_succ, List.find?_cons]
    simp (maxSteps := 3000000) (disch := omega) only [kX10_sweepAt_41, hm, hz, R.k, R.l, ↓reduceIte, if_true, if_false, ite_not, not_true_eq_false, not_false_eq_true, ↓qqI_p, ↓qqR_p, ↓qqV_p, ↓qqIx_p, ↓qqRx_p, ↓qqVx_p, qqI_s, qqR_s, qqV_s, qqIx_s, qqRx_s, qqVx_s, qqIx_t, qqVx_t, ↓letH_s, inB_nI, nI_leI, nI_ltI, nI_eq, nI_eq0, nI_eqm, nI_eqn, nI_le0, nI_lt0, nI_0lt, nI_0le, nI_clamp, pk_mul, nI_add, pk_div, pk_sub, rem_n, z_add, add_z, m_cell, kmk, lmk, rmk, b2i_0, b2i_n1, bft, le_t, le_f, lt_t, lt_f, eq_t, eq_f, k1, k2, k3, k4, k5, k6, k7, k8, k9, k10, k11, k12, k13, k15, k16, k20, k24, k30, k60, k64, k99, k100, k200, k255, k256, k512, k2912, k3392, k3393, k3394, k3395, k3396, k3397, k3398, hx, hl, hp, hom, hla', ih]
    by_cases e : mm S b = 0
    · simp [e]
    · have e' : (mm S b == 0) = false := by simpa using e
      cases hpp : ptrF (mm S) (lnkN (mm S)) b with
      | some n => simp [e]
      | none =>
        by_cases ec : cntL S 0 b = 0
        · simp [e, e', ec, oI]
        · have ec' : (cntL S 0 b == 0) = false := by simpa using ec
          simp [e, ec, ec']
theorem m_sweepAt (R : Row h r S) (W : Wf (mm S)) (hm : kH h m = 18) {z : Nat} (hz : h.2 m 11 = nI z) (hz1 : 6 ≤ z) (hz2 : z ≤ 16) : fX10_sweepAt m r h = some (.inl (some (.int (oI (swAt S z)))), h) := by
  have go : ∀ (c n q : Nat), n + c = 12 → c + 20 < q → gX10_sweepAt q 2 [.ref m, .ref r, .int (nI n)] [] h = some (.inl (some (.int (oI (match (List.range' n c).find? (fun n => decide (nmd (mm S) n + cntL S 1 n < fd (mm S) n 0)) with | some n => some n | none => (swB S z).map (fun b => 100 + b))))), h) := by
    intro c
    induction c with
    | zero =>
      intro n q hn hq
      obtain ⟨q, rfl⟩ := sc hq
      have := m_sweepAt_b R hm hz hz2 (z - 4) 4 q (by omega) (by omega)
      rw [zX10_sweepAt_2]
      simp (maxSteps := 3000000) (disch := omega) only [kX10_sweepAt_2, ↓reduceIte, if_true, if_false, ite_not, not_true_eq_false, not_false_eq_true, ↓qqI_p, ↓qqR_p, ↓qqV_p, ↓qqIx_p, ↓qqRx_p, ↓qqVx_p, qqI_s, qqR_s, qqV_s, qqIx_s, qqRx_s, qqVx_s, qqIx_t, qqVx_t, ↓letH_s, inB_nI, nI_leI, nI_ltI, nI_eq, nI_eq0, nI_eqm, nI_eqn, nI_le0, nI_lt0, nI_0lt, nI_0le, nI_clamp, pk_mul, nI_add, pk_div, pk_sub, rem_n, z_add, add_z, m_cell, kmk, lmk, rmk, b2i_0, b2i_n1, bft, le_t, le_f, lt_t, lt_f, eq_t, eq_f, k1, k2, k3, k4, k5, k6, k7, k8, k9, k10, k11, k12, k13, k15, k16, k20, k24, k30, k60, k64, k99, k100, k200, k255, k256, k512, k2912, k3392, k3393, k3394, k3395, k3396, k3397, k3398]
      exact this
    | succ c ih =>
      intro n q hn hq
      obtain ⟨q, rfl⟩ := sc hq
      have f0 : fX10_fieldOf r 0 (nI n) 0 h = _ := q_fieldOf R.rb0 (n := n) (f := 0) (by omega) (by decide)
      have hnm := q_named R.rb0 W (k := n) (by omega)
      rw [show nI (256 * 0) = 0 from rfl] at hnm
      have hla := m_later R (w := 1) (k := n) (by decide) (by omega)
      have hcl : cntL S 1 n ≤ 160 := Nat.le_trans (List.length_filter_le _ _) R.bd.2.1
      have hnl : nmd (mm S) n ≤ 16 * 12 := nmdS_le (mm S) n (List.range' 0 12)
      have g0 : fd (mm S) n 0 < 128 := bd_mm R.bd _
      have ih := ih (n + 1) q (by omega) (by omega)
      rw [zX10_sweepAt_2, List.range'_succ, List.find?_cons]
      simp (maxSteps := 3000000) (disch := omega) only [kX10_sweepAt_2, f0, hnm, hla, ↓reduceIte, if_true, if_false, ite_not, not_true_eq_false, not_false_eq_true, ↓qqI_p, ↓qqR_p, ↓qqV_p, ↓qqIx_p, ↓qqRx_p, ↓qqVx_p, qqI_s, qqR_s, qqV_s, qqIx_s, qqRx_s, qqVx_s, qqIx_t, qqVx_t, ↓letH_s, inB_nI, nI_leI, nI_ltI, nI_eq, nI_eq0, nI_eqm, nI_eqn, nI_le0, nI_lt0, nI_0lt, nI_0le, nI_clamp, pk_mul, nI_add, pk_div, pk_sub, rem_n, z_add, add_z, m_cell, kmk, lmk, rmk, b2i_0, b2i_n1, bft, le_t, le_f, lt_t, lt_f, eq_t, eq_f, k1, k2, k3, k4, k5, k6, k7, k8, k9, k10, k11, k12, k13, k15, k16, k20, k24, k30, k60, k64, k99, k100, k200, k255, k256, k512, k2912, k3392, k3393, k3394, k3395, k3396, k3397, k3398, ih]
      by_cases e : fd (mm S) n 0 ≤ nmd (mm S) n + cntL S 1 n
      · have e' : decide (nmd (mm S) n + cntL S 1 n < fd (mm S) n 0) = false := by simp; omega
        simp [e, e']
      · have e' : decide (nmd (mm S) n + cntL S 1 n < fd (mm S) n 0) = true := by simp; omega
        simp [e, e', oI]
  have := go 11 1 FF rfl (by decide)
  exact this
theorem m_crash_go : ∀ (c i q : Nat) (h : Hp), i + c = 256 → kH h r = 1 → lH h r = 3398 → 
    ∃ h', gX10_crashes (q + c) 2 [.ref r, .int (nI i)] [] h = gX10_crashes q 2 [.ref r, .int (nI 256)] [] h' ∧ h'.1 = h.1 ∧ (∀ a, a ≠ r → h'.2 a = h.2 a) ∧ (∀ x, h'.2 r x = if i ≤ x ∧ x < 256 then h.2 r (256 + x) else h.2 r x) := by
  intro c
  induction c with
  | zero =>
    intro i q h hi hk hl
    exact ⟨h, by rw [show i = 256 by omega]; rfl, rfl, fun _ _ => rfl, fun x => by rw [if_neg (by omega)]⟩
  | succ c ih =>
    intro i q h hi hk hl
    obtain ⟨h', i1, i2, i3, i4⟩ := ih (i + 1) q (h.1, upI h.2 r i (h.2 r (256 + i))) (by omega) hk hl
    refine ⟨h', ?_, i2, fun a ha => by rw [i3 a ha]; exact upI_ne ha, fun x => ?_⟩
    · rw [show q + (c + 1) = (q + c) + 1 by omega, zX10_crashes_2, ← i1]
      simp (maxSteps := 3000000) (disch := omega) only [kX10_crashes_2, hk, hl, ↓reduceIte, if_true, if_false, ite_not, not_true_eq_false, not_false_eq_true, ↓qqI_p, ↓qqR_p, ↓qqV_p, ↓qqIx_p, ↓qqRx_p, ↓qqVx_p, qqI_s, qqR_s, qqV_s, qqIx_s, qqRx_s, qqVx_s, qqIx_t, qqVx_t, ↓letH_s, inB_nI, nI_leI, nI_ltI, nI_eq, nI_eq0, nI_eqm, nI_eqn, nI_le0, nI_lt0, nI_0lt, nI_0le, nI_clamp, pk_mul, nI_add, pk_div, pk_sub, rem_n, z_add, add_z, m_cell, kmk, lmk, rmk, b2i_0, b2i_n1, bft, le_t, le_f, lt_t, lt_f, eq_t, eq_f, k1, k2, k3, k4, k5, k6, k7, k8, k9, k10, k11, k12, k13, k15, k16, k20, k24, k30, k60, k64, k99, k100, k200, k255, k256, k512, k2912, k3392, k3393, k3394, k3395, k3396, k3397, k3398]
    · rw [i4]
      dsimp only
      rw [upI_at, upI_at]
      by_cases e : x = i
      · rw [if_neg (by omega), if_pos e, if_pos (by omega), e]
      · rw [if_neg (c := x = i) e]
        by_cases e2 : i + 1 ≤ x ∧ x < 256
        · rw [if_pos e2, if_neg (by omega), if_pos (by omega)]
        · rw [if_neg e2, if_neg (by omega)]
theorem m_crashes (R : Row h r S) : Res (fX10_crashes r h) (some (.int 1)) h r (sCrs S) := by
  obtain ⟨h1, a1, a2, a3, a4⟩ := m_crash_go (r := r) 256 0 999744 h rfl R.k R.l
  obtain ⟨r1, r2, r3, r4, r5, r6, r7, r8, r9, r10⟩ := R.2.2.1
  have K1 := (kh_eq a2 r).trans R.k
  have L1 := (lh_eq a2 r).trans R.l
  have hx : ∀ x, 256 ≤ x → h1.2 r x = h.2 r x := fun x hx => by rw [a4, if_neg (by omega)]
  refine ⟨(h1.1, upI (upI (upI h1.2 r 3392 0) r 3393 0) r 3397 (sK S + 1)), ?_, a2, fun a ha => by dsimp only; rw [upI_ne ha, upI_ne ha, upI_ne ha, a3 a ha], K1, L1, ?_, ?_⟩
  · unfold fX10_crashes kX10_crashes_0
    rw [show FF = 999744 + 256 from rfl]
    refine a1.trans ?_
    rw [show (999744 : Nat) = 999743 + 1 from rfl, zX10_crashes_2]
    unfold kX10_crashes_2
    rw [if_pos (by decide), if_pos K1, L1, if_pos (by decide), if_pos (by decide), if_pos (by decide), upI_at, if_neg (by decide), upI_at, if_neg (by decide), hx _ (by decide), r8]
  · dsimp only
    refine ⟨fun x q => ?_, fun x q => ?_, ?_, ?_, ?_, ?_, ?_, ?_, fun pre c l e => ?_, fun pre e l q => ?_⟩
    · rw [upI_at, if_neg (by omega), upI_at, if_neg (by omega), upI_at, if_neg (by omega), a4, if_pos (by omega), r2 x q]; rfl
    · rw [upI_at, if_neg (by omega), upI_at, if_neg (by omega), upI_at, if_neg (by omega), hx _ (by omega), r2 x q]; rfl
    · rw [upI_at, if_neg (by decide), upI_at, if_neg (by decide), upI_at, if_pos rfl]; rfl
    · rw [upI_at, if_neg (by decide), upI_at, if_pos rfl]; rfl
    · rw [upI_at, if_neg (by decide), upI_at, if_neg (by decide), upI_at, if_neg (by decide), hx _ (by decide)]; exact r5
    · rw [upI_at, if_neg (by decide), upI_at, if_neg (by decide), upI_at, if_neg (by decide), hx _ (by decide)]; exact r6
    · rw [upI_at, if_neg (by decide), upI_at, if_neg (by decide), upI_at, if_neg (by decide), hx _ (by decide)]; exact r7
    · rw [upI_at, if_pos rfl]; rfl
    · have e : ([] : List Ch) = pre ++ c :: l := e
      simp at e
    · have q : ([] : List La) = pre ++ e :: l := q
      simp at q
  · obtain ⟨b1, b2, b3, b4, b5, b6, b7⟩ := R.bd
    exact ⟨Nat.zero_le _, Nat.zero_le _, b3, b4, fun c hc => by have hc : c ∈ ([] : List Ch) := hc; simp at hc, fun c hc => by have hc : c ∈ ([] : List La) := hc; simp at hc, List.Pairwise.nil⟩
end S3
