/-! ===== steps: names, blocks given ===== -/
noncomputable def newName (S : St) (d nm : Nat) : Bool := isK (mm S) d 2 && (isR (mm S) d && ((fent (mm S) d nm).isNone && (fent (mm S) d 0).isSome))
def nameE (S : St) (e nm node n1 n2 n3 : Nat) : St := mk (mk S (e / 16) (e % 16 + 1) node (latest S (e / 16) (e % 16) : Int) 0 0 0) (e / 16) (e % 16) nm (n1 : Int) (n2 : Int) (n3 : Int) (mkI S (e / 16) (e % 16 + 1) node : Int)
/-- used, wiped; then the pointer -/
def gets2 (S : St) (b v : Nat) : St := mk (mk S 0 b 1 0 0 0 0) b 16 v 0 0 0 0
def getsN (S : St) (b v : Nat) : Int := if mkI (mk S 0 b 1 0 0 0 0) b 16 v = 0 then -(b : Int) else (mkI (mk S 0 b 1 0 0 0 0) b 16 v : Int)
def gets (S : St) (n b f v : Nat) : St := mkF (gets2 S b v) n f b (mkI S 0 b 1 : Int) (getsN S b v)
def getsI (S : St) (n b f v : Nat) : Nat := mkFI (gets2 S b v) n f b
theorem sM_mk (S : St) (b p v : Nat) (n1 n2 n3 n4 : Int) : sM S ≤ sM (mk S b p v n1 n2 n3 n4) := by
  unfold mk
  split
  · exact Nat.le_refl _
  · show sM S ≤ sM S + 1
    omega
theorem latest_le {S : St} (B : Bd S) (b p : Nat) : latest S b p ≤ sM S := by
  unfold latest
  have : ∀ (l : List Ch) (q : Nat), (∀ c ∈ l, cI c ≤ sM S) → q ≤ sM S → l.foldl (fun q c => if cB c = b ∧ cP c = p then cI c else q) q ≤ sM S := by
    intro l
    induction l with
    | nil => exact fun q _ h => h
    | cons c l ih =>
      intro q hl hq
      refine ih _ (fun e he => hl e (List.mem_cons_of_mem _ he)) ?_
      dsimp only
      split
      · exact hl c List.mem_cons_self
      · exact hq
  exact this _ 0 (fun c hc => (B.2.2.2.2.1 c hc).2.1) (Nat.zero_le _)
section S1
variable {h : Hp} {r m : Nat} {S : St}
theorem m_freeNode_go (R : RB h r 0 (mm S)) : ∀ (c n q : Nat), n + c = 12 → c < q →
    gX10_freeNode q 2 [.ref r, .int (nI n)] [] h = some (.inl (some (.int (oI ((List.range' n c).find? (fun n => fd (mm S) n 0 == 0 && fd (mm S) n 1 == 0))))), h) := by
  intro c
  induction c with
  | zero =>
    intro n q hn hq
    obtain ⟨q, rfl⟩ := sc hq
    rw [zX10_freeNode_2]
    simp (maxSteps := 3000000) (disch := omega) only [kX10_freeNode_2, ↓reduceIte, if_true, if_false, ite_not, not_true_eq_false, not_false_eq_true, ↓qqI_p, ↓qqR_p, ↓qqV_p, ↓qqIx_p, ↓qqRx_p, ↓qqVx_p, qqI_s, qqR_s, qqV_s, qqIx_s, qqRx_s, qqVx_s, qqIx_t, qqVx_t, ↓letH_s, inB_nI, nI_leI, nI_ltI, nI_eq, nI_eq0, nI_eqm, nI_eqn, nI_le0, nI_lt0, nI_0lt, nI_0le, nI_clamp, pk_mul, nI_add, pk_div, pk_sub, rem_n, z_add, add_z, m_cell, kmk, lmk, rmk, b2i_0, b2i_n1, bft, le_t, le_f, lt_t, lt_f, eq_t, eq_f, k1, k2, k3, k4, k5, k6, k7, k8, k9, k10, k11, k12, k13, k15, k16, k20, k24, k30, k60, k64, k99, k100, k200, k255, k256, k512, k2912, k3392, k3393, k3394, k3395, k3396, k3397, k3398]
    rfl
  | succ c ih =>
    intro n q hn hq
    obtain ⟨q, rfl⟩ := sc hq
    have h0 : fX10_fieldOf r 0 (nI n) 0 h = _ := q_fieldOf R (n := n) (f := 0) (by omega) (by decide)
    have h1 : fX10_fieldOf r 0 (nI n) (nI 1) h = _ := q_fieldOf R (n := n) (f := 1) (by omega) (by decide)
    have g0 : fd (mm S) n 0 < 128 := R.2.2.2.2 _
    have g1 : fd (mm S) n 1 < 128 := R.2.2.2.2 _
    have ih := ih (n + 1) q (by omega) (by omega)
    rw [zX10_freeNode_2, List.range'_succ, List.find?_cons]
    simp (maxSteps := 3000000) (disch := omega) only [kX10_freeNode_2, h0, h1, ↓reduceIte, if_true, if_false, ite_not, not_true_eq_false, not_false_eq_true, ↓qqI_p, ↓qqR_p, ↓qqV_p, ↓qqIx_p, ↓qqRx_p, ↓qqVx_p, qqI_s, qqR_s, qqV_s, qqIx_s, qqRx_s, qqVx_s, qqIx_t, qqVx_t, ↓letH_s, inB_nI, nI_leI, nI_ltI, nI_eq, nI_eq0, nI_eqm, nI_eqn, nI_le0, nI_lt0, nI_0lt, nI_0le, nI_clamp, pk_mul, nI_add, pk_div, pk_sub, rem_n, z_add, add_z, m_cell, kmk, lmk, rmk, b2i_0, b2i_n1, bft, le_t, le_f, lt_t, lt_f, eq_t, eq_f, k1, k2, k3, k4, k5, k6, k7, k8, k9, k10, k11, k12, k13, k15, k16, k20, k24, k30, k60, k64, k99, k100, k200, k255, k256, k512, k2912, k3392, k3393, k3394, k3395, k3396, k3397, k3398, ih]
    by_cases e0 : fd (mm S) n 0 = 0
    · by_cases e1 : fd (mm S) n 1 = 0
      · simp [e0, e1, oI]
      · have e1' : (fd (mm S) n 1 == 0) = false := by simpa using e1
        simp [e0, e1, e1']
    · have e0' : (fd (mm S) n 0 == 0) = false := by simpa using e0
      simp [e0, e0']
theorem m_freeNode (R : Row h r S) : fX10_freeNode r h = some (.inl (some (.int (oI (fNode (mm S))))), h) := m_freeNode_go R.rb0 12 0 FF rfl (by decide)
theorem m_freeBlock_go (R : Row h r S) (hm : kH h m = 18) {z : Nat} (hz : h.2 m 11 = nI z) (hz2 : z ≤ 16) : ∀ (c b q : Nat), b + c = z → c < q →
    gX10_freeBlock q 2 [.ref m, .ref r, .int (nI b)] [] h = some (.inl (some (.int (oI ((List.range' b c).find? (fun b => mm S b == 0))))), h) := by
  intro c
  induction c with
  | zero =>
    intro b q hb hq
    obtain ⟨q, rfl⟩ := sc hq
    rw [zX10_freeBlock_2]
    simp (maxSteps := 3000000) (disch := omega) only [kX10_freeBlock_2, hm, hz, ↓reduceIte, if_true, if_false, ite_not, not_true_eq_false, not_false_eq_true, ↓qqI_p, ↓qqR_p, ↓qqV_p, ↓qqIx_p, ↓qqRx_p, ↓qqVx_p, qqI_s, qqR_s, qqV_s, qqIx_s, qqRx_s, qqVx_s, qqIx_t, qqVx_t, ↓letH_s, inB_nI, nI_leI, nI_ltI, nI_eq, nI_eq0, nI_eqm, nI_eqn, nI_le0, nI_lt0, nI_0lt, nI_0le, nI_clamp, pk_mul, nI_add, pk_div, pk_sub, rem_n, z_add, add_z, m_cell, kmk, lmk, rmk, b2i_0, b2i_n1, bft, le_t, le_f, lt_t, lt_f, eq_t, eq_f, k1, k2, k3, k4, k5, k6, k7, k8, k9, k10, k11, k12, k13, k15, k16, k20, k24, k30, k60, k64, k99, k100, k200, k255, k256, k512, k2912, k3392, k3393, k3394, k3395, k3396, k3397, k3398]
    rfl
  | succ c ih =>
    intro b q hb hq
    obtain ⟨q, rfl⟩ := sc hq
    have hx := R.mem (x := b) (by omega)
    have g := bd_mm R.bd b
    have ih := ih (b + 1) q (by omega) (by omega)
    rw [zX10_freeBlock_2, List.range'_succ, List.find?_cons]
    simp (maxSteps := 3000000) (disch := omega) only [kX10_freeBlock_2, hm, hz, R.k, R.l, ↓reduceIte, if_true, if_false, ite_not, not_true_eq_false, not_false_eq_true, ↓qqI_p, ↓qqR_p, ↓qqV_p, ↓qqIx_p, ↓qqRx_p, ↓qqVx_p, qqI_s, qqR_s, qqV_s, qqIx_s, qqRx_s, qqVx_s, qqIx_t, qqVx_t, ↓letH_s, inB_nI, nI_leI, nI_ltI, nI_eq, nI_eq0, nI_eqm, nI_eqn, nI_le0, nI_lt0, nI_0lt, nI_0le, nI_clamp, pk_mul, nI_add, pk_div, pk_sub, rem_n, z_add, add_z, m_cell, kmk, lmk, rmk, b2i_0, b2i_n1, bft, le_t, le_f, lt_t, lt_f, eq_t, eq_f, k1, k2, k3, k4, k5, k6, k7, k8, k9, k10, k11, k12, k13, k15, k16, k20, k24, k30, k60, k64, k99, k100, k200, k255, k256, k512, k2912, k3392, k3393, k3394, k3395, k3396, k3397, k3398, hx, ih]
    by_cases e : mm S b = 0
    · simp [e, oI]
    · have e' : (mm S b == 0) = false := by simpa using e
      simp [e, e']
theorem m_freeBlock (R : Row h r S) (hm : kH h m = 18) {z : Nat} (hz : h.2 m 11 = nI z) (hz1 : 6 ≤ z) (hz2 : z ≤ 16) : fX10_freeBlock m r h = some (.inl (some (.int (oI (fBlock (mm S) z)))), h) :=
  m_freeBlock_go R hm hz hz2 (z - 4) 4 FF (by omega) (by show _ < 1000000; omega)
theorem m_isFull (R : Row h r S) : fX10_isFull r h = some (.inl (some (.int (b2i (decide (60 ≤ (sC S).length) || decide (30 ≤ (sL S).length))))), h) := by
  have h1 := R.bd.1
  have h2 := R.bd.2.1
  unfold fX10_isFull
  simp (maxSteps := 3000000) (disch := omega) only [kX10_isFull_0, R.k, R.l, R.many, R.put, ↓reduceIte, if_true, if_false, ite_not, not_true_eq_false, not_false_eq_true, ↓qqI_p, ↓qqR_p, ↓qqV_p, ↓qqIx_p, ↓qqRx_p, ↓qqVx_p, qqI_s, qqR_s, qqV_s, qqIx_s, qqRx_s, qqVx_s, qqIx_t, qqVx_t, ↓letH_s, inB_nI, nI_leI, nI_ltI, nI_eq, nI_eq0, nI_eqm, nI_eqn, nI_le0, nI_lt0, nI_0lt, nI_0le, nI_clamp, pk_mul, nI_add, pk_div, pk_sub, rem_n, z_add, add_z, m_cell, kmk, lmk, rmk, b2i_0, b2i_n1, bft, le_t, le_f, lt_t, lt_f, eq_t, eq_f, k1, k2, k3, k4, k5, k6, k7, k8, k9, k10, k11, k12, k13, k15, k16, k20, k24, k30, k60, k64, k99, k100, k200, k255, k256, k512, k2912, k3392, k3393, k3394, k3395, k3396, k3397, k3398]
  by_cases e1 : 60 ≤ (sC S).length
  · simp [e1, b2i, ← k1]
  · by_cases e2 : (sL S).length < 30
    · simp [e1, e2, b2i]
    · have e3 : 30 ≤ (sL S).length := by omega
      simp [e1, e2, e3, b2i, ← k1]
theorem fent_mem {B : Nat → Nat} {n nm e : Nat} (hf : fent B n nm = some e) : e ∈ ents B n ∧ B e = nm := by
  have h1 := List.mem_of_find?_eq_some hf
  have h2 := List.find?_some hf
  exact ⟨h1, by simpa using h2⟩
theorem fent_lt {B : Nat → Nat} (P : Pb B) {n nm e : Nat} (hn : n < 12) (hf : fent B n nm = some e) : e + 1 < 256 := ents_lt P hn (fent_mem hf).1
theorem q_entryO {w : Nat} {B : Nat → Nat} (R : RB h r w B) (P : Pb B) {n nm : Nat} (hn : n < 12) (hm : nm < 2 ^ 31) : fX10_entry r (nI (256 * w)) (nI n) (nI nm) h = some (.inl (some (.int (oI (fent B n nm)))), h) := q_entry R P hn hm
theorem m_isNewName (R : Row h r S) (W : Wf (mm S)) {d nm : Nat} (hd : d < 12) (hm : nm < 2 ^ 31) : fX10_isNewName m r (nI d) (nI nm) h = some (.inl (some (.int (b2i (newName S d nm)))), h) := by
  have h1 : fX10_isKind r 0 (nI d) 2 h = _ := q_isKind R.rb0 hd (t := 2) (by decide)
  have h2 := q_reached R.rb0 W
  rw [show nI (256 * 0) = 0 from rfl] at h2
  have h3 := m_has (a := rbits (mm S)) (k := d) (by have := rbits_lt (mm S); omega) (by omega) h
  rw [rbits_bit _ hd] at h3
  have h4 : fX10_entry r 0 (nI d) (nI nm) h = _ := q_entryO R.rb0 W.1 hd hm
  have h5 : fX10_entry r 0 (nI d) 0 h = _ := q_entryO R.rb0 W.1 hd (nm := 0) (by decide)
  have o4 := oI_m1 (x := fent (mm S) d nm) (fun n hn => by have := fent_lt W.1 hd hn; omega)
  have o5 := oI_m1 (x := fent (mm S) d 0) (fun n hn => by have := fent_lt W.1 hd hn; omega)
  unfold fX10_isNewName kX10_isNewName_0 newName
  rw [h1, bI_s]
  cases isK (mm S) d 2 with
  | false => rfl
  | true =>
    rw [if_neg (by decide), h2, bI_s, h3, bI_s]
    cases isR (mm S) d with
    | false => rfl
    | true =>
      rw [if_neg (by decide), h4, bI_s]
      cases hf : fent (mm S) d nm with
      | some e => rw [hf] at o4; rw [if_pos (by rw [o4]; simp)]; rfl
      | none =>
        rw [if_neg (by simp [oI]), h5, bI_s]
        cases hg : fent (mm S) d 0 with
        | some e => rw [hg] at o5; rw [if_neg (by rw [o5]; simp)]; rfl
        | none => rfl
theorem m_names (R : Row h r S) (sl : Sl S 2 0 2) {e nm node n1 n2 n3 : Nat} (he : e + 1 < 256) (he2 : e % 2 = 0) (hnm : nm < 128) (hnd : node < 128) (hn1 : n1 ≤ sM S) (hn2 : n2 ≤ sM S) (hn3 : n3 ≤ sM S) :
    Res (fX10_names r (nI e) (nI nm) (nI node) (nI n1) (nI n2) (nI n3) h) none h r (nameE S e nm node n1 n2 n3) := by
  have hl := m_latest R (b := e / 16) (p := e % 16) (by omega) (by omega)
  have hll := latest_le R.bd (e / 16) (e % 16)
  unfold fX10_names kX10_names_0
  simp (disch := omega) only [k16, k1, pk_div, pk_mul, pk_sub, rem_n, nI_add]
  rw [hl, bI_s]
  have hm1 := m_makes R (sl.le (by omega) (by omega) (by omega)) (b := e / 16) (p := e % 16 + 1) (v := node) (n1 := (latest S (e / 16) (e % 16) : Int)) (n2 := 0) (n3 := 0) (n4 := 0) (by omega) (by omega) hnd (fun z hz => by
    simp at hz
    rcases hz with rfl | rfl
    · omega
    · omega)
  rw [nz_n] at hm1
  refine res_bI hm1 (fun h1 a1 a2 R1 => ?_)
  have hM := sM_mk S (e / 16) (e % 16 + 1) node (latest S (e / 16) (e % 16) : Int) 0 0 0
  have hI := mkI_le S (e / 16) (e % 16 + 1) node (latest S (e / 16) (e % 16) : Int) 0 0 0
  have hm2 := m_makes R1 (sl_mk (i := 1) (j := 0) (k := 1) sl) (b := e / 16) (p := e % 16) (v := nm) (n1 := (n1 : Int)) (n2 := (n2 : Int)) (n3 := (n3 : Int)) (n4 := (mkI S (e / 16) (e % 16 + 1) node : Int)) (by omega) (by omega) hnm (fun z hz => by
    simp at hz
    rcases hz with rfl | rfl | rfl | rfl <;> omega)
  simp only [nz_n] at hm2
  exact res_bI hm2 (fun h2 b1 b2 R2 => ⟨h2, rfl, rfl, fun _ _ => rfl, R2⟩)
theorem m_gets (R : Row h r S) (sl : Sl S 3 0 3) {n b f v : Nat} (hn : n < 12) (hb : b < 16) (hf : f < 4) (hv : v < 128) : Res (fX10_gets r (nI n) (nI b) (nI f) (nI v) h) (some (.int (nI (getsI S n b f v)))) h r (gets S n b f v) := by
  unfold fX10_gets kX10_gets_0
  refine res_bI (m_bare R (sl.le (by omega) (by omega) (by omega)) (b := 0) (p := b) (v := 1) (by decide) (by omega) (by decide)) (fun h1 a1 a2 R1 => ?_)
  refine res_bI (m_bare R1 ((sl_mk (i := 2) (j := 0) (k := 2) sl).le (by omega) (by omega) (by omega)) (b := b) (p := 16) (v := v) hb (by decide) hv) (fun h2 b1 b2 R2 => ?_)
  have hM1 := sM_mk S 0 b 1 0 0 0 0
  have hM2 := sM_mk (mk S 0 b 1 0 0 0 0) b 16 v 0 0 0 0
  have hI1 := mkI_le S 0 b 1 0 0 0 0
  have hI2 := mkI_le (mk S 0 b 1 0 0 0 0) b 16 v 0 0 0 0
  have s3 : Sl (gets2 S b v) 1 0 1 := sl_mk (i := 1) (j := 0) (k := 1) (sl_mk (i := 2) (j := 0) (k := 2) sl)
  have b3 := R2.bd.2.2.1
  have hN : -16 < getsN S b v ∧ getsN S b v ≤ sM (gets2 S b v) := by
    unfold getsN gets2
    split <;> omega
  have hm := m_field R2 s3 (n := n) (f := f) (v := b) (n1 := (mkI S 0 b 1 : Int)) (n2 := getsN S b v) hn hf (by omega) ⟨by omega, by omega⟩ hN
  rw [nz_n] at hm
  by_cases e : mkI (mk S 0 b 1 0 0 0 0) b 16 v = 0
  · rw [if_neg (by rw [e]; decide)]
    rw [show getsN S b v = -(b : Int) by unfold getsN; rw [if_pos e], ← nz_neg] at hm
    refine res_bI hm (fun h3 c1 c2 R3 => ⟨h3, rfl, rfl, fun _ _ => rfl, ?_⟩)
    unfold gets
    rw [show getsN S b v = -(b : Int) by unfold getsN; rw [if_pos e]]
    exact R3
  · rw [if_pos (by rw [nI_eq0 (by omega)]; exact e)]
    have hg : getsN S b v = (mkI (mk S 0 b 1 0 0 0 0) b 16 v : Int) := by unfold getsN; rw [if_neg e]
    rw [hg, nz_n] at hm
    refine res_bI hm (fun h3 c1 c2 R3 => ⟨h3, rfl, rfl, fun _ _ => rfl, ?_⟩)
    unfold gets
    rw [hg]
    exact R3
end S1
