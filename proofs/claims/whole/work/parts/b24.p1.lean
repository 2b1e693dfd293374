/-! ===== broken: the class's entries ===== -/
def sr (f : Nat → Nat) : Nat → Nat → Nat
  | _, 0 => 0
  | d, c + 1 => f d + sr f (d + 1) c
theorem sr_0 (f : Nat → Nat) (d : Nat) : sr f d 0 = 0 := rfl
theorem sr_s (f : Nat → Nat) (d c : Nat) : sr f d (c + 1) = f d + sr f (d + 1) c := rfl
theorem sr_add (f g : Nat → Nat) (c d : Nat) : sr (fun i => f i + g i) d c = sr f d c + sr g d c := by
  induction c generalizing d with
  | zero => rfl
  | succ c ih => rw [sr_s, sr_s, sr_s, ih]; omega
theorem sr_z (c d : Nat) : sr (fun _ => 0) d c = 0 := by
  induction c generalizing d with
  | zero => rfl
  | succ c ih => rw [sr_s, ih]
theorem sr_cg {f g : Nat → Nat} (c d : Nat) (h : ∀ i, d ≤ i → i < d + c → f i = g i) : sr f d c = sr g d c := by
  induction c generalizing d with
  | zero => rfl
  | succ c ih => rw [sr_s, sr_s, h d (by omega) (by omega), ih (d + 1) (fun i h1 h2 => h i (by omega) (by omega))]
theorem sr_le {f : Nat → Nat} {M : Nat} (h : ∀ i, f i ≤ M) (c d : Nat) : sr f d c ≤ M * c := by
  induction c generalizing d with
  | zero => exact Nat.zero_le _
  | succ c ih => rw [sr_s, Nat.mul_succ]; have := h d; have := ih (d + 1); omega
theorem sr_swap (g : Nat → Nat → Nat) (c d : Nat) : ∀ (m t : Nat), sr (fun t => sr (g t) d c) t m = sr (fun d => sr (fun t => g t d) t m) d c := by
  intro m
  induction m with
  | zero => intro t; rw [sr_0]; exact (sr_z c d).symm
  | succ m ih =>
    intro t
    rw [sr_s, ih (t + 1), ← sr_add]
    exact sr_cg c d (fun i _ _ => rfl)
theorem sr_one {x : Nat} (v : Nat) (c d : Nat) : sr (fun t => if t = x then v else 0) d c = if d ≤ x ∧ x < d + c then v else 0 := by
  induction c generalizing d with
  | zero => rw [sr_0, if_neg (by omega)]
  | succ c ih =>
    rw [sr_s, ih (d + 1)]
    by_cases h : d = x
    · rw [if_pos h, if_neg (by omega), if_pos (by omega)]; omega
    · rw [if_neg h]
      by_cases h2 : d + 1 ≤ x ∧ x < d + 1 + c
      · rw [if_pos h2, if_pos (by omega)]; omega
      · rw [if_neg h2, if_neg (by omega)]
/-- not both LINKS and TAG -/
def notW (B : Nat → Nat) (t : Nat) : Bool := fd B t 0 == 0 || fd B t 1 == 0
def brE (B : Nat → Nat) (d : Nat) : Nat := ((ents B d).filter (fun e => !(B e == 0) && notW B (B (e + 1)))).length
theorem brE_sum (B : Nat → Nat) (l : List Nat) (h : ∀ e ∈ l, B e ≠ 0 → B (e + 1) < 12) : sr (fun t => if notW B t = true then (l.filter (fun e => !(B e == 0) && B (e + 1) == t)).length else 0) 0 12 = (l.filter (fun e => !(B e == 0) && notW B (B (e + 1)))).length := by
  induction l with
  | nil =>
    refine Eq.trans (sr_cg 12 0 (g := fun _ => 0) (fun i _ _ => ?_)) (sr_z 12 0)
    show (if notW B i = true then 0 else 0) = 0
    split <;> rfl
  | cons e l ih =>
    have ih := ih (fun e' he' => h e' (List.mem_cons_of_mem _ he'))
    by_cases h0 : B e = 0
    · have h0' : (B e == 0) = true := by simpa using h0
      simp only [List.filter_cons, h0', Bool.not_true, Bool.false_and, Bool.false_eq_true, if_false]
      exact ih
    · have h0' : (B e == 0) = false := by simpa using h0
      have hy := h e List.mem_cons_self h0
      have hsum : sr (fun t => if notW B t = true then ((e :: l).filter (fun e => !(B e == 0) && B (e + 1) == t)).length else 0) 0 12 = sr (fun t => (if t = B (e + 1) then (if notW B (B (e + 1)) = true then 1 else 0) else 0) + (if notW B t = true then (l.filter (fun e => !(B e == 0) && B (e + 1) == t)).length else 0)) 0 12 := by
        refine sr_cg 12 0 (fun t _ _ => ?_)
        rw [List.filter_cons]
        by_cases ht : t = B (e + 1)
        · have ht' : (B (e + 1) == t) = true := by simpa using ht.symm
          rw [if_pos ht, h0', ht']
          simp only [Bool.not_false, Bool.and_self, if_true, List.length_cons]
          rw [← ht]
          split <;> omega
        · have ht' : (B (e + 1) == t) = false := by simpa using fun q => ht q.symm
          rw [if_neg ht, h0', ht']
          simp only [Bool.and_false, Bool.false_eq_true, if_false]
          omega
      rw [hsum, sr_add, ih, sr_one, if_pos ⟨Nat.zero_le _, by omega⟩, List.filter_cons, h0']
      simp only [Bool.not_false, Bool.true_and]
      by_cases hw : notW B (B (e + 1)) = true
      · rw [if_pos hw, if_pos hw, List.length_cons]; omega
      · rw [if_neg hw, if_neg hw]; omega
/-- one directory's part -/
noncomputable def brD (B : Nat → Nat) (d : Nat) : Nat := if (rbits B).testBit d = true ∧ isK B d 2 = true then brE B d else 0
noncomputable def gTD (B : Nat → Nat) (t d : Nat) : Nat := if notW B t = true then (if (rbits B).testBit d = true then (if isK B d 2 = true then cntE B d t else 0) else 0) else 0
theorem gTD_sum (B : Nat → Nat) (W : Wf B) : sr (fun t => sr (gTD B t) 0 12) 0 12 = sr (brD B) 0 12 := by
  rw [sr_swap]
  refine sr_cg 12 0 (fun d _ hd => ?_)
  unfold brD gTD
  by_cases hr : (rbits B).testBit d = true
  · by_cases hk : isK B d 2 = true
    · rw [if_pos ⟨hr, hk⟩]
      have ht : fd B d 1 = 2 := by unfold isK at hk; simp at hk; exact hk.2
      refine Eq.trans (sr_cg 12 0 (fun t _ _ => ?_)) (brE_sum B (ents B d) (fun e he h0 => W.2.2 d (by omega) ht e he h0))
      rw [if_pos hr, if_pos hk]
      rfl
    · rw [if_neg (fun h => hk h.2)]
      refine Eq.trans (sr_cg 12 0 (g := fun _ => 0) (fun t _ _ => ?_)) (sr_z 12 0)
      rw [if_pos hr, if_neg hk]
      split <;> rfl
  · rw [if_neg (fun h => hr h.1)]
    refine Eq.trans (sr_cg 12 0 (g := fun _ => 0) (fun t _ _ => ?_)) (sr_z 12 0)
    rw [if_neg hr]
    split <;> rfl
theorem gTD_le (B : Nat → Nat) (t d : Nat) : gTD B t d ≤ 16 := by
  unfold gTD cntE
  split
  · split
    · split
      · exact Nat.le_trans (List.length_filter_le _ _) (ents_len B d)
      · omega
    · omega
  · omega
section P1
variable {h : Hp} {s w : Nat} {B : Nat → Nat}
theorem t_be_in (R : CB h s w B) (W : Wf B) {t : Nat} (ht : t < 12) (hn : notW B t = true) : ∀ (c d n a : Nat), d + c = 12 → a + 16 * c < 2 ^ 31 →
    gX8_brokenEntries (n + c + 1) 50 [.ref s, .int (nI w), .int (nI (rbits B)), .int (nI a), .int (nI t), .int 0, .int (nI d)] [] h = gX8_brokenEntries n 11 [.ref s, .int (nI w), .int (nI (rbits B)), .int (nI (a + sr (gTD B t) d c)), .int (nI (t + 1)), uV, uV] [] h := by
  have hrb : rbits B < 2 ^ 12 := bitsOf_lt _ 12
  intro c
  induction c with
  | zero =>
    intro d n a hd ha
    have : d = 12 := by omega
    subst this
    rw [Nat.add_zero, zX8_brokenEntries_50]
    unfold kX8_brokenEntries_50
    have ht1 : nI t + 1 = nI (t + 1) := by simp (maxSteps := 3000000) (disch := omega) only [↓reduceIte, if_true, if_false, ite_not, not_true_eq_false, not_false_eq_true, ↓qqI_p, ↓qqR_p, ↓qqV_p, ↓qqIx_p, ↓qqRx_p, ↓qqVx_p, qqI_s, qqR_s, qqV_s, qqIx_s, qqRx_s, qqVx_s, qqIx_t, qqVx_t, ↓letH_s, inB_nI, nI_leI, nI_ltI, nI_eq, nI_eq0, nI_eqm, nI_eqn, nI_le0, nI_lt0, nI_0lt, nI_0le, nI_clamp, pk_mul, nI_add, pk_div, pk_sub, rem_n, z_add, add_z, m_cell, kmk, lmk, rmk, b2i_0, b2i_n1, bft, le_t, le_f, lt_t, lt_f, eq_t, eq_f, k1, k2, k3, k4, k5, k6, k7, k8, k9, k10, k11, k12, k13, k15, k16, k20, k24, k30, k60, k64, k99, k100, k200, k255, k256, k512, k2912, k3392, k3393, k3394, k3395, k3396, k3397, k3398]
    rw [if_neg (by simp), if_pos (by decide), ht1]
    rfl
  | succ c ih =>
    intro d n a hd ha
    have hd1 : nI d + 1 = nI (d + 1) := by simp (maxSteps := 3000000) (disch := omega) only [↓reduceIte, if_true, if_false, ite_not, not_true_eq_false, not_false_eq_true, ↓qqI_p, ↓qqR_p, ↓qqV_p, ↓qqIx_p, ↓qqRx_p, ↓qqVx_p, qqI_s, qqR_s, qqV_s, qqIx_s, qqRx_s, qqVx_s, qqIx_t, qqVx_t, ↓letH_s, inB_nI, nI_leI, nI_ltI, nI_eq, nI_eq0, nI_eqm, nI_eqn, nI_le0, nI_lt0, nI_0lt, nI_0le, nI_clamp, pk_mul, nI_add, pk_div, pk_sub, rem_n, z_add, add_z, m_cell, kmk, lmk, rmk, b2i_0, b2i_n1, bft, le_t, le_f, lt_t, lt_f, eq_t, eq_f, k1, k2, k3, k4, k5, k6, k7, k8, k9, k10, k11, k12, k13, k15, k16, k20, k24, k30, k60, k64, k99, k100, k200, k255, k256, k512, k2912, k3392, k3393, k3394, k3395, k3396, k3397, k3398]
    have htn := t_timesNamed R W.1 (d := d) (t := t) (by omega) (by omega)
    rw [show n + (c + 1) + 1 = (n + c + 1) + 1 by omega, zX8_brokenEntries_50, sr_s]
    unfold kX8_brokenEntries_50
    rw [if_neg (by simp), if_neg (by simp (maxSteps := 3000000) (disch := omega) only [↓reduceIte, if_true, if_false, ite_not, not_true_eq_false, not_false_eq_true, ↓qqI_p, ↓qqR_p, ↓qqV_p, ↓qqIx_p, ↓qqRx_p, ↓qqVx_p, qqI_s, qqR_s, qqV_s, qqIx_s, qqRx_s, qqVx_s, qqIx_t, qqVx_t, ↓letH_s, inB_nI, nI_leI, nI_ltI, nI_eq, nI_eq0, nI_eqm, nI_eqn, nI_le0, nI_lt0, nI_0lt, nI_0le, nI_clamp, pk_mul, nI_add, pk_div, pk_sub, rem_n, z_add, add_z, m_cell, kmk, lmk, rmk, b2i_0, b2i_n1, bft, le_t, le_f, lt_t, lt_f, eq_t, eq_f, k1, k2, k3, k4, k5, k6, k7, k8, k9, k10, k11, k12, k13, k15, k16, k20, k24, k30, k60, k64, k99, k100, k200, k255, k256, k512, k2912, k3392, k3393, k3394, k3395, k3396, k3397, k3398] <;> omega), bit_nI (by omega) (by omega)]
    cases hb : (rbits B).testBit d with
    | false =>
      rw [if_pos (show b2i false = 0 from rfl), hd1, ih (d + 1) n a (by omega) (by omega)]
      have : gTD B t d = 0 := by unfold gTD; rw [if_pos hn, if_neg (by rw [hb]; decide)]
      rw [this, Nat.zero_add]
    | true =>
      have hg : (if isK B d 2 = true then cntE B d t else 0) = gTD B t d := by unfold gTD; rw [if_pos hn, if_pos hb]
      have hle := gTD_le B t d
      rw [if_neg (by decide), htn, bI_s, hg, hd1]
      have hadd : nI a + nI (gTD B t d) = nI (a + gTD B t d) := by simp (maxSteps := 3000000) (disch := omega) only [↓reduceIte, if_true, if_false, ite_not, not_true_eq_false, not_false_eq_true, ↓qqI_p, ↓qqR_p, ↓qqV_p, ↓qqIx_p, ↓qqRx_p, ↓qqVx_p, qqI_s, qqR_s, qqV_s, qqIx_s, qqRx_s, qqVx_s, qqIx_t, qqVx_t, ↓letH_s, inB_nI, nI_leI, nI_ltI, nI_eq, nI_eq0, nI_eqm, nI_eqn, nI_le0, nI_lt0, nI_0lt, nI_0le, nI_clamp, pk_mul, nI_add, pk_div, pk_sub, rem_n, z_add, add_z, m_cell, kmk, lmk, rmk, b2i_0, b2i_n1, bft, le_t, le_f, lt_t, lt_f, eq_t, eq_f, k1, k2, k3, k4, k5, k6, k7, k8, k9, k10, k11, k12, k13, k15, k16, k20, k24, k30, k60, k64, k99, k100, k200, k255, k256, k512, k2912, k3392, k3393, k3394, k3395, k3396, k3397, k3398]
      rw [hadd, ih (d + 1) n (a + gTD B t d) (by omega) (by omega), Nat.add_assoc]
theorem t_be_go (R : CB h s w B) (W : Wf B) : ∀ (c t n a : Nat), t + c = 12 → a + 16 * 12 * c < 2 ^ 31 →
    gX8_brokenEntries (n + 14 * c + 1) 11 [.ref s, .int (nI w), .int (nI (rbits B)), .int (nI a), .int (nI t), uV, uV] [] h = some (.inl (some (.int (nI (a + sr (fun t => sr (gTD B t) 0 12) t c)))), h) := by
  have hrb : rbits B < 2 ^ 12 := bitsOf_lt _ 12
  intro c
  induction c with
  | zero =>
    intro t n a ht ha
    have : t = 12 := by omega
    subst this
    rw [Nat.mul_zero, Nat.add_zero, zX8_brokenEntries_11]
    unfold kX8_brokenEntries_11
    rw [if_pos (by decide)]
    rfl
  | succ c ih =>
    intro t n a ht ha
    have ht1 : nI t + 1 = nI (t + 1) := by simp (maxSteps := 3000000) (disch := omega) only [↓reduceIte, if_true, if_false, ite_not, not_true_eq_false, not_false_eq_true, ↓qqI_p, ↓qqR_p, ↓qqV_p, ↓qqIx_p, ↓qqRx_p, ↓qqVx_p, qqI_s, qqR_s, qqV_s, qqIx_s, qqRx_s, qqVx_s, qqIx_t, qqVx_t, ↓letH_s, inB_nI, nI_leI, nI_ltI, nI_eq, nI_eq0, nI_eqm, nI_eqn, nI_le0, nI_lt0, nI_0lt, nI_0le, nI_clamp, pk_mul, nI_add, pk_div, pk_sub, rem_n, z_add, add_z, m_cell, kmk, lmk, rmk, b2i_0, b2i_n1, bft, le_t, le_f, lt_t, lt_f, eq_t, eq_f, k1, k2, k3, k4, k5, k6, k7, k8, k9, k10, k11, k12, k13, k15, k16, k20, k24, k30, k60, k64, k99, k100, k200, k255, k256, k512, k2912, k3392, k3393, k3394, k3395, k3396, k3397, k3398]
    have h0 : fX5_nodeField s (nI w) (nI t) 0 h = some (.inl (some (.int (nI (fd B t 0)))), h) := c_nodeField R (n := t) (f := 0) (by omega) (by decide)
    have h1 : fX5_nodeField s (nI w) (nI t) 1 h = some (.inl (some (.int (nI (fd B t 1)))), h) := c_nodeField R (n := t) (f := 1) (by omega) (by decide)
    have g0 : fd B t 0 < 128 := R.2.2.2 _
    have g1 : fd B t 1 < 128 := R.2.2.2 _
    have hle := sr_le (gTD_le B t) 12 0
    have fin : notW B t = true → gX8_brokenEntries (n + 14 * (c + 1)) 50 [.ref s, .int (nI w), .int (nI (rbits B)), .int (nI a), .int (nI t), .int 0, .int 0] [] h = some (.inl (some (.int (nI (a + sr (fun t => sr (gTD B t) 0 12) t (c + 1))))), h) := fun hn => by
      have hin := t_be_in R W (by omega) hn 12 0 (n + 14 * c + 1) a rfl (by omega)
      rw [show n + 14 * (c + 1) = n + 14 * c + 1 + 12 + 1 by omega]
      refine Eq.trans hin ?_
      rw [ih (t + 1) n (a + sr (gTD B t) 0 12) (by omega) (by omega), sr_s (fun t => sr (gTD B t) 0 12) t c, Nat.add_assoc]
    rw [zX8_brokenEntries_11]
    unfold kX8_brokenEntries_11
    rw [if_neg (by simp (maxSteps := 3000000) (disch := omega) only [↓reduceIte, if_true, if_false, ite_not, not_true_eq_false, not_false_eq_true, ↓qqI_p, ↓qqR_p, ↓qqV_p, ↓qqIx_p, ↓qqRx_p, ↓qqVx_p, qqI_s, qqR_s, qqV_s, qqIx_s, qqRx_s, qqVx_s, qqIx_t, qqVx_t, ↓letH_s, inB_nI, nI_leI, nI_ltI, nI_eq, nI_eq0, nI_eqm, nI_eqn, nI_le0, nI_lt0, nI_0lt, nI_0le, nI_clamp, pk_mul, nI_add, pk_div, pk_sub, rem_n, z_add, add_z, m_cell, kmk, lmk, rmk, b2i_0, b2i_n1, bft, le_t, le_f, lt_t, lt_f, eq_t, eq_f, k1, k2, k3, k4, k5, k6, k7, k8, k9, k10, k11, k12, k13, k15, k16, k20, k24, k30, k60, k64, k99, k100, k200, k255, k256, k512, k2912, k3392, k3393, k3394, k3395, k3396, k3397, k3398] <;> omega), if_pos R.1.1, h0, bI_s]
    by_cases e0 : fd B t 0 = 0
    · rw [if_pos (by rw [e0]; rfl)]
      exact fin (by unfold notW; rw [e0]; rfl)
    · rw [if_neg (by rw [nI_eq0 (by omega)]; exact e0), if_pos R.1.1, h1, bI_s]
      by_cases e1 : fd B t 1 = 0
      · rw [if_pos (by rw [e1]; rfl)]
        exact fin (by unfold notW; rw [e1]; simp)
      · rw [if_neg (by rw [nI_eq0 (by omega)]; exact e1)]
        have hw : notW B t = false := by unfold notW; simp [e0, e1]
        have hz : sr (gTD B t) 0 12 = 0 := by
          refine Eq.trans (sr_cg 12 0 (g := fun _ => 0) (fun d _ _ => ?_)) (sr_z 12 0)
          unfold gTD
          rw [if_neg (by rw [hw]; decide)]
        rw [show n + 14 * (c + 1) = (n + 13 + 14 * c) + 1 by omega, zX8_brokenEntries_50]
        unfold kX8_brokenEntries_50
        rw [if_pos (by decide), ht1, show n + 13 + 14 * c = (n + 12) + 14 * c + 1 by omega, ih (t + 1) (n + 12) a (by omega) (by omega), sr_s (fun t => sr (gTD B t) 0 12) t c, hz, Nat.zero_add]
theorem t_be (R : CB h s w B) (W : Wf B) : fX8_brokenEntries s (nI w) h = some (.inl (some (.int (nI (sr (brD B) 0 12)))), h) := by
  have hr := t_reached R W
  unfold fX8_brokenEntries kX8_brokenEntries_0
  rw [hr, bI_s]
  have := t_be_go R W 12 0 999831 0 rfl (by decide)
  refine Eq.trans this ?_
  rw [gTD_sum B W, Nat.zero_add]
end P1
