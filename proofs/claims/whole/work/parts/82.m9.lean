/-! ===== the reference lessens, empties ===== -/
/-- pointers in MEMORY tell blocks -/
def Pt (S : St) : Prop := ∀ n, n < 12 → ∀ f, f = 2 ∨ f = 3 → fd (mm S) n f < 16
section M9
variable {h : Hp} {r m : Nat} {S : St}
theorem pt_mk (P : Pt S) {b p v : Nat} {n1 n2 n3 n4 : Int} (hp : p < 16 ∨ 4 ≤ b) (hv : v < 16 ∨ b = 0 ∨ 4 ≤ b ∨ p % 4 < 2) : Pt (mk S b p v n1 n2 n3 n4) := by
  intro n hn f hf
  have h0 := P n hn f hf
  unfold fd at h0 ⊢
  rw [mm_mk]
  split
  · exact h0
  · split
    · next q =>
      obtain ⟨q1, q2⟩ := tch_iff.mp q
      have q1 : b = (16 + 4 * n + f) / 16 := q1
      have q2 : p = 16 ∨ p = (16 + 4 * n + f) % 16 := q2
      omega
    · exact h0
theorem pt_mkF (P : Pt S) {n f v : Nat} {n1 n2 : Int} (hn : n < 12) (hf : f < 4) (hv : v < 16 ∨ f < 2) : Pt (mkF S n f v n1 n2) := pt_mk P (by omega) (by omega)
theorem pt_putO (P : Pt S) {a b c : Nat} : Pt (putO S a b c) := P
theorem mkF_neS {n f v : Nat} (h : fd (mm S) n f ≠ v) (hf : f < 4) : mkFI S n f v = sM S + 1 ∧ ∀ n1 n2, sM (mkF S n f v n1 n2) = sM S + 1 := by
  have hs : same S (1 + n / 4) (4 * (n % 4) + f) v = false := by
    unfold same
    rw [if_neg (by omega), show 16 * (1 + n / 4) + (4 * (n % 4) + f) = 16 + 4 * n + f by omega]
    simpa [fd] using h
  refine ⟨by unfold mkFI mkI; rw [hs]; rfl, fun n1 n2 => ?_⟩
  unfold mkF mk
  rw [hs]
  rfl
theorem pt_zer (P : Pt S) {n f : Nat} (hn : n < 12) (hf : f < 4) : Pt (zer S n f) := by
  unfold zer
  split
  · exact P
  · exact pt_putO (pt_mkF P hn hf (Or.inl (by decide)))
theorem pt_empt (P : Pt S) {n : Nat} (hn : n < 12) : Pt (empt S n) := pt_zer (pt_zer (pt_mkF P hn (by decide) (Or.inl (by decide))) hn (by decide)) hn (by decide)
theorem pt_setL (P : Pt S) {n k : Nat} (hn : n < 12) : Pt (setL S n k) := by
  unfold setL
  split
  · exact pt_empt (pt_mkF P hn (by decide) (Or.inr (by decide))) hn
  · exact pt_mkF P hn (by decide) (Or.inr (by decide))
theorem pt_less (P : Pt S) {n : Nat} (hn : n < 12) : Pt (less S n) := by
  unfold less
  split
  · exact P
  · exact pt_setL P hn
theorem sl_zer {n f i j k : Nat} (sl : Sl S (i + 1) (j + 1) (k + 1)) : Sl (zer S n f) i j k := by
  unfold zer
  split
  · exact sl.le (by omega) (by omega) (by omega)
  · exact sl_putO (sl_mk sl)
theorem sl_empt {n i j k : Nat} (sl : Sl S (i + 3) (j + 2) (k + 3)) : Sl (empt S n) i j k := sl_zer (sl_zer (sl_mk sl))
theorem sl_setL {n v i j k : Nat} (sl : Sl S (i + 4) (j + 2) (k + 4)) : Sl (setL S n v) i j k := by
  unfold setL
  split
  · exact sl_empt (sl_mk sl)
  · exact (sl_mk (i := i + 3) (k := k + 3) sl).le (by omega) (by omega) (by omega)
theorem sl_less {n i j k : Nat} (sl : Sl S (i + 4) (j + 2) (k + 4)) : Sl (less S n) i j k := by
  unfold less
  split
  · exact sl.le (by omega) (by omega) (by omega)
  · exact sl_setL sl
theorem res_bI {x : RS} {z : Int32} {S1 : St} {k : Int32 → Hp → RS} {o : Option Value} {S2 : St} (a : Res x (some (.int z)) h r S1) (hk : ∀ h', h'.1 = h.1 → (∀ a, a ≠ r → h'.2 a = h.2 a) → Row h' r S1 → Res (k z h') o h' r S2) : Res (bI x k) o h r S2 := by
  obtain ⟨h', a1, a2, a3, a4⟩ := a
  rw [a1, bI_s]
  exact Res.trans (S1 := S1) a2 a3 (hk h' a2 a3 a4)
theorem res_bV {x : RS} {S1 : St} {k : Hp → RS} {o : Option Value} {S2 : St} (a : Res x none h r S1) (hk : ∀ h', h'.1 = h.1 → (∀ a, a ≠ r → h'.2 a = h.2 a) → Row h' r S1 → Res (k h') o h' r S2) : Res (bV x k) o h r S2 := by
  obtain ⟨h', a1, a2, a3, a4⟩ := a
  rw [a1, bV_s]
  exact Res.trans (S1 := S1) a2 a3 (hk h' a2 a3 a4)
theorem m_zer_go (R : Row h r S) (P : Pt S) {n : Nat} (hn : n < 12) {f : Nat} (hf : f = 2 ∨ f = 3) {i j k : Nat} (sl : Sl S (i + 1) (j + 1) (k + 1)) {q : Nat} {o : Option Value} {S2 : St}
    (hk : ∀ h', h'.1 = h.1 → (∀ a, a ≠ r → h'.2 a = h.2 a) → Row h' r (zer S n f) → Res (gX10_empties q 12 [.ref r, .int (nI n), .int (nI (f + 1)), uV] [] h') o h' r S2) :
    Res (gX10_empties (q + 1) 12 [.ref r, .int (nI n), .int (nI f), uV] [] h) o h r S2 := by
  have hb := P n hn f hf
  rw [zX10_empties_12]
  unfold kX10_empties_12
  rw [if_neg (by rw [k3, nI_ltI (by decide) (by omega)]; omega), m_fieldOf0 R hn (by omega), bI_s]
  by_cases e : fd (mm S) n f = 0
  · rw [e, if_pos nI_0, nI_1]
    have := hk h rfl (fun _ _ => rfl) (by unfold zer; rw [if_pos e]; exact R)
    exact this
  · rw [if_neg (by rw [nI_eq0 (by omega)]; exact e)]
    obtain ⟨e1, e2⟩ := mkF_neS (S := S) (n := n) (f := f) (v := 0) e (by omega)
    have sl1 : Sl (mkF S n f 0 0 0) i (j + 1) k := sl_mk sl
    refine res_bI (m_field R (sl.le (by omega) (by omega) (by omega)) hn (by omega) (by decide) ⟨by decide, by omega⟩ ⟨by decide, by omega⟩ (v := 0) (n1 := 0) (n2 := 0)) (fun h1 a1 a2 R1 => ?_)
    refine res_bV (m_putsOff R1 (sl1.le (by omega) (by omega) (by omega)) (a := 0) (b := fd (mm S) n f) (by decide) hb (by rw [e1, e2]; omega)) (fun h2 b1 b2 R2 => ?_)
    rw [nI_1]
    exact Res.trans (S1 := S) rfl (fun _ _ => rfl) (by
      have := hk h2 (b1.trans a1) (fun a ha => by rw [b2 a ha, a2 a ha]) (by unfold zer; rw [if_neg e]; exact R2)
      exact this)
theorem m_empties (R : Row h r S) (P : Pt S) {n : Nat} (hn : n < 12) {i j k : Nat} (sl : Sl S (i + 3) (j + 2) (k + 3)) : Res (fX10_empties r (nI n) h) none h r (empt S n) := by
  unfold fX10_empties kX10_empties_0
  refine res_bI (m_field R (sl.le (by omega) (by omega) (by omega)) hn (by decide) (by decide) ⟨by decide, by omega⟩ ⟨by decide, by omega⟩ (f := 1) (v := 0) (n1 := 0) (n2 := 0)) (fun h1 a1 a2 R1 => ?_)
  have P1 : Pt (mkF S n 1 0 0 0) := pt_mkF P hn (by decide) (Or.inl (by decide))
  have sl1 : Sl (mkF S n 1 0 0 0) (i + 2) (j + 2) (k + 2) := sl_mk sl
  rw [show FF = 999997 + 1 + 1 + 1 from rfl]
  refine m_zer_go R1 P1 hn (f := 2) (Or.inl rfl) sl1 (fun h2 b1 b2 R2 => ?_)
  refine m_zer_go R2 (pt_zer P1 hn (by decide)) hn (f := 3) (Or.inr rfl) (sl_zer sl1) (fun h3 c1 c2 R3 => ?_)
  refine ⟨h3, ?_, rfl, fun _ _ => rfl, R3⟩
  rw [zX10_empties_12]
  unfold kX10_empties_12
  rw [if_pos (by decide)]
theorem m_lessens (R : Row h r S) (P : Pt S) {n : Nat} (hn : n < 12) {i j k : Nat} (sl : Sl S (i + 4) (j + 2) (k + 4)) : Res (fX10_lessens r (nI n) h) none h r (less S n) := by
  have hb := bd_mm R.bd (16 + 4 * n + 0)
  unfold fX10_lessens kX10_lessens_0
  have hf0 : fX10_fieldOf r 0 (nI n) 0 h = some (.inl (some (.int (nI (fd (mm S) n 0)))), h) := m_fieldOf0 R hn (f := 0) (by decide)
  rw [hf0, bI_s]
  unfold less
  by_cases e : fd (mm S) n 0 = 0
  · rw [e, if_neg (by decide), if_pos rfl]
    exact ⟨h, rfl, rfl, fun _ _ => rfl, R⟩
  · obtain ⟨q, hq⟩ : ∃ q, fd (mm S) n 0 = q + 1 := ⟨fd (mm S) n 0 - 1, by omega⟩
    have hq2 : q < 128 := by have : fd (mm S) n 0 < 128 := hb; omega
    rw [hq, nI_pred, if_pos (nI_pos' (by omega)), if_neg (by omega)]
    refine res_bI (m_field R (sl.le (by omega) (by omega) (by omega)) hn (by decide) hq2 ⟨by decide, by omega⟩ ⟨by decide, by omega⟩ (f := 0) (v := q) (n1 := 0) (n2 := 0)) (fun h1 a1 a2 R1 => ?_)
    have P1 : Pt (mkF S n 0 q 0 0) := pt_mkF P hn (by decide) (Or.inr (by decide))
    have sl1 : Sl (mkF S n 0 q 0 0) (i + 3) (j + 2) (k + 3) := sl_mk sl
    unfold setL
    rw [Nat.add_sub_cancel]
    by_cases e0 : q = 0
    · subst e0
      rw [if_neg (by decide), if_pos rfl]
      refine res_bV (m_empties R1 P1 hn sl1) (fun h2 b1 b2 R2 => ⟨h2, rfl, rfl, fun _ _ => rfl, R2⟩)
    · rw [if_pos (by rw [nI_eq0 (by omega)]; exact e0), if_neg e0]
      exact ⟨h1, rfl, rfl, fun _ _ => rfl, R1⟩
end M9
