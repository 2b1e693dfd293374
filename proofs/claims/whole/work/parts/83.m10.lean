/-! ===== the reference does what was put off; writes ===== -/
/-- a state with more put off ahead -/
def pW (Q : List La) (Y : St) : St := (sD Y, sC Y, Q ++ sL Y, sM Y, sW Y, sH Y, sK Y)
theorem pW_mk (Q : List La) (Y : St) (b p v : Nat) (n1 n2 n3 n4 : Int) : mk (pW Q Y) b p v n1 n2 n3 n4 = pW Q (mk Y b p v n1 n2 n3 n4) := by
  have hs : same (pW Q Y) b p v = same Y b p v := rfl
  unfold mk
  rw [hs]
  split <;> rfl
theorem pW_mkI (Q : List La) (Y : St) (b p v : Nat) : mkI (pW Q Y) b p v = mkI Y b p v := rfl
theorem pW_putO (Q : List La) (Y : St) (a b c : Nat) : putO (pW Q Y) a b c = pW Q (putO Y a b c) := by
  show (sD Y, sC Y, (Q ++ sL Y) ++ [(a, b, c)], sM Y, sW Y, sH Y, sK Y) = (sD Y, sC Y, Q ++ (sL Y ++ [(a, b, c)]), sM Y, sW Y, sH Y, sK Y)
  rw [List.append_assoc]
theorem pW_zer (Q : List La) (Y : St) (n f : Nat) : zer (pW Q Y) n f = pW Q (zer Y n f) := by
  unfold zer
  have h1 : fd (mm (pW Q Y)) n f = fd (mm Y) n f := rfl
  rw [h1]
  split
  · rfl
  · unfold mkF mkFI
    rw [pW_mk, pW_putO]
    rfl
theorem pW_empt (Q : List La) (Y : St) (n : Nat) : empt (pW Q Y) n = pW Q (empt Y n) := by
  unfold empt mkF
  rw [pW_mk, pW_zer, pW_zer]
theorem pW_setL (Q : List La) (Y : St) (n k : Nat) : setL (pW Q Y) n k = pW Q (setL Y n k) := by
  unfold setL mkF
  rw [pW_mk, pW_empt]
  split <;> rfl
theorem pW_less (Q : List La) (Y : St) (n : Nat) : less (pW Q Y) n = pW Q (less Y n) := by
  unfold less
  have h1 : fd (mm (pW Q Y)) n 0 = fd (mm Y) n 0 := rfl
  rw [h1, pW_setL]
  split <;> rfl
theorem pW_dol (Q : List La) (Y : St) (e : La) : dol (pW Q Y) e = pW Q (dol Y e) := by
  unfold dol
  rw [pW_mk, pW_less]
  split <;> rfl
theorem pW_dols (Q : List La) (l : List La) (Y : St) : l.foldl dol (pW Q Y) = pW Q (l.foldl dol Y) := by
  induction l generalizing Y with
  | nil => rfl
  | cons e l ih => rw [List.foldl_cons, List.foldl_cons, pW_dol, ih]
/-- what a thing put off costs -/
def co1 (l : List La) : Nat := (l.map (fun e => if e.1 = 0 then 1 else 4)).sum
def co2 (l : List La) : Nat := (l.map (fun e => if e.1 = 0 then 0 else 2)).sum
theorem co1_cons (e : La) (l : List La) : co1 (e :: l) = (if e.1 = 0 then 1 else 4) + co1 l := by simp [co1]
theorem co2_cons (e : La) (l : List La) : co2 (e :: l) = (if e.1 = 0 then 0 else 2) + co2 l := by simp [co2]
theorem sl_dol {S : St} {e : La} {i j k : Nat} (sl : Sl S (i + if e.1 = 0 then 1 else 4) (j + if e.1 = 0 then 0 else 2) (k + if e.1 = 0 then 1 else 4)) : Sl (dol S e) i j k := by
  unfold dol
  by_cases h : e.1 = 0
  · rw [if_pos h]
    simp only [h, if_true] at sl
    exact sl_mk sl
  · rw [if_neg h]
    simp only [h, if_false] at sl
    exact sl_less sl
theorem pt_dol {S : St} {e : La} (P : Pt S) (he : e.1 = 0 ∨ e.2.1 < 12) (hb : e.2.1 < 16) : Pt (dol S e) := by
  unfold dol
  by_cases h : e.1 = 0
  · rw [if_pos h]
    exact pt_mk P (Or.inl hb) (Or.inl (by decide))
  · rw [if_neg h]
    exact pt_less P (by omega)
def mk1 (e : La) : La := (e.1, e.2.1, 4294967295)
section M10
variable {h : Hp} {r m : Nat} {S : St}
theorem m_isGone {G : List Ch} (M : MO h m) (g : Gn h m G) (hG : G.length ≤ 200) (hI : ∀ c ∈ G, cI c < 2 ^ 31) {x : Nat} (hx : x < 2 ^ 31) : fX10_isGone m (nI x) h = some (.inl (some (.int (b2i (G.any (fun c => cI c == x))))), h) := by
  obtain ⟨M0, -, -, M4, M5, M6⟩ := M
  have go : ∀ (l pre : List Ch) (n : Nat), G = pre ++ l → l.length < n → gX10_isGone n 2 [.ref m, .int (nI x), .int (nI pre.length)] [] h = some (.inl (some (.int (b2i (l.any (fun c => cI c == x))))), h) := by
    intro l
    induction l with
    | nil =>
      intro pre n e hn
      obtain ⟨n, rfl⟩ := sc hn
      have hl : G.length = pre.length := by rw [e]; simp
      rw [zX10_isGone_2]
      simp (maxSteps := 3000000) (disch := omega) only [kX10_isGone_2, M0, g.1, hl, ↓reduceIte, if_true, if_false, ite_not, not_true_eq_false, not_false_eq_true, ↓qqI_p, ↓qqR_p, ↓qqV_p, ↓qqIx_p, ↓qqRx_p, ↓qqVx_p, qqI_s, qqR_s, qqV_s, qqIx_s, qqRx_s, qqVx_s, qqIx_t, qqVx_t, ↓letH_s, inB_nI, nI_leI, nI_ltI, nI_eq, nI_eq0, nI_eqm, nI_eqn, nI_le0, nI_lt0, nI_0lt, nI_0le, nI_clamp, pk_mul, nI_add, pk_div, pk_sub, rem_n, z_add, add_z, m_cell, kmk, lmk, rmk, b2i_0, b2i_n1, bft, le_t, le_f, lt_t, lt_f, eq_t, eq_f, k1, k2, k3, k4, k5, k6, k7, k8, k9, k10, k11, k12, k13, k15, k16, k20, k24, k30, k60, k64, k99, k100, k200, k255, k256, k512, k2912, k3392, k3393, k3394, k3395, k3396, k3397, k3398, List.any_nil, b2i_f]
    | cons c l ih =>
      intro pre n e hn
      obtain ⟨n, rfl⟩ := sc hn
      have hl : G.length = pre.length + 1 + l.length := by rw [e]; simp; omega
      have hc := g.2 pre c l e
      have hi := hI c (by rw [e]; simp)
      have ih := ih (pre ++ [c]) n (app1 e) (by simp at hn ⊢; omega)
      rw [len1] at ih
      rw [zX10_isGone_2]
      simp (maxSteps := 3000000) (disch := omega) only [kX10_isGone_2, M0, M4, M5, M6, g.1, hl, ↓reduceIte, if_true, if_false, ite_not, not_true_eq_false, not_false_eq_true, ↓qqI_p, ↓qqR_p, ↓qqV_p, ↓qqIx_p, ↓qqRx_p, ↓qqVx_p, qqI_s, qqR_s, qqV_s, qqIx_s, qqRx_s, qqVx_s, qqIx_t, qqVx_t, ↓letH_s, inB_nI, nI_leI, nI_ltI, nI_eq, nI_eq0, nI_eqm, nI_eqn, nI_le0, nI_lt0, nI_0lt, nI_0le, nI_clamp, pk_mul, nI_add, pk_div, pk_sub, rem_n, z_add, add_z, m_cell, kmk, lmk, rmk, b2i_0, b2i_n1, bft, le_t, le_f, lt_t, lt_f, eq_t, eq_f, k1, k2, k3, k4, k5, k6, k7, k8, k9, k10, k11, k12, k13, k15, k16, k20, k24, k30, k60, k64, k99, k100, k200, k255, k256, k512, k2912, k3392, k3393, k3394, k3395, k3396, k3397, k3398, hc, ih, List.any_cons]
      by_cases e1 : cI c = x
      · simp [e1, b2i, ← k1]
      · have e3 : (cI c == x) = false := by simpa using e1
        simp [e1, e3]
  exact go G [] FF rfl (by show G.length < 1000000; omega)
theorem row_mark {P T : List La} {e : La} {Y : St} (R : Row h r (pW (P ++ e :: T) Y)) : Row (h.1, upI h.2 r (2912 + 3 * P.length + 2) (-1)) r (pW (P ++ mk1 e :: T) Y) := by
  obtain ⟨R1, R2, R3, R4⟩ := R
  have hl : P.length + 1 + T.length + (sL Y).length ≤ 160 := by
    have : ((P ++ e :: T) ++ sL Y).length ≤ 160 := R4.2.1
    simp at this
    omega
  have hx : ∀ x, x ≠ 2912 + 3 * P.length + 2 → upI h.2 r (2912 + 3 * P.length + 2) (-1) r x = h.2 r x := fun x q => by rw [upI_at, if_neg q]
  have hcl : (sC (pW (P ++ e :: T) Y)).length ≤ 200 := R4.1
  obtain ⟨r1, r2, r3, r4, r5, r6, r7, r8, r9, r10⟩ := R3
  refine ⟨R1, R2, ⟨fun x q => ?_, fun x q => ?_, ?_, ?_, ?_, ?_, ?_, ?_, fun pre c l q => ?_, fun pre z l q => ?_⟩, ?_⟩
  · dsimp only; rw [hx _ (by omega)]; exact r1 x q
  · dsimp only; rw [hx _ (by omega)]; exact r2 x q
  · dsimp only; rw [hx _ (by omega)]; exact r3
  · dsimp only; rw [hx _ (by omega), r4]
    show nI ((P ++ e :: T) ++ sL Y).length = nI ((P ++ mk1 e :: T) ++ sL Y).length
    simp
  · dsimp only; rw [hx _ (by omega)]; exact r5
  · dsimp only; rw [hx _ (by omega)]; exact r6
  · dsimp only; rw [hx _ (by omega)]; exact r7
  · dsimp only; rw [hx _ (by omega)]; exact r8
  · have hq : (sC (pW (P ++ e :: T) Y)).length = pre.length + 1 + l.length := by rw [show sC (pW (P ++ e :: T) Y) = pre ++ c :: l from q]; simp; omega
    exact (r9 pre c l q).mv (fun i hi => hx _ (by omega))
  · have hs : (P ++ mk1 e :: T) ++ sL Y = ((P ++ e :: T) ++ sL Y).set P.length (mk1 e) := by simp
    have r11 := sp_get (L := (P ++ e :: T) ++ sL Y) (F := fun k e => h.2 r (2912 + 3 * k) = nI e.1 ∧ h.2 r (2912 + 3 * k + 1) = nI e.2.1 ∧ h.2 r (2912 + 3 * k + 2) = nI e.2.2) |>.mp r10
    refine sp_get (L := (P ++ mk1 e :: T) ++ sL Y) (F := fun k e => upI h.2 r (2912 + 3 * P.length + 2) (-1) r (2912 + 3 * k) = nI e.1 ∧ upI h.2 r (2912 + 3 * P.length + 2) (-1) r (2912 + 3 * k + 1) = nI e.2.1 ∧ upI h.2 r (2912 + 3 * P.length + 2) (-1) r (2912 + 3 * k + 2) = nI e.2.2) |>.mpr (fun k z hk => ?_) pre z l q
    rw [hs, List.getElem?_set] at hk
    by_cases hkP : P.length = k
    · rw [if_pos hkP] at hk
      split at hk
      · cases hk
        obtain ⟨q0, q1, q2⟩ := r11 P.length e (by simp)
        rw [← hkP]
        refine ⟨by rw [hx _ (by omega)]; exact q0, by rw [hx _ (by omega)]; exact q1, ?_⟩
        rw [upI_at, if_pos rfl]
        rfl
      · cases hk
    · rw [if_neg hkP] at hk
      obtain ⟨q0, q1, q2⟩ := r11 k z hk
      exact ⟨by rw [hx _ (by omega)]; exact q0, by rw [hx _ (by omega)]; exact q1, by rw [hx _ (by omega)]; exact q2⟩
  · obtain ⟨b1, b2, b3, b4, b5, b6, b7⟩ := R4
    refine ⟨b1, ?_, b3, b4, b5, fun z hz => ?_, b7⟩
    · show ((P ++ mk1 e :: T) ++ sL Y).length ≤ 160
      simp
      omega
    · have hz : z ∈ (P ++ mk1 e :: T) ++ sL Y := hz
      have hb6 : ∀ z ∈ (P ++ e :: T) ++ sL Y, laB (sM Y) z := b6
      simp only [List.mem_append, List.mem_cons] at hz
      rcases hz with (q | q | q) | q
      · exact hb6 z (by simp [q])
      · have := hb6 e (by simp)
        subst q
        exact ⟨this.1, this.2.1, by show 1 ≤ 4294967295; decide, Or.inr rfl⟩
      · exact hb6 z (by simp [q])
      · exact hb6 z (by simp [q])
end M10
