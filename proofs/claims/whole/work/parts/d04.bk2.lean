/-! ===== the book, the reference; status, count, fault ===== -/
section BK2
variable {h : Hp} {x m z k : Nat} {S : St} {ls : List (Nat × Nat)} {a b c d : Int32}
theorem RBk.scm {h h' : Hp} (K : RBk h m ls) (s : ScM h h' m) : RBk h' m ls := ⟨K.1, (s.2.2 13 (by unfold perF; omega)).trans K.2.1, fun k q hq => by
  have hk : k < ls.length := (List.getElem?_eq_some_iff.mp hq).1
  have := K.1.1
  rw [s.2.1 (m + 4 + k) (by unfold perM; omega)]
  exact K.2.2 k q hq⟩
theorem MS.row {h : Hp} {m : Nat} (M : MS h m) {k : Nat} (hk : k < 16) : rH h m 19 = m + 3 ∧ kH h (m + 3) = 7 ∧ lH h (m + 3) = 16 ∧ rH h (m + 3) k = m + 4 + k ∧ kH h (m + 4 + k) = 1 ∧ lH h (m + 4 + k) = 2 := by
  obtain ⟨⟨a1, a2, a3⟩, a4⟩ := M.lin
  obtain ⟨b1, b2, b3⟩ := a4 k hk
  rw [show m + 3 + 1 + k = m + 4 + k by omega] at b1 b2 b3
  exact ⟨a1, a2, a3, b1, b2, b3⟩
theorem RBk.at (K : RBk h m ls) {pre l : List (Nat × Nat)} {q : Nat × Nat} (e : ls = pre ++ q :: l) : pre.length < 16 ∧ q.1 < 16 ∧ q.2 < 256 ∧ h.2 (m + 4 + pre.length) 0 = nI q.1 ∧ h.2 (m + 4 + pre.length) 1 = nI q.2 := by
  have hl := K.1.1
  have hq := K.1.2.2 q (by rw [e]; simp)
  have := K.2.2 pre.length q (by rw [e]; simp)
  rw [e] at hl
  simp at hl
  exact ⟨by omega, hq.1, hq.2, this.1, this.2⟩
theorem m_told_go (M : MS h m) (K : RBk h m ls) {p : Nat} (hp : p < 16) : ∀ (l pre : List (Nat × Nat)) (f : Nat), ls = pre ++ l → l.length < f →
    gX10_isTold f 2 [.ref m, .int (nI p), .int (nI pre.length)] [] h = some (.inl (some (.int (b2i (l.any (fun q => q.1 == p))))), h) := by
  have hl := K.1.1
  intro l
  induction l with
  | nil =>
    intro pre f e hf
    obtain ⟨f, rfl⟩ := sc hf
    rw [List.append_nil] at e
    rw [zX10_isTold_2]
    unfold kX10_isTold_2
    rw [if_pos M.k, K.2.1, if_pos (by rw [nI_leI (by omega) (by rw [← e]; omega), e]; exact Nat.le_refl _)]
    rfl
  | cons q l ih =>
    intro pre f e hf
    obtain ⟨f, rfl⟩ := sc hf
    obtain ⟨c1, c2, c3, c4, c5⟩ := K.at e
    obtain ⟨r1, r2, r3, r4, r5, r6⟩ := M.row c1
    have hlen : ls.length = pre.length + (l.length + 1) := by rw [e]; simp
    have hi := ih (pre ++ [q]) f (by rw [e]; simp) (by simp at hf; omega)
    rw [List.length_append, List.length_singleton] at hi
    rw [zX10_isTold_2]
    unfold kX10_isTold_2
    rw [if_pos M.k, K.2.1, if_neg (by rw [nI_leI (by omega) (by omega)]; omega), r1, if_pos r2, r3, if_pos (inB_nI c1 (by decide)), nI_clamp (by omega), r4, if_pos r5, r6, if_pos (by decide), c4, nI_1, hi, List.any_cons]
    by_cases w : q.1 = p
    · rw [if_neg (fun t => t (by rw [w])), show (q.1 == p) = true by simp [w], Bool.true_or]
      rfl
    · rw [if_pos (by rw [nI_eq (by omega) (by omega)]; exact w), show (q.1 == p) = false by simp [w], Bool.false_or]
theorem any_bkF (ls : List (Nat × Nat)) (p : Nat) : ls.any (fun q => q.1 == p) = (bkF ls p).isSome := by
  unfold bkF
  rw [Option.isSome_map, Bool.eq_iff_iff, List.find?_isSome, List.any_eq_true]
theorem m_told (M : MS h m) (K : RBk h m ls) {p : Nat} (hp : p < 16) : fX10_isTold m (nI p) h = some (.inl (some (.int (b2i (bkF ls p).isSome))), h) := by
  have := m_told_go M K hp ls [] FF rfl (by have := K.1.1; show _ < 1000000; omega)
  rw [any_bkF] at this
  exact this
theorem m_so_go (M : MS h m) (K : RBk h m ls) (B : Bd S) {b : Nat} (hv : ∀ j, j < 16 → h.2 (m + 148) j = nI (cpy S b j)) : ∀ (l pre : List (Nat × Nat)) (f : Nat), ls = pre ++ l → l.length < f →
    gX10_isSo f 12 [.ref m, uV, .int (nI pre.length)] [] h = some (.inl (some (.int (b2i (l.all (fun q => cpy S b q.1 == q.2))))), h) := by
  have hl := K.1.1
  obtain ⟨o1, -, ⟨o2, o3, o4⟩, -⟩ := M.mo
  intro l
  induction l with
  | nil =>
    intro pre f e hf
    obtain ⟨f, rfl⟩ := sc hf
    rw [List.append_nil] at e
    rw [zX10_isSo_12]
    unfold kX10_isSo_12
    rw [if_pos M.k, K.2.1, if_pos (by rw [nI_leI (by omega) (by rw [← e]; omega), e]; exact Nat.le_refl _)]
    rfl
  | cons q l ih =>
    intro pre f e hf
    obtain ⟨f, rfl⟩ := sc hf
    obtain ⟨c1, c2, c3, c4, c5⟩ := K.at e
    obtain ⟨r1, r2, r3, r4, r5, r6⟩ := M.row c1
    have hlen : ls.length = pre.length + (l.length + 1) := by rw [e]; simp
    have hc := cpy_lt B b q.1
    have hi := ih (pre ++ [q]) f (by rw [e]; simp) (by simp at hf; omega)
    rw [List.length_append, List.length_singleton] at hi
    rw [zX10_isSo_12]
    unfold kX10_isSo_12
    rw [if_pos M.k, K.2.1, if_neg (by rw [nI_leI (by omega) (by omega)]; omega), r1, if_pos r2, r3, if_pos (inB_nI c1 (by decide)), nI_clamp (by omega), r4, if_pos r5, r6, if_pos (by decide), o2, if_pos o3, o4, c4, if_pos (inB_nI c2 (by decide)), if_pos (by decide), nI_clamp (by omega), hv q.1 c2, c5, nI_1, hi, List.all_cons]
    by_cases w : cpy S b q.1 = q.2
    · rw [if_pos (by rw [w]), show (cpy S b q.1 == q.2) = true by simp [w], Bool.true_and]
    · rw [if_neg (by rw [nI_eq (by omega) (by omega)]; exact w), show (cpy S b q.1 == q.2) = false by simp [w], Bool.false_and]
      rfl
theorem m_so (Q : RQ h m S z) (K : RBk h m ls) {b : Nat} (hb : b < 16) : ∃ h', fX10_isSo m (nI b) h = some (.inl (some (.int (b2i (fitQ S ls b)))), h') ∧ ScM h h' m ∧ h'.2 m = h.2 m := by
  obtain ⟨M, R, Z⟩ := id Q
  obtain ⟨n1, n2, n3⟩ := M.now
  obtain ⟨h1, a1, a2, a3, a4, a5⟩ := m_copiesBlock (b := b) hb (m := m) (by omega) R M.mo
  obtain ⟨s1, s2⟩ := scm_cb a2 a3
  refine ⟨h1, ?_, s1, s2⟩
  unfold fX10_isSo kX10_isSo_0
  rw [if_pos M.k, n1, a1, bI_s, fitQ_all K.1]
  exact m_so_go (M.eq a2) (K.scm s1) R.bd a5 ls [] FF rfl (by have := K.1.1; show _ < 1000000; omega)
theorem m_fitsNow_go (hz2 : z ≤ 16) : ∀ (c b f : Nat) (h : Hp), b + c = z → c < f → RQ h m S z → RBk h m ls →
    ∃ h', gX10_fitsNow f 4 [.ref m, .int (nI (fitN S ls b)), .int (nI b)] [] h = some (.inl (some (.int (nI (fitN S ls z)))), h') ∧ ScM h h' m ∧ h'.2 m = h.2 m := by
  intro c
  induction c with
  | zero =>
    intro b f h hb hf Q K
    obtain ⟨f, rfl⟩ := sc hf
    obtain ⟨M, R, Z⟩ := id Q
    have : b = z := by omega
    subst this
    refine ⟨h, ?_, ScM.refl h m, rfl⟩
    rw [zX10_fitsNow_4]
    unfold kX10_fitsNow_4
    rw [if_pos M.k, Z, if_pos (by rw [nI_leI (by omega) (by omega)]; omega)]
  | succ c ih =>
    intro b f h hb hf Q K
    obtain ⟨f, rfl⟩ := sc hf
    obtain ⟨M, R, Z⟩ := id Q
    obtain ⟨n1, n2, n3⟩ := M.now
    have hlt := fitN_lt S ls (z := b) (by omega)
    have hp2 : 2 ^ b < 2 ^ 31 := p2lt (by omega)
    have hfs : fitN S ls (b + 1) = fitN S ls b ||| (if fitB S ls b then 2 ^ b else 0) := rfl
    rw [zX10_fitsNow_4]
    unfold kX10_fitsNow_4
    rw [if_pos M.k, Z, if_neg (by rw [nI_leI (by omega) (by omega)]; omega), n1, m_isDirty R (by omega), bI_s, nI_1, or_z]
    cases hd : dirt S b with
    | false =>
      have hF : fitB S ls b = false := by unfold fitB; rw [hd]; rfl
      rw [if_pos (by decide)]
      obtain ⟨h', i1, i2, i3⟩ := ih (b + 1) f h (by omega) (by omega) Q K
      rw [hfs, hF, if_neg (by decide), Nat.or_zero] at i1
      exact ⟨h', i1, i2, i3⟩
    | true =>
      have hF : fitB S ls b = fitQ S ls b := by unfold fitB; rw [hd, Bool.true_and]
      obtain ⟨h1, a1, a2, a3⟩ := m_so Q K (b := b) (by omega)
      rw [if_neg (by decide), if_pos M.k, a1, bI_s, ← hF]
      obtain ⟨h', i1, i2, i3⟩ := ih (b + 1) f h1 (by omega) (by omega) (Q.scm a2) (K.scm a2)
      refine ⟨h', ?_, a2.trans i2, i3.trans a3⟩
      rw [← i1, hfs]
      cases fitB S ls b with
      | false => rw [if_pos (by decide), if_neg (by decide), Nat.or_zero]
      | true => rw [if_neg (by decide), if_pos rfl, k1, one_shl (by omega), or_nI31 (by omega) hp2]
theorem m_fitsNow (Q : RQ h m S z) (hz2 : z ≤ 16) (K : RBk h m ls) : ∃ h', fX10_fitsNow m h = some (.inl (some (.int (nI (fitN S ls z)))), h') ∧ ScM h h' m ∧ h'.2 m = h.2 m :=
  m_fitsNow_go hz2 z 0 FF h (by omega) (by show _ < 1000000; omega) Q K
theorem scm_th0' (Q : RBk h m ls) : RBk (th0 h m) m ls := Q.scm (scm_th0 h m)
theorem rq_fits (Q : RQ h m S z) (hz2 : z ≤ 16) (K : RBk h m ls) : RefA (fX10_fits m h) h m (aFits S ls z) := by
  obtain ⟨h', i1, i2, i3⟩ := m_fitsNow Q.th0 hz2 (scm_th0' K)
  unfold fX10_fits kX10_fits_0 aFits
  have i1 : fX10_fitsNow m (h.1, upI h.2 m 0 0) = _ := i1
  rw [if_pos Q.1.k, i1, bI_s]
  exact refA_i rfl ((scm_th0 h m).trans i2) (by rw [i3]; exact th0_0 h m)
/-! the worst -/
theorem m_see0 {x1 x2 x3 : Int32} : ∀ (c j f : Nat) (h : Hp), j + c = 256 → c < f → MS h m → (∀ i, i < j → h.2 (m + 150) i = 0) →
    ∃ h', gX10_worstAt f 5 [.ref m, .int x1, .int x2, .int x3, .int (nI j)] [] h = gX10_worstAt (f - c - 1) 30 [.ref m, .int x1, .int x2, .int x3, .int (nI 0)] [] h' ∧ h'.1 = h.1 ∧ (∀ a, a ≠ m + 150 → h'.2 a = h.2 a) ∧ ∀ i, i < 256 → h'.2 (m + 150) i = 0 := by
  intro c
  induction c with
  | zero =>
    intro j f h hj hf M hs
    obtain ⟨f, rfl⟩ := sc hf
    refine ⟨h, ?_, rfl, fun _ _ => rfl, fun i hi => hs i (by omega)⟩
    rw [zX10_worstAt_5]
    unfold kX10_worstAt_5
    rw [if_pos (by rw [show (256 : Int32) = nI 256 from rfl, nI_leI (by decide) (by omega)]; omega)]
    rfl
  | succ c ih =>
    intro j f h hj hf M hs
    obtain ⟨f, rfl⟩ := sc hf
    obtain ⟨e1, e2, e3⟩ := M.see
    obtain ⟨h', i1, i2, i3, i4⟩ := ih (j + 1) f (h.1, upI h.2 (m + 150) j 0) (by omega) (by omega) (M.eq rfl) (fun i hi => by
      show upI _ _ _ _ (m + 150) i = 0
      rw [upI_at]
      by_cases e : i = j
      · rw [if_pos e]
      · rw [if_neg e]; exact hs i (by omega))
    refine ⟨h', ?_, i2, fun a ha => by rw [i3 a ha]; exact upI_ne ha, i4⟩
    rw [show f + 1 - (c + 1) - 1 = f - c - 1 by omega, ← i1]
    rw [zX10_worstAt_5]
    unfold kX10_worstAt_5
    rw [if_neg (by rw [show (256 : Int32) = nI 256 from rfl, nI_leI (by decide) (by omega)]; omega), if_pos M.k, e1, if_pos e2, e3, if_pos (inB_nI (by omega) (by decide)), nI_clamp (by omega), nI_1]
/-- what the reference has seen so far -/
def Sen (h : Hp) (m : Nat) (F : Nat → Bool) (V : Nat → Nat) (b : Nat) : Prop := ∀ v, v < 256 → h.2 (m + 150) v = nI (cn F V v 0 b)
theorem scm_see {h h' : Hp} (e : h'.1 = h.1) (f : ∀ a, a ≠ m + 150 → h'.2 a = h.2 a) : ScM h h' m ∧ h'.2 m = h.2 m := ⟨⟨e, fun a ha => f a (by unfold perM at ha; omega), fun j _ => by rw [f m (by omega)]⟩, f m (by omega)⟩
theorem m_worst_go (hz2 : z ≤ 16) {p : Nat} (hp : p < 16) : ∀ (c b n f : Nat) (h : Hp), b + c = z → c < f → n ≤ 16 → RQ h m S z → RBk h m ls → Sen h m (fitB S ls) (fun b => cpy S b p) b →
    ∃ h', gX10_worstAt f 30 [.ref m, .int (nI p), .int (nI (fitN S ls z)), .int (nI n), .int (nI b)] [] h = some (.inl (some (.int (nI (mxB (fitB S ls) (fun b => cpy S b p) c b n)))), h') ∧ ScM h h' m ∧ h'.2 m = h.2 m := by
  have hfl := fitN_lt S ls hz2
  intro c
  induction c with
  | zero =>
    intro b n f h hb hf hn Q K D
    obtain ⟨f, rfl⟩ := sc hf
    obtain ⟨M, R, Z⟩ := id Q
    refine ⟨h, ?_, ScM.refl h m, rfl⟩
    rw [zX10_worstAt_30]
    unfold kX10_worstAt_30
    rw [if_pos M.k, Z, if_pos (by rw [nI_leI (by omega) (by omega)]; omega)]
    rfl
  | succ c ih =>
    intro b n f h hb hf hn Q K D
    obtain ⟨f, rfl⟩ := sc hf
    obtain ⟨M, R, Z⟩ := id Q
    obtain ⟨n1, n2, n3⟩ := M.now
    have hcn : ∀ v, cn (fitB S ls) (fun b => cpy S b p) v 0 (b + 1) = cn (fitB S ls) (fun b => cpy S b p) v 0 b + cn1 (fitB S ls) (fun b => cpy S b p) v b := fun v => by
      show sr _ _ _ = _
      rw [sr_snoc, Nat.zero_add]
      rfl
    rw [zX10_worstAt_30]
    unfold kX10_worstAt_30
    rw [if_pos M.k, Z, if_neg (by rw [nI_leI (by omega) (by omega)]; omega), m_has (by omega) (by omega), bI_s, fitN_bit S ls (by omega), nI_1]
    unfold mxB
    cases hF : fitB S ls b with
    | false =>
      rw [if_neg (by decide), if_neg (by decide)]
      exact ih (b + 1) n f h (by omega) (by omega) hn Q K (fun v hv => by
        rw [D v hv, hcn v, show cn1 (fitB S ls) (fun b => cpy S b p) v b = 0 by unfold cn1; rw [hF, Bool.false_and, if_neg (by decide)], Nat.add_zero])
    | true =>
      rw [if_pos (by decide), if_pos rfl]
      obtain ⟨h1, a1, a2, a3, a4, a5⟩ := m_copiesBlock (b := b) (by omega) (m := m) (by omega) R M.mo
      obtain ⟨s1, s2⟩ := scm_cb a2 a3
      have M1 := M.eq a2
      obtain ⟨o1, -, ⟨o2, o3, o4⟩, -⟩ := M1.mo
      obtain ⟨e1, e2, e3⟩ := M1.see
      have hv := cpy_lt R.bd b p
      have hle := cn_le (F := fitB S ls) (V := fun b => cpy S b p) (cpy S b p) 0 b
      have hle2 := cn_le (F := fitB S ls) (V := fun b => cpy S b p) (cpy S b p) 0 (b + 1)
      have a5' : h1.2 (m + 148) p = nI (cpy S b p) := a5 p hp
      have d1 : h1.2 (m + 150) (cpy S b p) = nI (cn (fitB S ls) (fun b => cpy S b p) (cpy S b p) 0 b) := by rw [a3 _ (by omega) (by omega)]; exact D _ (by omega)
      have hself : cn1 (fitB S ls) (fun b => cpy S b p) (cpy S b p) b = 1 := by unfold cn1; rw [hF, Bool.true_and, if_pos (by simp)]
      rw [if_pos M.k, n1, a1, bI_s, if_pos M1.k, o2, if_pos o3, o4, if_pos (inB_nI hp (by decide)), e1, if_pos e2, e3, nI_clamp (show p < 2 ^ 31 by omega), a5', if_pos (inB_nI (by omega) (by decide)), nI_clamp (show cpy S b p < 2 ^ 31 by omega), d1, nI_1, letH_s]
      have u1 : upI h1.2 (m + 150) (cpy S b p) (nI (cn (fitB S ls) (fun b => cpy S b p) (cpy S b p) 0 b + 1)) (m + 148) = h1.2 (m + 148) := upI_ne (by omega)
      have u2 : upI h1.2 (m + 150) (cpy S b p) (nI (cn (fitB S ls) (fun b => cpy S b p) (cpy S b p) 0 b + 1)) (m + 150) (cpy S b p) = nI (cn (fitB S ls) (fun b => cpy S b p) (cpy S b p) 0 (b + 1)) := by rw [upI_at, if_pos rfl, hcn, hself]
      rw [u1, a5', if_pos (inB_nI (by omega) (by decide)), nI_clamp (show cpy S b p < 2 ^ 31 by omega), u2, mx_more, bI_s, mxI_n (by omega) (by omega)]
      obtain ⟨t1, t2⟩ := scm_see (h := h1) (h' := (h1.1, upI h1.2 (m + 150) (cpy S b p) (nI (cn (fitB S ls) (fun b => cpy S b p) (cpy S b p) 0 b + 1)))) (m := m) rfl (fun a ha => upI_ne ha)
      have s12 := s1.trans t1
      obtain ⟨h', i1, i2, i3⟩ := ih (b + 1) (if cn (fitB S ls) (fun b => cpy S b p) (cpy S b p) 0 (b + 1) ≤ n then n else cn (fitB S ls) (fun b => cpy S b p) (cpy S b p) 0 (b + 1)) f _ (by omega) (by omega) (by split <;> omega) (Q.scm s12) (K.scm s12) (fun v hv' => by
        show upI _ _ _ _ (m + 150) v = _
        rw [upI_at]
        by_cases e : v = cpy S b p
        · rw [if_pos e, e, hcn, hself]
        · rw [if_neg e, a3 _ (by omega) (by omega), D v hv', hcn v, show cn1 (fitB S ls) (fun b => cpy S b p) v b = 0 by unfold cn1; rw [hF, Bool.true_and, if_neg (by simp [Ne.symm e])], Nat.add_zero])
      exact ⟨h', i1, s12.trans i2, i3.trans (t2.trans s2)⟩
theorem m_worst (Q : RQ h m S z) (hz2 : z ≤ 16) (K : RBk h m ls) {p : Nat} (hp : p < 16) : ∃ h', fX10_worstAt m (nI p) (nI (fitN S ls z)) h = some (.inl (some (.int (nI (alk S ls z p)))), h') ∧ ScM h h' m ∧ h'.2 m = h.2 m := by
  obtain ⟨h1, a1, a2, a3, a4⟩ := m_see0 (m := m) (x1 := nI p) (x2 := nI (fitN S ls z)) (x3 := nI 0) 256 0 FF h rfl (by decide) Q.1 (fun i hi => by omega)
  obtain ⟨s1, s2⟩ := scm_see a2 a3
  obtain ⟨h2, b1, b2, b3⟩ := m_worst_go (ls := ls) hz2 hp z 0 0 (FF - 256 - 1) h1 (by omega) (by show _ < 999743; omega) (by omega) (Q.scm s1) (K.scm s1) (fun v hv => by rw [a4 v hv]; rfl)
  refine ⟨h2, ?_, s1.trans b2, b3.trans s2⟩
  unfold alk
  rw [mxAB]
  exact a1.trans b1
theorem m_look_go (hz2 : z ≤ 16) {a : Int32} : ∀ (c p f : Nat) (o : Option (Nat × Nat)) (h : Hp), p + c = 16 → c < f → (∀ q, o = some q → q.1 < 16 ∧ q.2 ≤ 16) → RQ h m S z → RBk h m ls →
    ∃ h', gX10_look f 43 [.ref m, .int a, .int (oI (o.map Prod.fst)), .int (oI (o.map Prod.snd)), .int (nI (fitN S ls z)), .int (nI p), uV] [] h = some (.inl (some (.int (if a = 0 then oI (((List.range' p c).foldl (lkF S ls z) o).map Prod.fst) else oI (((List.range' p c).foldl (lkF S ls z) o).map Prod.snd)))), h') ∧ ScM h h' m ∧ h'.2 m = h.2 m := by
  intro c
  induction c with
  | zero =>
    intro p f o h hp hf ho Q K
    obtain ⟨f, rfl⟩ := sc hf
    refine ⟨h, ?_, ScM.refl h m, rfl⟩
    rw [zX10_look_43]
    unfold kX10_look_43
    rw [if_pos (by rw [k16, nI_leI (by decide) (by omega)]; omega)]
    by_cases q : a = 0
    · rw [if_neg (fun w => w q), if_pos q]; rfl
    · rw [if_pos q, if_neg q]; rfl
  | succ c ih =>
    intro p f o h hp hf ho Q K
    obtain ⟨f, rfl⟩ := sc hf
    have hal := alk_le S ls z p
    have hi := ih (p + 1) f (lkF S ls z o p)
    rw [List.range'_succ, List.foldl_cons]
    rw [zX10_look_43]
    unfold kX10_look_43
    rw [if_neg (by rw [k16, nI_leI (by decide) (by omega)]; omega), if_pos Q.1.k, m_told Q.1 K (by omega), bI_s, nI_1]
    have hlk := lk_some (S := S) (ls := ls) (z := z) ho (show p < 16 by omega) hz2
    cases e : bkF ls p with
    | some v =>
      rw [if_neg (show ¬ b2i (some v).isSome = 0 from (by decide : ¬ b2i true = 0))]
      obtain ⟨h', i1, i2, i3⟩ := hi h (by omega) (by omega) hlk Q K
      have e2 : lkF S ls z o p = o := by unfold lkF; rw [e]; rfl
      rw [e2] at i1 ⊢
      exact ⟨h', i1, i2, i3⟩
    | none =>
      obtain ⟨h1, a1, a2, a3⟩ := m_worst Q hz2 K (p := p) (by omega)
      rw [if_pos (by decide), if_pos Q.1.k, a1, bI_s]
      obtain ⟨h', i1, i2, i3⟩ := hi h1 (by omega) (by omega) hlk (Q.scm a2) (K.scm a2)
      refine ⟨h', ?_, a2.trans i2, i3.trans a3⟩
      rw [← i1]
      cases o with
      | none =>
        have : lkF S ls z none p = some (p, alk S ls z p) := by unfold lkF; rw [e]; rfl
        rw [this, if_pos (by rfl)]
        rfl
      | some q =>
        obtain ⟨q1, q2⟩ := ho q rfl
        show (if nI q.1 = -1 then _ else if nI (alk S ls z p) < nI q.2 then _ else _) = _
        rw [if_neg (by rw [nI_eqm (by omega)]; exact id)]
        by_cases w : q.2 ≤ alk S ls z p
        · have : lkF S ls z (some q) p = some q := by unfold lkF; rw [e]; show (if q.2 ≤ alk S ls z p then _ else _) = _; rw [if_pos w]
          rw [this, if_neg (by rw [nI_ltI (by omega) (by omega)]; omega)]
        · have : lkF S ls z (some q) p = some (p, alk S ls z p) := by unfold lkF; rw [e]; show (if q.2 ≤ alk S ls z p then _ else _) = _; rw [if_neg w]
          rw [this, if_pos (by rw [nI_ltI (by omega) (by omega)]; omega)]
          rfl
theorem rq_look (Q : RQ h m S z) (hz2 : z ≤ 16) (K : RBk h m ls) (a : Int32) : RefA (fX10_look m a h) h m (aLook S ls z a) := by
  obtain ⟨M0, -, -⟩ := id Q
  obtain ⟨M, R, Z⟩ := id Q.th0
  have hk : kH (th0 h m) m = 18 := M.k
  have b0 : fX10_bad m 0 1 1 (th0 h m) = _ := m_bad0 M.k (th0_0 h m) 1 1
  have b1 : fX10_bad m 1 1 1 (th0 h m) = _ := m_badT M0 (w := 1) (by decide) (i := 1) (by decide)
  unfold fX10_look kX10_look_0 aLook
  rw [if_pos M0.k, m_in, bI_s]
  by_cases ha : 0 ≤ a ∧ a ≤ 1
  · rw [decide_eq_true ha, b2i_t, if_pos (show ¬ (1 : Int32) = 0 by decide), if_pos ha, if_pos hk, b0, bI_s, if_pos rfl, if_pos hk]
    obtain ⟨h', i1, i2, i3⟩ := m_fitsNow Q.th0 hz2 (scm_th0' K)
    rw [i1, bI_s]
    have s1 := (scm_th0 h m).trans i2
    obtain ⟨h2, c1, c2, c3⟩ := m_look_go (a := a) hz2 16 0 FF none h' rfl (by decide) (fun q hq => by cases hq) (Q.th0.scm i2) ((scm_th0' K).scm i2)
    exact refA_i c1 (s1.trans c2) (by rw [c3, i3]; exact th0_0 h m)
  · rw [decide_eq_false ha, b2i_f, if_neg (show ¬ ¬ (0 : Int32) = 0 by decide), if_neg ha, if_pos hk, b1, bI_s, if_neg (by decide)]
    rfl
/-! plain numbers -/
def aStatus (F : Nat → Int32) (a : Int32) : An := .inl (if 0 ≤ a ∧ a ≤ 3 then F (tn a) else -1)
def aCount (im rf wk : Int32) (a : Int32) : An := .inl (if a = 0 then im else if a = 1 then rf else if a = 2 then wk else -1)
theorem cq_status (C : CO h x) (a : Int32) : ClsA (fX9_status x a h) h x (aStatus (h.2 (x + 41)) a) := by
  obtain ⟨r1, r2, r3⟩ := C.rfd
  unfold fX9_status kX9_status_0 aStatus
  by_cases h1 : a < 0
  · rw [if_pos h1, if_neg (fun q => Int32.not_le.mpr h1 q.1)]
    exact clsA_i rfl (Scr.refl h x)
  · rw [if_neg h1, if_pos C.k, r1, if_pos r2, r3, show (Nat.toInt32 4) = nI 4 from rfl]
    have h0 : 0 ≤ a := Int32.not_lt.mp h1
    by_cases h2 : nI 4 ≤ a
    · have : ¬ (0 ≤ a ∧ a ≤ 3) := fun q => by
        have := (le_sub1 (n := 4) (by decide) h0).mp q.2
        exact absurd h2 (Int32.not_le.mpr this)
      rw [if_pos h2, if_neg this]
      exact clsA_i rfl (Scr.refl h x)
    · have hlt := Int32.not_le.mp h2
      have : 0 ≤ a ∧ a ≤ 3 := ⟨h0, (le_sub1 (n := 4) (by decide) h0).mpr hlt⟩
      rw [if_neg h2, if_pos this]
      obtain ⟨n, hn, rfl⟩ := rl_of (by decide) ⟨h0, hlt⟩
      rw [if_pos (inB_nI hn (by decide))]
      exact clsA_i rfl (Scr.refl h x)
theorem rq_status (Q : RQ h m S z) (a : Int32) : RefA (fX10_status m a h) h m (aStatus (h.2 (m + 2)) a) := by
  obtain ⟨M0, -, -⟩ := id Q
  obtain ⟨M, R, Z⟩ := id Q.th0
  obtain ⟨r1, r2, r3⟩ := M.rfd
  have hk : kH (th0 h m) m = 18 := M.k
  unfold fX10_status kX10_status_0 aStatus
  rw [if_pos M0.k, m_in, bI_s]
  by_cases ha : 0 ≤ a ∧ a ≤ 3
  · rw [decide_eq_true ha, b2i_t, if_neg (show ¬ (1 : Int32) = 0 by decide), if_pos ha, if_pos hk, r1, if_pos r2, r3]
    obtain ⟨n, hn, rfl⟩ := rg_of (n := 3) (by decide) ha
    rw [if_pos (inB_nI (by omega) (by decide))]
    refine refA_i ?_ (scm_th0 h m) (th0_0 h m)
    show some (Sum.inl (some (Value.int (upI h.2 m 0 0 (m + 2) _))), _) = _
    rw [upI_ne (by omega)]
    rfl
  · rw [decide_eq_false ha, b2i_f, if_pos rfl, if_neg ha]
    exact refA_i rfl (scm_th0 h m) (th0_0 h m)
theorem cq_count (C : CO h x) (a : Int32) : ClsA (fX9_count x a h) h x (aCount (h.2 x 11) (h.2 x 12) (h.2 (x + 11) 1) a) := by
  obtain ⟨⟨r1, r2⟩, -⟩ := C.his
  unfold fX9_count kX9_count_0 aCount
  rw [C.k, r1, r2]
  simp only [if_true]
  refine clsA_i (h' := h) ?_ (Scr.refl h x)
  by_cases q0 : a = 0
  · rw [if_pos q0, if_pos q0]
  rw [if_neg q0, if_neg q0]
  by_cases q1 : a = 1
  · rw [if_pos q1, if_pos q1]
  rw [if_neg q1, if_neg q1]
  by_cases q2 : a = 2
  · rw [if_pos q2, if_pos q2]
  rw [if_neg q2, if_neg q2]
theorem rq_count (Q : RQ h m S z) (a : Int32) : RefA (fX10_count m a h) h m (aCount (h.2 m 16) (h.2 m 1) (h.2 m 14) a) := by
  obtain ⟨M0, -, -⟩ := id Q
  have u : ∀ j, j ≠ 0 → upI h.2 m 0 0 m j = h.2 m j := fun j hj => by rw [upI_at, if_neg hj]
  unfold fX10_count kX10_count_0 aCount
  rw [if_pos M0.k, u 14 (by decide), u 1 (by decide), u 16 (by decide)]
  refine refA_i (h' := th0 h m) ?_ (scm_th0 h m) (th0_0 h m)
  by_cases q0 : a = 0
  · rw [if_neg (fun w => w q0), if_pos q0]
  rw [if_pos q0, if_neg q0]
  by_cases q1 : a = 1
  · rw [if_neg (fun w => w q1), if_pos q1]
  rw [if_pos q1, if_neg q1]
  by_cases q2 : a = 2
  · rw [if_neg (fun w => w q2), if_pos q2]
  rw [if_pos q2, if_neg q2]
theorem cq_fault (C : CO h x) : ClsA (fX9_fault x h) h x (.inl (h.2 x 14)) := by
  unfold fX9_fault kX9_fault_0
  rw [if_pos C.k]
  exact clsA_i rfl (Scr.refl h x)
theorem rq_fault (Q : RQ h m S z) : RefA (fX10_fault m h) h m (.inl (h.2 m 3)) := by
  unfold fX10_fault kX10_fault_0
  rw [if_pos Q.1.k, upI_at, if_neg (by decide)]
  exact refA_i rfl (scm_th0 h m) (th0_0 h m)
end BK2
