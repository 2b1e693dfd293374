/-! ===== a STORE is built ===== -/
def cts (S : St) : Int32 × Int32 × Int32 := S.2.2.2.2
theorem ct_mk (S : St) (b p v : Nat) (n1 n2 n3 n4 : Int) : cts (mk S b p v n1 n2 n3 n4) = cts S := by
  unfold mk
  split <;> rfl
theorem ct_nameE (S : St) (e nm node n1 n2 n3 : Nat) : cts (nameE S e nm node n1 n2 n3) = cts S := by
  unfold nameE
  rw [ct_mk, ct_mk]
theorem ct_mkF (S : St) (n f v : Nat) (n1 n2 : Int) : cts (mkF S n f v n1 n2) = cts S := by
  unfold mkF
  rw [ct_mk]
theorem ct_gets2 (S : St) (b v : Nat) : cts (gets2 S b v) = cts S := by
  unfold gets2
  simp only [ct_mk]
theorem ct_gets (S : St) (n b f v : Nat) : cts (gets S n b f v) = cts S := by
  unfold gets
  rw [ct_mkF, ct_gets2]
theorem ct_beg (S : St) (z d nm t : Nat) : cts (sBeg S z d nm t).2 = cts S := by
  unfold sBeg
  split
  · split
    · show cts (nameE _ _ _ _ _ _ _) = _
      rw [ct_nameE, ct_gets, ct_mkF, ct_mkF]
    · rfl
    · show cts (nameE _ _ _ _ _ _ _) = _
      rw [ct_nameE, ct_mkF, ct_mkF]
  · rfl
theorem ct_do {S : St} {z k a b c : Nat} (hk : k ≤ 4) : cts (sDo S z k a b c).2 = cts S := by
  unfold sDo
  split
  · rfl
  · have hx : k = 0 ∨ k = 1 ∨ k = 2 ∨ k = 3 ∨ k = 4 := by omega
    rcases hx with rfl | rfl | rfl | rfl | rfl
    · rw [if_pos rfl]; exact ct_beg _ _ _ _ _
    · rw [if_neg (by decide), if_pos rfl]; exact ct_beg _ _ _ _ _
    · rw [if_neg (by decide), if_neg (by decide), if_pos rfl]
      unfold sLink
      split
      · show cts (nameE _ _ _ _ _ _ _) = _
        rw [ct_nameE, ct_mkF]
      · rfl
    · rw [if_neg (by decide), if_neg (by decide), if_neg (by decide), if_pos rfl]
      unfold sGrow
      split
      · split
        · rfl
        · exact ct_gets _ _ _ _ _
      · rfl
    · rw [if_neg (by decide), if_neg (by decide), if_neg (by decide), if_neg (by decide), if_pos rfl]
      unfold sPut
      generalize (if b < 16 then 2 else 3) = f
      split
      · exact ct_mk _ _ _ _ _ _ _ _
      · rfl
noncomputable def bS (z : Nat) (F : Fo) (S : St) : St := F.foldl (fun S u => sSafe (sDo S z u.1 u.2.1 u.2.2.1 u.2.2.2.1).2) S
theorem bS_ok {z : Nat} : ∀ (F : Fo) (k : Nat) (S : St), (∀ u ∈ F, okS u.1 u.2.1 u.2.2.1 u.2.2.2.1 ∧ u.1 ≤ 4 ∧ u.2.2.2.2 = 0) → Inx S z (k + 3840 * F.length) → sC S = [] → sL S = [] → cts S = (0, 0, 0) → Inx (bS z F S) z k ∧ sC (bS z F S) = [] ∧ sL (bS z F S) = [] ∧ cts (bS z F S) = (0, 0, 0) := by
  intro F
  induction F with
  | nil => intro k S _ I h1 h2 h3; exact ⟨I, h1, h2, h3⟩
  | cons u F ih =>
    intro k S hF I h1 h2 h3
    obtain ⟨o1, o2, o3⟩ := hF u List.mem_cons_self
    have I1 : Inx (sDo S z u.1 u.2.1 u.2.2.1 u.2.2.2.1).2 z (k + 3840 * F.length) := inx_step (I.le (by rw [List.length_cons]; omega)) o1
    exact ih k _ (fun w hw => hF w (List.mem_cons_of_mem _ hw)) (inx_safe I1) rfl rfl (by show cts (sDo S z _ _ _ _).2 = _; rw [ct_do o2]; exact h3)
/-- the store that a STORE makes -/
noncomputable def nwS (v : Nat × Fo) : St := sZero (bS v.1 v.2 S0)
theorem nwS_ok {v : Nat × Fo} (O : okF v) (h60 : v.2.length ≤ 60) {k : Nat} (hk : k + 3840 * 60 < 2 ^ 31) : Inx (nwS v) v.1 k ∧ sC (bS v.1 v.2 S0) = [] ∧ sL (bS v.1 v.2 S0) = [] ∧ cts (bS v.1 v.2 S0) = (0, 0, 0) := by
  obtain ⟨a1, a2, a3, a4⟩ := bS_ok v.2 k S0 O.2 (inx_S0 O.1 (by omega)) rfl rfl rfl
  refine ⟨?_, a2, a3, a4⟩
  have e : sSafe (bS v.1 v.2 S0) = bS v.1 v.2 S0 := by
    have hm : mm (bS v.1 v.2 S0) = sD (bS v.1 v.2 S0) := by
      unfold mm
      rw [a2]
      rfl
    have : bS v.1 v.2 S0 = (sD (bS v.1 v.2 S0), sC (bS v.1 v.2 S0), sL (bS v.1 v.2 S0), sM (bS v.1 v.2 S0), sW (bS v.1 v.2 S0), sH (bS v.1 v.2 S0), sK (bS v.1 v.2 S0)) := rfl
    rw [a2, a3] at this
    unfold sSafe
    rw [hm]
    exact this.symm
  unfold nwS
  rw [← e]
  exact inx_zero (by rw [e]; exact a1) (by omega)
section BU
variable {h h' : Hp} {x m z : Nat}
theorem c_bs_go {k : Nat} {F : Fo} (hF : ∀ u ∈ F, okS u.1 u.2.1 u.2.2.1 u.2.2.2.1 ∧ u.1 ≤ 4 ∧ u.2.2.2.2 = 0) (h60 : F.length ≤ 60) : ∀ (c i fl : Nat) (S : St) (h : Hp), i + c = F.length → c < fl → CO h x → Sta h (x + 1) S z → Inx S z (k + 3840 * c) → SLc h x (z, F) →
    ∃ h', gX9_buildStore fl 13 [.ref x, .ref (x + 28), .int (nI i)] [] h = gX9_buildStore (fl - c) 13 [.ref x, .ref (x + 28), .int (nI F.length)] [] h' ∧ h'.1 = h.1 ∧ (∀ a, a < x + 1 ∨ x + 11 ≤ a → a < x + 21 ∨ x + 26 ≤ a → h'.2 a = h.2 a) ∧ Sta h' (x + 1) (bS z (F.drop i) S) z := by
  intro c
  induction c with
  | zero =>
    intro i fl S h hi hfl C R I A
    refine ⟨h, ?_, rfl, fun _ _ _ => rfl, ?_⟩
    · rw [show i = F.length by omega]
      rfl
    · rw [List.drop_of_length_le (by omega)]
      exact R
  | succ c ih =>
    intro i fl S h hi hfl C R I A
    obtain ⟨fl, rfl⟩ := sc (show 0 < fl by omega)
    have hi' : i < F.length := by omega
    obtain ⟨u, hu⟩ : ∃ u, F[i]? = some u := ⟨F[i], List.getElem?_eq_getElem hi'⟩
    have hd : F.drop i = u :: F.drop (i + 1) := by
      rw [List.drop_eq_getElem_cons hi']
      rw [List.getElem?_eq_getElem hi'] at hu
      injection hu with hu
      rw [hu]
    obtain ⟨o1, o2, o3⟩ := hF u (List.mem_of_getElem? hu)
    obtain ⟨A1, A2, A3⟩ := id A
    obtain ⟨e1, e2, e3, e4⟩ := A3 i u hu
    have I1 : Inx S z (k + 3840 * c + 3840) := I.le (by omega)
    obtain ⟨h16, d1, d2, d3⟩ := c_take (t := x + 20) (k := u.1) R C.stp (by omega) o1 (inv_RdC I1.1.1 _ _)
    have cw : cop u.1 = u.1 := by unfold cop; rw [if_neg (by omega), if_pos (by omega)]
    rw [cw] at d1
    have C16 : CO h16 x := C.eq d2.1
    obtain ⟨h21, g1, g2, g3⟩ := c_safe d3
    have f21 : ∀ a, a < x + 1 ∨ x + 11 ≤ a → a < x + 21 ∨ x + 26 ≤ a → h21.2 a = h.2 a := fun a q1 q2 => by rw [g2.2 a (by omega), d2.2 a (by omega) (by omega)]
    have C21 : CO h21 x := C16.eq g2.1
    obtain ⟨h', i1, i2, i3, i4⟩ := ih (i + 1) fl _ h21 (by omega) (by omega) C21 g3 (inx_safe (inx_step I1 o1)) (A.cg (fun a q1 q2 => f21 a (by omega) (by omega)))
    obtain ⟨s1, s2, s3⟩ := C.scr
    obtain ⟨u2, u2', u2''⟩ : rH h (x + 28) 2 = x + 29 ∧ kH h (x + 29) = 1 ∧ lH h (x + 29) = 64 := s3 0 (by decide)
    obtain ⟨u3, u3', u3''⟩ : rH h (x + 28) 3 = x + 30 ∧ kH h (x + 30) = 1 ∧ lH h (x + 30) = 64 := s3 1 (by decide)
    obtain ⟨u4, u4', u4''⟩ : rH h (x + 28) 4 = x + 31 ∧ kH h (x + 31) = 1 ∧ lH h (x + 31) = 64 := s3 2 (by decide)
    obtain ⟨u5, u5', u5''⟩ : rH h (x + 28) 5 = x + 32 ∧ kH h (x + 32) = 1 ∧ lH h (x + 32) = 64 := s3 3 (by decide)
    have hb : inB (nI i) 64 = true := inB_nI (by omega) (by decide)
    have A2 : h.2 (x + 28) 1 = nI F.length := A2
    refine ⟨h', ?_, i2.trans (g2.1.trans d2.1), fun a q1 q2 => by rw [i3 a q1 q2, f21 a q1 q2], ?_⟩
    · rw [zX9_buildStore_13]
      unfold kX9_buildStore_13
      rw [if_pos s2, A2, if_neg (by rw [nI_leI (by omega) (by omega)]; omega), if_pos C.k, u2, if_pos u2', u2'', if_pos hb, u3, if_pos u3', u3'', if_pos hb, u4, if_pos u4', u4'', if_pos hb, u5, if_pos u5', u5'', if_pos hb, C.r5, if_pos C.stp.1, C.r0, nI_clamp (by omega), e1, e2, e3, e4, d1, bI_s, if_pos C16.k, C16.r0, if_pos C16.so.1, g1, bV_s, nI_1, i1, show fl + 1 - (c + 1) = fl - c by omega]
    · rw [hd]
      exact i4
theorem c_build {v : Nat × Fo} (O : okF v) (h60 : v.2.length ≤ 60) (C : CO h x) (A : SLc h x v) : ∃ h', fX9_buildStore x (x + 28) h = some (.inl none, h') ∧ h'.1 = h.1 ∧ (∀ a, a < x + 1 ∨ x + 11 ≤ a → a < x + 21 ∨ x + 26 ≤ a → h'.2 a = h.2 a) ∧ Sta h' (x + 1) (nwS v) v.1 := by
  obtain ⟨h3, a1, a2, a3⟩ := c_begin (s := x + 1) C.so O.1
  have A3 : SLc h3 x v := A.cg (fun a q1 q2 => a2.2 a (by omega))
  obtain ⟨h4, b1, b2, b3, b4⟩ := c_bs_go (k := 0) (z := v.1) O.2 h60 v.2.length 0 FF S0 h3 (by omega) (show v.2.length < 1000000 by omega) (C.eq a2.1) a3 (inx_S0 O.1 (by omega)) A3
  rw [List.drop_zero] at b4
  obtain ⟨-, n2, n3, n4⟩ := nwS_ok (k := 0) O h60 (by decide)
  obtain ⟨h5, c1, c2, c3⟩ := c_forget b4 n2 n3
  have C4 : CO h4 x := (C.eq a2.1).eq b2
  obtain ⟨s1, s2, s3⟩ := C4.scr
  have A4 : h4.2 (x + 28) 1 = nI v.2.length := by rw [b3 _ (by omega) (by omega)]; exact A3.2.1
  refine ⟨h5, ?_, c2.1.trans (b2.trans a2.1), fun a q1 q2 => by rw [c2.2 a (by omega), b3 a q1 q2, a2.2 a (by omega)], c3⟩
  unfold fX9_buildStore kX9_buildStore_0
  rw [if_pos C.k, if_pos C.scr.2.1, C.r0, if_pos C.so.1, A.1, a1, bV_s]
  obtain ⟨g, hg⟩ : ∃ g, FF - v.2.length = g + 1 := ⟨1000000 - v.2.length - 1, by show 1000000 - v.2.length = _; omega⟩
  rw [show (0 : Int32) = nI 0 from rfl, b1, hg, zX9_buildStore_13]
  unfold kX9_buildStore_13
  rw [if_pos s2, A4, if_pos (by rw [nI_leI (by omega) (by omega)]; omega), if_pos C4.k, C4.r0, if_pos C4.so.1, c1, bV_s]
/-- the book is cleared -/
theorem c_clr : ∀ (c k fl : Nat) (h : Hp), k + c = 16 → c < fl → CO h x → ∃ h', gX9_clearBook fl 2 [.ref x, .int (nI k)] [] h = some (.inl none, h') ∧ h'.1 = h.1 ∧ (∀ a, a ≠ x → a ≠ x + 38 → h'.2 a = h.2 a) ∧ (∀ j, j ≠ 13 → h'.2 x j = h.2 x j) ∧ h'.2 x 13 = 0 ∧ (∀ j, k ≤ j → j < 16 → h'.2 (x + 38) j = -1) ∧ ∀ j, j < k → h'.2 (x + 38) j = h.2 (x + 38) j := by
  intro c
  induction c with
  | zero =>
    intro k fl h hk hfl C
    obtain ⟨fl, rfl⟩ := sc (show 0 < fl by omega)
    refine ⟨(h.1, upI h.2 x 13 0), ?_, rfl, fun a q1 q2 => upI_ne q1, fun j q => by show upI _ _ _ _ x j = _; rw [upI_at, if_neg q], by show upI _ _ _ _ x 13 = _; rw [upI_at, if_pos rfl], fun j q1 q2 => by omega, fun j q => by show upI _ _ _ _ (x + 38) j = _; rw [upI_ne (by omega)]⟩
    rw [zX9_clearBook_2]
    unfold kX9_clearBook_2
    rw [if_pos (by rw [k16, nI_leI (by decide) (by omega)]; omega), if_pos C.k]
  | succ c ih =>
    intro k fl h hk hfl C
    obtain ⟨fl, rfl⟩ := sc (show 0 < fl by omega)
    obtain ⟨l1, l2, l3⟩ := C.book
    obtain ⟨h', i1, i2, i3, i4, i5, i6, i7⟩ := ih (k + 1) fl (h.1, upI h.2 (x + 38) k (-1)) (by omega) (by omega) (C.eq rfl)
    refine ⟨h', ?_, i2, fun a q1 q2 => by rw [i3 a q1 q2]; exact upI_ne q2, fun j q => by rw [i4 j q]; show upI _ _ _ _ x j = _; rw [upI_ne (by omega)], i5, fun j q1 q2 => ?_, fun j q => ?_⟩
    · rw [zX9_clearBook_2]
      unfold kX9_clearBook_2
      rw [if_neg (by rw [k16, nI_leI (by decide) (by omega)]; omega), if_pos C.k, l1, if_pos l2, l3, if_pos (inB_nI (by omega) (by decide)), nI_clamp (by omega), nI_1, i1]
    · by_cases e : j = k
      · rw [e, i7 k (by omega)]
        show upI _ _ _ _ (x + 38) k = _
        rw [upI_at, if_pos rfl]
      · exact i6 j (by omega) q2
    · rw [i7 j (by omega)]
      show upI _ _ _ _ (x + 38) j = _
      rw [upI_at, if_neg (by omega)]
theorem c_clearBook (C : CO h x) : ∃ h', fX9_clearBook x h = some (.inl none, h') ∧ h'.1 = h.1 ∧ (∀ a, a ≠ x → a ≠ x + 38 → h'.2 a = h.2 a) ∧ (∀ j, j ≠ 13 → h'.2 x j = h.2 x j) ∧ h'.2 x 13 = 0 ∧ CBk h' x [] := by
  obtain ⟨h', a1, a2, a3, a4, a5, a6, -⟩ := c_clr (x := x) 16 0 FF h (by omega) (show 16 < 1000000 by decide) C
  exact ⟨h', a1, a2, a3, a4, a5, ⟨by decide, by simp, by simp⟩, fun p hp => a6 p (Nat.zero_le _) hp⟩
end BU
section SC
variable {h h' : Hp} {x B z n m N Z : Nat} {bl : Nat → Nat} {S : St} {T : Nat → Nat} {ls : List (Nat × Nat)} {fp rs : Int32} {rf : Nat → Int32} {hi : List St} {im : List (St × List St)}
theorem cs_bad (A : CW h x B bl S z T n ls fp rs rf hi im) {a : Int32} (ha : ¬ (0 ≤ a ∧ a ≤ nI n)) : fX9_store x a h = some (.inr xIA, thr h x 1) := by
  unfold fX9_store kX9_store_0
  rw [if_pos A.1.1.k, t_len A.1.1, A.2.1.1.1, if_neg (show ¬ (0 ≤ a ∧ a ≤ nI n ∧ a ≤ 600) from fun q => ha ⟨q.1, q.2.1⟩), bVx_t]
theorem cs_go (A : CW h x B bl S z T n ls fp rs rf hi im) {k : Nat} (h1 : k ≤ n) : match stP T k (k + 1) 0 (16, []) 0 with
    | .inr e => ∃ h', fX9_store x (nI k) h = some (.inl (some (.int (nI e.1 - 10))), h') ∧ h'.1 = h.1 ∧ CW h' x B bl S z T 0 ls (nI e.2) rs rf hi im ∧ KC h h' x B
    | .inl v => ∃ h', fX9_store x (nI k) h = some (.inl (some (.int (nI v.1))), h') ∧ h'.1 = h.1 ∧ CW h' x B bl (nwS v) v.1 T 0 [] (-1) 0 rf [] [] ∧ KC h h' x B := by
  have C := A.1.1
  have b1 := A.2.2.1.1
  obtain ⟨m1, m2, m3, m4⟩ := A.2.1.1
  obtain ⟨h5, a1, a2, a3, a4⟩ := c_readStore (n := k) C (by omega) (fun i hi => m3 i (by omega)) (fun i hi => m4 i (by omega))
  have A5 := A.fre a2
  have C5 := A5.1.1
  have st : fX9_store x (nI k) h = (bI (fX3_readStore (x + 27) (x + 26) (nI k) h) fun z6 h5 => (if kH h5 x = 19 then (bV (fX9_textRead x z6 h5) fun h9 => (if z6 = 0 then (if kH h9 x = 19 then (if kH h9 (rH h9 x 7) = 13 then (bV (fX9_buildStore x (rH h9 (rH h9 x 7) 0) h9) fun h15 => (if kH h15 x = 19 then (bV (fX9_clearBook x h15) fun h17 => (if kH h17 x = 19 then (if kH h17 (rH h17 x 1) = 10 then (if kH h17 (rH h17 x 0) = 15 then (some (.inl (some (.int ((upI (upI (upI h17.2 (rH h17 x 1) 1 0) x 11 0) x 15 0) (rH h17 x 0) 0))), (h17.1, (upI (upI (upI h17.2 (rH h17 x 1) 1 0) x 11 0) x 15 0)))) else none) else none) else none)) else none)) else none) else none) else (some (.inl (some (.int (z6 - 10))), h9)))) else none)) := by
    unfold fX9_store kX9_store_0
    rw [if_pos C.k, t_len C, m1, if_pos (show 0 ≤ nI k ∧ nI k ≤ nI n ∧ nI k ≤ 600 from ⟨nI_pos' (by omega), by rw [nI_leI (by omega) (by omega)]; exact h1, by rw [show (600 : Int32) = nI 600 from rfl, nI_leI (by omega) (by decide)]; omega⟩), bVx_s, if_pos C.k, C.r7, if_pos C.rdr.1, C.tape.1]
  rw [st]
  cases e : stP T k (k + 1) 0 (16, []) 0 with
  | inr er =>
    rw [e] at a1 a4
    obtain ⟨⟨⟨c1, c2⟩, c3, c4⟩, c5⟩ := a4
    have nz : ¬ nI er.1 = 0 := by rw [nI_eq0 (by omega)]; omega
    refine ⟨_, ?_, ?_, A5.t0 (nI er.2), ?_⟩
    · rw [a1, bI_s, if_pos C5.k, t_txt C5, if_neg nz, c4, bV_s, if_neg nz]
    · exact a2.1
    · exact (KC.of a2.1 (fun a q1 q2 => a2.2 a (by omega))).trans (kc_t0 h5 x B _)
  | inl v =>
    rw [e] at a1 a4
    obtain ⟨c1, c2⟩ := a4
    obtain ⟨O, h60⟩ := stP_ok (k + 1) 0 (16, []) 0 v (Nat.zero_le _) e ⟨by decide, by simp⟩ (Nat.le_refl _) (by decide)
    have A9 := A5.t0 (-1)
    obtain ⟨h9, hh9⟩ : ∃ h9 : Hp, h9 = (h5.1, upI (upI h5.2 x 12 0) x 14 (-1)) := ⟨_, rfl⟩
    rw [← hh9] at A9
    have C9 := A9.1.1
    have e9 : ∀ a, a ≠ x → h9.2 a = h5.2 a := fun a q => by rw [hh9]; show upI _ _ _ _ a = _; rw [upI_ne q, upI_ne q]
    obtain ⟨h15, d1, d2, d3, d4⟩ := c_build O h60 C9 (c2.cg (fun a q1 q2 => e9 a (by omega)))
    have C15 := C9.eq d2
    obtain ⟨h17, g1, g2, g3, g4, g5, g6⟩ := c_clearBook C15
    have C17 := C15.eq g2
    obtain ⟨h', hh'⟩ : ∃ h' : Hp, h' = (h17.1, upI (upI (upI h17.2 (x + 11) 1 0) x 11 0) x 15 0) := ⟨_, rfl⟩
    have e' : h'.1 = h9.1 := by rw [hh']; exact g2.trans d2
    have i' : ∀ a, a ≠ x → a ≠ x + 11 → h'.2 a = h17.2 a := fun a q1 q2 => by rw [hh']; show upI _ _ _ _ a = _; rw [upI_ne q1, upI_ne q1, upI_ne q2]
    have x' : ∀ j, j ≠ 11 → j ≠ 15 → h'.2 x j = h17.2 x j := fun j q1 q2 => by rw [hh']; show upI _ _ _ _ x j = _; rw [upI_at, if_neg q2, upI_at, if_neg q1, upI_ne (by omega)]
    have S17 : Sta h17 (x + 1) (nwS v) v.1 := Sta.eqs g2 (fun a w1 w2 => g3 a (by omega) (by omega)) d4
    have oo : ∀ a, a ≠ x → a < x + 1 ∨ x + 12 ≤ a → a < x + 21 ∨ x + 26 ≤ a → a ≠ x + 38 → h'.2 a = h9.2 a := fun a w1 w2 w3 w4 => by rw [i' a w1 (by omega), g3 a w1 w4, d3 a (by omega) w3]
    have x9 : ∀ j, j ≠ 11 → j ≠ 15 → j ≠ 13 → h'.2 x j = h9.2 x j := fun j q1 q2 q3 => by rw [x' j q1 q2, g4 j q3, d3 x (by omega) (by omega)]
    obtain ⟨⟨p1, p1', p1'', p1'''⟩, ⟨⟨p2, p3⟩, p4⟩, ⟨p5, p6⟩, p7⟩ := A9.2.1
    refine ⟨h', ?_, ?_, ⟨⟨C9.eq e', ?_⟩, ⟨⟨?_, by omega, fun i hi => by omega, fun i hi => by omega⟩, ⟨⟨g6.1, fun p hp => ?_⟩, ?_⟩, ⟨?_, ?_⟩, fun i hi => ?_⟩, A9.2.2.1.same e', ⟨?_, by decide, fun i S' hS => by simp at hS⟩, ?_, by decide, fun g w hw => by simp at hw⟩, ?_⟩
    · rw [a1, bI_s, if_pos C5.k, t_txt C5, if_pos rfl, bV_s, if_pos rfl, ← hh9, if_pos C9.k, C9.r7, if_pos C9.rdr.1, C9.scr.1, d1, bV_s, if_pos C15.k, g1, bV_s, if_pos C17.k, C17.his.1.1, if_pos C17.his.1.2, C17.r0, if_pos C17.so.1, upI_ne (by omega), upI_ne (by omega), upI_ne (by omega), S17.sz, hh']
    · rw [e', hh9]; exact a2.1
    · exact Sta.eqs (by rw [hh']) (fun a w1 w2 => i' a (by omega) (by omega)) S17
    · rw [x9 12 (by decide) (by decide) (by decide)]; exact p1
    · rw [i' (x + 38) (by omega) (by omega)]; exact g6.2 p hp
    · rw [x' 13 (by decide) (by decide)]; exact g5
    · rw [x9 14 (by decide) (by decide) (by decide)]; exact p5
    · rw [hh']; show upI _ _ _ _ x 15 = _; rw [upI_at, if_pos rfl]
    · rw [oo (x + 41) (by omega) (by omega) (by omega) (by omega)]; exact p7 i hi
    · rw [hO_0, hh']; show upI _ _ _ _ (x + 11) 1 = _; rw [upI_ne (by omega), upI_ne (by omega), upI_at, if_pos rfl]; rfl
    · rw [hh']; show upI _ _ _ _ x 11 = _; rw [upI_at, if_neg (by decide), upI_at, if_pos rfl]; rfl
    · exact ((KC.of a2.1 (fun a q1 q2 => a2.2 a (by omega))).trans (by rw [hh9]; exact kc_t0 h5 x B _)).trans (KC.of e' (fun a q1 q2 => oo a (by omega) (by omega) (by omega) (by omega)))
end SC
