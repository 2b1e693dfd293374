/-! ===== change, both sides ===== -/
def goK (b : Nat) (l : List Ch) (k : Nat) : Bool := match (goes b l)[k]? with
  | some q => q.2
  | none => false
def chV (S : St) (pre : List Ch) (c : Ch) (wh : Nat) : Int32 := if wh = 0 then nI (cB c) else if wh = 1 then nI (cP c) else if wh = 2 then nI (vA (sD S) pre (16 * cB c + if cP c = 16 then 0 else cP c)) else if wh = 3 then nI (cV c) else if wh = 4 then nI (nN pre c) else b2i (goK (cB c) (sC S) pre.length)
def chQ (S : St) (k wh : Nat) : Int32 := match (sC S).drop k with
  | c :: _ => chV S ((sC S).take k) c wh
  | [] => 0
def aChange (S : St) (k wh : Int32) : An := if 0 ≤ wh ∧ wh ≤ 5 then (if 0 ≤ k ∧ k < nI 256 then (if k < nI (sC S).length then .inl (chQ S (tn k) (tn wh)) else NP2 2) else IO3 3) else IA 1
section G5
variable {h : Hp} {x m z k : Nat} {S : St} {a b c d : Int32}
theorem ch_split {S : St} {k : Nat} (hk : k < (sC S).length) : ∃ c l, sC S = (sC S).take k ++ c :: l ∧ ((sC S).take k).length = k ∧ ∀ wh, chQ S k wh = chV S ((sC S).take k) c wh := by
  refine ⟨(sC S)[k], (sC S).drop (k + 1), ?_, ?_, fun wh => ?_⟩
  · rw [List.getElem_cons_drop, List.take_append_drop]
  · rw [List.length_take, Nat.min_eq_left (by omega)]
  · unfold chQ
    rw [← List.getElem_cons_drop (h := hk)]
theorem goK_some {b : Nat} {l : List Ch} {k : Nat} (hk : k < l.length) : ∃ q, (goes b l)[k]? = some q ∧ goK b l k = q.2 := by
  have hl : k < (goes b l).length := by rw [goes_len]; exact hk
  refine ⟨(goes b l)[k], List.getElem?_eq_getElem hl, ?_⟩
  unfold goK
  rw [List.getElem?_eq_getElem hl]
theorem t_chg (Q : CQ h x S z) (hl : (sC S).length < 2 ^ 31) (a : Int32) : fX9_testChange x a h = if 0 ≤ a ∧ a < nI 256 then (if a < nI (sC S).length then some (.inl none, h) else some (.inr xNP, thr h x 2)) else some (.inr xIO, thr h x 3) := by
  obtain ⟨C, R⟩ := Q
  obtain ⟨r1, r2, r3⟩ := C.rfd
  unfold fX9_testChange kX9_testChange_0
  rw [r1, r2, r3, C.k, C.r0, R.so.1, R.un]
  by_cases h1 : a < 0
  · rw [if_pos h1, if_pos rfl, if_pos rfl, if_pos (by decide), if_neg (fun q => Int32.not_le.mpr h1 q.1)]
    rfl
  · rw [if_neg h1]
    by_cases h2 : a < nI 256
    · have h02 : 0 ≤ a ∧ a < nI 256 := ⟨Int32.not_lt.mp h1, h2⟩
      rw [if_pos h02]
      have h2' : a < 256 := h2
      rw [if_pos h2', if_pos rfl, if_pos rfl]
      by_cases h3 : a < nI (sC S).length
      · rw [if_pos h3, if_pos h3]
      · rw [if_neg h3, if_neg h3, if_pos rfl, if_pos (by decide)]
        rfl
    · have h2' : ¬ a < 256 := h2
      rw [if_neg h2', if_pos rfl, if_pos rfl, if_pos (by decide), if_neg (fun q => h2 q.2)]
      rfl
theorem cq_change (Q : CQ h x S z) (I : Inv S z k) (a wh : Int32) : ClsA (fX9_change x a wh h) h x (aChange S a wh) := by
  obtain ⟨C, R⟩ := id Q
  have hB1 := R.bd.1
  unfold fX9_change kX9_change_0 aChange
  rw [if_pos C.k, t_wht C]
  by_cases hw : 0 ≤ wh ∧ wh ≤ 5
  · rw [if_pos hw, if_pos hw, bVx_s, if_pos C.k, t_chg Q (by omega)]
    by_cases ha : 0 ≤ a ∧ a < nI 256
    · rw [if_pos ha, if_pos ha]
      by_cases hl : a < nI (sC S).length
      · rw [if_pos hl, if_pos hl, bVx_s]
        obtain ⟨wh, w1, rfl⟩ := rg_of (n := 5) (by decide) hw
        obtain ⟨a, a1, rfl⟩ := rl_of (by decide) ha
        rw [nI_ltI (by omega) (by omega)] at hl
        obtain ⟨c, l, e, el, eq⟩ := ch_split hl
        rw [tn_n (by omega), tn_n (by omega), eq]
        obtain ⟨hch, -, -⟩ := R.ch e
        obtain ⟨s1, s2, s3, s4, -⟩ := R.cst e
        rw [el] at s1 s2 s3 s4
        obtain ⟨o1, o2, o3, o4, o5, o6, -⟩ := R.so
        have hcp := hch.2.2.2.1
        have hcb := hch.2.2.1
        unfold chV
        have e0 : nI wh = (0 : Int32) ↔ wh = 0 := nI_eq (a := wh) (b := 0) (by omega) (by omega)
        have e1 : nI wh = (1 : Int32) ↔ wh = 1 := nI_eq (a := wh) (b := 1) (by omega) (by omega)
        have e2 : nI wh = (2 : Int32) ↔ wh = 2 := nI_eq (a := wh) (b := 2) (by omega) (by omega)
        have e3 : nI wh = (3 : Int32) ↔ wh = 3 := nI_eq (a := wh) (b := 3) (by omega) (by omega)
        have e4 : nI wh = (4 : Int32) ↔ wh = 4 := nI_eq (a := wh) (b := 4) (by omega) (by omega)
        by_cases q0 : wh = 0
        · rw [if_pos (e0.mpr q0), if_pos q0, if_pos C.k, C.r0, if_pos o1, o3.1, if_pos o3.2.1, o3.2.2, if_pos (inB_nI (by omega) (by decide)), nI_clamp (by omega), s1]
          exact clsA_i rfl (Scr.refl h x)
        rw [if_neg (fun q => q0 (e0.mp q)), if_neg q0]
        by_cases q1 : wh = 1
        · rw [if_pos (e1.mpr q1), if_pos q1, if_pos C.k, C.r0, if_pos o1, o4.1, if_pos o4.2.1, o4.2.2, if_pos (inB_nI (by omega) (by decide)), nI_clamp (by omega), s2]
          exact clsA_i rfl (Scr.refl h x)
        rw [if_neg (fun q => q1 (e1.mp q)), if_neg q1]
        by_cases q2 : wh = 2
        · have fp := c_firstPlace R e
          rw [el] at fp
          have hi : (if cP c = 16 then 0 else cP c) < 16 := by split <;> omega
          have hs4 := s4 (if cP c = 16 then 0 else cP c) hi (by by_cases q : cP c = 16; exact Or.inl q; exact Or.inr (if_neg q).symm)
          rw [if_pos (e2.mpr q2), if_pos q2, if_pos C.k, C.r0, if_pos o1, fp, bI_s, o6.1, if_pos o6.2.1, o6.2.2, k16, pk_mul, nI_add, if_pos (inB_nI (by omega) (by decide)), nI_clamp (by omega), Nat.mul_comm a 16, hs4]
          exact clsA_i rfl (Scr.refl h x)
        rw [if_neg (fun q => q2 (e2.mp q)), if_neg q2]
        by_cases q3 : wh = 3
        · rw [if_pos (e3.mpr q3), if_pos q3, if_pos C.k, C.r0, if_pos o1, o5.1, if_pos o5.2.1, o5.2.2, if_pos (inB_nI (by omega) (by decide)), nI_clamp (by omega), s3]
          exact clsA_i rfl (Scr.refl h x)
        rw [if_neg (fun q => q3 (e3.mp q)), if_neg q3]
        by_cases q4 : wh = 4
        · have cn := c_countNeeds R e
          rw [el] at cn
          rw [if_pos (e4.mpr q4), if_pos q4, if_pos C.k, C.r0, if_pos o1, cn, bI_s]
          exact clsA_i rfl (Scr.refl h x)
        rw [if_neg (fun q => q4 (e4.mp q)), if_neg q4, if_pos C.k, C.r0, if_pos o1, o3.1, if_pos o3.2.1, o3.2.2, if_pos (inB_nI (by omega) (by decide)), nI_clamp (by omega), s1, C.r4, if_pos C.pen.1]
        obtain ⟨h1, a1', a2, a3, a4, a5, a6, a7⟩ := c_weigh (b := cB c) (p := x + 15) (by omega) (by omega) (inv_na I) R C.pen
        have C1 := C.eq a2
        obtain ⟨p1, ⟨p2, p3, p4⟩, -⟩ := C1.pen
        obtain ⟨q, g1, g2⟩ := goK_some (b := cB c) hl
        have hf := (sp_get (F := fun k (q : Ch × Bool) => h1.2 (x + 15 + 1) k = b2i q.2)).mp a5 a q g1
        rw [a1', bV_s, if_pos C1.k, C1.r4, if_pos p1, p2, if_pos p3, p4, if_pos (inB_nI (by omega) (by decide)), hf, el, g2]
        have sc : Scr h h1 x := ⟨a2, fun y hy => a3 y (by unfold pers at hy; omega) (by unfold pers at hy; omega)⟩
        cases q.2 with
        | false => rw [if_pos (by decide)]; exact clsA_i rfl sc
        | true => rw [if_neg (by decide)]; exact clsA_i rfl sc
      · rw [if_neg hl, if_neg hl, bVx_t]
        rfl
    · rw [if_neg ha, if_neg ha, bVx_t]
      rfl
  · rw [if_neg hw, if_neg hw, bVx_t]
    rfl
theorem m_wasAt0 {r : Nat} (R : Row h r S) {pre l : List Ch} {c : Ch} (e : sC S = pre ++ c :: l) : fX10_wasAt r (nI (512 + 12 * pre.length)) 0 h = some (.inl (some (.int (nI (vA (sD S) pre (16 * cB c + if cP c = 16 then 0 else cP c))))), h) := by
  by_cases h16 : cP c = 16
  · rw [if_pos h16]
    exact m_wasAt R e (i := 0) (by decide) (Or.inl h16)
  · rw [if_neg h16]
    obtain ⟨hc, hl, hl2⟩ := R.ch e
    obtain ⟨-, -, t2, -, -, -, -, -, t8, -⟩ := R.cel e
    have hp := hc.2.2.2.1
    have t8 := t8 (by omega)
    unfold fX10_wasAt kX10_wasAt_0
    rw [if_pos R.k, R.l, show (2 : Int32) = nI 2 from rfl, show (8 : Int32) = nI 8 from rfl, nI_add, if_pos (inB_nI (by omega) (by decide)), nI_clamp (by omega), t2, if_neg (by rw [k16, nI_leI (by decide) (by omega)]; omega), nI_add, if_pos (inB_nI (by omega) (by decide)), nI_clamp (by omega), t8]
theorem q_needsA {r : Nat} (hm : kH h m = 18) (hr : rH h m 22 = r) (R : Row h r S) {pre l : List Ch} {c : Ch} (e : sC S = pre ++ c :: l) {x2 : Int32} (q : Nat) :
    gX10_change (q + 4) 137 [.ref m, .int (nI pre.length), .int x2, .int (nI (512 + 12 * pre.length)), .int (nI 0), .int (nI (4 + 0))] [] h = gX10_change q 137 [.ref m, .int (nI pre.length), .int x2, .int (nI (512 + 12 * pre.length)), .int (nI (0 + cnt1 pre (c1 c) + cnt1 pre (c2 c) + cnt1 pre (c3 c) + cnt1 pre (c4 c))), .int (nI 8)] [] h := by
  obtain ⟨-, hlen, -⟩ := R.ch e
  have hc := R.cel e
  have l1 := cnt1_le pre (c1 c)
  have l2 := cnt1_le pre (c2 c)
  have l3 := cnt1_le pre (c3 c)
  rw [show q + 4 = (q + 3) + 1 from rfl, q_needs1 hm hr R e (i := 0) (by decide) (n := c1 c) (by simp) hc.2.2.2.2.1 (q + 3) 0 (by decide), show q + 3 = (q + 2) + 1 from rfl, q_needs1 hm hr R e (i := 1) (by decide) (n := c2 c) (by simp) hc.2.2.2.2.2.1 (q + 2) _ (by omega), show q + 2 = (q + 1) + 1 from rfl, q_needs1 hm hr R e (i := 2) (by decide) (n := c3 c) (by simp) hc.2.2.2.2.2.2.1 (q + 1) _ (by omega), q_needs1 hm hr R e (i := 3) (by decide) (n := c4 c) (by simp) hc.2.2.2.2.2.2.2.1 q _ (by omega)]
theorem rq_change (Q : RQ h m S z) (I : Inv S z k) (a wh : Int32) : RefA (fX10_change m a wh h) h m (aChange S a wh) := by
  obtain ⟨hz1, hz2⟩ := I.1
  obtain ⟨M0, -, -⟩ := id Q
  obtain ⟨M, R, Z⟩ := id Q.th0
  have hk : kH (th0 h m) m = 18 := M.k
  have hB1 := R.bd.1
  obtain ⟨n1, n2, n3⟩ := M.now
  unfold fX10_change kX10_change_0 aChange
  rw [if_pos M0.k, m_in, bI_s]
  by_cases hw : 0 ≤ wh ∧ wh ≤ 5
  · rw [decide_eq_true hw, b2i_t, if_pos (show ¬ (1 : Int32) = 0 by decide), if_pos hw, show FF = 999996 + 1 + 1 + 1 + 1 from rfl, zX10_change_20]
    unfold kX10_change_20
    have b0 : fX10_bad m 0 1 1 (th0 h m) = _ := m_bad0 M.k (th0_0 h m) 1 1
    have b3 : fX10_bad m 0 3 3 (th0 h m) = _ := m_bad0 M.k (th0_0 h m) 3 3
    have b2 : fX10_bad m 0 2 2 (th0 h m) = _ := m_bad0 M.k (th0_0 h m) 2 2
    have bb3 : fX10_bad m 1 3 3 (th0 h m) = _ := m_badT M0 (w := 3) (by decide) (i := 3) (by decide)
    have bb2 : fX10_bad m 1 2 2 (th0 h m) = _ := m_badT M0 (w := 2) (by decide) (i := 2) (by decide)
    rw [if_pos hk, b0, bI_s, if_neg (show ¬ ¬ (0 : Int32) = 0 by decide), m_in, bI_s]
    by_cases ha : 0 ≤ a ∧ a < nI 256
    · have ha' : 0 ≤ a ∧ a ≤ 255 := ⟨ha.1, (le_sub1 (n := 256) (by decide) ha.1).mpr ha.2⟩
      rw [decide_eq_true ha', b2i_t, if_pos (show ¬ (1 : Int32) = 0 by decide), if_pos ha, zX10_change_45]
      unfold kX10_change_45
      rw [if_pos hk, b3, bI_s, if_neg (show ¬ ¬ (0 : Int32) = 0 by decide), if_pos hk, n1, if_pos n2, n3, if_pos (by decide), R.many]
      by_cases hl : a < nI (sC S).length
      · rw [if_pos hl, if_pos hl, zX10_change_71]
        unfold kX10_change_71
        obtain ⟨wh, w1, rfl⟩ := rg_of (n := 5) (by decide) hw
        obtain ⟨a, a1, rfl⟩ := rl_of (by decide) ha
        rw [nI_ltI (by omega) (by omega)] at hl
        obtain ⟨c, l, e, el, eq⟩ := ch_split hl
        obtain ⟨hch, hle, -⟩ := R.ch e
        obtain ⟨t0, t1, t2, t3, -⟩ := R.cel e
        have wa := m_wasAt0 R e
        have nd := q_needs hk n1 R e (inv_pos I c (by rw [e]; simp))
        rw [el] at t0 t1 t2 t3 wa nd hle
        rw [if_pos hk, b2, bI_s, if_pos rfl, m_cell, bI_s, nI_cell, tn_n (by omega), tn_n (by omega), eq]
        unfold chV
        have e0 : nI wh = (0 : Int32) ↔ wh = 0 := nI_eq (a := wh) (b := 0) (by omega) (by omega)
        have e1 : nI wh = (1 : Int32) ↔ wh = 1 := nI_eq (a := wh) (b := 1) (by omega) (by omega)
        have e2 : nI wh = (2 : Int32) ↔ wh = 2 := nI_eq (a := wh) (b := 2) (by omega) (by omega)
        have e3 : nI wh = (3 : Int32) ↔ wh = 3 := nI_eq (a := wh) (b := 3) (by omega) (by omega)
        have e4 : nI wh = (4 : Int32) ↔ wh = 4 := nI_eq (a := wh) (b := 4) (by omega) (by omega)
        by_cases q01 : wh < 2
        · rw [if_neg (by rw [k2, nI_leI (by decide) (by omega)]; omega), if_pos hk, n1, if_pos n2, n3, k1, nI_add, nI_add, if_pos (inB_nI (by omega) (by decide)), nI_clamp (by omega)]
          by_cases q0 : wh = 0
          · rw [if_pos q0, q0, Nat.add_zero, t1]
            exact refA_i rfl (scm_th0 h m) (th0_0 h m)
          · have q1 : wh = 1 := by omega
            rw [if_neg q0, if_pos q1, q1, t2]
            exact refA_i rfl (scm_th0 h m) (th0_0 h m)
        · rw [if_pos (by rw [k2, nI_leI (by decide) (by omega)]; omega), if_neg (show ¬ wh = 0 by omega), if_neg (show ¬ wh = 1 by omega)]
          by_cases q2 : wh = 2
          · rw [if_neg (fun q => q (e2.mpr q2)), if_pos q2, if_pos hk, n1, wa, bI_s]
            exact refA_i rfl (scm_th0 h m) (th0_0 h m)
          rw [if_pos (show ¬ nI wh = 2 from fun q => q2 (e2.mp q)), if_neg q2]
          by_cases q3 : wh = 3
          · rw [if_neg (fun q => q (e3.mpr q3)), if_pos q3, if_pos hk, n1, if_pos n2, n3, k3, nI_add, if_pos (inB_nI (by omega) (by decide)), nI_clamp (by omega), t3]
            exact refA_i rfl (scm_th0 h m) (th0_0 h m)
          rw [if_pos (show ¬ nI wh = 3 from fun q => q3 (e3.mp q)), if_neg q3]
          by_cases q4 : wh = 4
          · rw [if_pos q4, q4]
            exact refA_i (nd 999992) (scm_th0 h m) (th0_0 h m)
          rw [if_neg q4]
          have q5 : wh = 5 := by omega
          subst q5
          have hcb := hch.2.2.1
          obtain ⟨h1, a1', a2, a3, a4, a5⟩ := m_copiesBlock (b := cB c) (by omega) (m := m) (by omega) R M.mo
          obtain ⟨s1, s2⟩ := scm_cb a2 a3
          have M1 := M.eq a2
          obtain ⟨p1, ⟨p2, p3, p4⟩, -⟩ := M1.mo
          obtain ⟨q, g1, g2⟩ := goK_some (b := cB c) hl
          have hf := (sp_get (F := fun k (q : Ch × Bool) => h1.2 (m + 147) k = b2i q.2)).mp a4 a q g1
          have st := q_needsA hk n1 R e (x2 := nI 5) 999993
          rw [el] at st
          have st : gX10_change (999996 + 1) 137 [.ref m, .int (nI a), .int (nI 5), .int (nI (512 + 12 * a)), .int 0, .int 4] [] (th0 h m) = _ := st
          rw [st, show 999993 = 999992 + 1 from rfl, zX10_change_137]
          unfold kX10_change_137
          rw [if_pos (by decide), if_pos (by decide), if_pos hk, n1, if_pos n2, n3, k1, nI_add, if_pos (inB_nI (by omega) (by decide)), nI_clamp (by omega), t1, a1', bI_s, if_pos p1, p2, if_pos p3, p4, if_pos (inB_nI (by omega) (by decide)), nI_clamp (by omega), hf, el, g2]
          have sc := (scm_th0 h m).trans s1
          have t00 : h1.2 m 0 = 0 := by rw [s2]; exact th0_0 h m
          cases q.2 with
          | false => rw [if_pos (by decide)]; exact refA_i rfl sc t00
          | true => rw [if_neg (by decide)]; exact refA_i rfl sc t00
      · rw [if_neg hl, if_neg hl, zX10_change_71]
        unfold kX10_change_71
        rw [if_pos hk, bb2, bI_s, if_neg (by decide)]
        rfl
    · have ha' : ¬ (0 ≤ a ∧ a ≤ 255) := fun q => ha ⟨q.1, (le_sub1 (n := 256) (by decide) q.1).mp q.2⟩
      rw [decide_eq_false ha', b2i_f, if_neg (show ¬ ¬ (0 : Int32) = 0 by decide), if_neg ha, zX10_change_45]
      unfold kX10_change_45
      rw [if_pos hk, bb3, bI_s, if_pos (by decide)]
      rfl
  · rw [decide_eq_false hw, b2i_f, if_neg (show ¬ ¬ (0 : Int32) = 0 by decide), if_neg hw, show FF = 999999 + 1 from rfl, zX10_change_20]
    unfold kX10_change_20
    have b1 : fX10_bad m 1 1 1 (th0 h m) = _ := m_badT M0 (w := 1) (by decide) (i := 1) (by decide)
    rw [if_pos hk, b1, bI_s, if_pos (by decide)]
    rfl
end G5
