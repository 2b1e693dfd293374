/-! ===== questions of nodes, both sides ===== -/
noncomputable def nodV (B : Nat → Nat) (n wh : Nat) : Int32 := if wh = 4 then b2i ((rbits B).testBit n) else nI (fd B n wh)
noncomputable def aNode (S : St) (n wh w : Int32) : An := if 0 ≤ n ∧ n < nI 12 then (if (0 ≤ wh ∧ wh ≤ 4) ∧ (0 ≤ w ∧ w ≤ nI 1) then .inl (nodV (sd S (tn w)) (tn n) (tn wh)) else IA 2) else NS0 1
def fndV (B : Nat → Nat) (n nm : Nat) : Int32 := if isK B n 2 = true then oI ((fent B n nm).map (fun e => B (e + 1))) else -1
def aFind (S : St) (n nm w : Int32) : An := if 0 ≤ n ∧ n < nI 12 then (if (1 ≤ nm ∧ nm ≤ 99) ∧ (0 ≤ w ∧ w ≤ nI 1) then .inl (fndV (sd S (tn w)) (tn n) (tn nm)) else IA 2) else NS0 1
def aUnder (S : St) (n w : Int32) : An := if 0 ≤ n ∧ n < nI 12 then (if 0 ≤ w ∧ w ≤ nI 1 then .inl (und (sd S (tn w)) 12 (tn n)) else IA 2) else NS0 1
def aDeep (S : St) (n w : Int32) : An := if 0 ≤ n ∧ n < nI 12 then (if 0 ≤ w ∧ w ≤ nI 1 then .inl (dep (sd S (tn w)) 12 (tn n)) else IA 2) else NS0 1
def aRoom (S : St) (n : Int32) : An := if 0 ≤ n ∧ n < nI 12 then .inl (nI (if isK (mm S) (tn n) 2 = true then freeN (mm S) (tn n) else 0)) else NS0 1
section G4
variable {h : Hp} {x m z k : Nat} {S : St} {a b c d : Int32}
theorem sd_rk {S : St} {z k : Nat} (I : Inw S z k) (w : Nat) : ∃ r, Rk (sd S w) r := by
  obtain ⟨h1, h2⟩ := inw_rk I
  by_cases e : w = 0
  · have : sd S w = mm S := by funext x; unfold sd; rw [if_pos e]
    rw [this]
    exact h1
  · have : sd S w = sD S := by funext x; unfold sd; rw [if_neg e]
    rw [this]
    exact h2
theorem t_nod (C : CO h x) (a : Int32) : fX9_testNode x a h = if 0 ≤ a ∧ a < nI 12 then some (.inl none, h) else some (.inr xNS, thr h x 0) := by
  obtain ⟨r1, r2, r3⟩ := C.rfd
  unfold fX9_testNode kX9_testNode_0
  rw [r1, r2, r3, C.k]
  by_cases h1 : a < 0
  · rw [if_pos h1, if_pos rfl, if_pos rfl, if_pos (by decide), if_neg (fun q => Int32.not_le.mpr h1 q.1)]
    rfl
  · rw [if_neg h1]
    show (if a < nI 12 then _ else _) = _
    by_cases h2 : a < nI 12
    · rw [if_pos h2, if_pos ⟨Int32.not_lt.mp h1, h2⟩]
    · rw [if_neg h2, if_pos rfl, if_pos rfl, if_pos (by decide), if_neg (fun q => h2 q.2)]
      rfl
theorem m_isNode2 (a : Int32) (h : Hp) : fX10_isNode a h = some (.inl (some (.int (b2i (decide (0 ≤ a ∧ a < nI 12))))), h) := by
  rw [m_isNode]
  have : decide (0 ≤ a ∧ a ≤ nI 11) = decide (0 ≤ a ∧ a < nI 12) := by
    apply decide_eq_decide.mpr
    exact ⟨fun q => ⟨q.1, (le_sub1 (n := 12) (by decide) q.1).mp q.2⟩, fun q => ⟨q.1, (le_sub1 (n := 12) (by decide) q.1).mpr q.2⟩⟩
  rw [this]
theorem rb31 (B : Nat → Nat) : rbits B < 2 ^ 31 := Nat.lt_of_lt_of_le (rbits_lt B) (by decide)
theorem cq_node (Q : CQ h x S z) (I : Inv S z k) (n wh w : Int32) : ClsA (fX9_node x n wh w h) h x (aNode S n wh w) := by
  obtain ⟨C, R⟩ := id Q
  unfold fX9_node kX9_node_0 aNode
  rw [if_pos C.k, t_nod C]
  by_cases hn : 0 ≤ n ∧ n < nI 12
  · rw [if_pos hn, if_pos hn, bVx_s, if_pos C.k, t_wht C]
    by_cases ha : 0 ≤ wh ∧ wh ≤ 4
    · rw [if_pos ha, bVx_s, if_pos C.k, t_whr C]
      by_cases hw : 0 ≤ w ∧ w ≤ nI 1
      · rw [if_pos hw, if_pos ⟨ha, hw⟩, bVx_s]
        obtain ⟨w, w1, rfl⟩ := rg_of (by decide) hw
        obtain ⟨n, n1, rfl⟩ := rl_of (by decide) hn
        obtain ⟨wh, a1, rfl⟩ := rg_of (n := 4) (by decide) ha
        rw [tn_n (by omega), tn_n (by omega), tn_n (by omega)]
        unfold nodV
        by_cases q4 : wh = 4
        · rw [if_neg (by rw [q4]; decide), if_pos q4, if_pos C.k, C.r0, t_reached (R.cb w1) (sd_wf I w), bI_s, bit_nI (rb31 _) (by omega)]
          exact clsA_i rfl (Scr.refl h x)
        · rw [if_pos (by rw [k4, nI_eq (by omega) (by decide)]; exact q4), if_neg q4, if_pos C.k, C.r0, if_pos R.so.1, c_nodeField (R.cb w1) n1 (by omega), bI_s]
          exact clsA_i rfl (Scr.refl h x)
      · rw [if_neg hw, if_neg (fun q => hw q.2), bVx_t]
        rfl
    · rw [if_neg ha, if_neg (fun q => ha q.1), bVx_t]
      rfl
  · rw [if_neg hn, if_neg hn, bVx_t]
    rfl
theorem cq_find (Q : CQ h x S z) (I : Inv S z k) (n nm w : Int32) : ClsA (fX9_find x n nm w h) h x (aFind S n nm w) := by
  obtain ⟨C, R⟩ := id Q
  obtain ⟨r1, r2, r3⟩ := C.rfd
  unfold fX9_find kX9_find_0 aFind
  rw [if_pos C.k, t_nod C]
  by_cases hn : 0 ≤ n ∧ n < nI 12
  · rw [if_pos hn, if_pos hn, bVx_s]
    by_cases h1 : nm < 1
    · rw [if_pos h1, if_pos C.k, r1, if_pos r2, r3, if_pos (by decide), if_neg (fun q => Int32.not_le.mpr h1 q.1.1)]
      rfl
    · rw [if_neg h1]
      by_cases h2 : nm ≤ 99
      · rw [if_pos h2, if_pos C.k, t_whr C]
        by_cases hw : 0 ≤ w ∧ w ≤ nI 1
        · have hm : 1 ≤ nm ∧ nm ≤ 99 := ⟨Int32.not_lt.mp h1, h2⟩
          rw [if_pos hw, if_pos ⟨hm, hw⟩, bVx_s]
          obtain ⟨w, w1, rfl⟩ := rg_of (by decide) hw
          obtain ⟨n, n1, rfl⟩ := rl_of (by decide) hn
          obtain ⟨nm, m1, rfl⟩ := rg_of (n := 99) (by decide) ⟨Int32.le_trans (by decide) hm.1, hm.2⟩
          have Wf := sd_wf I w
          rw [tn_n (by omega), tn_n (by omega), tn_n (by omega), if_pos C.k, C.r0, t_entryNamed (R.cb w1) Wf.1 n1 (by omega), bI_s]
          unfold fndV
          by_cases hk : isK (sd S w) n 2 = true
          · rw [if_pos hk, if_pos hk]
            cases hf : fent (sd S w) n nm with
            | none =>
              rw [show half none = none from rfl, oI_n, if_neg (fun q => q rfl)]
              exact clsA_i rfl (Scr.refl h x)
            | some e =>
              have he := fent_lt Wf.1 n1 hf
              have hev := ents_even (fent_mem hf).1
              rw [show half (some e) = some (e / 2) from rfl, oI_s, if_pos (by rw [nI_eqm (by omega)]; exact id), if_pos C.k, C.r0, t_nodeOf (R.cb w1) he hev, bI_s]
              exact clsA_i rfl (Scr.refl h x)
          · rw [if_neg hk, if_neg hk, if_neg (fun q => q rfl)]
            exact clsA_i rfl (Scr.refl h x)
        · rw [if_neg hw, if_neg (fun q => hw q.2), bVx_t]
          rfl
      · rw [if_neg h2, if_pos C.k, r1, if_pos r2, r3, if_pos (by decide), if_neg (fun q => h2 q.1.2)]
        rfl
  · rw [if_neg hn, if_neg hn, bVx_t]
    rfl
theorem FrK.scr {h h' : Hp} {x : Nat} (f : FrK h h' (x + 40)) : Scr h h' x := ⟨f.1, fun a p => f.2 a (by unfold pers at p; omega)⟩
theorem cq_under (Q : CQ h x S z) (I : Inw S z k) (n w : Int32) : ClsA (fX9_under x n w h) h x (aUnder S n w) := by
  obtain ⟨C, R⟩ := id Q
  obtain ⟨kr, kk, kl⟩ := C.kno
  unfold fX9_under kX9_under_0 aUnder
  rw [if_pos C.k, t_nod C]
  by_cases hn : 0 ≤ n ∧ n < nI 12
  · rw [if_pos hn, if_pos hn, bVx_s, if_pos C.k, t_whr C]
    by_cases hw : 0 ≤ w ∧ w ≤ nI 1
    · rw [if_pos hw, if_pos hw, bVx_s, if_pos C.k]
      obtain ⟨w, w1, rfl⟩ := rg_of (by decide) hw
      obtain ⟨n, n1, rfl⟩ := rl_of (by decide) hn
      obtain ⟨g, f1, f2, f3⟩ := c_forgetK C.k kr kk kl
      have Cg : CO g x := C.eq f2.1
      obtain ⟨rk, hrk⟩ := sd_rk I w
      obtain ⟨g1, i1, i2, i3⟩ := t_under (sd_wf I.1 w) hrk n1 ((R.cb w1).frK f2 kk) (f3 _)
      rw [f1, bV_s, if_pos Cg.k, Cg.r0, Cg.kno.1, i1, bI_s, tn_n (by omega), tn_n (by omega)]
      exact clsA_i rfl (f2.trans i2).scr
    · rw [if_neg hw, if_neg hw, bVx_t]
      rfl
  · rw [if_neg hn, if_neg hn, bVx_t]
    rfl
theorem cq_deep (Q : CQ h x S z) (I : Inw S z k) (n w : Int32) : ClsA (fX9_deep x n w h) h x (aDeep S n w) := by
  obtain ⟨C, R⟩ := id Q
  obtain ⟨kr, kk, kl⟩ := C.kno
  unfold fX9_deep kX9_deep_0 aDeep
  rw [if_pos C.k, t_nod C]
  by_cases hn : 0 ≤ n ∧ n < nI 12
  · rw [if_pos hn, if_pos hn, bVx_s, if_pos C.k, t_whr C]
    by_cases hw : 0 ≤ w ∧ w ≤ nI 1
    · rw [if_pos hw, if_pos hw, bVx_s, if_pos C.k]
      obtain ⟨w, w1, rfl⟩ := rg_of (by decide) hw
      obtain ⟨n, n1, rfl⟩ := rl_of (by decide) hn
      obtain ⟨g, f1, f2, f3⟩ := c_forgetK C.k kr kk kl
      have Cg : CO g x := C.eq f2.1
      obtain ⟨rk, hrk⟩ := sd_rk I w
      obtain ⟨g1, i1, i2, i3⟩ := t_deep (sd_wf I.1 w) hrk n1 ((R.cb w1).frK f2 kk) (f3 _)
      rw [f1, bV_s, if_pos Cg.k, Cg.r0, Cg.kno.1, i1, bI_s, tn_n (by omega), tn_n (by omega)]
      exact clsA_i rfl (f2.trans i2).scr
    · rw [if_neg hw, if_neg hw, bVx_t]
      rfl
  · rw [if_neg hn, if_neg hn, bVx_t]
    rfl
theorem cq_room (Q : CQ h x S z) (I : Inv S z k) (n : Int32) : ClsA (fX9_room x n h) h x (aRoom S n) := by
  obtain ⟨C, R⟩ := id Q
  unfold fX9_room kX9_room_0 aRoom
  rw [if_pos C.k, t_nod C]
  by_cases hn : 0 ≤ n ∧ n < nI 12
  · rw [if_pos hn, if_pos hn, bVx_s, if_pos C.k, C.r0]
    obtain ⟨n, n1, rfl⟩ := rl_of (by decide) hn
    have t : fX8_freeEntries (x + 1) 0 (nI n) h = _ := t_free R.cb0 (inv_wfm I).1.1 n1
    rw [t, bI_s, tn_n (by omega)]
    exact clsA_i rfl (Scr.refl h x)
  · rw [if_neg hn, if_neg hn, bVx_t]
    rfl
/-! the reference -/
theorem rq_node (Q : RQ h m S z) (I : Inv S z k) (n wh w : Int32) : RefA (fX10_node m n wh w h) h m (aNode S n wh w) := by
  obtain ⟨M0, -, -⟩ := id Q
  obtain ⟨M, R, Z⟩ := id Q.th0
  have hk : kH (th0 h m) m = 18 := M.k
  obtain ⟨n1, n2, n3⟩ := M.now
  unfold fX10_node kX10_node_0 aNode
  rw [if_pos M0.k, m_isNode2, bI_s]
  by_cases hn : 0 ≤ n ∧ n < nI 12
  · rw [decide_eq_true hn, b2i_t, if_pos (show ¬ (1 : Int32) = 0 by decide), if_pos hn, show FF = 999998 + 1 + 1 from rfl, zX10_node_18]
    unfold kX10_node_18
    have b0 : fX10_bad m 0 1 0 (th0 h m) = _ := m_bad0 M.k (th0_0 h m) 1 0
    have b2 : fX10_bad m 0 2 1 (th0 h m) = _ := m_bad0 M.k (th0_0 h m) 2 1
    have b1 : fX10_bad m 1 2 1 (th0 h m) = _ := m_badT M0 (w := 2) (by decide) (i := 1) (by decide)
    rw [if_pos hk, b0, bI_s, if_neg (show ¬ ¬ (0 : Int32) = 0 by decide), m_in, bI_s]
    by_cases ha : 0 ≤ wh ∧ wh ≤ 4
    · rw [decide_eq_true ha, b2i_t, if_neg (show ¬ (1 : Int32) = 0 by decide), m_isWhere, bI_s]
      by_cases hw : 0 ≤ w ∧ w ≤ nI 1
      · rw [decide_eq_true hw, b2i_t, if_pos (show ¬ (1 : Int32) = 0 by decide), if_pos ⟨ha, hw⟩, zX10_node_48]
        unfold kX10_node_48
        obtain ⟨w, w1, rfl⟩ := rg_of (by decide) hw
        obtain ⟨n, n1', rfl⟩ := rl_of (by decide) hn
        obtain ⟨wh, a1, rfl⟩ := rg_of (n := 4) (by decide) ha
        rw [if_pos hk, b2, bI_s, if_pos rfl, tn_n (by omega), tn_n (by omega), tn_n (by omega)]
        unfold nodV
        by_cases q4 : wh = 4
        · rw [if_pos (by rw [q4]; decide), if_pos hk, m_whereOf w1, bI_s, n1, q_reached (R.rb w1) (sd_wf I w), bI_s, m_has (rb31 _) (by omega), bI_s, if_pos q4]
          cases (rbits (sd S w)).testBit n with
          | false => rw [if_pos (by decide)]; exact refA_i rfl (scm_th0 h m) (th0_0 h m)
          | true => rw [if_neg (by decide)]; exact refA_i rfl (scm_th0 h m) (th0_0 h m)
        · rw [if_neg (by rw [k4, nI_leI (by decide) (by omega)]; omega), if_pos hk, m_whereOf w1, bI_s, n1, q_fieldOf (R.rb w1) n1' (by omega), bI_s, if_neg q4]
          exact refA_i rfl (scm_th0 h m) (th0_0 h m)
      · rw [decide_eq_false hw, b2i_f, if_neg (show ¬ ¬ (0 : Int32) = 0 by decide), if_neg (fun q => hw q.2), zX10_node_48]
        unfold kX10_node_48
        rw [if_pos hk, b1, bI_s, if_neg (by decide)]
        rfl
    · rw [decide_eq_false ha, b2i_f, if_pos rfl, if_neg (fun q => ha q.1), zX10_node_48]
      unfold kX10_node_48
      rw [if_pos hk, b1, bI_s, if_neg (by decide)]
      rfl
  · rw [decide_eq_false hn, b2i_f, if_neg (show ¬ ¬ (0 : Int32) = 0 by decide), if_neg hn, show FF = 999999 + 1 from rfl, zX10_node_18]
    unfold kX10_node_18
    have b1 : fX10_bad m 1 1 0 (th0 h m) = _ := m_badT M0 (w := 1) (by decide) (i := 0) (by decide)
    rw [if_pos hk, b1, bI_s, if_pos (by decide)]
    rfl
theorem rq_find (Q : RQ h m S z) (I : Inv S z k) (n nm w : Int32) : RefA (fX10_find m n nm w h) h m (aFind S n nm w) := by
  obtain ⟨M0, -, -⟩ := id Q
  obtain ⟨M, R, Z⟩ := id Q.th0
  have hk : kH (th0 h m) m = 18 := M.k
  obtain ⟨n1, n2, n3⟩ := M.now
  unfold fX10_find kX10_find_0 aFind
  rw [if_pos M0.k, m_isNode2, bI_s]
  by_cases hn : 0 ≤ n ∧ n < nI 12
  · rw [decide_eq_true hn, b2i_t, if_pos (show ¬ (1 : Int32) = 0 by decide), if_pos hn, show FF = 999998 + 1 + 1 from rfl, zX10_find_18]
    unfold kX10_find_18
    have b0 : fX10_bad m 0 1 0 (th0 h m) = _ := m_bad0 M.k (th0_0 h m) 1 0
    have b2 : fX10_bad m 0 2 1 (th0 h m) = _ := m_bad0 M.k (th0_0 h m) 2 1
    have b1 : fX10_bad m 1 2 1 (th0 h m) = _ := m_badT M0 (w := 2) (by decide) (i := 1) (by decide)
    rw [if_pos hk, b0, bI_s, if_neg (show ¬ ¬ (0 : Int32) = 0 by decide), m_in, bI_s]
    by_cases ha : 1 ≤ nm ∧ nm ≤ 99
    · rw [decide_eq_true ha, b2i_t, if_neg (show ¬ (1 : Int32) = 0 by decide), m_isWhere, bI_s]
      by_cases hw : 0 ≤ w ∧ w ≤ nI 1
      · rw [decide_eq_true hw, b2i_t, if_pos (show ¬ (1 : Int32) = 0 by decide), if_pos ⟨ha, hw⟩, zX10_find_49]
        unfold kX10_find_49
        obtain ⟨w, w1, rfl⟩ := rg_of (by decide) hw
        obtain ⟨n, n1', rfl⟩ := rl_of (by decide) hn
        obtain ⟨nm, m1, rfl⟩ := rg_of (n := 99) (by decide) ⟨Int32.le_trans (by decide) ha.1, ha.2⟩
        have Wf := sd_wf I w
        have ik : fX10_isKind (m + 118) (nI (256 * w)) (nI n) 2 (th0 h m) = _ := q_isKind (R.rb w1) n1' (t := 2) (by decide)
        rw [if_pos hk, b2, bI_s, if_pos rfl, tn_n (by omega), tn_n (by omega), tn_n (by omega), m_whereOf w1, bI_s, if_pos hk, n1, ik, bI_s]
        unfold fndV
        cases hK : isK (sd S w) n 2 with
        | false =>
          rw [if_pos (by decide), if_neg (by decide)]
          exact refA_i rfl (scm_th0 h m) (th0_0 h m)
        | true =>
          have en : fX10_entry (m + 118) (nI (256 * w)) (nI n) (nI nm) (th0 h m) = _ := q_entryO (R.rb w1) Wf.1 n1' (by omega)
          rw [if_neg (by decide), if_pos rfl, if_pos hk, n1, en, bI_s]
          cases hf : fent (sd S w) n nm with
          | none =>
            rw [oI_n, if_neg (fun q => q rfl)]
            exact refA_i rfl (scm_th0 h m) (th0_0 h m)
          | some e =>
            have he := fent_lt Wf.1 n1' hf
            have hidx : nI (256 * w) + nI e + 1 = nI (256 * w + (e + 1)) := by rw [k1, nI_add, nI_add, Nat.add_assoc]
            rw [hf, oI_s] at en
            rw [oI_s, if_pos (by rw [nI_eqm (by omega)]; exact id), if_pos hk, n1, en, bI_s, n2, if_pos rfl, n3, hidx, if_pos (inB_nI (by omega) (by decide)), nI_clamp (by omega), R.sdx w1 (by omega)]
            exact refA_i rfl (scm_th0 h m) (th0_0 h m)
      · rw [decide_eq_false hw, b2i_f, if_neg (show ¬ ¬ (0 : Int32) = 0 by decide), if_neg (fun q => hw q.2), zX10_find_49]
        unfold kX10_find_49
        rw [if_pos hk, b1, bI_s, if_neg (by decide)]
        rfl
    · rw [decide_eq_false ha, b2i_f, if_pos rfl, if_neg (fun q => ha q.1), zX10_find_49]
      unfold kX10_find_49
      rw [if_pos hk, b1, bI_s, if_neg (by decide)]
      rfl
  · rw [decide_eq_false hn, b2i_f, if_neg (show ¬ ¬ (0 : Int32) = 0 by decide), if_neg hn, show FF = 999999 + 1 from rfl, zX10_find_18]
    unfold kX10_find_18
    have b1 : fX10_bad m 1 1 0 (th0 h m) = _ := m_badT M0 (w := 1) (by decide) (i := 0) (by decide)
    rw [if_pos hk, b1, bI_s, if_pos (by decide)]
    rfl
theorem rq_under (Q : RQ h m S z) (I : Inw S z k) (n w : Int32) : RefA (fX10_under m n w h) h m (aUnder S n w) := by
  obtain ⟨M0, -, -⟩ := id Q
  obtain ⟨M, R, Z⟩ := id Q.th0
  have hk : kH (th0 h m) m = 18 := M.k
  obtain ⟨n1, n2, n3⟩ := M.now
  unfold fX10_under kX10_under_0 aUnder
  rw [if_pos M0.k, m_isNode2, bI_s]
  by_cases hn : 0 ≤ n ∧ n < nI 12
  · have b0 : fX10_bad m 0 1 0 (th0 h m) = _ := m_bad0 M.k (th0_0 h m) 1 0
    have b2 : fX10_bad m 0 2 1 (th0 h m) = _ := m_bad0 M.k (th0_0 h m) 2 1
    have b1 : fX10_bad m 1 2 1 (th0 h m) = _ := m_badT M0 (w := 2) (by decide) (i := 1) (by decide)
    rw [decide_eq_true hn, b2i_t, if_pos (show ¬ (1 : Int32) = 0 by decide), if_pos hn, if_pos hk, b0, bI_s, if_neg (show ¬ ¬ (0 : Int32) = 0 by decide), m_isWhere, bI_s]
    by_cases hw : 0 ≤ w ∧ w ≤ nI 1
    · rw [decide_eq_true hw, b2i_t, if_pos (show ¬ (1 : Int32) = 0 by decide), if_pos hw, if_pos hk, b2, bI_s, if_pos rfl]
      obtain ⟨w, w1, rfl⟩ := rg_of (by decide) hw
      obtain ⟨n, n1', rfl⟩ := rl_of (by decide) hn
      obtain ⟨rk, hrk⟩ := sd_rk I w
      rw [m_whereOf w1, bI_s, if_pos hk, q_under hk n1 (R.rb w1) (sd_wf I.1 w) hrk n1', bI_s, tn_n (by omega), tn_n (by omega)]
      exact refA_i rfl (scm_th0 h m) (th0_0 h m)
    · rw [decide_eq_false hw, b2i_f, if_neg (show ¬ ¬ (0 : Int32) = 0 by decide), if_neg hw, if_pos hk, b1, bI_s, if_neg (by decide)]
      rfl
  · have b1 : fX10_bad m 1 1 0 (th0 h m) = _ := m_badT M0 (w := 1) (by decide) (i := 0) (by decide)
    rw [decide_eq_false hn, b2i_f, if_neg (show ¬ ¬ (0 : Int32) = 0 by decide), if_neg hn, if_pos hk, b1, bI_s, if_pos (by decide)]
    rfl
theorem rq_deep (Q : RQ h m S z) (I : Inw S z k) (n w : Int32) : RefA (fX10_deep m n w h) h m (aDeep S n w) := by
  obtain ⟨M0, -, -⟩ := id Q
  obtain ⟨M, R, Z⟩ := id Q.th0
  have hk : kH (th0 h m) m = 18 := M.k
  obtain ⟨n1, n2, n3⟩ := M.now
  unfold fX10_deep kX10_deep_0 aDeep
  rw [if_pos M0.k, m_isNode2, bI_s]
  by_cases hn : 0 ≤ n ∧ n < nI 12
  · have b0 : fX10_bad m 0 1 0 (th0 h m) = _ := m_bad0 M.k (th0_0 h m) 1 0
    have b2 : fX10_bad m 0 2 1 (th0 h m) = _ := m_bad0 M.k (th0_0 h m) 2 1
    have b1 : fX10_bad m 1 2 1 (th0 h m) = _ := m_badT M0 (w := 2) (by decide) (i := 1) (by decide)
    rw [decide_eq_true hn, b2i_t, if_pos (show ¬ (1 : Int32) = 0 by decide), if_pos hn, if_pos hk, b0, bI_s, if_neg (show ¬ ¬ (0 : Int32) = 0 by decide), m_isWhere, bI_s]
    by_cases hw : 0 ≤ w ∧ w ≤ nI 1
    · rw [decide_eq_true hw, b2i_t, if_pos (show ¬ (1 : Int32) = 0 by decide), if_pos hw, if_pos hk, b2, bI_s, if_pos rfl]
      obtain ⟨w, w1, rfl⟩ := rg_of (by decide) hw
      obtain ⟨n, n1', rfl⟩ := rl_of (by decide) hn
      obtain ⟨rk, hrk⟩ := sd_rk I w
      rw [m_whereOf w1, bI_s, if_pos hk, q_deep hk n1 (R.rb w1) (sd_wf I.1 w) hrk n1', bI_s, tn_n (by omega), tn_n (by omega)]
      exact refA_i rfl (scm_th0 h m) (th0_0 h m)
    · rw [decide_eq_false hw, b2i_f, if_neg (show ¬ ¬ (0 : Int32) = 0 by decide), if_neg hw, if_pos hk, b1, bI_s, if_neg (by decide)]
      rfl
  · have b1 : fX10_bad m 1 1 0 (th0 h m) = _ := m_badT M0 (w := 1) (by decide) (i := 0) (by decide)
    rw [decide_eq_false hn, b2i_f, if_neg (show ¬ ¬ (0 : Int32) = 0 by decide), if_neg hn, if_pos hk, b1, bI_s, if_pos (by decide)]
    rfl
theorem rq_room (Q : RQ h m S z) (I : Inv S z k) (n : Int32) : RefA (fX10_room m n h) h m (aRoom S n) := by
  obtain ⟨M0, -, -⟩ := id Q
  obtain ⟨M, R, Z⟩ := id Q.th0
  have hk : kH (th0 h m) m = 18 := M.k
  obtain ⟨n1, n2, n3⟩ := M.now
  unfold fX10_room kX10_room_0 aRoom
  rw [if_pos M0.k, m_isNode2, bI_s]
  by_cases hn : 0 ≤ n ∧ n < nI 12
  · have b0 : fX10_bad m 0 1 0 (th0 h m) = _ := m_bad0 M.k (th0_0 h m) 1 0
    rw [decide_eq_true hn, b2i_t, if_pos (show ¬ (1 : Int32) = 0 by decide), if_pos hn, if_pos hk, b0, bI_s, if_pos rfl]
    obtain ⟨n, n1', rfl⟩ := rl_of (by decide) hn
    have Pw := (inv_wfm I).1.1
    rw [tn_n (by omega)]
    cases hK : isK (mm S) n 2 with
    | false =>
      have ik : fX10_isKind (m + 118) 0 (nI n) 2 (th0 h m) = _ := q_isKind R.rb0 n1' (t := 2) (by decide)
      rw [show FF = 999999 + 1 from rfl, zX10_room_32]
      unfold kX10_room_32
      rw [if_pos hk, n1, ik, bI_s, hK, if_pos (by decide), if_neg (by decide)]
      exact refA_i rfl (scm_th0 h m) (th0_0 h m)
    | true =>
      have hl := ents_len (mm S) n
      have g := q_room_go hk n1 R.rb0 Pw n1' hK (ents (mm S) n) [] FF 0 rfl (by show _ < 1000000; omega) (by omega)
      rw [Nat.zero_add] at g
      rw [if_pos rfl]
      exact refA_i g (scm_th0 h m) (th0_0 h m)
  · have b1 : fX10_bad m 1 1 0 (th0 h m) = _ := m_badT M0 (w := 1) (by decide) (i := 0) (by decide)
    rw [decide_eq_false hn, b2i_f, if_neg (show ¬ ¬ (0 : Int32) = 0 by decide), if_neg hn, if_pos hk, b1, bI_s, if_neg (by decide)]
    rfl
end G4
