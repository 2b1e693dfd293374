/-! ===== what the reference holds between two calls; its work and undo ===== -/
def Kp (A : Nat → Int32) (v : St × List St) : Prop := A 0 = nI v.2.length ∧ v.2.length ≤ 16 ∧ (RowA (fun k => A (1 + k)) v.1 ∧ Bd v.1) ∧ ∀ i S, v.2[i]? = some S → RowA (fun k => A (1 + 3398 * (i + 1) + k)) S ∧ Bd S
def RM (h : Hp) (m : Nat) (T : Nat → Nat) (n : Nat) (ls : List (Nat × Nat)) (fp rs : Int32) (rf : Nat → Int32) : Prop := (h.2 m 1 = nI n ∧ n ≤ 600 ∧ (∀ i, i < n → h.2 (m + 1) i = nI (T i)) ∧ ∀ i, i < n → T i < 256) ∧ RBk h m ls ∧ (h.2 m 3 = fp ∧ h.2 m 15 = rs) ∧ ∀ i, i < 4 → h.2 (m + 2) i = rf i
def RH (h : Hp) (m : Nat) (hi : List St) : Prop := h.2 m 14 = nI hi.length ∧ hi.length ≤ 16 ∧ ∀ i S, hi[i]? = some S → Row h (m + 121 + i) S
def RI (h : Hp) (m : Nat) (im : List (St × List St)) : Prop := h.2 m 16 = nI im.length ∧ im.length ≤ 3 ∧ ∀ g v, im[g]? = some v → Kp (h.2 (m + 138 + g)) v
def RW (h : Hp) (m : Nat) (S : St) (z : Nat) (T : Nat → Nat) (n : Nat) (ls : List (Nat × Nat)) (fp rs : Int32) (rf : Nat → Int32) (hi : List St) (im : List (St × List St)) : Prop := RQ h m S z ∧ RM h m T n ls fp rs rf ∧ RH h m hi ∧ RI h m im
def Gm (h h' : Hp) (m : Nat) : Prop := h'.1 = h.1 ∧ ∀ a, a < m ∨ m + 152 ≤ a → h'.2 a = h.2 a
theorem Gm.trans {h h1 h2 : Hp} {m : Nat} (a : Gm h h1 m) (b : Gm h1 h2 m) : Gm h h2 m := ⟨b.1.trans a.1, fun y q => by rw [b.2 y q, a.2 y q]⟩
section RWS
variable {h h' : Hp} {m z n k N : Nat} {S S' : St} {T : Nat → Nat} {ls : List (Nat × Nat)} {fp rs : Int32} {rf : Nat → Int32} {hi hs : List St} {im : List (St × List St)}
theorem RBk.cg (e0 : h'.2 m 13 = h.2 m 13) (er : ∀ a, m + 4 ≤ a → a ≤ m + 19 → h'.2 a = h.2 a) (A : RBk h m ls) : RBk h' m ls := by
  obtain ⟨a1, a2, a3⟩ := A
  refine ⟨a1, by rw [e0]; exact a2, fun k q hq => ?_⟩
  have hk : k < ls.length := (List.getElem?_eq_some_iff.mp hq).1
  have h16 := a1.1
  rw [er (m + 4 + k) (by omega) (by omega)]
  exact a3 k q hq
theorem RW.cg (A : RW h m S z T n ls fp rs rf hi im) (e : h'.1 = h.1) (f : ∀ a, perM m a → m ≤ a → a < m + 152 → h'.2 a = h.2 a) (f2 : ∀ j, perF j → h'.2 m j = h.2 m j) : RW h' m S z T n ls fp rs rf hi im := by
  obtain ⟨⟨M, R, Z⟩, ⟨⟨a1, a2, a3, a4⟩, a5, ⟨a6, a7⟩, a8⟩, ⟨b1, b2, b3⟩, c1, c2, c3⟩ := A
  have f' : ∀ a, (a = m + 1 ∨ a = m + 2 ∨ (m + 3 ≤ a ∧ a ≤ m + 19) ∨ a = m + 118 ∨ (m + 120 ≤ a ∧ a ≤ m + 140)) → h'.2 a = h.2 a := fun a q => f a (by unfold perM; omega) (by omega) (by omega)
  have g' : ∀ j, (j = 1 ∨ j = 3 ∨ j = 11 ∨ j = 13 ∨ j = 14 ∨ j = 15 ∨ j = 16) → h'.2 m j = h.2 m j := fun j q => f2 j q
  refine ⟨⟨M.eq e, R.eq e (f' _ (by omega)), by rw [g' 11 (by omega)]; exact Z⟩, ⟨⟨by rw [g' 1 (by omega)]; exact a1, a2, fun i hi => by rw [f' (m + 1) (by omega)]; exact a3 i hi, a4⟩, a5.cg (g' 13 (by omega)) (fun a q1 q2 => f' a (by omega)), ⟨by rw [g' 3 (by omega)]; exact a6, by rw [g' 15 (by omega)]; exact a7⟩, fun i hi => by rw [f' (m + 2) (by omega)]; exact a8 i hi⟩, ⟨by rw [g' 14 (by omega)]; exact b1, b2, fun i S' hS => ?_⟩, by rw [g' 16 (by omega)]; exact c1, c2, fun g v hv => ?_⟩
  · have hk : i < hi.length := (List.getElem?_eq_some_iff.mp hS).1
    exact (b3 i S' hS).eq e (f' _ (by omega))
  · have hk : g < im.length := (List.getElem?_eq_some_iff.mp hv).1
    rw [f' (m + 138 + g) (by omega)]
    exact c3 g v hv
theorem RW.scm (A : RW h m S z T n ls fp rs rf hi im) (s : ScM h h' m) : RW h' m S z T n ls fp rs rf hi im := A.cg s.1 (fun a q _ _ => s.2.1 a q) (fun j q => s.2.2 j q)
/-- the reference does not see what the class does -/
theorem RW.kc {x B : Nat} (A : RW h m S z T n ls fp rs rf hi im) (K : KC h h' x B) (hm : x + 92 ≤ m) (hB : m + 152 ≤ B) (hn : m + 152 ≤ nH h) : RW h' m S z T n ls fp rs rf hi im := by
  obtain ⟨⟨M, R, Z⟩, ⟨⟨a1, a2, a3, a4⟩, a5, ⟨a6, a7⟩, a8⟩, ⟨b1, b2, b3⟩, c1, c2, c3⟩ := A
  have f : ∀ a, m ≤ a → a < m + 152 → h'.2 a = h.2 a := fun a q1 q2 => (K.2.2 a (by omega) (by omega) (by omega)).2
  have rw : ∀ r S, m ≤ r → r < m + 152 → Row h r S → Row h' r S := fun r S q1 q2 q => ⟨(K.2.1 r (by omega)).1.trans q.1, (K.2.1 r (by omega)).2.trans q.2.1, by rw [f r q1 q2]; exact q.2.2.1, q.2.2.2⟩
  refine ⟨⟨M.cg (fun a q1 q2 => (K.2.1 a (by omega)).1) (fun a q1 q2 => (K.2.1 a (by omega)).2) (fun a q1 q2 => (K.2.2 a (by omega) (by omega) (by omega)).1), rw _ _ (by omega) (by omega) R, by rw [f m (by omega) (by omega)]; exact Z⟩, ⟨⟨by rw [f m (by omega) (by omega)]; exact a1, a2, fun i hi => by rw [f (m + 1) (by omega) (by omega)]; exact a3 i hi, a4⟩, a5.cg (by rw [f m (by omega) (by omega)]) (fun a q1 q2 => f a (by omega) (by omega)), ⟨by rw [f m (by omega) (by omega)]; exact a6, by rw [f m (by omega) (by omega)]; exact a7⟩, fun i hi => by rw [f (m + 2) (by omega) (by omega)]; exact a8 i hi⟩, ⟨by rw [f m (by omega) (by omega)]; exact b1, b2, fun i S' hS => ?_⟩, by rw [f m (by omega) (by omega)]; exact c1, c2, fun g v hv => ?_⟩
  · have hk : i < hi.length := (List.getElem?_eq_some_iff.mp hS).1
    exact rw _ _ (by omega) (by omega) (b3 i S' hS)
  · have hk : g < im.length := (List.getElem?_eq_some_iff.mp hv).1
    rw [f (m + 138 + g) (by omega) (by omega)]
    exact c3 g v hv
/-- fields of the text are others -/
theorem RW.fl {n' : Nat} {fp' : Int32} (A : RW h m S z T n ls fp rs rf hi im) (e : h'.1 = h.1) (f : ∀ a, perM m a → m ≤ a → a < m + 152 → h'.2 a = h.2 a) (f2 : ∀ j, j = 11 ∨ j = 13 ∨ j = 14 ∨ j = 15 ∨ j = 16 → h'.2 m j = h.2 m j) (e1 : h'.2 m 1 = nI n') (hn' : n' ≤ n) (e3 : h'.2 m 3 = fp') : RW h' m S z T n' ls fp' rs rf hi im := by
  obtain ⟨⟨M, R, Z⟩, ⟨⟨a1, a2, a3, a4⟩, a5, ⟨a6, a7⟩, a8⟩, ⟨b1, b2, b3⟩, c1, c2, c3⟩ := A
  have f' : ∀ a, (a = m + 1 ∨ a = m + 2 ∨ (m + 3 ≤ a ∧ a ≤ m + 19) ∨ a = m + 118 ∨ (m + 120 ≤ a ∧ a ≤ m + 140)) → h'.2 a = h.2 a := fun a q => f a (by unfold perM; omega) (by omega) (by omega)
  refine ⟨⟨M.eq e, R.eq e (f' _ (by omega)), by rw [f2 11 (by omega)]; exact Z⟩, ⟨⟨e1, by omega, fun i hi => by rw [f' (m + 1) (by omega)]; exact a3 i (by omega), fun i hi => a4 i (by omega)⟩, a5.cg (f2 13 (by omega)) (fun a q1 q2 => f' a (by omega)), ⟨e3, by rw [f2 15 (by omega)]; exact a7⟩, fun i hi => by rw [f' (m + 2) (by omega)]; exact a8 i hi⟩, ⟨by rw [f2 14 (by omega)]; exact b1, b2, fun i S' hS => ?_⟩, by rw [f2 16 (by omega)]; exact c1, c2, fun g v hv => ?_⟩
  · have hk : i < hi.length := (List.getElem?_eq_some_iff.mp hS).1
    exact (b3 i S' hS).eq e (f' _ (by omega))
  · have hk : g < im.length := (List.getElem?_eq_some_iff.mp hv).1
    rw [f' (m + 138 + g) (by omega)]
    exact c3 g v hv
theorem mw_bad (A : RW h m S z T n ls fp rs rf hi im) {a : Int32} (ha : ¬ (0 ≤ a ∧ a ≤ nI n ∧ a ≤ nI 150)) : fX10_work m a h = some (.inl (some (.int 0)), bdM h m 1 1) := by
  have M := A.1.1
  have e1 : (upI h.2 m 0 0) m 1 = nI n := by rw [upI_at, if_neg (by decide)]; exact A.2.1.1.1
  have bd := m_badT M (w := 1) (by decide) (i := 1) (by decide)
  have bd : fX10_bad m 1 1 1 (h.1, upI h.2 m 0 0) = _ := bd
  unfold fX10_work kX10_work_0
  rw [if_pos M.k, e1, m_in, bI_s]
  by_cases h1 : 0 ≤ a ∧ a ≤ nI n
  · rw [decide_eq_true h1, if_neg (show ¬ b2i true = 0 by decide), if_neg (show ¬ a ≤ 150 from fun q => ha ⟨h1.1, h1.2, q⟩), if_pos M.k, bd, bI_s, if_neg (by decide)]
  · rw [decide_eq_false h1, if_pos (show b2i false = 0 by decide), if_pos M.k, bd, bI_s, if_neg (by decide)]
theorem mw_in (A : RW h m S z T n ls fp rs rf hi im) {a : Int32} (ha : 0 ≤ a ∧ a ≤ nI n ∧ a ≤ nI 150) : fX10_work m a h = (if ¬ ((th0 h m).2 m 14) = 16 then (bV (fX10_starts m a (th0 h m)) fun h24 => (if kH h24 m = 18 then (gX10_work FF 72 [.ref m, uV] [] (h24.1, (upI h24.2 m 18 0))) else none)) else (some (.inl (some (.int (-20))), (h.1, (upI (upI (th0 h m).2 m 1 0) m 3 (-1)))))) := by
  have M := A.1.1
  have e1 : (upI h.2 m 0 0) m 1 = nI n := by rw [upI_at, if_neg (by decide)]; exact A.2.1.1.1
  have bd : fX10_bad m 0 1 1 (h.1, upI h.2 m 0 0) = _ := m_bad0 (h := th0 h m) M.k (th0_0 h m) 1 1
  unfold fX10_work kX10_work_0
  rw [if_pos M.k, e1, m_in, bI_s, decide_eq_true ⟨ha.1, ha.2.1⟩, if_neg (show ¬ b2i true = 0 by decide), if_pos (show a ≤ 150 from ha.2.2), if_pos M.k, bd, bI_s, if_pos rfl, if_pos (show kH (th0 h m) m = 18 from M.k)]
theorem RW.th0 (A : RW h m S z T n ls fp rs rf hi im) : RW (th0 h m) m S z T n ls fp rs rf hi im := A.scm (scm_th0 h m)
theorem mw_full (A : RW h m S z T n ls fp rs rf hi im) {a : Int32} (ha : 0 ≤ a ∧ a ≤ nI n ∧ a ≤ nI 150) (h16 : hi.length = 16) : ∃ h', fX10_work m a h = some (.inl (some (.int (-20))), h') ∧ Gm h h' m ∧ h'.2 m 0 = 0 ∧ RW h' m S z T 0 ls (-1) rs rf hi im := by
  have A0 := A.th0
  have e14 := A0.2.2.1.1
  rw [h16] at e14
  rw [mw_in A ha, e14, if_neg (show ¬ ¬ nI 16 = 16 from fun q => q rfl)]
  refine ⟨_, rfl, ⟨rfl, fun a q => ?_⟩, ?_, A0.fl rfl (fun a q1 q2 q3 => ?_) (fun j q => ?_) ?_ (Nat.zero_le _) ?_⟩
  · show upI _ _ _ _ a = _
    rw [upI_ne (by omega), upI_ne (by omega)]
    exact upI_ne (by omega)
  · show upI _ _ _ _ m 0 = _
    rw [upI_at, if_neg (by decide), upI_at, if_neg (by decide)]
    exact th0_0 h m
  · show upI _ _ _ _ a = _
    rw [upI_ne (by unfold perM at q1; omega), upI_ne (by unfold perM at q1; omega)]
  · show upI _ _ _ _ m j = _
    rw [upI_at, if_neg (by omega), upI_at, if_neg (by omega)]
  · show upI _ _ _ _ m 1 = _
    rw [upI_at, if_neg (by decide), upI_at, if_pos rfl]
    rfl
  · show upI _ _ _ _ m 3 = _
    rw [upI_at, if_pos rfl]
/-- behind the reading of a text: what a text may have changed -/
theorem mw_go (A : RW h m S z T n ls fp rs rf hi im) {k' : Nat} {p : Nat} (h1 : p ≤ n) (h2 : p ≤ 150) (h16 : hi.length < 16) (I : Inx S z (k' + 768000)) : match pFo T p (p + 1) 0 0 with
    | .inr e => ∃ h', fX10_work m (nI p) h = some (.inl (some (.int (nI e.1 - 10))), h') ∧ Gm h h' m ∧ h'.2 m 0 = 0 ∧ RW h' m S z T 0 ls (nI e.2) rs rf hi im
    | .inl v => ∃ h', fX10_work m (nI p) h = some (.inl (some (.int (nI (run z v.1 (S, 0, 0, 0)).2.2.1))), h') ∧ Gm h h' m ∧ h'.2 m 0 = 0 ∧ RW h' m (run z v.1 (S, 0, 0, 0)).1 z T 0 ls (-1) (nI (run z v.1 (S, 0, 0, 0)).2.2.2) rf (hi ++ [S]) im := by
  have A0 := A.th0
  have M0 := A0.1.1
  have e14 := A0.2.2.1.1
  obtain ⟨⟨a1, a2, a3, a4⟩, a5, ⟨a6, a7⟩, a8⟩ := A0.2.1
  obtain ⟨h24, s1, s2, s3, s4, s5, s6, s7, s8⟩ := m_starts (n := p) M0 (by omega) (fun i hi => a3 i (by omega)) (fun i hi => a4 i (by omega))
  obtain ⟨g, hg⟩ : ∃ g : Hp, g = (h24.1, upI h24.2 m 18 0) := ⟨_, rfl⟩
  have g1 : g.1 = (th0 h m).1 := by rw [hg]; exact s2
  have g2 : ∀ a, a ≠ m → g.2 a = (th0 h m).2 a := fun a q => by rw [hg]; show upI _ _ _ _ a = _; rw [upI_ne q]; exact s3 a q
  have gj : ∀ j, j ≠ 18 → g.2 m j = h24.2 m j := fun j q => by rw [hg]; show upI _ _ _ _ m j = _; rw [upI_at, if_neg q]
  have X : RP g m T p (bk T p 0) := by
    obtain ⟨⟨x1, x2, x3, x4, x5⟩, x6, x7, x8⟩ := s5
    exact ⟨⟨x1.eq (by rw [hg]), by rw [gj 2 (by decide)]; exact x2, x3, fun i hi => by rw [hg]; show upI _ _ _ _ (m + 1) i = _; rw [upI_ne (by omega)]; exact x4 i hi, x5⟩, by rw [gj 4 (by decide)]; exact x6, by rw [gj 5 (by decide)]; exact x7, x8⟩
  obtain ⟨h', fl', w1, w2, w3, w4⟩ := m_work_go (T := T) (n := p) (p + 1) 0 0 FF m g (by omega) (show p + 1 < 1000000 by omega) X (Nat.zero_le _) (by omega) (by rw [hg]; show upI _ _ _ _ m 18 = _; rw [upI_at, if_pos rfl]; rfl) (by rw [gj 8 (by decide)]; exact s8) (by omega)
  have st : fX10_work m (nI p) h = gX10_work fl' 101 [.ref m, uV] [] h' := by
    rw [mw_in A ⟨nI_pos' (by omega), by rw [nI_leI (by omega) (by omega)]; exact h1, by rw [nI_leI (by omega) (by decide)]; exact h2⟩, e14, if_pos (show ¬ nI hi.length = 16 by rw [k16, nI_eq (by omega) (by decide)]; omega), s1, bV_s, if_pos s5.k, ← hg, w1]
  obtain ⟨fl', rfl⟩ : ∃ g, fl' = g + 1 := ⟨fl' - 1, by have w2 : 1000000 ≤ fl' + (p + 1) + 1 := w2; omega⟩
  rw [zX10_work_101] at st
  -- what is left of it all
  have f1 : h'.1 = h.1 := w3.1.trans g1
  have f2 : ∀ a, a ≠ m → a < m + 38 ∨ m + 118 ≤ a → h'.2 a = h.2 a := fun a q1 q2 => by
    rw [w3.2.1 a q1 (by omega), g2 a q1]
    exact upI_ne q1
  have f3 : ∀ j, j ≠ 1 → j ≠ 2 → j ≠ 4 → j ≠ 5 → j ≠ 6 → j ≠ 7 → j ≠ 8 → j ≠ 18 → h'.2 m j = (th0 h m).2 m j := fun j q1 q2 q4 q5 q6 q7 q8 q18 => by
    rw [w3.2.2 j q4 q5 q6 q8 q18, gj j q18, s4 j q1 q2 q4 q5 q6 q7 q8]
  have t1 : h'.2 m 1 = nI 0 := by rw [w3.2.2 1 (by decide) (by decide) (by decide) (by decide) (by decide), gj 1 (by decide), s6]; rfl
  have t0 : h'.2 m 0 = 0 := by rw [f3 0 (by decide) (by decide) (by decide) (by decide) (by decide) (by decide) (by decide) (by decide)]; exact th0_0 h m
  have M' : MS h' m := A.1.1.eq f1
  have A' : RW h' m S z T 0 ls fp rs rf hi im := A0.fl f1 (fun a q1 q2 q3 => by
      unfold perM at q1
      rw [w3.2.1 a (by omega) (by omega), g2 a (by omega)]) (fun j q => f3 j (by omega) (by omega) (by omega) (by omega) (by omega) (by omega) (by omega) (by omega)) t1 (Nat.zero_le _) (by rw [f3 3 (by decide) (by decide) (by decide) (by decide) (by decide) (by decide) (by decide) (by decide)]; exact a6)
  have Gf : Gm h h' m := ⟨f1, fun a q => f2 a (by omega) (by omega)⟩
  cases e : pFo T p (p + 1) 0 0 with
  | inr er =>
    rw [e] at w4
    obtain ⟨x1, x2, x3⟩ := w4
    refine ⟨(h'.1, upI h'.2 m 3 (nI er.2)), ?_, Gf.trans ⟨rfl, fun a q => upI_ne (by omega)⟩, ?_, A'.fl rfl (fun a q1 q2 q3 => upI_ne (by unfold perM at q1; omega)) (fun j q => ?_) ?_ (Nat.le_refl _) ?_⟩
    · rw [st]
      unfold kX10_work_101
      rw [if_pos M'.k, if_neg x2.nz]
      unfold fX10_ends kX10_ends_0
      rw [if_pos M'.k, upI_at, if_neg (by decide), x2.2.1, x2.2.2.1, bI_s]
    · show upI _ _ _ _ m 0 = _
      rw [upI_at, if_neg (by decide)]
      exact t0
    · show upI _ _ _ _ m j = _
      rw [upI_at, if_neg (by omega)]
    · show upI _ _ _ _ m 1 = _
      rw [upI_at, if_neg (by decide)]
      exact t1
    · show upI _ _ _ _ m 3 = _
      rw [upI_at, if_pos rfl]
  | inl v =>
    rw [e] at w4
    obtain ⟨x1, x2, x3, x4⟩ := w4
    have hsz : fsz v.1 ≤ 37 := by
      have := pFo_adv (p + 1) 0 0 v.1 v.2 (by omega) e
      omega
    have x2 : h'.2 m 18 = nI (fsz v.1) := by rw [x2, Nat.zero_add]
    have e14' : h'.2 m 14 = nI hi.length := A'.2.2.1.1
    obtain ⟨q1, hq1⟩ : ∃ q1 : Hp, q1 = (h'.1, upI h'.2 m 3 (-1)) := ⟨_, rfl⟩
    have R1 : Row q1 (m + 118) S := by rw [hq1]; exact A'.1.2.1.up (upI_ne (by omega))
    have br := M'.bef.2 hi.length (by omega)
    have er2 : m + 120 + 1 + hi.length = m + 121 + hi.length := by omega
    rw [er2] at br
    obtain ⟨h5, c1, c2, c3, c4⟩ := m_copies (h := q1) (r2 := m + 121 + hi.length) R1 (by omega) (by rw [hq1]; exact br.2.1) (by rw [hq1]; exact br.2.2)
    have c2' : h5.1 = h'.1 := by rw [c2, hq1]
    have j5 : ∀ a, a ≠ m → a ≠ m + 121 + hi.length → h5.2 a = h'.2 a := fun a w1 w2 => by rw [c3 a w2, hq1]; exact upI_ne w1
    have m5 : ∀ j, j ≠ 3 → h5.2 m j = h'.2 m j := fun j q => by rw [c3 m (by omega), hq1]; show upI _ _ _ _ m j = _; rw [upI_at, if_neg q]
    have m53 : h5.2 m 3 = -1 := by rw [c3 m (by omega), hq1]; show upI _ _ _ _ m 3 = _; rw [upI_at, if_pos rfl]
    obtain ⟨q5, hq5⟩ : ∃ q5 : Hp, q5 = (h5.1, (upI (upI (upI (upI h5.2 m 14 (nI (hi.length + 1))) m 31 0) m 32 0) m 15 0)) := ⟨_, rfl⟩
    have j6 : ∀ a, a ≠ m → q5.2 a = h5.2 a := fun a q => by rw [hq5]; show upI _ _ _ _ a = _; rw [upI_ne q, upI_ne q, upI_ne q, upI_ne q]
    have m6 : ∀ j, j ≠ 14 → j ≠ 31 → j ≠ 32 → j ≠ 15 → q5.2 m j = h5.2 m j := fun j w1 w2 w3 w4 => by rw [hq5]; show upI _ _ _ _ m j = _; rw [upI_at, if_neg w4, upI_at, if_neg w3, upI_at, if_neg w2, upI_at, if_neg w1]
    have G5 : RG q5 m z k' (S, 0, 0, 0) := by
      refine ⟨M'.eq (by rw [hq5]; exact c2'), ?_, ?_, ?_, ?_, ?_, Nat.zero_le _, Nat.le_refl _, I⟩
      · exact Row.eq (h := h') (by rw [hq5]; exact c2') (by rw [j6 _ (by omega), j5 _ (by omega) (by omega)]) A'.1.2.1
      · rw [m6 11 (by decide) (by decide) (by decide) (by decide), m5 11 (by decide)]; exact A'.1.2.2
      · rw [hq5]; show upI _ _ _ _ m 31 = _; rw [upI_at, if_neg (by decide), upI_at, if_neg (by decide), upI_at, if_pos rfl]; rfl
      · rw [hq5]; show upI _ _ _ _ m 32 = _; rw [upI_at, if_neg (by decide), upI_at, if_pos rfl]; rfl
      · rw [hq5]; show upI _ _ _ _ m 15 = _; rw [upI_at, if_pos rfl]; rfl
    have L5 : LayR q5 m 0 v.1 := x4.cg v.1 0 (fun a w1 w2 => by rw [j6 a (by omega), j5 a (by omega) (by omega)])
    obtain ⟨h8, d1, d2, d3⟩ := m_goes (T := T) (n := p) (f := p + 1) (q := v.2) e hsz G5 L5
    obtain ⟨y1, y2, y3, y4, y5, y6, y7⟩ := d3
    have e8 : h8.1 = h'.1 := by rw [d2.1, hq5]; exact c2'
    have n8 : ∀ a, a ≠ m → a ≠ m + 118 → a ≠ m + 147 → a ≠ m + 148 → a ≠ m + 149 → a ≠ m + 121 + hi.length → h8.2 a = h'.2 a := fun a w1 w2 w3 w4 w5 w6 => by rw [d2.2.1 a w1 w2 w3 w4 w5, j6 a w1, j5 a w1 w6]
    have m8 : ∀ j, j ≠ 15 → j ≠ 30 → j ≠ 31 → j ≠ 32 → j ≠ 14 → j ≠ 3 → h8.2 m j = h'.2 m j := fun j w1 w2 w3 w4 w5 w6 => by rw [d2.2.2 j w1 w2 w3 w4, m6 j w5 w3 w4 w1, m5 j w6]
    obtain ⟨⟨M9, R9, Z9⟩, ⟨⟨a1', a2', a3', a4'⟩, a5', ⟨a6', a7'⟩, a8'⟩, ⟨b1', b2', b3'⟩, c1'', c2'', c3''⟩ := A'
    refine ⟨h8, ?_, ?_, ?_, ⟨y1, y2, y3⟩, ⟨⟨?_, by omega, fun i hi => by omega, fun i hi => by omega⟩, ?_, ⟨?_, y6⟩, fun i hi => ?_⟩, ⟨?_, ?_, fun i S' hS => ?_⟩, ?_, c2'', fun g v' hv => ?_⟩
    · rw [st]
      unfold kX10_work_101
      have u14 : upI h'.2 m 3 (-1) m 14 = nI hi.length := by rw [upI_at, if_neg (by decide)]; exact e14'
      have u18 : (upI (upI (upI (upI h5.2 m 14 (nI (hi.length + 1))) m 31 0) m 32 0) m 15 0) m 18 = nI (fsz v.1) := by
        rw [upI_at, if_neg (by decide), upI_at, if_neg (by decide), upI_at, if_neg (by decide), upI_at, if_neg (by decide), m5 18 (by decide)]
        exact x2
      rw [if_pos M'.k, if_pos x1.2.2.1, M'.bef.1.1, if_pos M'.bef.1.2.1, u14, M'.bef.1.2.2, if_pos (inB_nI h16 (by decide)), nI_clamp (by omega), br.1, M'.now.1, ← hq1, c1, bV_s, if_pos (show kH h5 m = 18 by rw [kh_eq c2']; exact M'.k), m5 14 (by decide), e14', nI_1, u18, ← hq5, d1, bV_s, if_pos y1.k, y5]
    · exact Gf.trans ⟨e8, fun a q => n8 a (by omega) (by omega) (by omega) (by omega) (by omega) (by omega)⟩
    · rw [m8 0 (by decide) (by decide) (by decide) (by decide) (by decide) (by decide)]; exact t0
    · rw [m8 1 (by decide) (by decide) (by decide) (by decide) (by decide) (by decide)]; exact t1
    · exact a5'.cg (m8 13 (by decide) (by decide) (by decide) (by decide) (by decide) (by decide)) (fun a w1 w2 => n8 a (by omega) (by omega) (by omega) (by omega) (by omega) (by omega))
    · rw [d2.2.2 3 (by decide) (by decide) (by decide) (by decide), m6 3 (by decide) (by decide) (by decide) (by decide)]; exact m53
    · rw [n8 (m + 2) (by omega) (by omega) (by omega) (by omega) (by omega) (by omega)]; exact a8' i hi
    · rw [d2.2.2 14 (by decide) (by decide) (by decide) (by decide), hq5, List.length_append, List.length_singleton]
      show upI _ _ _ _ m 14 = _
      rw [upI_at, if_neg (by decide), upI_at, if_neg (by decide), upI_at, if_neg (by decide), upI_at, if_pos rfl]
    · rw [List.length_append, List.length_singleton]; omega
    · by_cases ei : i = hi.length
      · rw [ei, List.getElem?_append_right (Nat.le_refl _), Nat.sub_self] at hS
        injection hS with hS
        rw [ei, ← hS]
        exact Row.eq (h := h5) (by rw [d2.1, hq5]) (by rw [d2.2.1 _ (by omega) (by omega) (by omega) (by omega) (by omega), j6 _ (by omega)]) c4
      · have hk : i < (hi ++ [S]).length := (List.getElem?_eq_some_iff.mp hS).1
        rw [List.length_append, List.length_singleton] at hk
        rw [List.getElem?_append_left (by omega)] at hS
        exact (b3' i S' hS).eq e8 (n8 _ (by omega) (by omega) (by omega) (by omega) (by omega) (by omega))
    · rw [m8 16 (by decide) (by decide) (by decide) (by decide) (by decide) (by decide)]; exact c1''
    · have hk : g < im.length := (List.getElem?_eq_some_iff.mp hv).1
      rw [n8 (m + 138 + g) (by omega) (by omega) (by omega) (by omega) (by omega) (by omega)]
      exact c3'' g v' hv
/-- the reference: undo -/
theorem mu_0 (A : RW h m S z T n ls fp rs rf hi im) (h0 : hi = []) : fX10_undo m h = some (.inl (some (.int (-1))), th0 h m) := by
  have A0 := A.th0
  have e14 := A0.2.2.1.1
  rw [h0] at e14
  have e14 : upI h.2 m 0 0 m 14 = nI ([] : List St).length := e14
  unfold fX10_undo kX10_undo_0
  rw [if_pos A.1.1.k, e14, if_neg (show ¬ ¬ nI ([] : List St).length = 0 from fun q => q rfl)]
theorem mu_1 {l : List St} {P : St} (A : RW h m S z T n ls fp rs rf (l ++ [P]) im) : ∃ h', fX10_undo m h = some (.inl (some (.int (nI l.length))), h') ∧ Gm h h' m ∧ h'.2 m 0 = 0 ∧ RW h' m P z T n ls fp 0 rf l im := by
  have A0 := A.th0
  obtain ⟨⟨M, R, Z⟩, ⟨⟨a1, a2, a3, a4⟩, a5, ⟨a6, a7⟩, a8⟩, ⟨b1, b2, b3⟩, c1, c2, c3⟩ := A0
  rw [List.length_append, List.length_singleton] at b1 b2
  have R1 := b3 l.length P (by rw [List.getElem?_append_right (Nat.le_refl _), Nat.sub_self]; rfl)
  have hsb : nI (l.length + 1) - 1 = nI l.length := sub8 (by omega)
  obtain ⟨q1, hq1⟩ : ∃ q1 : Hp, q1 = (h.1, upI (upI h.2 m 0 0) m 14 (nI l.length)) := ⟨_, rfl⟩
  have br := M.bef.2 l.length (by omega)
  have er2 : m + 120 + 1 + l.length = m + 121 + l.length := by omega
  rw [er2] at br
  have Rq : Row q1 (m + 121 + l.length) P := by rw [hq1]; exact R1.up (I := upI (upI h.2 m 0 0) m 14 (nI l.length)) (upI_ne (by omega))
  obtain ⟨h5, d1, d2, d3, d4⟩ := m_copies (h := q1) (r2 := m + 118) Rq (by omega) (by rw [hq1]; exact M.now.2.1) (by rw [hq1]; exact M.now.2.2)
  have e5 : h5.1 = h.1 := by rw [d2, hq1]
  have n5 : ∀ a, a ≠ m → a ≠ m + 118 → h5.2 a = (th0 h m).2 a := fun a w1 w2 => by rw [d3 a w2, hq1]; exact upI_ne w1
  have m5 : ∀ j, j ≠ 14 → h5.2 m j = (th0 h m).2 m j := fun j q => by rw [d3 m (by omega), hq1]; show upI _ _ _ _ m j = _; rw [upI_at, if_neg q]
  have m14 : h5.2 m 14 = nI l.length := by rw [d3 m (by omega), hq1]; show upI _ _ _ _ m 14 = _; rw [upI_at, if_pos rfl]
  obtain ⟨h', hh'⟩ : ∃ h' : Hp, h' = (h5.1, upI h5.2 m 15 0) := ⟨_, rfl⟩
  have e' : h'.1 = (th0 h m).1 := by rw [hh']; exact e5
  have n' : ∀ a, a ≠ m → a ≠ m + 118 → h'.2 a = (th0 h m).2 a := fun a w1 w2 => by rw [hh']; show upI _ _ _ _ a = _; rw [upI_ne w1]; exact n5 a w1 w2
  have m' : ∀ j, j ≠ 14 → j ≠ 15 → h'.2 m j = (th0 h m).2 m j := fun j w1 w2 => by rw [hh']; show upI _ _ _ _ m j = _; rw [upI_at, if_neg w2]; exact m5 j w1
  have t14 : h'.2 m 14 = nI l.length := by rw [hh']; show upI _ _ _ _ m 14 = _; rw [upI_at, if_neg (by decide)]; exact m14
  refine ⟨h', ?_, ⟨e', fun a q => ?_⟩, ?_, ⟨M.eq e', ?_, ?_⟩, ⟨⟨?_, a2, fun i hi => ?_, a4⟩, ?_, ⟨?_, ?_⟩, fun i hi => ?_⟩, ⟨t14, by omega, fun i S' hS => ?_⟩, ?_, c2, fun g v hv => ?_⟩
  · unfold fX10_undo kX10_undo_0
    have b1 : upI h.2 m 0 0 m 14 = nI (l.length + 1) := b1
    have k5 : kH h5 m = 18 := by rw [kh_eq e5]; exact A.1.1.k
    rw [if_pos A.1.1.k, b1, if_pos (show ¬ nI (l.length + 1) = 0 by rw [nI_eq0 (by omega)]; omega), A.1.1.bef.1.1, if_pos A.1.1.bef.1.2.1, hsb, upI_at, if_pos rfl, A.1.1.bef.1.2.2, if_pos (inB_nI (by omega) (by decide)), nI_clamp (by omega), show rH h (m + 120) l.length = m + 121 + l.length from br.1, A.1.1.now.1, ← hq1, d1, bV_s, if_pos k5, upI_at, if_neg (by decide), m14, hh']
  · rw [n' a (by omega) (by omega)]; exact upI_ne (by omega)
  · rw [m' 0 (by decide) (by decide)]; exact th0_0 h m
  · exact d4.eq (by rw [hh']) (by rw [hh']; exact upI_ne (by omega))
  · rw [m' 11 (by decide) (by decide)]; exact Z
  · rw [m' 1 (by decide) (by decide)]; exact a1
  · rw [n' (m + 1) (by omega) (by omega)]; exact a3 i hi
  · exact a5.cg (m' 13 (by decide) (by decide)) (fun a w1 w2 => n' a (by omega) (by omega))
  · rw [m' 3 (by decide) (by decide)]; exact a6
  · rw [hh']; show upI _ _ _ _ m 15 = _; rw [upI_at, if_pos rfl]
  · rw [n' (m + 2) (by omega) (by omega)]; exact a8 i hi
  · have hk : i < l.length := (List.getElem?_eq_some_iff.mp hS).1
    exact (b3 i S' (by rw [List.getElem?_append_left hk]; exact hS)).eq e' (n' _ (by omega) (by omega))
  · rw [m' 16 (by decide) (by decide)]; exact c1
  · have hk : g < im.length := (List.getElem?_eq_some_iff.mp hv).1
    rw [n' (m + 138 + g) (by omega) (by omega)]
    exact c3 g v hv
end RWS
