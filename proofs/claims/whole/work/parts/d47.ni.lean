/-! ===== constructors ===== -/
theorem ext_nwM (h : Hp) (N K : Nat) : Ext h (nwM h N K) ∧ ∀ a, a < nH h → (nwM h N K).2 a = h.2 a := by
  have hne : ∀ a, a < nH h → ¬ a = h.1.1 ∧ ¬ (h.1.1 < a ∧ a ≤ h.1.1 + N) ∧ ¬ (h.1.1 ≤ a ∧ a ≤ h.1.1 + N) := fun a ha => by
    have : a < h.1.1 := ha
    exact ⟨by omega, by omega, by omega⟩
  refine ⟨⟨by rw [nwM_n]; omega, fun a ha => ?_⟩, fun a ha => if_neg (hne a ha).2.2⟩
  obtain ⟨q1, q2, -⟩ := hne a ha
  refine ⟨?_, ?_, ?_⟩
  · show (if a = h.1.1 then 7 else if h.1.1 < a ∧ a ≤ h.1.1 + N then 1 else h.1.2.2.1 a) = _
    rw [if_neg q1, if_neg q2]
  · show (if a = h.1.1 then N else if h.1.1 < a ∧ a ≤ h.1.1 + N then K else h.1.2.2.2.1 a) = _
    rw [if_neg q1, if_neg q2]
  · show (if a = h.1.1 then (fun i => if i < N then h.1.1 + 1 + i else 0) else if h.1.1 < a ∧ a ≤ h.1.1 + N then fun _ => 0 else h.1.2.2.2.2 a) = _
    rw [if_neg q1, if_neg q2]
/-- field, kind, length, and (kind 7) how long its rows are -/
abbrev It : Type := Nat × Nat × Nat × Nat
def szI (v : It) : Nat := if v.2.1 = 7 then 1 + v.2.2.1 else 1
def slI (v : It) : Nat := if v.2.1 = 7 then v.2.2.1 + v.2.2.1 * v.2.2.2 else v.2.2.1
def nB (h : Hp) (o : Nat) (v : It) : Hp := if v.2.1 = 7 then sR (nwM h v.2.2.1 v.2.2.2) o v.1 (nH h) else nA h o v.1 v.2.1 v.2.2.1
/-- what an item is, at a -/
def ISt (h : Hp) (o a : Nat) (v : It) : Prop := ARR h o v.1 a v.2.1 v.2.2.1 ∧ (v.2.1 = 7 → ROWS h a v.2.2.1 v.2.2.2) ∧ (v.2.1 ≠ 7 → rH h a = (fun _ => 0) ∧ h.2 a = fun _ => 0)
theorem nB_ok {h : Hp} {o : Nat} (v : It) (ho : o < nH h) : Gb h (nB h o v) o (szI v) (slI v) ∧ ISt (nB h o v) o (nH h) v ∧ ∀ j, rH (nB h o v) o j = if j = v.1 then nH h else rH h o j := by
  unfold nB szI slI ISt
  by_cases e : v.2.1 = 7
  · rw [if_pos e, if_pos e, if_pos e]
    obtain ⟨E, e2⟩ := ext_nwM h v.2.2.1 v.2.2.2
    have er : ∀ j, rH (sR (nwM h v.2.2.1 v.2.2.2) o v.1 (nH h)) o j = if j = v.1 then nH h else rH h o j := fun j => by
      show upR _ _ _ _ o j = _
      rw [upR_at]
      by_cases w : j = v.1
      · rw [if_pos w, if_pos w]
      · rw [if_neg w, if_neg w]
        exact E.r ho j
    have rn : rH (sR (nwM h v.2.2.1 v.2.2.2) o v.1 (nH h)) (nH h) = fun i => if i < v.2.2.1 then nH h + 1 + i else 0 := by
      show upR _ _ _ _ (nH h) = _
      rw [upR_ne (by omega)]
      exact if_pos rfl
    refine ⟨⟨by show nH h + 1 + v.2.2.1 = _; omega, rfl, fun a ha => ⟨E.k ha, E.l ha, e2 a ha⟩, fun a ha q => ?_⟩, ⟨⟨by rw [er, if_pos rfl], by rw [e]; exact if_pos rfl, if_pos rfl⟩, fun _ i hi => ⟨?_, ?_, ?_⟩, fun q => absurd e q⟩, er⟩
    · show upR _ _ _ _ a = _
      rw [upR_ne q]
      exact (E.2 a ha).2.2
    · rw [rn]; exact if_pos hi
    · show (if nH h + 1 + i = h.1.1 then 7 else if h.1.1 < nH h + 1 + i ∧ nH h + 1 + i ≤ h.1.1 + v.2.2.1 then 1 else h.1.2.2.1 (nH h + 1 + i)) = 1
      rw [if_neg (show ¬ h.1.1 + 1 + i = h.1.1 by omega), if_pos (show h.1.1 < h.1.1 + 1 + i ∧ h.1.1 + 1 + i ≤ h.1.1 + v.2.2.1 by omega)]
    · show (if nH h + 1 + i = h.1.1 then v.2.2.1 else if h.1.1 < nH h + 1 + i ∧ nH h + 1 + i ≤ h.1.1 + v.2.2.1 then v.2.2.2 else h.1.2.2.2.1 (nH h + 1 + i)) = v.2.2.2
      rw [if_neg (show ¬ h.1.1 + 1 + i = h.1.1 by omega), if_pos (show h.1.1 < h.1.1 + 1 + i ∧ h.1.1 + 1 + i ≤ h.1.1 + v.2.2.1 by omega)]
  · rw [if_neg e, if_neg e, if_neg e]
    obtain ⟨c1, c2, c3, c4, c5⟩ := na_at (f := v.1) (k := v.2.1) (len := v.2.2.1) ho
    exact ⟨na_b ho, ⟨⟨by rw [c5, if_pos rfl], c1, c2⟩, fun q => absurd q e, fun _ => ⟨c3, c4⟩⟩, c5⟩
theorem ISt.gb {h h' : Hp} {o a dn dz : Nat} {v : It} (A : ISt h o a v) (g : Gb h h' o dn dz) (ha : a + szI v ≤ nH h) (hao : a ≠ o) (er : rH h' o v.1 = rH h o v.1) : ISt h' o a v := by
  obtain ⟨⟨a1, a2, a3⟩, a4, a5⟩ := A
  have sz1 : 1 ≤ szI v := by unfold szI; split <;> omega
  obtain ⟨g1, g2, g3, g4⟩ := g
  obtain ⟨c1, c2, c3⟩ := g3 a (by omega)
  refine ⟨⟨by rw [er]; exact a1, c1.trans a2, c2.trans a3⟩, fun e i hi => ?_, fun e => ?_⟩
  · obtain ⟨b1, b2, b3⟩ := a4 e i hi
    have : szI v = 1 + v.2.2.1 := if_pos e
    obtain ⟨d1, d2, -⟩ := g3 (a + 1 + i) (by omega)
    exact ⟨by rw [g4 a (by omega) hao]; exact b1, d1.trans b2, d2.trans b3⟩
  · obtain ⟨b1, b2⟩ := a5 e
    exact ⟨by rw [g4 a (by omega) hao]; exact b1, by rw [c3]; exact b2⟩
def nBs (o : Nat) : List It → Hp → Hp
  | [], h => h
  | v :: l, h => nBs o l (nB h o v)
def szs : List It → Nat
  | [] => 0
  | v :: l => szI v + szs l
def sls : List It → Nat
  | [] => 0
  | v :: l => slI v + sls l
theorem nBs_ok : ∀ (l : List It) (h : Hp) (o : Nat), o < nH h → (l.map (fun v => v.1)).Nodup →
    Gb h (nBs o l h) o (szs l) (sls l) ∧ (∀ i v, l[i]? = some v → ISt (nBs o l h) o (nH h + szs (l.take i)) v) ∧ ∀ j, j ∉ l.map (fun v => v.1) → rH (nBs o l h) o j = rH h o j := by
  intro l
  induction l with
  | nil => intro h o ho _; exact ⟨Gb.refl h o, fun i v hv => by simp at hv, fun j _ => rfl⟩
  | cons v l ih =>
    intro h o ho nd
    rw [List.map_cons, List.nodup_cons] at nd
    obtain ⟨g1, a1, r1⟩ := nB_ok v ho
    have n1 : nH (nB h o v) = nH h + szI v := g1.1
    obtain ⟨i1, i2, i3⟩ := ih (nB h o v) o (by omega) nd.2
    refine ⟨g1.trans i1, fun i w hw => ?_, fun j hj => ?_⟩
    · cases i with
      | zero =>
        rw [List.getElem?_cons_zero] at hw
        injection hw with hw
        subst hw
        exact a1.gb i1 (by rw [n1]; exact Nat.le_refl _) (by omega) (i3 v.1 nd.1)
      | succ i =>
        rw [List.getElem?_cons_succ] at hw
        have := i2 i w hw
        rw [n1, Nat.add_assoc] at this
        exact this
    · rw [List.map_cons, List.mem_cons, not_or] at hj
      show rH (nBs o l (nB h o v)) o j = _
      rw [i3 j hj.2, r1, if_neg hj.1]
theorem nBs_k {l : List It} {h : Hp} {o k : Nat} (ho : o < nH h) (hk : kH h o = k) (nd : (l.map (fun v => v.1)).Nodup) : kH (nBs o l h) o = k ∧ o < nH (nBs o l h) := by
  obtain ⟨g, -⟩ := nBs_ok l h o ho nd
  exact ⟨(g.2.2.1 o ho).1.trans hk, by have := g.1; omega⟩
theorem nBs_app : ∀ (l : List It) (o : Nat) (v : It) (h : Hp), nBs o (l ++ [v]) h = nB (nBs o l h) o v := by
  intro l
  induction l with
  | nil => intro o v h; rfl
  | cons w l ih => intro o v h; exact ih o v (nB h o w)
theorem nb_gl {h : Hp} {o f k len ko : Nat} {K : Hp → RS} (l : List It) (ho : o < nH h) (hk : kH h o = ko) (nd : (l.map (fun v => v.1)).Nodup) (k7 : k ≠ 7) : (letH (nwH (nBs o l h) k len len) fun (h2 : Hp) => (if kH h2 o = ko then (letH (sR h2 o f (nH (nBs o l h))) fun (h5 : Hp) => K h5) else none)) = K (nBs o (l ++ [(f, k, len, 0)]) h) := by
  rw [na_go (nBs_k ho hk nd).2 (nBs_k ho hk nd).1, nBs_app]
  unfold nB
  rw [if_neg (show ¬ k = 7 from k7)]
theorem nb_gm {h : Hp} {o f N W ko : Nat} {K : Hp → RS} (l : List It) (ho : o < nH h) (hk : kH h o = ko) (nd : (l.map (fun v => v.1)).Nodup) : (letH (nwM (nBs o l h) N W) fun (h2 : Hp) => (if kH h2 o = ko then (letH (sR h2 o f (nH (nBs o l h))) fun (h5 : Hp) => K h5) else none)) = K (nBs o (l ++ [(f, 7, N, W)]) h) := by
  rw [letH_s, if_pos ((((ext_nwM (nBs o l h) N W).1).k (nBs_k ho hk nd).2).trans (nBs_k ho hk nd).1), letH_s, nBs_app]
  unfold nB
  rw [if_pos (show (7 : Nat) = 7 from rfl)]
section NI
variable {h : Hp}
def lP : List It := [(0, 3, 256, 0), (1, 1, 256, 0), (2, 2, 16, 0), (3, 1, 64, 0)]
theorem new_P (hn : nH h ≠ 0) : ∃ h', fX2_init (nH h) (nwH h 12 0 6) = some (.inl none, h') ∧ Ge h h' 5 598 ∧ PO h' (nH h) := by
  obtain ⟨w1, w2⟩ := nwo h 12 6
  have nd : (lP.map (fun v => v.1)).Nodup := by decide
  obtain ⟨g1, g2, -⟩ := nBs_ok lP (nwH h 12 0 6) (nH h) w1 nd
  have hk := nBs_k (l := lP) w1 w2 nd
  have en : nH (nwH h 12 0 6) = nH h + 1 := rfl
  rw [en] at g2
  refine ⟨nBs (nH h) lP (nwH h 12 0 6), ?_, ge_new (n := 4) (z := 592) g1, hk.1, ?_, ?_, ?_, ?_⟩
  · unfold fX2_init kX2_init_0
    rw [if_pos hn, show nwH h 12 0 6 = nBs (nH h) [] (nwH h 12 0 6) from rfl, nb_gl _ w1 w2, nb_gl _ w1 w2, nb_gl _ w1 w2, nb_gl _ w1 w2]
    · rfl
    all_goals decide
  · exact (g2 0 _ rfl).1
  · exact (g2 1 _ rfl).1
  · exact (g2 2 _ rfl).1
  · exact (g2 3 _ rfl).1
theorem Ge.sR {h h' : Hp} {n z o f v : Nat} (g : Ge h h' n z) (ho : nH h ≤ o) : Ge h (sR h' o f v) n z := ⟨g.1, g.2.1, g.2.2.1, fun a ha => by show upR _ _ _ _ a = _; rw [upR_ne (by omega)]; exact g.2.2.2 a ha⟩
theorem Ge.trans {h h1 h2 : Hp} {n1 z1 n2 z2 : Nat} (a : Ge h h1 n1 z1) (b : Ge h1 h2 n2 z2) : Ge h h2 (n1 + n2) (z1 + z2) := by
  obtain ⟨a1, a2, a3, a4⟩ := a
  obtain ⟨b1, b2, b3, b4⟩ := b
  refine ⟨by omega, by omega, fun y hy => ?_, fun y hy => ?_⟩
  · obtain ⟨c1, c2, c3⟩ := a3 y hy
    obtain ⟨d1, d2, d3⟩ := b3 y (by omega)
    exact ⟨d1.trans c1, d2.trans c2, d3.trans c3⟩
  · rw [b4 y (by omega), a4 y hy]
theorem ge_nw (h : Hp) (k c : Nat) : Ge h (nwH h k 0 c) 1 c := ⟨rfl, rfl, fun a ha => ⟨(ext_nw h k 0 c).k ha, (ext_nw h k 0 c).l ha, nw_2 h k 0 c ha⟩, fun a ha => ((ext_nw h k 0 c).2 a ha).2.2⟩
theorem new_T (hn : nH h ≠ 0) : ∃ h', fX6_init (nH h) (nwH h 16 0 1) = some (.inl none, h') ∧ Ge h h' 6 599 ∧ TO h' (nH h) := by
  obtain ⟨g, hg⟩ : ∃ g, g = nwH h 16 0 1 := ⟨_, rfl⟩
  have gn : nH g = nH h + 1 := by rw [hg]; rfl
  have gk : kH g (nH h) = 16 := by rw [hg]; exact nwH_k h 16 0 1
  obtain ⟨h4, a1, a2, a3⟩ := new_P (h := g) (by omega)
  rw [gn] at a1 a3
  have k4 : kH h4 (nH h) = 16 := by rw [(a2.2.2.1 (nH h) (by omega)).1]; exact gk
  rw [← hg]
  refine ⟨sR h4 (nH h) 0 (nH h + 1), ?_, ?_, k4, ?_, ?_⟩
  · unfold fX6_init kX6_init_0
    rw [if_pos hn, gn, letH_s, if_pos (by omega), a1, bV_s, if_pos k4, letH_s]
  · exact (Ge.trans (by rw [hg]; exact ge_nw h 16 1) a2).sR (Nat.le_refl _)
  · show upR _ _ _ _ (nH h) 0 = _
    rw [upR_at, if_pos rfl]
  · exact PO.cg (h := h4) (fun a _ _ => rfl) (fun a _ _ => rfl) (by show upR _ _ _ _ _ = _; rw [upR_ne (by omega)]) a3
def lQ : List It := [(2, 1, 64, 0), (3, 1, 64, 0), (4, 1, 64, 0), (5, 1, 64, 0), (6, 1, 64, 0), (7, 1, 64, 0)]
theorem new_Q (hn : nH h ≠ 0) : ∃ h', fX4_init (nH h) (nwH h 14 0 8) = some (.inl none, h') ∧ Ge h h' 7 392 ∧ kH h' (nH h) = 14 ∧ ∀ i, i < 6 → ARR h' (nH h) (2 + i) (nH h + 1 + i) 1 64 := by
  obtain ⟨w1, w2⟩ := nwo h 14 8
  have nd : (lQ.map (fun v => v.1)).Nodup := by decide
  obtain ⟨g1, g2, -⟩ := nBs_ok lQ (nwH h 14 0 8) (nH h) w1 nd
  have hk := nBs_k (l := lQ) w1 w2 nd
  have en : nH (nwH h 14 0 8) = nH h + 1 := rfl
  rw [en] at g2
  refine ⟨nBs (nH h) lQ (nwH h 14 0 8), ?_, ge_new (n := 6) (z := 384) g1, hk.1, fun i hi => ?_⟩
  · unfold fX4_init kX4_init_0
    rw [if_pos hn, show nwH h 14 0 8 = nBs (nH h) [] (nwH h 14 0 8) from rfl, nb_gl _ w1 w2, nb_gl _ w1 w2, nb_gl _ w1 w2, nb_gl _ w1 w2, nb_gl _ w1 w2, nb_gl _ w1 w2]
    · rfl
    all_goals decide
  · have hx : i = 0 ∨ i = 1 ∨ i = 2 ∨ i = 3 ∨ i = 4 ∨ i = 5 := by omega
    rcases hx with rfl | rfl | rfl | rfl | rfl | rfl
    · exact (g2 0 _ rfl).1
    · exact (g2 1 _ rfl).1
    · exact (g2 2 _ rfl).1
    · exact (g2 3 _ rfl).1
    · exact (g2 4 _ rfl).1
    · exact (g2 5 _ rfl).1
def lD : List It := [(1, 1, 16, 0), (5, 2, 600, 0), (8, 1, 6, 0)]
theorem new_R (hn : nH h ≠ 0) : ∃ h', fX3_init (nH h) (nwH h 13 0 10) = some (.inl none, h') ∧ Ge h h' 11 1024 ∧ DO h' (nH h) := by
  obtain ⟨g, hg⟩ : ∃ g, g = nwH h 13 0 10 := ⟨_, rfl⟩
  have gn : nH g = nH h + 1 := by rw [hg]; rfl
  have gk : kH g (nH h) = 13 := by rw [hg]; exact nwH_k h 13 0 10
  obtain ⟨h4, a1, a2, a3, a4⟩ := new_Q (h := g) (by omega)
  rw [gn] at a1 a3 a4
  have k4 : kH h4 (nH h) = 13 := by rw [(a2.2.2.1 (nH h) (by omega)).1]; exact gk
  have n4 : nH h4 = nH h + 8 := by have := a2.1; omega
  obtain ⟨h8, hh8⟩ : ∃ h8, h8 = sR h4 (nH h) 0 (nH h + 1) := ⟨_, rfl⟩
  have n8 : nH h8 = nH h + 8 := by rw [hh8]; exact n4
  have k8 : kH h8 (nH h) = 13 := by rw [hh8]; exact k4
  have w8 : nH h < nH h8 := by omega
  have nd : (lD.map (fun v => v.1)).Nodup := by decide
  obtain ⟨g1, g2, g3⟩ := nBs_ok lD h8 (nH h) w8 nd
  have hk := nBs_k (l := lD) w8 k8 nd
  rw [n8] at g2
  have r8 : ∀ a, a ≠ nH h → rH h8 a = rH h4 a := fun a q => by rw [hh8]; exact upR_ne q
  have G8 : Ge h h8 8 402 := by rw [hh8]; exact (Ge.trans (by rw [hg]; exact ge_nw h 13 10) a2).sR (Nat.le_refl _)
  rw [← hg]
  have kl : ∀ a, a < nH h + 8 → kH (nBs (nH h) lD h8) a = kH h4 a ∧ lH (nBs (nH h) lD h8) a = lH h4 a := fun a ha => by
    obtain ⟨c1, c2, -⟩ := g1.2.2.1 a (by omega)
    rw [c1, c2, hh8]
    exact ⟨rfl, rfl⟩
  have rr : ∀ a, a < nH h + 8 → a ≠ nH h → rH (nBs (nH h) lD h8) a = rH h4 a := fun a ha q => by rw [g1.2.2.2 a (by omega) q, r8 a q]
  refine ⟨nBs (nH h) lD h8, ?_, ?_, hk.1, ⟨?_, ?_⟩, fun i hi => ?_, ?_, ?_, ?_⟩
  · unfold fX3_init kX3_init_0
    rw [if_pos hn, gn, letH_s, if_pos (by omega), a1, bV_s, if_pos k4, letH_s, ← hh8, show h8 = nBs (nH h) [] h8 from rfl, nb_gl _ w8 k8, nb_gl _ w8 k8, nb_gl _ w8 k8]
    · rfl
    all_goals decide
  · obtain ⟨c1, c2, c3, c4⟩ := g1
    have s3 : szs lD = 3 := by decide
    have s4 : sls lD = 622 := by decide
    obtain ⟨d1, d2, d3, d4⟩ := G8
    refine ⟨by omega, by omega, fun a ha => ?_, fun a ha => ?_⟩
    · obtain ⟨e1, e2, e3⟩ := c3 a (by omega)
      obtain ⟨e4, e5, e6⟩ := d3 a ha
      exact ⟨e1.trans e4, e2.trans e5, e3.trans e6⟩
    · rw [c4 a (by omega) (by omega), d4 a ha]
  · rw [g3 0 (by decide), hh8]
    show upR _ _ _ _ (nH h) 0 = _
    rw [upR_at, if_pos rfl]
  · rw [(kl _ (by omega)).1]; exact a3
  · exact (a4 i hi).cg (rr _ (by omega) (by omega)) (kl _ (by omega)).1 (kl _ (by omega)).2
  · exact (g2 0 _ rfl).1
  · exact (g2 1 _ rfl).1
  · exact (g2 2 _ rfl).1
/-- a new part of x, put into its field -/
def Spx (g g' : Hp) (x f dn dz : Nat) : Prop := Gb g g' x dn dz ∧ ∀ j, rH g' x j = if j = f then nH g else rH g x j
theorem stp_o {g g4 : Hp} {x f dn dz : Nat} (hx : x < nH g) (G : Ge g g4 dn dz) : Spx g (sR g4 x f (nH g)) x f dn dz := ⟨gb_sR (G.b x), fun j => by
  show upR _ _ _ _ x j = _
  rw [upR_at]
  by_cases e : j = f
  · rw [if_pos e, if_pos e]
  · rw [if_neg e, if_neg e]
    exact congrFun (G.2.2.2 x hx) j⟩
theorem stp_a {g : Hp} {x f k len : Nat} (hx : x < nH g) : Spx g (nA g x f k len) x f 1 len := ⟨na_b hx, (na_at hx).2.2.2.2⟩
/-- five states -/
theorem spare_go {x : Nat} : ∀ (c k fl : Nat) (h : Hp), k + c = 5 → c < fl → x + 42 ≤ nH h → nH h = x + 42 + 10 * k → kH h x = 19 → ARR h x 3 (x + 14) 5 5 → (∀ i, i < k → rH h (x + 14) i = x + 42 + 10 * i ∧ SO h (x + 42 + 10 * i)) → nH h ≠ 0 →
    ∃ h', gX9_init fl 123 [.ref x, .int (nI k)] [] h = gX9_init (fl - c) 123 [.ref x, .int (nI 5)] [] h' ∧ nH h' = x + 92 ∧ zH h' = zH h + 6800 * c ∧ (∀ a, a < x + 42 → kH h' a = kH h a ∧ lH h' a = lH h a ∧ h'.2 a = h.2 a) ∧ (∀ a, a < x + 42 → a ≠ x + 14 → rH h' a = rH h a) ∧ ∀ i, i < 5 → rH h' (x + 14) i = x + 42 + 10 * i ∧ SO h' (x + 42 + 10 * i) := by
  intro c
  induction c with
  | zero =>
    intro k fl h hk hfl n1 n2 kx A I hn
    have hk5 : k = 5 := by omega
    subst hk5
    exact ⟨h, rfl, by omega, by omega, fun _ _ => ⟨rfl, rfl, rfl⟩, fun _ _ _ => rfl, I⟩
  | succ c ih =>
    intro k fl h hk hfl n1 n2 kx A I hn
    obtain ⟨fl, rfl⟩ := sc (show 0 < fl by omega)
    obtain ⟨h8, a1, a2, a3⟩ := new_S hn
    obtain ⟨c1, c2, c3, c4⟩ := a2
    obtain ⟨A1, A2, A3⟩ := A
    obtain ⟨d1, d2, -⟩ := c3 (x + 14) (by omega)
    obtain ⟨h14, hh14⟩ : ∃ h14, h14 = sR h8 (x + 14) k (nH h) := ⟨_, rfl⟩
    have r14 : ∀ i, rH h14 (x + 14) i = if i = k then nH h else rH h (x + 14) i := fun i => by
      rw [hh14]
      show upR _ _ _ _ _ i = _
      rw [upR_at]
      by_cases e : i = k
      · rw [if_pos e, if_pos e]
      · rw [if_neg e, if_neg e]
        exact congrFun (c4 (x + 14) (by omega)) i
    have rn : ∀ a, a ≠ x + 14 → rH h14 a = rH h8 a := fun a q => by rw [hh14]; exact upR_ne q
    have kn : ∀ a, kH h14 a = kH h8 a ∧ lH h14 a = lH h8 a := fun a => by rw [hh14]; exact ⟨rfl, rfl⟩
    have SO14 : ∀ s, s ≠ x + 14 → SO h8 s → SO h14 s := fun s q A => A.cg (fun a _ _ => (kn a).1) (fun a _ _ => (kn a).2) (rn s q)
    obtain ⟨h', i1, i2, i3, i4, i5, i6⟩ := ih (k + 1) fl h14 (by omega) (by omega) (by rw [hh14]; show x + 42 ≤ nH h8; omega) (by rw [hh14]; show nH h8 = _; omega) (by rw [(kn x).1, (c3 x (by omega)).1]; exact kx) ⟨by rw [rn x (by omega), c4 x (by omega)]; exact A1, by rw [(kn _).1, d1]; exact A2, by rw [(kn _).2, d2]; exact A3⟩ (fun i hi => by
      by_cases e : i = k
      · rw [r14 i, if_pos e, e, ← n2]
        exact ⟨rfl, SO14 _ (by omega) a3.so⟩
      · obtain ⟨y1, y2⟩ := I i (by omega)
        rw [r14 i, if_neg e]
        exact ⟨y1, SO14 _ (by omega) (y2.cg (fun a w1 w2 => (c3 a (by omega)).1) (fun a w1 w2 => (c3 a (by omega)).2.1) (c4 _ (by omega)))⟩) (by rw [hh14]; show nH h8 ≠ 0; omega)
    refine ⟨h', ?_, i2, ?_, fun a ha => ?_, fun a ha q => ?_, i6⟩
    · rw [zX9_init_123]
      unfold kX9_init_123
      rw [if_pos kx, A1, if_pos A2, A3, if_neg (show ¬ ((5 : Nat).toInt32) ≤ nI k by rw [show (5 : Nat).toInt32 = nI 5 from rfl, nI_leI (by decide) (by omega)]; omega), letH_s, if_pos hn, a1, bV_s, d1, if_pos A2, if_pos a3.so.1, d2, A3, if_pos (inB_nI (by omega) (by decide)), nI_clamp (by omega), letH_s, ← hh14, nI_1, i1, show fl + 1 - (c + 1) = fl - c by omega]
    · rw [i3, hh14]
      show zH h8 + _ = _
      omega
    · obtain ⟨e1, e2, e3⟩ := i4 a ha
      obtain ⟨e4, e5, e6⟩ := c3 a (by omega)
      rw [e1, e2, e3, (kn a).1, (kn a).2, e4, e5, hh14]
      exact ⟨rfl, rfl, e6⟩
    · rw [i5 a ha q, rn a q, c4 a (by omega)]
theorem lx {x a b : Nat} (h : a < b) : x + a < x + b := Nat.add_lt_add_left h x
theorem nxx {x a : Nat} (h : 0 < a) : x + a ≠ x := fun e => by omega
theorem nnx {x a b : Nat} (h : a ≠ b) : x + a ≠ x + b := fun e => h (Nat.add_left_cancel e)
/-- how the end looks from an earlier heap -/
def Vw (h5 g : Hp) (x c : Nat) : Prop := ∀ a, a < x + c → kH h5 a = kH g a ∧ lH h5 a = lH g a ∧ (a ≠ x → h5.2 a = g.2 a) ∧ (a ≠ x → a ≠ x + 14 → rH h5 a = rH g a)
theorem Vw.of {g g11 q h5 : Hp} {x c dn dz : Nat} (G : Gb g g11 x dn dz) (n : nH g = x + c) (n11 : nH g11 = x + 42) (q1 : q.1 = g11.1) (qi : ∀ a, a ≠ x → q.2 a = g11.2 a) (u4 : ∀ a, a < x + 42 → kH h5 a = kH q a ∧ lH h5 a = lH q a ∧ h5.2 a = q.2 a) (u5 : ∀ a, a < x + 42 → a ≠ x + 14 → rH h5 a = rH q a) : Vw h5 g x c := fun a ha => by
  have hn11 : nH g11 = nH g + dn := G.1
  obtain ⟨y1, y2, y3⟩ := u4 a (by omega)
  obtain ⟨y4, y5, y6⟩ := G.2.2.1 a (by omega)
  refine ⟨by rw [y1, kh_eq q1]; exact y4, by rw [y2, lh_eq q1]; exact y5, fun w => by rw [y3, qi a w]; exact y6, fun w1 w2 => ?_⟩
  rw [u5 a (by omega) w2, show rH q a = rH g11 a from funext (fun k => rh_eq q1 a k)]
  exact G.2.2.2 a (by omega) w1
theorem vw_CO {h5 g0 g1 g2 g3 g4 g5 g6 g7 g8 g9 g10 gk g11 : Hp} {x : Nat} (V0 : Vw h5 g0 x 1) (V1 : Vw h5 g1 x 11) (V2 : Vw h5 g2 x 13) (V3 : Vw h5 g3 x 14) (V4 : Vw h5 g4 x 15) (V5 : Vw h5 g5 x 20) (V6 : Vw h5 g6 x 26) (V7 : Vw h5 g7 x 27) (V8 : Vw h5 g8 x 38) (V9 : Vw h5 g9 x 39) (V10 : Vw h5 g10 x 40) (Vk : Vw h5 gk x 41) (V11 : Vw h5 g11 x 42) (rx : ∀ j, rH h5 x j = if j = 10 then x + 41 else if j = 16 then x + 40 else if j = 9 then x + 39 else if j = 8 then x + 38 else if j = 7 then x + 27 else if j = 6 then x + 26 else if j = 5 then x + 20 else if j = 4 then x + 15 else if j = 3 then x + 14 else if j = 2 then x + 13 else if j = 1 then x + 11 else if j = 0 then x + 1 else rH g0 x j)
    (k0 : kH g0 x = 19) (c1 : SO g1 (x + 1)) (c2 : HO g2 (x + 11)) (k3 : kH g3 (x + 13) = 6) (l3 : lH g3 (x + 13) = 3) (k4 : kH g4 (x + 14) = 5) (l4 : lH g4 (x + 14) = 5) (c5 : PO g5 (x + 15)) (c6 : TO g6 (x + 20)) (k7 : kH g7 (x + 26) = 2) (l7 : lH g7 (x + 26) = 600) (c8 : DO g8 (x + 27)) (k9 : kH g9 (x + 38) = 1) (l9 : lH g9 (x + 38) = 16) (k10 : kH g10 (x + 39) = 2) (l10 : lH g10 (x + 39) = 256) (kk : kH gk (x + 40) = 1) (lk : lH gk (x + 40) = 12) (k11 : kH g11 (x + 41) = 1) (l11 : lH g11 (x + 41) = 4)
    (u6 : ∀ i, i < 5 → rH h5 (x + 14) i = x + 42 + 10 * i ∧ SO h5 (x + 42 + 10 * i)) : CO h5 x := by
  refine ⟨(V0 x (Nat.lt_succ_self x)).1.trans k0, ⟨by rw [rx]; rfl, ?_⟩, ⟨⟨by rw [rx]; rfl, ?_⟩, ?_⟩, ?_, ⟨?_, u6⟩, ⟨by rw [rx]; rfl, ?_⟩, ⟨by rw [rx]; rfl, ?_⟩, ?_, ⟨by rw [rx]; rfl, ?_⟩, ?_, ?_, ?_, ?_⟩
  · exact c1.cg (fun a w3 w4 => (V1 a (by omega)).1) (fun a w3 w4 => (V1 a (by omega)).2.1) ((V1 (x + 1) (lx (by decide))).2.2.2 (nxx (by decide)) (nnx (by decide)))
  · exact (V2 (x + 11) (lx (by decide))).1.trans c2.1
  · exact c2.2.cg ((V2 (x + 11) (lx (by decide))).2.2.2 (nxx (by decide)) (nnx (by decide))) (V2 (x + 11 + 1) (lx (by decide))).1 (V2 (x + 11 + 1) (lx (by decide))).2.1
  · exact ⟨by rw [rx]; rfl, (V3 _ (lx (by decide))).1.trans k3, (V3 _ (lx (by decide))).2.1.trans l3⟩
  · exact ⟨by rw [rx]; rfl, (V4 _ (lx (by decide))).1.trans k4, (V4 _ (lx (by decide))).2.1.trans l4⟩
  · exact c5.cg (fun a w3 w4 => (V5 a (by omega)).1) (fun a w3 w4 => (V5 a (by omega)).2.1) ((V5 (x + 15) (lx (by decide))).2.2.2 (nxx (by decide)) (nnx (by decide)))
  · obtain ⟨y1, y2, y3⟩ := c6
    exact ⟨(V6 (x + 20) (lx (by decide))).1.trans y1, (congrFun ((V6 (x + 20) (lx (by decide))).2.2.2 (nxx (by decide)) (nnx (by decide))) 0).trans y2, y3.cg (fun a w3 w4 => (V6 a (by omega)).1) (fun a w3 w4 => (V6 a (by omega)).2.1) ((V6 (x + 20 + 1) (lx (by decide))).2.2.2 (nxx (a := 21) (by decide)) (nnx (a := 21) (by decide)))⟩
  · exact ⟨by rw [rx]; rfl, (V7 _ (lx (by decide))).1.trans k7, (V7 _ (lx (by decide))).2.1.trans l7⟩
  · exact c8.cg (fun a w3 w4 => (V8 a (by omega)).1) (fun a w3 w4 => (V8 a (by omega)).2.1) ((V8 (x + 27) (lx (by decide))).2.2.2 (nxx (by decide)) (nnx (by decide))) ((V8 (x + 27 + 1) (lx (by decide))).2.2.2 (nxx (a := 28) (by decide)) (nnx (a := 28) (by decide)))
  · exact ⟨by rw [rx]; rfl, (V9 _ (lx (by decide))).1.trans k9, (V9 _ (lx (by decide))).2.1.trans l9⟩
  · exact ⟨by rw [rx]; rfl, (V10 _ (lx (by decide))).1.trans k10, (V10 _ (lx (by decide))).2.1.trans l10⟩
  · exact ⟨by rw [rx]; rfl, (V11 _ (lx (by decide))).1.trans k11, (V11 _ (lx (by decide))).2.1.trans l11⟩
  · exact ⟨by rw [rx]; rfl, (Vk _ (lx (by decide))).1.trans kk, (Vk _ (lx (by decide))).2.1.trans lk⟩
theorem SO.sR' {p : Hp} {s x f v : Nat} (h : s ≠ x) (A : SO p s) : SO (sR p x f v) s := SO.cg (h := p) (fun _ _ _ => rfl) (fun _ _ _ => rfl) (upR_ne h) A
theorem PO.sR' {p : Hp} {s x f v : Nat} (h : s ≠ x) (A : PO p s) : PO (sR p x f v) s := PO.cg (h := p) (fun _ _ _ => rfl) (fun _ _ _ => rfl) (upR_ne h) A
theorem TO.sR' {p : Hp} {s x f v : Nat} (h : s ≠ x) (h1 : s + 1 ≠ x) (A : TO p s) : TO (sR p x f v) s := ⟨A.1, (congrFun (upR_ne h) 0).trans A.2.1, A.2.2.sR' h1⟩
theorem DO.sR' {p : Hp} {s x f v : Nat} (h : s ≠ x) (h1 : s + 1 ≠ x) (A : DO p s) : DO (sR p x f v) s := DO.cg (h := p) (fun _ _ _ => rfl) (fun _ _ _ => rfl) (upR_ne h) (upR_ne h1) A
theorem HO.sR' {p : Hp} {s x f v : Nat} (h : s ≠ x) (A : HO p s) : HO (sR p x f v) s := ⟨A.1, (congrFun (upR_ne h) 0).trans A.2.1, A.2.2⟩
theorem Sta.sR' {p : Hp} {s x f v z : Nat} {S : St} (h : s ≠ x) (A : Sta p s S z) : Sta (sR p x f v) s S z := ⟨A.1.sR' h, A.2⟩
set_option maxHeartbeats 8000000 in
theorem c_new (hn : nH h ≠ 0) : ∃ h', fX9_init (nH h) (nwH h 19 0 17) = some (.inl none, h') ∧ nH h' = nH h + 92 ∧ zH h' ≤ zH h + 60000 ∧ (∀ a, a < nH h → kH h' a = kH h a ∧ lH h' a = lH h a ∧ rH h' a = rH h a ∧ h'.2 a = h.2 a) ∧ CO h' (nH h) ∧ Sta h' (nH h + 1) S0 16 ∧ (∀ j, j < 16 → rH h' (nH h + 12) j = 0) ∧ (∀ j, j < 3 → rH h' (nH h + 13) j = 0) ∧ (h'.2 (nH h) 11 = 0 ∧ h'.2 (nH h) 12 = 0 ∧ h'.2 (nH h) 13 = 0 ∧ h'.2 (nH h) 14 = -1 ∧ h'.2 (nH h) 15 = 0) ∧ CBk h' (nH h) [] ∧ (∀ i, h'.2 (nH h + 41) i = 0) ∧ h'.2 (nH h + 11) 1 = 0 := by
  obtain ⟨x, hx⟩ : ∃ x, x = nH h := ⟨_, rfl⟩
  obtain ⟨g0, hg0⟩ : ∃ g0, g0 = nwH h 19 0 17 := ⟨_, rfl⟩
  have n0 : nH g0 = x + 1 := by rw [hg0, hx]; rfl
  have z0 : zH g0 = zH h + 17 := by rw [hg0]; rfl
  have k0 : kH g0 x = 19 := by rw [hg0, hx]; exact nwH_k h 19 0 17
  have i0 : g0.2 x = fun _ => 0 := by rw [hg0, hx]; exact nwH_i h 19 0 17
  have xn : x ≠ 0 := by rw [hx]; exact hn
  have xg : ∀ {g : Hp} {c : Nat}, nH g = x + (c + 1) → x < nH g := fun {g c} e => by rw [e]; exact Nat.lt_add_of_pos_right (Nat.succ_pos c)
  have zg : ∀ {g : Hp} {c : Nat}, nH g = x + (c + 1) → nH g ≠ 0 := fun {g c} e => by rw [e]; exact Nat.succ_ne_zero (x + c)
  obtain ⟨p1, a1, b1, c1⟩ := new_S (h := g0) (zg n0)
  rw [n0] at a1 c1
  obtain ⟨g1, hg1⟩ : ∃ g1, g1 = sR p1 x 0 (x + 1) := ⟨_, rfl⟩
  have s1 : Spx g0 g1 x 0 10 6800 := by rw [hg1, ← n0]; exact stp_o (xg n0) b1
  have n1 : nH g1 = x + 11 := by rw [s1.1.1, n0]
  obtain ⟨p2, a2, b2, c2, d2, e2⟩ := new_H (h := g1) (zg n1)
  rw [n1] at a2 c2 d2 e2
  obtain ⟨g2, hg2⟩ : ∃ g2, g2 = sR p2 x 1 (x + 11) := ⟨_, rfl⟩
  have s2 : Spx g1 g2 x 1 2 18 := by rw [hg2, ← n1]; exact stp_o (xg n1) b2
  have n2 : nH g2 = x + 13 := by rw [s2.1.1, n1]
  obtain ⟨g3, hg3⟩ : ∃ g3, g3 = nA g2 x 2 6 3 := ⟨_, rfl⟩
  have s3 : Spx g2 g3 x 2 1 3 := by rw [hg3]; exact stp_a (xg n2)
  have t3 := na_at (h := g2) (o := x) (f := 2) (k := 6) (len := 3) (xg n2)
  rw [← hg3, n2] at t3
  have n3 : nH g3 = x + 14 := by rw [s3.1.1, n2]
  obtain ⟨g4, hg4⟩ : ∃ g4, g4 = nA g3 x 3 5 5 := ⟨_, rfl⟩
  have s4 : Spx g3 g4 x 3 1 5 := by rw [hg4]; exact stp_a (xg n3)
  have t4 := na_at (h := g3) (o := x) (f := 3) (k := 5) (len := 5) (xg n3)
  rw [← hg4, n3] at t4
  have n4 : nH g4 = x + 15 := by rw [s4.1.1, n3]
  obtain ⟨p5, a5, b5, c5⟩ := new_P (h := g4) (zg n4)
  rw [n4] at a5 c5
  obtain ⟨g5, hg5⟩ : ∃ g5, g5 = sR p5 x 4 (x + 15) := ⟨_, rfl⟩
  have s5 : Spx g4 g5 x 4 5 598 := by rw [hg5, ← n4]; exact stp_o (xg n4) b5
  have n5 : nH g5 = x + 20 := by rw [s5.1.1, n4]
  obtain ⟨p6, a6, b6, c6⟩ := new_T (h := g5) (zg n5)
  rw [n5] at a6 c6
  obtain ⟨g6, hg6⟩ : ∃ g6, g6 = sR p6 x 5 (x + 20) := ⟨_, rfl⟩
  have s6 : Spx g5 g6 x 5 6 599 := by rw [hg6, ← n5]; exact stp_o (xg n5) b6
  have n6 : nH g6 = x + 26 := by rw [s6.1.1, n5]
  obtain ⟨g7, hg7⟩ : ∃ g7, g7 = nA g6 x 6 2 600 := ⟨_, rfl⟩
  have s7 : Spx g6 g7 x 6 1 600 := by rw [hg7]; exact stp_a (xg n6)
  have t7 := na_at (h := g6) (o := x) (f := 6) (k := 2) (len := 600) (xg n6)
  rw [← hg7, n6] at t7
  have n7 : nH g7 = x + 27 := by rw [s7.1.1, n6]
  obtain ⟨p8, a8, b8, c8⟩ := new_R (h := g7) (zg n7)
  rw [n7] at a8 c8
  obtain ⟨g8, hg8⟩ : ∃ g8, g8 = sR p8 x 7 (x + 27) := ⟨_, rfl⟩
  have s8 : Spx g7 g8 x 7 11 1024 := by rw [hg8, ← n7]; exact stp_o (xg n7) b8
  have n8 : nH g8 = x + 38 := by rw [s8.1.1, n7]
  obtain ⟨g9, hg9⟩ : ∃ g9, g9 = nA g8 x 8 1 16 := ⟨_, rfl⟩
  have s9 : Spx g8 g9 x 8 1 16 := by rw [hg9]; exact stp_a (xg n8)
  have t9 := na_at (h := g8) (o := x) (f := 8) (k := 1) (len := 16) (xg n8)
  rw [← hg9, n8] at t9
  have n9 : nH g9 = x + 39 := by rw [s9.1.1, n8]
  obtain ⟨g10, hg10⟩ : ∃ g10, g10 = nA g9 x 9 2 256 := ⟨_, rfl⟩
  have s10 : Spx g9 g10 x 9 1 256 := by rw [hg10]; exact stp_a (xg n9)
  have t10 := na_at (h := g9) (o := x) (f := 9) (k := 2) (len := 256) (xg n9)
  rw [← hg10, n9] at t10
  have n10 : nH g10 = x + 40 := by rw [s10.1.1, n9]
  obtain ⟨gk, hgk⟩ : ∃ gk, gk = nA g10 x 16 1 12 := ⟨_, rfl⟩
  have sk : Spx g10 gk x 16 1 12 := by rw [hgk]; exact stp_a (xg n10)
  have tk := na_at (h := g10) (o := x) (f := 16) (k := 1) (len := 12) (xg n10)
  rw [← hgk, n10] at tk
  have nk : nH gk = x + 41 := by rw [sk.1.1, n10]
  obtain ⟨g11, hg11⟩ : ∃ g11, g11 = nA gk x 10 1 4 := ⟨_, rfl⟩
  have s11 : Spx gk g11 x 10 1 4 := by rw [hg11]; exact stp_a (xg nk)
  have t11 := na_at (h := gk) (o := x) (f := 10) (k := 1) (len := 4) (xg nk)
  rw [← hg11, nk] at t11
  have n11 : nH g11 = x + 42 := by rw [s11.1.1, nk]
  -- what stays from each on
  have Gk := s11.1
  have G10 := sk.1.trans Gk
  have G9 := s10.1.trans G10
  have G8 := s9.1.trans G9
  have G7 := s8.1.trans G8
  have G6 := s7.1.trans G7
  have G5 := s6.1.trans G6
  have G4 := s5.1.trans G5
  have G3 := s4.1.trans G4
  have G2 := s3.1.trans G3
  have G1 := s2.1.trans G2
  have G0 := s1.1.trans G1
  have k11 : ∀ {a : Nat}, kH g0 x = a → kH g11 x = a := fun {a} q => by rw [(G0.2.2.1 x (xg n0)).1]; exact q
  have kx : kH g11 x = 19 := k11 k0
  have kxs : kH g1 x = 19 ∧ kH g2 x = 19 ∧ kH g3 x = 19 ∧ kH g4 x = 19 ∧ kH g5 x = 19 ∧ kH g6 x = 19 ∧ kH g7 x = 19 ∧ kH g8 x = 19 ∧ kH g9 x = 19 ∧ kH g10 x = 19 ∧ kH gk x = 19 := by
    refine ⟨?_, ?_, ?_, ?_, ?_, ?_, ?_, ?_, ?_, ?_, ?_⟩
    · rw [← (G1.2.2.1 x (by rw [n1]; exact Nat.lt_add_of_pos_right (by decide))).1]; exact kx
    · rw [← (G2.2.2.1 x (by rw [n2]; exact Nat.lt_add_of_pos_right (by decide))).1]; exact kx
    · rw [← (G3.2.2.1 x (by rw [n3]; exact Nat.lt_add_of_pos_right (by decide))).1]; exact kx
    · rw [← (G4.2.2.1 x (by rw [n4]; exact Nat.lt_add_of_pos_right (by decide))).1]; exact kx
    · rw [← (G5.2.2.1 x (by rw [n5]; exact Nat.lt_add_of_pos_right (by decide))).1]; exact kx
    · rw [← (G6.2.2.1 x (by rw [n6]; exact Nat.lt_add_of_pos_right (by decide))).1]; exact kx
    · rw [← (G7.2.2.1 x (by rw [n7]; exact Nat.lt_add_of_pos_right (by decide))).1]; exact kx
    · rw [← (G8.2.2.1 x (by rw [n8]; exact Nat.lt_add_of_pos_right (by decide))).1]; exact kx
    · rw [← (G9.2.2.1 x (by rw [n9]; exact Nat.lt_add_of_pos_right (by decide))).1]; exact kx
    · rw [← (G10.2.2.1 x (by rw [n10]; exact Nat.lt_add_of_pos_right (by decide))).1]; exact kx
    · rw [← (Gk.2.2.1 x (by rw [nk]; exact Nat.lt_add_of_pos_right (by decide))).1]; exact kx
  have rx : ∀ j, rH g11 x j = if j = 10 then x + 41 else if j = 16 then x + 40 else if j = 9 then x + 39 else if j = 8 then x + 38 else if j = 7 then x + 27 else if j = 6 then x + 26 else if j = 5 then x + 20 else if j = 4 then x + 15 else if j = 3 then x + 14 else if j = 2 then x + 13 else if j = 1 then x + 11 else if j = 0 then x + 1 else rH g0 x j := fun j => by
    rw [s11.2 j, sk.2 j, s10.2 j, s9.2 j, s8.2 j, s7.2 j, s6.2 j, s5.2 j, s4.2 j, s3.2 j, s2.2 j, s1.2 j, nk, n10, n9, n8, n7, n6, n5, n4, n3, n2, n1, n0]
  have zz : zH g11 = zH h + 17 + 9935 := by
    rw [G0.2.1, z0]
  obtain ⟨q, hq⟩ : ∃ q : Hp, q = (g11.1, upI g11.2 x 14 (-1)) := ⟨_, rfl⟩
  have q1 : q.1 = g11.1 := by rw [hq]
  have A14 : ARR q x 3 (x + 14) 5 5 := by
    obtain ⟨y1, y2, -⟩ := G4.2.2.1 (x + 14) (by rw [n4]; exact lx (by decide))
    refine ⟨by rw [rh_eq q1, rx 3]; rfl, by rw [kh_eq q1, y1]; exact t4.1, by rw [lh_eq q1, y2]; exact t4.2.1⟩
  obtain ⟨h5, u1, u2, u3, u4, u5, u6⟩ := spare_go (x := x) 5 0 FF q (by decide) (show 5 < 1000000 by decide) (by rw [nh_eq q1, n11]; exact Nat.le_refl _) (by rw [nh_eq q1, n11]) (by rw [kh_eq q1]; exact kx) A14 (fun i hi => absurd hi (Nat.not_lt_zero i)) (by rw [nh_eq q1]; exact zg n11)
  have qi : ∀ a, a ≠ x → q.2 a = g11.2 a := fun a w => by rw [hq]; exact upI_ne w
  have V0 := Vw.of G0 n0 n11 q1 qi u4 u5
  have V1 := Vw.of G1 n1 n11 q1 qi u4 u5
  have V2 := Vw.of G2 n2 n11 q1 qi u4 u5
  have V3 := Vw.of G3 n3 n11 q1 qi u4 u5
  have V4 := Vw.of G4 n4 n11 q1 qi u4 u5
  have V5 := Vw.of G5 n5 n11 q1 qi u4 u5
  have V6 := Vw.of G6 n6 n11 q1 qi u4 u5
  have V7 := Vw.of G7 n7 n11 q1 qi u4 u5
  have V8 := Vw.of G8 n8 n11 q1 qi u4 u5
  have V9 := Vw.of G9 n9 n11 q1 qi u4 u5
  have V10 := Vw.of G10 n10 n11 q1 qi u4 u5
  have Vk := Vw.of Gk nk n11 q1 qi u4 u5
  have V11 := Vw.of (Gb.refl g11 x) n11 n11 q1 qi u4 u5
  have x41 : x < x + 42 := Nat.lt_add_of_pos_right (by decide)
  have x0n : x < nH g0 := by rw [n0]; exact Nat.lt_succ_self x
  have xi : ∀ j, h5.2 x j = if j = 14 then -1 else 0 := fun j => by
    rw [(u4 x x41).2.2, hq]
    show upI _ _ _ _ x j = _
    rw [upI_at]
    by_cases w : j = 14
    · rw [if_pos w, if_pos w]
    · rw [if_neg w, if_neg w, (G0.2.2.1 x x0n).2.2, i0]
  have Sg1 : Sta g1 (x + 1) S0 16 := by rw [hg1]; exact c1.sR' (nxx (by decide))
  have S1 : Sta h5 (x + 1) S0 16 := Sg1.cg (fun a w3 w4 => (V1 a (show a < x + 11 from w4)).1) (fun a w3 w4 => (V1 a (show a < x + 11 from w4)).2.1) ((V1 (x + 1) (lx (by decide))).2.2.2 (nxx (by decide)) (nnx (by decide))) (fun a w3 w4 => (V1 a (show a < x + 11 from w4)).2.2.1 (fun e => by rw [e] at w3; exact absurd w3 (Nat.not_succ_le_self x)))
  have C5 : CO h5 x := vw_CO V0 V1 V2 V3 V4 V5 V6 V7 V8 V9 V10 Vk V11 (fun j => by rw [u5 x x41 (nxx (a := 14) (by decide)).symm, show rH q x j = rH g11 x j from rh_eq q1 x j]; exact rx j) k0 Sg1.so (by rw [hg2]; exact c2.sR' (nxx (by decide))) t3.1 t3.2.1 t4.1 t4.2.1 (by rw [hg5]; exact c5.sR' (nxx (by decide))) (by rw [hg6]; exact c6.sR' (nxx (by decide)) (nxx (a := 21) (by decide))) t7.1 t7.2.1 (by rw [hg8]; exact c8.sR' (nxx (by decide)) (nxx (a := 28) (by decide))) t9.1 t9.2.1 t10.1 t10.2.1 tk.1 tk.2.1 t11.1 t11.2.1 u6
  obtain ⟨h', v1, v2, v3, v4, v5, v6⟩ := c_clearBook C5
  have v7 : ∀ j, j ≠ 13 → h'.2 x j = if j = 14 then -1 else 0 := fun j w => by rw [v4 j w, xi j]
  rw [← hx, ← hg0]
  have zf : zH h5 ≤ zH h + 60000 := by rw [u3, zh_eq q1, zz]; exact Nat.le_trans (Nat.le_of_eq (by rw [Nat.add_assoc, Nat.add_assoc])) (Nat.add_le_add_left (by decide) _)
  have na38 : ∀ a, a ≠ 38 → x + a ≠ x + 38 := fun a w => nnx w
  refine ⟨h', ?_, by rw [nh_eq v2]; exact u2, by rw [zh_eq v2]; exact zf, fun a ha => ?_, C5.eq v2, Sta.eqs v2 (fun a w1 w2 => v3 a (fun e => by rw [e] at w1; exact absurd w1 (Nat.not_succ_le_self x)) (fun e => by rw [e] at w2; exact absurd w2 (by rw [Nat.add_assoc]; exact Nat.not_lt.mpr (Nat.add_le_add_left (by decide) x)))) S1, fun j hj => ?_, fun j hj => ?_, ⟨by rw [v7 11 (by decide)]; rfl, by rw [v7 12 (by decide)]; rfl, v5, by rw [v7 14 (by decide)]; rfl, by rw [v7 15 (by decide)]; rfl⟩, v6, fun i => ?_, ?_⟩
  · unfold fX9_init kX9_init_0
    obtain ⟨y1, y2, y3, y4, y5, y6, y7, y8, y9, y10, yk⟩ := kxs
    have kp1 : kH p1 x = 19 := (b1.2.2.1 x x0n).1.trans k0
    have ng : ∀ {g : Hp} {c : Nat}, nH g = x + (c + 1) → x + (c + 1) ≠ 0 := fun {g c} e => Nat.succ_ne_zero (x + c)
    have kp2 : kH p2 x = 19 := (b2.2.2.1 x (xg n1)).1.trans y1
    have kp5 : kH p5 x = 19 := (b5.2.2.1 x (xg n4)).1.trans y4
    have kp6 : kH p6 x = 19 := (b6.2.2.1 x (xg n5)).1.trans y5
    have kp8 : kH p8 x = 19 := (b8.2.2.1 x (xg n7)).1.trans y7
    rw [if_pos xn, letH_s, n0, if_pos (Nat.succ_ne_zero x), a1, bV_s, if_pos kp1, letH_s, ← hg1, letH_s, n1, if_pos (ng n1), a2, bV_s, if_pos kp2, letH_s, ← hg2, na_go (xg n2) y2, ← hg3, na_go (xg n3) y3, ← hg4, letH_s, n4, if_pos (ng n4), a5, bV_s, if_pos kp5, letH_s, ← hg5, letH_s, n5, if_pos (ng n5), a6, bV_s, if_pos kp6, letH_s, ← hg6, na_go (xg n6) y6, ← hg7, letH_s, n7, if_pos (ng n7), a8, bV_s, if_pos kp8, letH_s, ← hg8, na_go (xg n8) y8, ← hg9, na_go (xg n9) y9, ← hg10, na_go (xg n10) y10, ← hgk, na_go (xg nk) yk, ← hg11, if_pos kx, ← hq]
    refine u1.trans ?_
    show gX9_init (999994 + 1) 123 [.ref x, .int (nI 5)] [] h5 = _
    obtain ⟨z1, z2, z3⟩ := C5.spa
    rw [zX9_init_123]
    unfold kX9_init_123
    rw [if_pos C5.k, z1, if_pos z2, z3, if_pos (show ((5 : Nat).toInt32) ≤ nI 5 by decide), v1, bV_s]
  · have hax : a ≠ x := Nat.ne_of_lt ha
    have ha14 : ∀ c, a ≠ x + c := fun c => Nat.ne_of_lt (Nat.lt_of_lt_of_le ha (Nat.le_add_right x c))
    obtain ⟨y1, y2, y3, y4⟩ := V0 a (Nat.lt_succ_of_lt ha)
    obtain ⟨w1, w2, w3⟩ := (ext_nw h 19 0 17).2 a (by rw [← hx]; exact ha)
    refine ⟨by rw [kh_eq v2, y1, hg0]; exact w1, by rw [lh_eq v2, y2, hg0]; exact w2, ?_, ?_⟩
    · rw [show rH h' a = rH h5 a from funext (fun k => rh_eq v2 a k), y4 hax (ha14 14), hg0]; exact w3
    · rw [v3 a hax (ha14 38), y3 hax, hg0]; exact nw_2 h 19 0 17 (by rw [← hx]; exact ha)
  · rw [rh_eq v2, (V2 (x + 12) (lx (by decide))).2.2.2 (nxx (by decide)) (nnx (by decide)), hg2]
    show upR _ _ _ _ (x + 12) j = 0
    rw [upR_ne (nxx (by decide))]
    exact congrFun d2 j
  · rw [rh_eq v2, (V3 (x + 13) (lx (by decide))).2.2.2 (nxx (by decide)) (nnx (by decide)), t3.2.2.1]
  · rw [v3 (x + 41) (nxx (by decide)) (nnx (by decide)), (V11 (x + 41) (lx (by decide))).2.2.1 (nxx (by decide)), t11.2.2.2.1]
  · rw [v3 (x + 11) (nxx (by decide)) (nnx (by decide)), (V2 (x + 11) (lx (by decide))).2.2.1 (nxx (by decide)), hg2]
    show p2.2 (x + 11) 1 = 0
    rw [e2]
end NI
