/-! ===== new objects ===== -/
/-- the heap grows; what stood is as it was (but for references of o) -/
def Gb (h h' : Hp) (o dn dz : Nat) : Prop := nH h' = nH h + dn ∧ zH h' = zH h + dz ∧ (∀ a, a < nH h → kH h' a = kH h a ∧ lH h' a = lH h a ∧ h'.2 a = h.2 a) ∧ ∀ a, a < nH h → a ≠ o → rH h' a = rH h a
def Ge (h h' : Hp) (dn dz : Nat) : Prop := nH h' = nH h + dn ∧ zH h' = zH h + dz ∧ (∀ a, a < nH h → kH h' a = kH h a ∧ lH h' a = lH h a ∧ h'.2 a = h.2 a) ∧ ∀ a, a < nH h → rH h' a = rH h a
theorem Gb.refl (h : Hp) (o : Nat) : Gb h h o 0 0 := ⟨rfl, rfl, fun _ _ => ⟨rfl, rfl, rfl⟩, fun _ _ _ => rfl⟩
theorem Gb.trans {h h1 h2 : Hp} {o n1 z1 n2 z2 : Nat} (a : Gb h h1 o n1 z1) (b : Gb h1 h2 o n2 z2) : Gb h h2 o (n1 + n2) (z1 + z2) := by
  obtain ⟨a1, a2, a3, a4⟩ := a
  obtain ⟨b1, b2, b3, b4⟩ := b
  refine ⟨by omega, by omega, fun y hy => ?_, fun y hy q => ?_⟩
  · obtain ⟨c1, c2, c3⟩ := a3 y hy
    obtain ⟨d1, d2, d3⟩ := b3 y (by omega)
    exact ⟨d1.trans c1, d2.trans c2, d3.trans c3⟩
  · rw [b4 y (by omega) q, a4 y hy q]
theorem Ge.b {h h' : Hp} {n z : Nat} (a : Ge h h' n z) (o : Nat) : Gb h h' o n z := ⟨a.1, a.2.1, a.2.2.1, fun y hy _ => a.2.2.2 y hy⟩
theorem Ge.ext {h h' : Hp} {n z : Nat} (a : Ge h h' n z) : Ext h h' := ⟨by have := a.1; omega, fun y hy => ⟨(a.2.2.1 y hy).1, (a.2.2.1 y hy).2.1, a.2.2.2 y hy⟩⟩
theorem Gb.up {h h' : Hp} {o n z : Nat} (a : Gb h h' o n z) {I : Nat → Nat → Int32} (e : ∀ y, y < nH h → I y = h'.2 y) : Gb h (h'.1, I) o n z := ⟨a.1, a.2.1, fun y hy => ⟨(a.2.2.1 y hy).1, (a.2.2.1 y hy).2.1, (e y hy).trans (a.2.2.1 y hy).2.2⟩, a.2.2.2⟩
theorem Ge.up {h h1 h' : Hp} {n z : Nat} (a : Ge h h1 n z) (e1 : h'.1 = h1.1) (e : ∀ y, y < nH h → h'.2 y = h1.2 y) : Ge h h' n z := by
  obtain ⟨a1, a2, a3, a4⟩ := a
  refine ⟨(nh_eq e1).trans a1, (zh_eq e1).trans a2, fun y hy => ?_, fun y hy => ?_⟩
  · obtain ⟨c1, c2, c3⟩ := a3 y hy
    exact ⟨(kh_eq e1 y).trans c1, (lh_eq e1 y).trans c2, (e y hy).trans c3⟩
  · rw [← a4 y hy]
    exact funext (fun k => rh_eq e1 y k)
/-- an object is made at the end, and grows by what its own making adds -/
theorem ge_new {h h' : Hp} {k c n z : Nat} (g : Gb (nwH h k 0 c) h' (nH h) n z) : Ge h h' (1 + n) (c + z) := by
  obtain ⟨g1, g2, g3, g4⟩ := g
  have e1 : nH (nwH h k 0 c) = nH h + 1 := rfl
  have e2 : zH (nwH h k 0 c) = zH h + c := rfl
  refine ⟨by omega, by omega, fun a ha => ?_, fun a ha => ?_⟩
  · obtain ⟨c1, c2, c3⟩ := g3 a (by omega)
    obtain ⟨d1, d2, -⟩ := (ext_nw h k 0 c).2 a ha
    exact ⟨c1.trans d1, c2.trans d2, c3.trans (nw_2 h k 0 c ha)⟩
  · rw [g4 a (by omega) (by omega)]
    exact ((ext_nw h k 0 c).2 a ha).2.2
/-- the reference is set -/
theorem gb_sR {h h' : Hp} {n z o f v : Nat} (g : Gb h h' o n z) : Gb h (sR h' o f v) o n z := ⟨g.1, g.2.1, g.2.2.1, fun a ha q => by
  show upR _ _ _ _ a = _
  rw [upR_ne q]
  exact g.2.2.2 a ha q⟩
/-- an array is made and put into field f of o -/
def nA (h : Hp) (o f k len : Nat) : Hp := sR (nwH h k len len) o f (nH h)
theorem na_go {h : Hp} {o f k len ko : Nat} {K : Hp → RS} (ho : o < nH h) (hk : kH h o = ko) : (letH (nwH h k len len) fun (h2 : Hp) => (if kH h2 o = ko then (letH (sR h2 o f (nH h)) fun (h5 : Hp) => K h5) else none)) = K (nA h o f k len) := by
  rw [letH_s, if_pos (((ext_nw h k len len).2 o ho).1.trans hk), letH_s]
  rfl
theorem na_b {h : Hp} {o f k len : Nat} (ho : o < nH h) : Gb h (nA h o f k len) o 1 len := by
  refine ⟨rfl, rfl, fun a ha => ?_, fun a ha q => ?_⟩
  · obtain ⟨d1, d2, -⟩ := (ext_nw h k len len).2 a ha
    exact ⟨d1, d2, nw_2 h k len len ha⟩
  · show upR _ _ _ _ a = _
    rw [upR_ne q]
    exact ((ext_nw h k len len).2 a ha).2.2
theorem na_at {h : Hp} {o f k len : Nat} (ho : o < nH h) : kH (nA h o f k len) (nH h) = k ∧ lH (nA h o f k len) (nH h) = len ∧ rH (nA h o f k len) (nH h) = (fun _ => 0) ∧ (nA h o f k len).2 (nH h) = (fun _ => 0) ∧ ∀ j, rH (nA h o f k len) o j = if j = f then nH h else rH h o j := by
  refine ⟨nwH_k h k len len, nwH_l h k len len, ?_, nwH_i h k len len, fun j => ?_⟩
  · show upR _ _ _ _ (nH h) = _
    rw [upR_ne (by omega)]
    exact nwH_r h k len len
  · show upR _ _ _ _ o j = _
    rw [upR_at]
    by_cases e : j = f
    · rw [if_pos e, if_pos e]
    · rw [if_neg e, if_neg e]
      exact congrFun ((ext_nw h k len len).2 o ho).2.2 j
/-- several, one behind the other -/
def nAs (o : Nat) : List (Nat × Nat × Nat) → Hp → Hp
  | [], h => h
  | v :: l, h => nAs o l (nA h o v.1 v.2.1 v.2.2)
def sum3 : List (Nat × Nat × Nat) → Nat
  | [] => 0
  | v :: l => v.2.2 + sum3 l
theorem nAs_ok : ∀ (l : List (Nat × Nat × Nat)) (h : Hp) (o : Nat), o < nH h → (l.map (fun v => v.1)).Nodup →
    Gb h (nAs o l h) o l.length (sum3 l) ∧ (∀ i v, l[i]? = some v → ARR (nAs o l h) o v.1 (nH h + i) v.2.1 v.2.2 ∧ rH (nAs o l h) (nH h + i) = (fun _ => 0) ∧ (nAs o l h).2 (nH h + i) = fun _ => 0) ∧ ∀ j, j ∉ l.map (fun v => v.1) → rH (nAs o l h) o j = rH h o j := by
  intro l
  induction l with
  | nil => intro h o ho _; exact ⟨Gb.refl h o, fun i v hv => by simp at hv, fun j _ => rfl⟩
  | cons v l ih =>
    intro h o ho nd
    rw [List.map_cons, List.nodup_cons] at nd
    have g1 := na_b (f := v.1) (k := v.2.1) (len := v.2.2) ho
    obtain ⟨e1, e2, e3, e4, e5⟩ := na_at (f := v.1) (k := v.2.1) (len := v.2.2) ho
    have n1 : nH (nA h o v.1 v.2.1 v.2.2) = nH h + 1 := g1.1
    obtain ⟨i1, i2, i3⟩ := ih (nA h o v.1 v.2.1 v.2.2) o (by omega) nd.2
    refine ⟨?_, fun i w hw => ?_, fun j hj => ?_⟩
    · have := g1.trans i1
      rw [List.length_cons, Nat.add_comm l.length 1]
      exact this
    · cases i with
      | zero =>
        rw [List.getElem?_cons_zero] at hw
        injection hw with hw
        subst hw
        obtain ⟨c1, c2, c3⟩ := i1.2.2.1 (nH h) (by omega)
        have c4 := i1.2.2.2 (nH h) (by omega) (by omega)
        rw [Nat.add_zero]
        refine ⟨⟨?_, c1.trans e1, c2.trans e2⟩, c4.trans e3, c3.trans e4⟩
        show rH (nAs o l (nA h o v.1 v.2.1 v.2.2)) o v.1 = _
        rw [i3 v.1 nd.1, e5, if_pos rfl]
      | succ i =>
        rw [List.getElem?_cons_succ] at hw
        have := i2 i w hw
        rw [n1, show nH h + 1 + i = nH h + (i + 1) by omega] at this
        exact this
    · rw [List.map_cons, List.mem_cons, not_or] at hj
      show rH (nAs o l (nA h o v.1 v.2.1 v.2.2)) o j = _
      rw [i3 j hj.2, e5, if_neg hj.1]
theorem nAs_k {l : List (Nat × Nat × Nat)} {h : Hp} {o k : Nat} (ho : o < nH h) (hk : kH h o = k) (nd : (l.map (fun v => v.1)).Nodup) : kH (nAs o l h) o = k ∧ o < nH (nAs o l h) := by
  obtain ⟨g, -⟩ := nAs_ok l h o ho nd
  exact ⟨(g.2.2.1 o ho).1.trans hk, by have := g.1; omega⟩
theorem nAs_app : ∀ (l : List (Nat × Nat × Nat)) (o : Nat) (v : Nat × Nat × Nat) (h : Hp), nAs o (l ++ [v]) h = nA (nAs o l h) o v.1 v.2.1 v.2.2 := by
  intro l
  induction l with
  | nil => intro o v h; rfl
  | cons w l ih => intro o v h; exact ih o v (nA h o w.1 w.2.1 w.2.2)
theorem na_gl {h : Hp} {o f k len ko : Nat} {K : Hp → RS} (l : List (Nat × Nat × Nat)) (ho : o < nH h) (hk : kH h o = ko) (nd : (l.map (fun v => v.1)).Nodup) : (letH (nwH (nAs o l h) k len len) fun (h2 : Hp) => (if kH h2 o = ko then (letH (sR h2 o f (nH (nAs o l h))) fun (h5 : Hp) => K h5) else none)) = K (nAs o (l ++ [(f, k, len)]) h) := by
  rw [na_go (nAs_k ho hk nd).2 (nAs_k ho hk nd).1, nAs_app]
/-- a new object of kind k: itself, no references, no numbers -/
theorem nwo (h : Hp) (k c : Nat) : nH h < nH (nwH h k 0 c) ∧ kH (nwH h k 0 c) (nH h) = k := ⟨by rw [nwH_n]; omega, nwH_k h k 0 c⟩
section NO
variable {h : Hp}
def lS : List (Nat × Nat × Nat) := [(1, 2, 512), (3, 1, 256), (4, 1, 256), (5, 1, 256), (6, 2, 4096), (7, 1, 1024), (8, 1, 256), (10, 1, 64), (11, 1, 64)]
theorem new_S (hn : nH h ≠ 0) : ∃ h', fX5_init (nH h) (nwH h 15 0 16) = some (.inl none, h') ∧ Ge h h' 10 6800 ∧ Sta h' (nH h) S0 16 := by
  obtain ⟨s, hs⟩ : ∃ s, s = nH h := ⟨_, rfl⟩
  obtain ⟨w1, w2⟩ := nwo h 15 16
  have nd : (lS.map (fun v => v.1)).Nodup := by decide
  obtain ⟨g1, g2, -⟩ := nAs_ok lS (nwH h 15 0 16) (nH h) w1 nd
  have en : nH (nwH h 15 0 16) = s + 1 := by rw [nwH_n, hs]
  rw [en] at g2
  have hk := nAs_k (l := lS) w1 w2 nd
  have O : SO (nAs (nH h) lS (nwH h 15 0 16)) s := by
    rw [← hs] at g2 hk ⊢
    refine ⟨hk.1, ?_, ?_, ?_, ?_, ?_, ?_, ?_, ?_, ?_⟩
    · exact (g2 0 _ rfl).1
    · exact (g2 1 _ rfl).1
    · exact (g2 2 _ rfl).1
    · exact (g2 3 _ rfl).1
    · exact (g2 4 _ rfl).1
    · exact (g2 5 _ rfl).1
    · exact (g2 6 _ rfl).1
    · exact (g2 7 _ rfl).1
    · exact (g2 8 _ rfl).1
  obtain ⟨h', b1, b2, b3⟩ := c_begin (s := s) (z := 16) O (by decide)
  have b1 : fX5_begin s 16 (nAs (nH h) lS (nwH h 15 0 16)) = _ := b1
  refine ⟨h', ?_, ?_, by rw [← hs]; exact b3⟩
  · unfold fX5_init kX5_init_0
    have st : (letH (nwH (nwH h 15 0 16) 2 512 512) fun (h2 : Hp) => (if kH h2 (nH h) = 15 then (letH (sR h2 (nH h) 1 (nH (nwH h 15 0 16))) fun (h5 : Hp) => (letH (nwH h5 1 256 256) fun (h7 : Hp) => (if kH h7 (nH h) = 15 then (letH (sR h7 (nH h) 3 (nH h5)) fun (h10 : Hp) => (letH (nwH h10 1 256 256) fun (h12 : Hp) => (if kH h12 (nH h) = 15 then (letH (sR h12 (nH h) 4 (nH h10)) fun (h15 : Hp) => (letH (nwH h15 1 256 256) fun (h17 : Hp) => (if kH h17 (nH h) = 15 then (letH (sR h17 (nH h) 5 (nH h15)) fun (h20 : Hp) => (letH (nwH h20 2 4096 4096) fun (h22 : Hp) => (if kH h22 (nH h) = 15 then (letH (sR h22 (nH h) 6 (nH h20)) fun (h25 : Hp) => (letH (nwH h25 1 1024 1024) fun (h27 : Hp) => (if kH h27 (nH h) = 15 then (letH (sR h27 (nH h) 7 (nH h25)) fun (h30 : Hp) => (letH (nwH h30 1 256 256) fun (h32 : Hp) => (if kH h32 (nH h) = 15 then (letH (sR h32 (nH h) 8 (nH h30)) fun (h35 : Hp) => (letH (nwH h35 1 64 64) fun (h37 : Hp) => (if kH h37 (nH h) = 15 then (letH (sR h37 (nH h) 10 (nH h35)) fun (h40 : Hp) => (letH (nwH h40 1 64 64) fun (h42 : Hp) => (if kH h42 (nH h) = 15 then (letH (sR h42 (nH h) 11 (nH h40)) fun (h45 : Hp) => (if kH h45 (nH h) = 15 then (bV (fX5_begin (nH h) 16 h45) fun h47 => (some (.inl none, h47))) else none)) else none))) else none))) else none))) else none))) else none))) else none))) else none))) else none))) else none)) = (if kH (nAs (nH h) lS (nwH h 15 0 16)) (nH h) = 15 then (bV (fX5_begin (nH h) 16 (nAs (nH h) lS (nwH h 15 0 16))) fun h47 => (some (.inl none, h47))) else none) := by
      rw [show nwH h 15 0 16 = nAs (nH h) [] (nwH h 15 0 16) from rfl, na_gl _ w1 w2, na_gl _ w1 w2, na_gl _ w1 w2, na_gl _ w1 w2, na_gl _ w1 w2, na_gl _ w1 w2, na_gl _ w1 w2, na_gl _ w1 w2, na_gl _ w1 w2]
      · rfl
      all_goals decide
    rw [if_pos hn]
    refine st.trans ?_
    rw [if_pos hk.1]
    rw [← hs] at b1 ⊢
    rw [b1, bV_s]
  · have g3 : Ge h (nAs (nH h) lS (nwH h 15 0 16)) 10 6800 := ge_new (n := 9) (z := 6784) g1
    exact g3.up b2.1 (fun y hy => b2.2 y (by omega))
end NO
