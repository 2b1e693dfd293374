/-! ===== the reference's constructor ===== -/
def lM : List It := [(9, 1, 600, 0), (10, 1, 4, 0), (19, 7, 16, 2), (20, 7, 16, 2), (21, 7, 80, 5), (22, 1, 3398, 0), (23, 1, 3398, 0), (24, 7, 16, 3398), (25, 7, 3, 57767), (26, 7, 5, 3398), (27, 3, 200, 0), (28, 1, 16, 0), (29, 1, 200, 0), (35, 1, 256, 0), (37, 1, 5, 0)]
section MI
variable {h : Hp}
set_option maxHeartbeats 4000000 in
theorem m_new_go {g : Hp} {m : Nat} (w1 : m < nH g) (w2 : kH g m = 18) : (letH (nwH g 1 600 600) fun (h3 : Hp) => (if kH h3 m = 18 then (letH (sR h3 m 9 (nH g)) fun (h6 : Hp) => (letH (nwH h6 1 4 4) fun (h8 : Hp) => (if kH h8 m = 18 then (letH (sR h8 m 10 (nH h6)) fun (h11 : Hp) => (letH (nwM h11 16 2) fun (h13 : Hp) => (if kH h13 m = 18 then (letH (sR h13 m 19 (nH h11)) fun (h16 : Hp) => (letH (nwM h16 16 2) fun (h18 : Hp) => (if kH h18 m = 18 then (letH (sR h18 m 20 (nH h16)) fun (h21 : Hp) => (letH (nwM h21 80 5) fun (h23 : Hp) => (if kH h23 m = 18 then (letH (sR h23 m 21 (nH h21)) fun (h26 : Hp) => (letH (nwH h26 1 3398 3398) fun (h28 : Hp) => (if kH h28 m = 18 then (letH (sR h28 m 22 (nH h26)) fun (h31 : Hp) => (letH (nwH h31 1 3398 3398) fun (h33 : Hp) => (if kH h33 m = 18 then (letH (sR h33 m 23 (nH h31)) fun (h36 : Hp) => (letH (nwM h36 16 3398) fun (h38 : Hp) => (if kH h38 m = 18 then (letH (sR h38 m 24 (nH h36)) fun (h41 : Hp) => (letH (nwM h41 3 57767) fun (h43 : Hp) => (if kH h43 m = 18 then (letH (sR h43 m 25 (nH h41)) fun (h46 : Hp) => (letH (nwM h46 5 3398) fun (h48 : Hp) => (if kH h48 m = 18 then (letH (sR h48 m 26 (nH h46)) fun (h51 : Hp) => (letH (nwH h51 3 200 200) fun (h53 : Hp) => (if kH h53 m = 18 then (letH (sR h53 m 27 (nH h51)) fun (h56 : Hp) => (letH (nwH h56 1 16 16) fun (h58 : Hp) => (if kH h58 m = 18 then (letH (sR h58 m 28 (nH h56)) fun (h61 : Hp) => (letH (nwH h61 1 200 200) fun (h63 : Hp) => (if kH h63 m = 18 then (letH (sR h63 m 29 (nH h61)) fun (h66 : Hp) => (letH (nwH h66 1 256 256) fun (h68 : Hp) => (if kH h68 m = 18 then (letH (sR h68 m 35 (nH h66)) fun (h71 : Hp) => (letH (nwH h71 1 5 5) fun (h73 : Hp) => (if kH h73 m = 18 then (letH (sR h73 m 37 (nH h71)) fun (h76 : Hp) => (if kH h76 m = 18 then (bV (fX10_beginsAnew m (h76.1, (upI (upI h76.2 m 12 16) m 18 0))) fun h79 => (some (.inl none, h79))) else none)) else none))) else none))) else none))) else none))) else none))) else none))) else none))) else none))) else none))) else none))) else none))) else none))) else none))) else none))) else none)) = (if kH (nBs m lM g) m = 18 then (bV (fX10_beginsAnew m ((nBs m lM g).1, (upI (upI (nBs m lM g).2 m 12 16) m 18 0))) fun h79 => (some (.inl none, h79))) else none) := by
  rw [show g = nBs m [] g from rfl, nb_gl _ w1 w2, nb_gl _ w1 w2, nb_gm _ w1 w2, nb_gm _ w1 w2, nb_gm _ w1 w2, nb_gl _ w1 w2, nb_gl _ w1 w2, nb_gm _ w1 w2, nb_gm _ w1 w2, nb_gm _ w1 w2, nb_gl _ w1 w2, nb_gl _ w1 w2, nb_gl _ w1 w2, nb_gl _ w1 w2, nb_gl _ w1 w2]
  · rfl
  all_goals decide
set_option maxHeartbeats 4000000 in
theorem m_new (hn : nH h ≠ 0) : ∃ h', fX10_init (nH h) (nwH h 18 0 38) = some (.inl none, h') ∧ nH h' = nH h + 152 ∧ zH h' ≤ zH h + 400000 ∧ (∀ a, a < nH h → kH h' a = kH h a ∧ lH h' a = lH h a ∧ rH h' a = rH h a ∧ h'.2 a = h.2 a) ∧ MS h' (nH h) ∧ Row h' (nH h + 118) S0 ∧ h'.2 (nH h) 11 = nI 16 ∧ (h'.2 (nH h) 1 = 0 ∧ h'.2 (nH h) 3 = -1 ∧ h'.2 (nH h) 13 = 0 ∧ h'.2 (nH h) 14 = 0 ∧ h'.2 (nH h) 15 = 0 ∧ h'.2 (nH h) 16 = 0) ∧ ∀ i, h'.2 (nH h + 2) i = 0 := by
  obtain ⟨m, hm⟩ : ∃ m, m = nH h := ⟨_, rfl⟩
  obtain ⟨w1, w2⟩ := nwo h 18 38
  obtain ⟨g, hg⟩ : ∃ g : Hp, g = ((nwH h 18 0 38).1, upI (nwH h 18 0 38).2 m 3 (-1)) := ⟨_, rfl⟩
  have gn : nH g = m + 1 := by rw [hg, hm]; rfl
  have gk : kH g m = 18 := by rw [hg, hm]; exact w2
  have gz : zH g = zH h + 38 := by rw [hg]; rfl
  have gi : ∀ j, g.2 m j = if j = 3 then -1 else 0 := fun j => by
    rw [hg]
    show upI _ _ _ _ m j = _
    rw [upI_at, hm, nwH_i h 18 0 38]
  have nd : (lM.map (fun v => v.1)).Nodup := by decide
  have wm : m < nH g := by omega
  obtain ⟨G, I, Rj⟩ := nBs_ok lM g m wm nd
  have hk := nBs_k (l := lM) wm gk nd
  rw [gn] at I
  obtain ⟨q, hq⟩ : ∃ q, q = nBs m lM g := ⟨_, rfl⟩
  rw [← hq] at G I Rj hk
  have s1 : szs lM = 151 := by decide
  have s2 : sls lM = 253336 := by decide +kernel
  have M : MS q m := by
    refine ⟨⟨hk.1, (I 10 _ rfl).1, (I 11 _ rfl).1, (I 12 _ rfl).1⟩, (I 0 _ rfl).1, (I 1 _ rfl).1, ⟨(I 2 _ rfl).1, (I 2 _ rfl).2.1 rfl⟩, ⟨(I 3 _ rfl).1, (I 3 _ rfl).2.1 rfl⟩, ⟨(I 4 _ rfl).1, (I 4 _ rfl).2.1 rfl⟩, (I 5 _ rfl).1, (I 6 _ rfl).1, ⟨(I 7 _ rfl).1, (I 7 _ rfl).2.1 rfl⟩, ⟨(I 8 _ rfl).1, (I 8 _ rfl).2.1 rfl⟩, ⟨(I 9 _ rfl).1, (I 9 _ rfl).2.1 rfl⟩, (I 13 _ rfl).1, (I 14 _ rfl).1⟩
  have qi : ∀ j, q.2 m j = if j = 3 then -1 else 0 := fun j => by rw [(G.2.2.1 m wm).2.2]; exact gi j
  have q2 : q.2 (m + 2) = fun _ => 0 := ((I 1 _ rfl).2.2 (by decide)).2
  obtain ⟨r, hr⟩ : ∃ r : Hp, r = (q.1, upI (upI q.2 m 12 16) m 18 0) := ⟨_, rfl⟩
  have r1 : r.1 = q.1 := by rw [hr]
  have rj : ∀ j, r.2 m j = if j = 18 then 0 else if j = 12 then 16 else if j = 3 then -1 else 0 := fun j => by
    rw [hr]
    show upI _ _ _ _ m j = _
    rw [upI_at, upI_at, qi j]
  have rn : ∀ a, a ≠ m → r.2 a = q.2 a := fun a w => by rw [hr]; show upI _ _ _ _ a = _; rw [upI_ne w, upI_ne w]
  obtain ⟨h', c1, c2, c3, c4, c5, c6, c7, c8, c9, c10⟩ := m_anew (h := r) (v := (16, [])) ⟨by decide, by simp⟩ (by decide) (M.eq r1) (by rw [rj]; rfl) (by rw [rj]; rfl) (fun j v hv => by simp at hv)
  have e' : h'.1 = q.1 := c2.trans r1
  rw [← hm]
  refine ⟨h', ?_, ?_, ?_, fun a ha => ?_, M.eq e', c5, c6, ⟨?_, ?_, c7, c8, c9, c10⟩, fun i => ?_⟩
  · unfold fX10_init kX10_init_0
    rw [hm, if_pos hn, if_pos w2, ← hm]
    have st := m_new_go wm gk
    rw [hg] at st
    have n18 : nH (nwH h 18 0 38) = nH ((nwH h 18 0 38).1, upI (nwH h 18 0 38).2 m 3 (-1)) := rfl
    rw [n18]
    refine st.trans ?_
    rw [← hg, ← hq, if_pos hk.1, ← hr, c1, bV_s]
  · rw [nh_eq e', G.1, s1]; omega
  · rw [zh_eq e', G.2.1, s2]; omega
  · obtain ⟨y1, y2, y3⟩ := G.2.2.1 a (by omega)
    obtain ⟨x1, x2, x3⟩ := (ext_nw h 18 0 38).2 a (by omega)
    refine ⟨by rw [kh_eq e', y1, hg]; exact x1, by rw [lh_eq e', y2, hg]; exact x2, ?_, ?_⟩
    · rw [show rH h' a = rH q a from funext (fun k => rh_eq e' a k), G.2.2.2 a (by omega) (by omega), hg]; exact x3
    · rw [c3 a (by omega) (by omega) (by omega) (by omega) (by omega), rn a (by omega), y3, hg]
      show upI _ _ _ _ a = _
      rw [upI_ne (by omega)]
      exact nw_2 h 18 0 38 (by omega)
  · rw [c4 1 (by decide) (by decide) (by decide) (by decide) (by decide) (by decide), rj]; rfl
  · rw [c4 3 (by decide) (by decide) (by decide) (by decide) (by decide) (by decide), rj]; rfl
  · rw [c3 (m + 2) (by omega) (by omega) (by omega) (by omega) (by omega), rn _ (by omega), q2]
end MI
