/-! ===== the start; the owed statement ===== -/
theorem law_all (L : Nat) (xs : Nat → Int32) (hL : L ≤ 3584) : ∃ h', fL_law (h00 L xs) = some (.inl (some (.int 1)), h') ∧ nH h' ≤ 20000 ∧ zH h' ≤ 2000000 := by
  obtain ⟨h, hh⟩ : ∃ h, h = h00 L xs := ⟨_, rfl⟩
  have n0 : nH h = 8 := by rw [hh]; rfl
  have z0 : zH h = 0 := by rw [hh]; rfl
  have l1 : lH h 1 = L := by rw [hh]; rfl
  have i1 : h.2 1 = xs := by rw [hh]; rfl
  obtain ⟨x, hx⟩ : ∃ x, x = nH h := ⟨_, rfl⟩
  obtain ⟨h3, a1, a2, a3, a4, a5, a6, a7, a8, ⟨a9, a10, a11, a12, a13⟩, a14, a15, a16⟩ := c_new (h := h) (by omega)
  rw [← hx] at a1 a2 a4 a5 a6 a7 a8 a9 a10 a11 a12 a13 a14 a15 a16
  obtain ⟨m, hm⟩ : ∃ m, m = nH h3 := ⟨_, rfl⟩
  obtain ⟨h8, b1, b2, b3, b4, b5, b6, b7, ⟨b8, b9, b10, b11, b12, b13⟩, b14⟩ := m_new (h := h3) (by omega)
  rw [← hm] at b1 b2 b4 b5 b6 b7 b8 b9 b10 b11 b12 b13 b14
  obtain ⟨o, ho⟩ : ∃ o, o = nH h8 := ⟨_, rfl⟩
  obtain ⟨g, hg⟩ : ∃ g, g = nwH h8 4 1 1 := ⟨_, rfl⟩
  have gn : nH g = o + 1 := by rw [hg, ho]; rfl
  have gz : zH g = zH h8 + 1 := by rw [hg]; rfl
  have gk : kH g o = 4 := by rw [hg, ho]; exact nwH_k h8 4 1 1
  have gl : lH g o = 1 := by rw [hg, ho]; exact nwH_l h8 4 1 1
  have P : x = 8 ∧ m = 100 ∧ o = 252 ∧ o + 1 = 253 := by omega
  have e8 : ∀ a, a < o → kH g a = kH h8 a ∧ lH g a = lH h8 a ∧ rH g a = rH h8 a ∧ g.2 a = h8.2 a := fun a ha => by
    obtain ⟨y1, y2, y3⟩ := (ext_nw h8 4 1 1).2 a (by omega)
    rw [hg]
    exact ⟨y1, y2, y3, nw_2 h8 4 1 1 (by omega)⟩
  have e3 : ∀ a, a < m → kH g a = kH h3 a ∧ lH g a = lH h3 a ∧ rH g a = rH h3 a ∧ g.2 a = h3.2 a := fun a ha => by
    obtain ⟨y1, y2, y3, y4⟩ := e8 a (by omega)
    obtain ⟨u1, u2, u3, u4⟩ := b4 a (by omega)
    exact ⟨y1.trans u1, y2.trans u2, y3.trans u3, y4.trans u4⟩
  have Cg : CO g x := a5.cg (fun a w1 w2 => (e3 a (by omega)).1) (fun a w1 w2 => (e3 a (by omega)).2.1) (fun a w1 w2 _ _ => (e3 a (by omega)).2.2.1)
  have Sg : Sta g (x + 1) S0 16 := a6.cg (fun a w1 w2 => (e3 a (by omega)).1) (fun a w1 w2 => (e3 a (by omega)).2.1) (e3 _ (by omega)).2.2.1 (fun a w1 w2 => (e3 a (by omega)).2.2.2)
  have ex : g.2 x = h3.2 x := (e3 x (by omega)).2.2.2
  have A : CW g x (o + 1) (fun _ => 0) S0 16 (fun _ => 0) 0 [] (-1) 0 (fun _ => 0) [] [] := by
    refine ⟨⟨Cg, Sg⟩, ⟨⟨by rw [ex]; exact a10, by omega, fun i hi => by omega, fun i hi => by omega⟩, ⟨⟨a14.1, fun p hp => ?_⟩, by rw [ex]; exact a11⟩, ⟨by rw [ex]; exact a12, by rw [ex]; exact a13⟩, fun i hi => ?_⟩, ⟨⟨by omega, by omega⟩, fun i hi q => absurd rfl q, fun i j hi hj hij q _ => absurd rfl q, fun i hi q => absurd rfl q, fun j hj => ?_, fun j hj => ?_, fun j hj q => absurd rfl q, fun _ _ _ _ _ => rfl⟩, ⟨?_, by decide, fun i S hS => by simp at hS⟩, by rw [ex]; exact a9, by decide, fun i v hv => by simp at hv⟩
    · rw [(e3 (x + 38) (by omega)).2.2.2]; exact a14.2 p hp
    · rw [(e3 (x + 41) (by omega)).2.2.2]; exact a15 i
    · rw [(e3 (x + 12) (by omega)).2.2.1]; exact a7 j hj
    · rw [(e3 (x + 13) (by omega)).2.2.1]; exact a8 j hj
    · rw [hO_0, (e3 (x + 11) (by omega)).2.2.2]; exact a16
  have em : g.2 m = h8.2 m := (e8 m (by omega)).2.2.2
  have R : RW g m S0 16 (fun _ => 0) 0 [] (-1) 0 (fun _ => 0) [] [] := by
    refine ⟨⟨b5.cg (fun a w1 w2 => (e8 a (by omega)).1) (fun a w1 w2 => (e8 a (by omega)).2.1) (fun a w1 w2 => (e8 a (by omega)).2.2.1), ?_, by rw [em]; exact b7⟩, ⟨⟨by rw [em]; exact b8, by omega, fun i hi => by omega, fun i hi => by omega⟩, ⟨⟨by decide, by simp, by simp⟩, by rw [em]; exact b10, fun k q hq => by simp at hq⟩, ⟨by rw [em]; exact b9, by rw [em]; exact b12⟩, fun i hi => ?_⟩, ⟨by rw [em]; exact b11, by decide, fun i S hS => by simp at hS⟩, by rw [em]; exact b13, by decide, fun i v hv => by simp at hv⟩
    · obtain ⟨y1, y2, y3, y4⟩ := e8 (m + 118) (by omega)
      exact ⟨y1.trans b6.1, y2.trans b6.2.1, by rw [y4]; exact b6.2.2.1, b6.2.2.2⟩
    · rw [(e8 (m + 2) (by omega)).2.2.2]; exact b14 i
  have hl : Ls o (o + 1) g L xs := by
    obtain ⟨y1, y2, y3, y4⟩ := e3 1 (by omega)
    obtain ⟨u1, u2, u3, u4⟩ := a4 1 (by omega)
    exact ⟨gk, gl, y2.trans (u2.trans l1), y4.trans (u4.trans i1), by omega⟩
  have I0 : Inx S0 16 (bud 512) := inx_S0 (by decide) (by unfold bud; decide)
  have nl := nul_le (fun _ => 0) 67
  have W : LW x m o (o + 1) g L xs 512 := ⟨hl, fun _ => 0, S0, 16, fun _ => 0, 0, [], -1, 0, fun _ => 0, [], [], A, R, ⟨I0, fun V hV => by simp at hV, fun V hV => by simp at hV⟩, ⟨by omega, by omega⟩⟩
  obtain ⟨h', e', n', z'⟩ := law_go P hL 512 0 FF g (by decide) (by omega) (by decide) (show 4 * 512 + 1 < 1000000 by decide) W
  refine ⟨h', ?_, n', z'⟩
  rw [← hh]
  unfold fL_law kL_law_0
  rw [← hx, letH_s, if_pos (show x ≠ 0 by omega), a1, bV_s, ← hm, letH_s, if_pos (show m ≠ 0 by omega), b1, bV_s, ← ho, letH_s, ← hg]
  exact e'
theorem i_vc : Claimed_1_1 ∧ Claimed_1_2 := vc_of (fun L xs hL => by
  obtain ⟨h', e, n, z⟩ := law_all L xs hL
  exact ⟨h', e, Nat.le_trans n (Nat.le_trans (show 20000 ≤ room_1.cells by decide) (Nat.le_add_left _ _)), Nat.le_trans z (show 2000000 ≤ room_1.slots by decide)⟩)
