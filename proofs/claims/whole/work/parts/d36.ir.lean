/-! ===== the class: image, restore ===== -/
section IR
variable {h h' : Hp} {x B z n k N Z g : Nat} {bl bl' : Nat → Nat} {S S' : St} {T : Nat → Nat} {ls : List (Nat × Nat)} {fp rs : Int32} {rf : Nat → Int32} {hi hs : List St} {im : List (St × List St)}
theorem new_H (hn : nH h ≠ 0) : ∃ h', fX0_init (nH h) (nwH h 10 0 2) = some (.inl none, h') ∧ Ge h h' 2 18 ∧ HO h' (nH h) ∧ rH h' (nH h + 1) = (fun _ => 0) ∧ h'.2 (nH h) = (fun _ => 0) := by
  obtain ⟨w1, w2⟩ := nwo h 10 2
  have nd : (([(0, 5, 16)] : List (Nat × Nat × Nat)).map (fun v => v.1)).Nodup := by decide
  obtain ⟨g1, g2, -⟩ := nAs_ok [(0, 5, 16)] (nwH h 10 0 2) (nH h) w1 nd
  have hk := nAs_k (l := [(0, 5, 16)]) w1 w2 nd
  obtain ⟨a1, a2, a3⟩ := g2 0 (0, 5, 16) rfl
  have en : nH (nwH h 10 0 2) + 0 = nH h + 1 := rfl
  rw [en] at a1 a2
  refine ⟨nAs (nH h) [(0, 5, 16)] (nwH h 10 0 2), ?_, ge_new (n := 1) (z := 16) g1, ⟨hk.1, a1⟩, a2, ?_⟩
  · unfold fX0_init kX0_init_0
    rw [if_pos hn, na_go w1 w2]
    rfl
  · rw [(g1.2.2.1 (nH h) w1).2.2]
    exact nwH_i h 10 0 2
theorem new_I (hn : nH h ≠ 0) : ∃ h', fX1_init (nH h) (nwH h 11 0 2) = some (.inl none, h') ∧ Ge h h' 13 6820 ∧ IM h' (nH h) ∧ rH h' (nH h + 12) = fun _ => 0 := by
  obtain ⟨N, hN⟩ : ∃ N, N = nH h := ⟨_, rfl⟩
  obtain ⟨h0, hh0⟩ : ∃ h0, h0 = nwH h 11 0 2 := ⟨_, rfl⟩
  have n0 : nH h0 = N + 1 := by rw [hh0, nwH_n, hN]
  have z0 : zH h0 = zH h + 2 := by rw [hh0]; rfl
  have k0 : kH h0 N = 11 := by rw [hh0, hN]; exact nwH_k h 11 0 2
  obtain ⟨h4, a1, a2, a3⟩ := new_S (h := h0) (by omega)
  rw [n0] at a1 a3
  obtain ⟨c1, c2, c3, c4⟩ := a2
  obtain ⟨h8, hh8⟩ : ∃ h8, h8 = sR h4 N 0 (N + 1) := ⟨_, rfl⟩
  have n8 : nH h8 = N + 11 := by rw [hh8]; show nH h4 = _; omega
  have z8 : zH h8 = zH h + 6802 := by rw [hh8]; show zH h4 = _; omega
  obtain ⟨h12, d1, d2, d3, d4, d5⟩ := new_H (h := h8) (by omega)
  rw [n8] at d1 d3 d4
  obtain ⟨e1, e2, e3, e4⟩ := d2
  have k12 : kH h12 N = 11 := by rw [(e3 N (by omega)).1, hh8]; show kH h4 N = _; rw [(c3 N (by omega)).1]; exact k0
  have k4 : kH h4 N = 11 := by rw [(c3 N (by omega)).1]; exact k0
  have r8 : ∀ a i, rH h8 a i = if a = N ∧ i = 0 then N + 1 else rH h4 a i := fun a i => by
    rw [hh8]
    show upR _ _ _ _ a i = _
    by_cases e : a = N
    · rw [e, upR_at]
      by_cases e2 : i = 0
      · rw [if_pos e2, if_pos ⟨rfl, e2⟩]
      · rw [if_neg e2, if_neg (fun q => e2 q.2)]
    · rw [upR_ne e, if_neg (fun q => e q.1)]
  have r16 : ∀ a i, rH (sR h12 N 1 (N + 11)) a i = if a = N ∧ i = 1 then N + 11 else rH h12 a i := fun a i => by
    show upR _ _ _ _ a i = _
    by_cases e : a = N
    · rw [e, upR_at]
      by_cases e2 : i = 1
      · rw [if_pos e2, if_pos ⟨rfl, e2⟩]
      · rw [if_neg e2, if_neg (fun q => e2 q.2)]
    · rw [upR_ne e, if_neg (fun q => e q.1)]
  have kl : ∀ a, a < N + 11 → kH h12 a = kH h4 a ∧ lH h12 a = lH h4 a := fun a ha => by
    obtain ⟨y1, y2, -⟩ := e3 a (by omega)
    rw [y1, y2, hh8]
    exact ⟨rfl, rfl⟩
  rw [← hN, ← hh0]
  refine ⟨sR h12 N 1 (N + 11), ?_, ⟨?_, ?_, fun a ha => ?_, fun a ha => ?_⟩, ⟨k12, ?_, ?_, ?_, d3.1, ?_⟩, ?_⟩
  · unfold fX1_init kX1_init_0
    rw [n0, if_pos (by omega), letH_s, if_pos (by omega), a1, bV_s, if_pos k4, letH_s, ← hh8, letH_s, n8, if_pos (by omega), d1, bV_s, if_pos k12, letH_s]
  · show nH h12 = _
    omega
  · show zH h12 = _
    omega
  · have ha : a < N := by rw [hN]; exact ha
    obtain ⟨y1, y2, y3⟩ := c3 a (by omega)
    obtain ⟨y4, y5, y6⟩ := e3 a (by omega)
    obtain ⟨x1, x2, -⟩ := (ext_nw h 11 0 2).2 a (by omega)
    refine ⟨?_, ?_, ?_⟩
    · show kH h12 a = _
      rw [(kl a (by omega)).1, y1, hh0]; exact x1
    · show lH h12 a = _
      rw [(kl a (by omega)).2, y2, hh0]; exact x2
    · show h12.2 a = _
      rw [y6, hh8]
      show h4.2 a = _
      rw [y3, hh0]
      exact nw_2 h 11 0 2 (by omega)
  · have ha : a < N := by rw [hN]; exact ha
    funext i
    rw [r16, if_neg (by omega), e4 a (by omega), r8, if_neg (by omega), c4 a (by omega), hh0]
    exact congrFun ((ext_nw h 11 0 2).2 a (by omega)).2.2 i
  · rw [r16, if_neg (by omega), e4 N (by omega), r8, if_pos ⟨rfl, rfl⟩]
  · refine a3.so.cg (fun a w1 w2 => (kl a (by omega)).1) (fun a w1 w2 => (kl a (by omega)).2) ?_
    funext i
    rw [r16, if_neg (by omega), e4 _ (by omega), r8, if_neg (by omega)]
  · rw [r16, if_pos ⟨rfl, rfl⟩]
  · obtain ⟨y1, y2, y3⟩ := d3.2
    refine ⟨?_, y2, y3⟩
    rw [r16, if_neg (by omega)]
    exact y1
  · funext i
    rw [r16, if_neg (by omega)]
    exact congrFun d4 i
theorem BS.putI (b : BS h x B bl) (hg : g < 3) (h0 : bl (64 + g) = 0) (hN : N = nH h) (n1 : nH h' = N + 13) (E : Exe h h' (x + 13)) (er : ∀ i, rH h' (x + 13) i = if i = g then N else rH h (x + 13) i) (O : IM h' N) (r0 : rH h' (N + 12) = fun _ => 0) : BS h' x B (upB bl (64 + g) N) := by
  obtain ⟨b1, b2, b3, b4, b5, b6, b7, b8⟩ := b
  have hN0 : N ≠ 0 := by omega
  refine ⟨⟨b1.1, by omega⟩, fun i hi q => ?_, fun i k hi hk hik qi qk => ?_, fun i hi q => ?_, fun k hk => ?_, fun k hk => ?_, fun k hk q => ?_, fun k hk q r hr => ?_⟩
  · by_cases e : i = 64 + g
    · rw [e, upB_at, bz_i]
      omega
    · rw [upB_ne e] at q ⊢
      have := b2 i hi q
      omega
  · by_cases e : i = 64 + g
    · rw [e, upB_at, upB_ne (by omega)]
      rw [upB_ne (by omega)] at qk
      have := b2 k hk qk
      omega
    · by_cases e2 : k = 64 + g
      · rw [e2, upB_at, upB_ne e]
        rw [upB_ne e] at qi
        have := b2 i hi qi
        omega
      · rw [upB_ne e, upB_ne e2]
        rw [upB_ne e] at qi
        rw [upB_ne e2] at qk
        exact b3 i k hi hk hik qi qk
  · rw [upB_ne (by omega)] at q ⊢
    have c := b2 i (by omega) q
    rw [bz_s hi] at c
    exact (b4 i hi q).exe E c.2 (by omega)
  · rw [upB_ne (by omega), E.2.2 (x + 12) (by omega) (by omega)]
    exact b5 k hk
  · rw [er k]
    by_cases e : k = g
    · rw [if_pos e, e, upB_at]
    · rw [if_neg e, upB_ne (by omega)]
      exact b6 k hk
  · by_cases e : k = g
    · rw [e, upB_at]
      refine ⟨O, fun r hr => ?_⟩
      rw [r0, upB_ne (by omega)]
      exact (b8 g hg h0 r hr).symm
    · rw [upB_ne (by omega)] at q ⊢
      obtain ⟨c1, c2⟩ := b7 k hk q
      have c3 := b2 (64 + k) (by omega) q
      rw [bz_i] at c3
      refine ⟨c1.exe E c3.2 (by omega), fun r hr => ?_⟩
      rw [upB_ne (by omega), E.2.2 _ (by omega) (by omega)]
      exact c2 r hr
  · by_cases e : k = g
    · rw [e, upB_at] at q
      exact absurd q hN0
    · rw [upB_ne (by omega)] at q
      rw [upB_ne (by omega)]
      exact b8 k hk q r hr
/-- an Image is made where none was -/
theorem CW.putI (A : CW h x B bl S z T n ls fp rs rf hi im) (hg : im.length < 3) (h0 : bl (64 + im.length) = 0) (hN : N = nH h) (n1 : nH h' = N + 13) (E : Exe h h' (x + 13)) (er : ∀ i, rH h' (x + 13) i = if i = im.length then N else rH h (x + 13) i) (O : IM h' N) (r0 : rH h' (N + 12) = fun _ => 0) (ei : ∀ a, a < nH h → h'.2 a = h.2 a) : CW h' x B (upB bl (64 + im.length) N) S z T n ls fp rs rf hi im := by
  obtain ⟨⟨C, R⟩, A2, A3, A4, A5⟩ := A
  have b1 := A3.1
  have B' := A3.putI hg h0 hN n1 E er O r0
  refine ⟨⟨C.exe E (by omega) (by omega), R.exe E (by omega) (by omega) (fun a w1 w2 => ei a (by omega))⟩, A2.cg (ei _ (by omega)) (ei _ (by omega)) (ei _ (by omega)) (ei _ (by omega)), B', ?_, by rw [ei x (by omega)]; exact A5.1, A5.2.1, fun k v hv => ?_⟩
  · have H := A4.1
    rw [hO_0] at H
    refine ⟨by rw [hO_0, ei _ (by omega)]; exact H, A4.2.1, fun i S' hS' => ?_⟩
    obtain ⟨y1, y2⟩ := A4.2.2 i S' hS'
    have hi' : i < hi.length := (List.getElem?_eq_some_iff.mp hS').1
    have := A4.2.1
    have c := A3.2.1 (16 * 0 + i) (by omega) y1
    rw [bz_s (by omega)] at c
    rw [upB_ne (by omega)]
    exact ⟨y1, y2.exe E c.2 (by omega) (fun a w1 w2 => ei a (by omega))⟩
  · obtain ⟨u1, u2, u3⟩ := A5.2.2 k v hv
    have hk : k < im.length := (List.getElem?_eq_some_iff.mp hv).1
    have c := A3.2.1 (64 + k) (by omega) u1
    rw [bz_i] at c
    have H := u3.1
    rw [hO_s] at H
    rw [upB_ne (by omega)]
    refine ⟨u1, u2.exe E (by omega) (by omega) (fun a w1 w2 => ei a (by omega)), ?_, u3.2.1, fun i S' hS' => ?_⟩
    · rw [hO_s, upB_ne (by omega), ei _ (by omega)]
      exact H
    · obtain ⟨y1, y2⟩ := u3.2.2 i S' hS'
      have hi' : i < v.2.length := (List.getElem?_eq_some_iff.mp hS').1
      have := u3.2.1
      have c := A3.2.1 (16 * (k + 1) + i) (by omega) y1
      rw [bz_s (by omega)] at c
      rw [upB_ne (by omega)]
      exact ⟨y1, y2.exe E c.2 (by omega) (fun a w1 w2 => ei a (by omega))⟩
/-- the last part of image -/
noncomputable def imT (x : Nat) (h26 : Hp) : RS := (if kH h26 (rH h26 (rH h26 x 2) (h26.2 x 11).toNatClampNeg) = 11 then (if kH h26 (rH h26 (rH h26 (rH h26 x 2) (h26.2 x 11).toNatClampNeg) 0) = 15 then (bV (fX5_copyFrom (rH h26 (rH h26 (rH h26 x 2) (h26.2 x 11).toNatClampNeg) 0) (rH h26 x 0) h26) fun h32 => (if kH h32 x = 19 then (if kH h32 (rH h32 x 2) = 6 then (if inB (h32.2 x 11) (lH h32 (rH h32 x 2)) = true then (if kH h32 (rH h32 (rH h32 x 2) (h32.2 x 11).toNatClampNeg) = 11 then (if kH h32 (rH h32 (rH h32 (rH h32 x 2) (h32.2 x 11).toNatClampNeg) 1) = 10 then (bV (fX0_takeOver (rH h32 (rH h32 (rH h32 x 2) (h32.2 x 11).toNatClampNeg) 1) (rH h32 x 1) h32) fun h39 => (if kH h39 x = 19 then (some (.inl (some (.int ((upI h39.2 x 11 ((h39.2 x 11) + 1)) x 11))), (h39.1, (upI h39.2 x 11 ((h39.2 x 11) + 1))))) else none)) else none) else none) else none) else none) else none)) else none) else none)
/-- another state is put into an image's place -/
theorem CW.thn (A : CW h x B bl S z T n ls fp rs rf hi im) (hg : im.length ≤ g) (hg3 : g < 3) (u : bl (64 + g) ≠ 0) (o : Own h h' (bl (64 + g) + 1)) : CW h' x B bl S z T n ls fp rs rf hi im := by
  obtain ⟨⟨C, R⟩, A2, A3, A4, A5⟩ := A
  have b1 := A3.1
  have c0 := A3.2.1 (64 + g) (by omega) u
  rw [bz_i] at c0
  have f : ∀ a, a < bl (64 + g) + 1 ∨ bl (64 + g) + 11 ≤ a → h'.2 a = h.2 a := fun a q => o.2 a (by omega)
  have e := o.1
  refine ⟨⟨C.eq e, Sta.eqs e (fun a w1 w2 => f a (by omega)) R⟩, A2.cg (f _ (by omega)) (f _ (by omega)) (f _ (by omega)) (f _ (by omega)), A3.same e, ?_, by rw [f x (by omega)]; exact A5.1, A5.2.1, fun k v hv => ?_⟩
  · have H := A4.1
    rw [hO_0] at H
    refine ⟨by rw [hO_0, f _ (by omega)]; exact H, A4.2.1, fun i S' hS' => ?_⟩
    obtain ⟨y1, y2⟩ := A4.2.2 i S' hS'
    have hi' : i < hi.length := (List.getElem?_eq_some_iff.mp hS').1
    have := A4.2.1
    have c := A3.2.2.1 (16 * 0 + i) (64 + g) (by omega) (by omega) (by omega) y1 u
    rw [bz_s (by omega), bz_i] at c
    exact ⟨y1, Sta.eqs e (fun a w1 w2 => f a (by omega)) y2⟩
  · obtain ⟨u1, u2, u3⟩ := A5.2.2 k v hv
    have hk : k < im.length := (List.getElem?_eq_some_iff.mp hv).1
    have c := A3.2.2.1 (64 + k) (64 + g) (by omega) (by omega) (by omega) u1 u
    rw [bz_i, bz_i] at c
    have H := u3.1
    rw [hO_s] at H
    refine ⟨u1, Sta.eqs e (fun a w1 w2 => f a (by omega)) u2, by rw [hO_s, f _ (by omega)]; exact H, u3.2.1, fun i S' hS' => ?_⟩
    obtain ⟨y1, y2⟩ := u3.2.2 i S' hS'
    have hi' : i < v.2.length := (List.getElem?_eq_some_iff.mp hS').1
    have := u3.2.1
    have c := A3.2.2.1 (16 * (k + 1) + i) (64 + g) (by omega) (by omega) (by omega) y1 u
    rw [bz_s (by omega), bz_i] at c
    exact ⟨y1, Sta.eqs e (fun a w1 w2 => f a (by omega)) y2⟩
theorem CO.r2 (C : CO h x) : rH h x 2 = x + 13 ∧ kH h (x + 13) = 6 ∧ lH h (x + 13) = 3 := C.img
theorem ci_tail (A : CW h x B bl S z T n ls fp rs rf hi im) (h3 : im.length < 3) (u : bl (64 + im.length) ≠ 0) (h64 : (sL S).length ≤ 64) (hl : ∀ S ∈ hi, (sL S).length ≤ 64) (rm : Rm h bl N Z) :
    ∃ h' bl', imT x h = some (.inl (some (.int (nI (im.length + 1)))), h') ∧ CW h' x B bl' S z T n ls fp rs rf hi (im ++ [(S, hi)]) ∧ KC h h' x B ∧ Rm h' bl' N Z := by
  obtain ⟨⟨C, R⟩, A2, A3, A4, A5⟩ := id A
  have b1 := A3.1
  have c0 := A3.2.1 (64 + im.length) (by omega) u
  rw [bz_i] at c0
  obtain ⟨g, hg⟩ : ∃ g, g = im.length := ⟨_, rfl⟩
  obtain ⟨⟨i1, i2, i3, i4, i5, i6⟩, i7⟩ := A3.2.2.2.2.2.2.1 im.length h3 u
  have f11 := A5.1
  have hcl : (nI im.length).toNatClampNeg = im.length := nI_clamp (by omega)
  have r13 := A3.2.2.2.2.2.1 im.length h3
  obtain ⟨h7, a1, a2, a3⟩ := c_copy R i3 (by omega) h64
  have A7 := A.thn (g := im.length) (Nat.le_refl _) h3 u a2
  obtain ⟨⟨C7, R7⟩, A72, A73, A74, A75⟩ := id A7
  have vg : im.length + 1 = 0 ∨ bl (63 + (im.length + 1)) ≠ 0 := Or.inr (by rw [show 63 + (im.length + 1) = 64 + im.length by omega]; exact u)
  obtain ⟨h14, bl', d1, d2, d3, d4, d5⟩ := c_takeOver (N := N) (Z := Z) (g := im.length + 1) (g2 := 0) hl (by omega) (by omega) (by omega) A73 C7 vg (Or.inl rfl) A74 ⟨by rw [nh_eq a2.1]; exact rm.1, by rw [zh_eq a2.1]; exact rm.2⟩
  rw [hO_s, hO_0] at d1
  have C14 := d2.co A73 (by omega) vg C7
  have own : ∀ a, a < B → a ≠ x + 11 → h14.2 a = h7.2 a := fun a q1 q2 => d2.own A73 (by omega) vg q1 q2
  have f14 : h14.2 x 11 = nI im.length := by rw [own x (by omega) (by omega)]; exact A75.1
  obtain ⟨h', hh'⟩ : ∃ h' : Hp, h' = (h14.1, upI h14.2 x 11 (nI (im.length + 1))) := ⟨_, rfl⟩
  have e' : h'.1 = h14.1 := by rw [hh']
  have i' : ∀ a, a ≠ x → h'.2 a = h14.2 a := fun a q => by rw [hh']; exact upI_ne q
  have x' : ∀ j, j ≠ 11 → h'.2 x j = h14.2 x j := fun j q => by rw [hh']; show upI _ _ _ _ x j = _; rw [upI_at, if_neg q]
  refine ⟨h', bl', ?_, ⟨⟨C14.eq e', ?_⟩, ?_, d3.same e', ?_, ?_, ?_, fun k v hv => ?_⟩, ?_, ⟨by rw [nh_eq e']; exact d4.1, by rw [zh_eq e']; exact d4.2⟩⟩
  · unfold imT
    have r13' : rH h7 (x + 13) im.length = bl (64 + im.length) := by rw [rh_eq a2.1]; exact r13
    have k7 : kH h7 (bl (64 + im.length)) = 11 := by rw [kh_eq a2.1]; exact i1
    have k71 : rH h7 (bl (64 + im.length)) 1 = bl (64 + im.length) + 11 := by rw [rh_eq a2.1]; exact i4
    have k72 : kH h7 (bl (64 + im.length) + 11) = 10 := by rw [kh_eq a2.1]; exact i5
    have g11 : h7.2 x 11 = nI im.length := A75.1
    rw [C.r2.1, f11, hcl, r13, if_pos i1, i2, if_pos i3.1, C.r0, a1, bV_s, if_pos C7.k, C7.r2.1, if_pos C7.r2.2.1, g11, C7.r2.2.2, if_pos (inB_nI h3 (by decide)), hcl, r13', if_pos k7, k71, if_pos k72, C7.his.1.1, d1, bV_s, if_pos C14.k, f14, nI_1, upI_at, if_pos rfl, hh']
  · exact Sta.eqs e' (fun a w1 w2 => i' a (by omega)) (d2.sta1 A73 C7 (by omega) vg R7)
  · obtain ⟨p1, ⟨⟨p2, p3⟩, p4⟩, ⟨p5, p6⟩, p7⟩ := A72
    have o26 := own (x + 26) (by omega) (by omega)
    have o38 := own (x + 38) (by omega) (by omega)
    have o40 := own (x + 41) (by omega) (by omega)
    have o0 := own x (by omega) (by omega)
    exact ⟨⟨by rw [x' 12 (by decide), o0]; exact p1.1, p1.2.1, fun i hi => by rw [i' (x + 26) (by omega), o26]; exact p1.2.2.1 i hi, p1.2.2.2⟩, ⟨⟨p2, fun p hp => by rw [i' (x + 38) (by omega), o38]; exact p3 p hp⟩, by rw [x' 13 (by decide), o0]; exact p4⟩, ⟨by rw [x' 14 (by decide), o0]; exact p5, by rw [x' 15 (by decide), o0]; exact p6⟩, fun i hi => by rw [i' (x + 41) (by omega), o40]; exact p7 i hi⟩
  · have := HsC.tk A73 C7 d2 (by omega) vg (show 0 < 4 by omega) (by omega) (Or.inl rfl) A74
    exact this.ext (Ext.same e') d3 C14 (by omega) (Or.inl rfl) (i' _ (by rw [hO_0]; omega)) (fun a ha q => i' a (by omega))
  · rw [hh']
    show upI _ _ _ _ x 11 = _
    rw [upI_at, if_pos rfl, List.length_append, List.length_singleton]
  · rw [List.length_append, List.length_singleton]; omega
  · have bh : ∀ k, k < 3 → bl (64 + k) ≠ 0 → bl' (64 + k) = bl (64 + k) := fun k hk q => d2.2.1 _ q
    by_cases ek : k = im.length
    · rw [ek, List.getElem?_append_right (Nat.le_refl _), Nat.sub_self] at hv
      injection hv with hv
      rw [ek, ← hv]
      have u' : bl' (64 + im.length) ≠ 0 := by rw [bh _ h3 u]; exact u
      have c4 := d3.2.1 (64 + im.length) (by omega) u'
      refine ⟨u', Sta.eqs e' (fun a w1 w2 => i' a (by omega)) (d2.thn A73 C7 (by omega) vg h3 u a3), ?_⟩
      exact d5.ext (Ext.same e') d3 C14 (by omega) (Or.inr (by rw [show 63 + (im.length + 1) = 64 + im.length by omega]; exact u')) (i' _ (by rw [hO_s]; omega)) (fun a ha q => i' a (by omega))
    · have hk : k < (im ++ [(S, hi)]).length := (List.getElem?_eq_some_iff.mp hv).1
      rw [List.length_append, List.length_singleton] at hk
      rw [List.getElem?_append_left (by omega)] at hv
      obtain ⟨u1, u2, u3⟩ := A75.2.2 k v hv
      have u' : bl' (64 + k) ≠ 0 := by rw [bh _ (by omega) u1]; exact u1
      have c4 := d3.2.1 (64 + k) (by omega) u'
      have v4 : k + 1 = 0 ∨ bl (63 + (k + 1)) ≠ 0 := Or.inr (by rw [show 63 + (k + 1) = 64 + k by omega]; exact u1)
      refine ⟨u', Sta.eqs e' (fun a w1 w2 => i' a (by omega)) (d2.thn A73 C7 (by omega) vg (by omega) u1 u2), ?_⟩
      have := HsC.tk A73 C7 d2 (by omega) vg (by omega) (by omega) v4 u3
      exact this.ext (Ext.same e') d3 C14 (by omega) (Or.inr (by rw [show 63 + (k + 1) = 64 + k by omega]; exact u')) (i' _ (by rw [hO_s]; omega)) (fun a ha q => i' a (by omega))
  · exact ((KC.of a2.1 (fun a q1 q2 => a2.2 a (by omega))).trans (d2.kc A73 C7 (by omega) vg)).trans (KC.of e' (fun a q1 q2 => i' a (by omega)))
theorem ci_full (A : CW h x B bl S z T n ls fp rs rf hi im) (h3 : im.length = 3) : fX9_image x h = some (.inl (some (.int (-1))), h) := by
  have f11 := A.2.2.2.2.1
  rw [h3] at f11
  unfold fX9_image kX9_image_0
  rw [if_pos A.1.1.k, f11, if_neg (show ¬ nI 3 < 3 by decide)]
theorem ci_go (A : CW h x B bl S z T n ls fp rs rf hi im) (h3 : im.length < 3) (h64 : (sL S).length ≤ 64) (hl : ∀ S ∈ hi, (sL S).length ≤ 64) (rm : Rm h bl N Z) :
    ∃ h' bl', fX9_image x h = some (.inl (some (.int (nI (im.length + 1)))), h') ∧ CW h' x B bl' S z T n ls fp rs rf hi (im ++ [(S, hi)]) ∧ KC h h' x B ∧ Rm h' bl' N Z := by
  obtain ⟨⟨C, R⟩, A2, A3, A4, A5⟩ := id A
  have b1 := A3.1
  have f11 := A5.1
  have hcl : (nI im.length).toNatClampNeg = im.length := nI_clamp (by omega)
  have hin : inB (nI im.length) 3 = true := inB_nI h3 (by decide)
  have r13 := A3.2.2.2.2.2.1 im.length h3
  have hlt : nI im.length < 3 := by rw [k3, nI_ltI (by omega) (by decide)]; exact h3
  by_cases e : bl (64 + im.length) = 0
  · have hn : nH h ≠ 0 := by omega
    obtain ⟨h20, a1, a2, a3, a4⟩ := new_I hn
    have E1 := a2.ext
    obtain ⟨h26, hh26⟩ : ∃ h26, h26 = sR h20 (x + 13) im.length (nH h) := ⟨_, rfl⟩
    have E2 : Exe h h26 (x + 13) := by
      rw [hh26]
      exact ⟨E1.1, fun a ha => ⟨E1.k ha, E1.l ha⟩, fun a ha qa => by
        show upR _ _ _ _ a = _
        rw [upR_ne qa]
        exact (E1.2 a ha).2.2⟩
    have r2 : ∀ i, rH h26 (x + 13) i = if i = im.length then nH h else rH h (x + 13) i := fun i => by
      rw [hh26]
      show upR _ _ _ _ _ i = _
      rw [upR_at]
      by_cases ei : i = im.length
      · rw [if_pos ei, if_pos ei]
      · rw [if_neg ei, if_neg ei]
        exact congrFun (E1.2 (x + 13) (by omega)).2.2 i
    have rr : ∀ a, a ≠ x + 13 → rH h26 a = rH h20 a := fun a q => by rw [hh26]; exact upR_ne q
    have O2 : IM h26 (nH h) := by
      obtain ⟨i1, i2, i3, i4, i5, i6⟩ := a3
      refine ⟨by rw [hh26]; exact i1, by rw [rr _ (by omega)]; exact i2, i3.cg (fun a _ _ => by rw [hh26]) (fun a _ _ => by rw [hh26]) (rr _ (by omega)), by rw [rr _ (by omega)]; exact i4, by rw [hh26]; exact i5, i6.cg (rr _ (by omega)) (by rw [hh26]) (by rw [hh26])⟩
    have A26 := A.putI (N := nH h) (h' := h26) h3 e rfl (by rw [hh26]; exact a2.1) E2 r2 O2 (by rw [rr _ (by omega)]; exact a4) (fun a ha => by rw [hh26]; exact (a2.2.2.1 a ha).2.2)
    have nn := (nul_up (bl := bl) (i := 64 + im.length) (v := nH h) e hn 67).2 (by omega)
    have rm26 : Rm h26 (upB bl (64 + im.length) (nH h)) N Z := by
      have n26 : nH h26 = nH h + 13 := by rw [hh26]; exact a2.1
      have z26 : zH h26 = zH h + 6820 := by rw [hh26]; exact a2.2.1
      have := rm.1
      have := rm.2
      exact ⟨by omega, by omega⟩
    obtain ⟨h', bl', d1, d2, d3, d4⟩ := ci_tail A26 h3 (by rw [upB_at]; exact hn) h64 hl rm26
    refine ⟨h', bl', ?_, d2, KC.trans ⟨E2.1, E2.2.1, fun a ha q1 q2 => ⟨E2.2.2 a ha (by omega), by rw [hh26]; exact (a2.2.2.1 a ha).2.2⟩⟩ d3, d4⟩
    have C26 := A26.1.1
    unfold fX9_image kX9_image_0
    rw [if_pos C.k, f11, if_pos hlt, C.r2.1, if_pos C.r2.2.1, C.r2.2.2, if_pos hin, hcl, r13, if_neg (show ¬ ¬ bl (64 + im.length) = 0 from fun q => q e), letH_s, if_pos hn, a1, bV_s, E1.k (show x + 13 < nH h by omega), if_pos C.r2.2.1, if_pos a3.1, E1.l (show x + 13 < nH h by omega), C.r2.2.2, if_pos hin, letH_s, ← hh26, if_pos C26.k, C26.r2.1, if_pos C26.r2.2.1, C26.r2.2.2, A26.2.2.2.2.1, if_pos hin]
    unfold imT at d1
    rw [C26.r2.1, A26.2.2.2.2.1] at d1
    exact d1
  · obtain ⟨h', bl', d1, d2, d3, d4⟩ := ci_tail A h3 e h64 hl rm
    refine ⟨h', bl', ?_, d2, d3, d4⟩
    unfold fX9_image kX9_image_0
    rw [if_pos C.k, f11, if_pos hlt, C.r2.1, if_pos C.r2.2.1, C.r2.2.2, if_pos hin, hcl, r13, if_pos (show ¬ bl (64 + im.length) = 0 from e)]
    unfold imT at d1
    rw [C.r2.1, f11, hcl, r13] at d1
    exact d1
/-- the class: restore -/
theorem cr_0 (A : CW h x B bl S z T n ls fp rs rf hi im) (h0 : im = []) : fX9_restore x h = some (.inl (some (.int (-1))), h) := by
  have f11 := A.2.2.2.2.1
  rw [h0] at f11
  unfold fX9_restore kX9_restore_0
  rw [if_pos A.1.1.k, f11, if_pos (show nI ([] : List (St × List St)).length ≤ 0 by decide)]
theorem cr_1 {l : List (St × List St)} {v : St × List St} (A : CW h x B bl S z T n ls fp rs rf hi (l ++ [v])) (h64 : (sL v.1).length ≤ 64) (hl : ∀ S ∈ v.2, (sL S).length ≤ 64) (rm : Rm h bl N Z) :
    ∃ h' bl', fX9_restore x h = some (.inl (some (.int (nI l.length))), h') ∧ CW h' x B bl' v.1 z T n ls fp 0 rf v.2 l ∧ KC h h' x B ∧ Rm h' bl' N Z := by
  obtain ⟨⟨C, R⟩, A2, A3, A4, A5⟩ := id A
  have b1 := A3.1
  have f11 := A5.1
  have l3 := A5.2.1
  rw [List.length_append, List.length_singleton] at f11 l3
  obtain ⟨u, u2, u3⟩ := A5.2.2 l.length v (by rw [List.getElem?_append_right (Nat.le_refl _), Nat.sub_self]; rfl)
  have c0 := A3.2.1 (64 + l.length) (by omega) u
  rw [bz_i] at c0
  obtain ⟨⟨i1, i2, i3, i4, i5, i6⟩, i7⟩ := A3.2.2.2.2.2.2.1 l.length (by omega) u
  have hcl : (nI l.length).toNatClampNeg = l.length := nI_clamp (by omega)
  have hin : inB (nI l.length) 3 = true := inB_nI (by omega) (by decide)
  have hsb : nI (l.length + 1) - 1 = nI l.length := sub8 (by omega)
  have r13 := A3.2.2.2.2.2.1 l.length (by omega)
  obtain ⟨h1, hh1⟩ : ∃ h1 : Hp, h1 = (h.1, upI h.2 x 11 (nI l.length)) := ⟨_, rfl⟩
  have e1 : h1.1 = h.1 := by rw [hh1]
  have j1 : ∀ a, a ≠ x → h1.2 a = h.2 a := fun a q => by rw [hh1]; exact upI_ne q
  have x1 : ∀ j, j ≠ 11 → h1.2 x j = h.2 x j := fun j q => by rw [hh1]; show upI _ _ _ _ x j = _; rw [upI_at, if_neg q]
  obtain ⟨p1, ⟨⟨p2, p3⟩, p4⟩, ⟨p5, p6⟩, p7⟩ := id A2
  have pre : ∀ k w, l[k]? = some w → (l ++ [v])[k]? = some w := fun k w hw => by
    rw [List.getElem?_append_left (List.getElem?_eq_some_iff.mp hw).1]
    exact hw
  obtain ⟨h8, a1, a2, a3⟩ := c_copy (h := h1) (d := x + 1) (Sta.eqs e1 (fun a w1 w2 => j1 a (by omega)) u2) (C.so.eq e1) (by omega) h64
  have e8 : h8.1 = h.1 := a2.1.trans e1
  have j8 : ∀ a, a ≠ x → a < x + 1 ∨ x + 11 ≤ a → h8.2 a = h.2 a := fun a q1 q2 => by rw [a2.2 a (by omega), j1 a q1]
  have x8 : h8.2 x = h1.2 x := a2.2 x (by omega)
  have C8 := C.eq e8
  have B8 := A3.same e8
  have vl : l.length + 1 = 0 ∨ bl (63 + (l.length + 1)) ≠ 0 := Or.inr (by rw [show 63 + (l.length + 1) = 64 + l.length by omega]; exact u)
  have H8 : ∀ g hs, g < 4 → (g = 0 ∨ bl (63 + g) ≠ 0) → HsC h x bl g hs z → HsC h8 x bl g hs z := fun g hs hg hv H => by
    obtain ⟨-, -, q3, q4, -⟩ := A3.ho C hg hv
    exact H.ext (Ext.same e8) A3 C hg hv (j8 _ (by omega) (by omega)) (fun a ha q => j8 a (by omega) (by omega))
  obtain ⟨h15, bl', d1, d2, d3, d4, d5⟩ := c_takeOver (N := N) (Z := Z) (g := 0) (g2 := l.length + 1) hl (by omega) (by omega) (by omega) B8 C8 (Or.inl rfl) vl (H8 _ _ (by omega) vl u3) ⟨by rw [nh_eq e8]; exact rm.1, by rw [zh_eq e8]; exact rm.2⟩
  rw [hO_s, hO_0] at d1
  have v0 : (0 : Nat) = 0 ∨ bl (63 + 0) ≠ 0 := Or.inl rfl
  have C15 := d2.co B8 (by omega) v0 C8
  have own : ∀ a, a < B → a ≠ x + 11 → h15.2 a = h8.2 a := fun a q1 q2 => d2.own B8 (by omega) v0 q1 q2
  obtain ⟨h', hh'⟩ : ∃ h' : Hp, h' = (h15.1, upI h15.2 x 15 0) := ⟨_, rfl⟩
  have e' : h'.1 = h15.1 := by rw [hh']
  have i' : ∀ a, a ≠ x → h'.2 a = h15.2 a := fun a q => by rw [hh']; exact upI_ne q
  have x' : ∀ j, j ≠ 15 → h'.2 x j = h1.2 x j := fun j q => by rw [hh']; show upI _ _ _ _ x j = _; rw [upI_at, if_neg q, own x (by omega) (by omega), x8]
  have x11 : h1.2 x 11 = nI l.length := by rw [hh1]; show upI _ _ _ _ x 11 = _; rw [upI_at, if_pos rfl]
  have o15 : ∀ a, a < B → a ≠ x → a < x + 1 ∨ x + 12 ≤ a → h'.2 a = h.2 a := fun a q1 q2 q3 => by rw [i' a q2, own a q1 (by omega), j8 a q2 (by omega)]
  refine ⟨h', bl', ?_, ⟨⟨C15.eq e', ?_⟩, ?_, d3.same e', ?_, ?_, ?_, fun k w hw => ?_⟩, ?_, ⟨by rw [nh_eq e']; exact d4.1, by rw [zh_eq e']; exact d4.2⟩⟩
  · have r13' : rH h8 (x + 13) l.length = bl (64 + l.length) := by rw [rh_eq e8]; exact r13
    have k7 : kH h8 (bl (64 + l.length)) = 11 := by rw [kh_eq e8]; exact i1
    have k71 : rH h8 (bl (64 + l.length)) 1 = bl (64 + l.length) + 11 := by rw [rh_eq e8]; exact i4
    have g11 : h8.2 x 11 = nI l.length := by rw [x8]; exact x11
    have g15 : h15.2 x 11 = nI l.length := by rw [own x (by omega) (by omega)]; exact g11
    rw [hh1] at a1
    unfold fX9_restore kX9_restore_0
    rw [if_pos C.k, f11, if_neg (by rw [nI_le0 (by omega)]; omega), C.r2.1, if_pos C.r2.2.1, hsb, C.r2.2.2, if_pos hin, hcl, r13, if_pos (show ¬ bl (64 + l.length) = 0 from u), upI_at, if_pos rfl, if_pos hin, hcl, r13, if_pos i1, C.r0, if_pos C.so.1, i2, a1, bV_s, if_pos C8.k, C8.r2.1, if_pos C8.r2.2.1, g11, C8.r2.2.2, if_pos hin, hcl, r13', if_pos k7, C8.his.1.1, if_pos C8.his.1.2, k71, d1, bV_s, if_pos C15.k, upI_at, if_neg (by decide), g15, hh']
  · exact Sta.eqs e' (fun a w1 w2 => i' a (by omega)) (d2.sta1 B8 C8 (by omega) v0 a3)
  · exact ⟨⟨by rw [x' 12 (by decide), x1 12 (by decide)]; exact p1.1, p1.2.1, fun i hi => by rw [o15 (x + 26) (by omega) (by omega) (by omega)]; exact p1.2.2.1 i hi, p1.2.2.2⟩, ⟨⟨p2, fun p hp => by rw [o15 (x + 38) (by omega) (by omega) (by omega)]; exact p3 p hp⟩, by rw [x' 13 (by decide), x1 13 (by decide)]; exact p4⟩, ⟨by rw [x' 14 (by decide), x1 14 (by decide)]; exact p5, by rw [hh']; show upI _ _ _ _ x 15 = _; rw [upI_at, if_pos rfl]⟩, fun i hi => by rw [o15 (x + 41) (by omega) (by omega) (by omega)]; exact p7 i hi⟩
  · exact d5.ext (Ext.same e') d3 C15 (by omega) (Or.inl rfl) (i' _ (by rw [hO_0]; omega)) (fun a ha q => i' a (by omega))
  · rw [x' 11 (by decide)]
    exact x11
  · omega
  · obtain ⟨y1, y2, y3⟩ := A5.2.2 k w (pre k w hw)
    have hk : k < l.length := (List.getElem?_eq_some_iff.mp hw).1
    have u' : bl' (64 + k) ≠ 0 := by rw [d2.2.1 _ y1]; exact y1
    have c4 := d3.2.1 (64 + k) (by omega) u'
    have c5 := A3.2.1 (64 + k) (by omega) y1
    have v4 : k + 1 = 0 ∨ bl (63 + (k + 1)) ≠ 0 := Or.inr (by rw [show 63 + (k + 1) = 64 + k by omega]; exact y1)
    refine ⟨u', Sta.eqs e' (fun a w1 w2 => i' a (by omega)) (d2.thn B8 C8 (by omega) v0 (by omega) y1 (Sta.eqs e8 (fun a w1 w2 => j8 a (by omega) (by omega)) y2)), ?_⟩
    have := HsC.tk B8 C8 d2 (by omega) v0 (by omega) (by omega) v4 (H8 _ _ (by omega) v4 y3)
    exact this.ext (Ext.same e') d3 C15 (by omega) (Or.inr (by rw [show 63 + (k + 1) = 64 + k by omega]; exact u')) (i' _ (by rw [hO_s]; omega)) (fun a ha q => i' a (by omega))
  · exact ((KC.of (h' := h8) e8 (fun a q1 q2 => j8 a (by omega) (by omega))).trans (d2.kc B8 C8 (by omega) v0)).trans (KC.of e' (fun a q1 q2 => i' a (by omega)))
end IR
