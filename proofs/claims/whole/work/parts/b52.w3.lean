/-! ===== storms, both sides ===== -/
/-- the reference's number of the step that is drawn -/
def dk (d : Int32 × Nat × Nat × Nat) : Nat := if d.2.1 = 8 then 7 else d.2.1
noncomputable def stE (z q : Nat) (s : Int32) (r k a b : Nat) (S : St) : Int32 × St := (s, if r < q then sCrs (sDo S z k a b 0).2 else (sDo S z k a b 0).2)
noncomputable def stS (z q : Nat) (p : Int32 × St) : Int32 × St := stE z q (seedN (dst p.1 z).1) (drw (seedN (dst p.1 z).1) % 16) (dk (dst p.1 z)) (dst p.1 z).2.2.1 (dst p.1 z).2.2.2 p.2
def itr {α : Type} (f : α → α) : Nat → α → α
  | 0, p => p
  | n + 1, p => itr f n (f p)
theorem itr_s {α : Type} (f : α → α) (n : Nat) (p : α) : itr f (n + 1) p = itr f n (f p) := rfl
theorem itr_0 {α : Type} (f : α → α) (p : α) : itr f 0 p = p := rfl
noncomputable def stm (z q n : Nat) (p : Int32 × St) : Int32 × St := itr (stS z q) n p
theorem stm_s (z q n : Nat) (p : Int32 × St) : stm z q (n + 1) p = stm z q n (stS z q p) := itr_s (stS z q) n p
theorem stm_0 (z q : Nat) (p : Int32 × St) : stm z q 0 p = p := itr_0 (stS z q) p
def dstG (s2 s3 : Int32) (k a9 a12 a100 az : Nat) : Int32 × Nat × Nat × Nat := if k ≤ 2 then (s2, if k = 2 then 6 else 0, 0, 1 + a9) else if k = 3 then (s3, 3, a12, a100) else if k = 4 then (s2, 5, a12, 0) else (s2, 8, az, 0)
theorem dst_G (x : Int32) (z : Nat) : dst x z = dstG (seedN (seedN x)) (seedN (seedN (seedN x))) (drw (seedN x) % 8) (drw (seedN (seedN x)) % 9) (drw (seedN (seedN x)) % 12) (drw (seedN (seedN (seedN x))) % 100) (drw (seedN (seedN x)) % z) := by
  unfold dst dstG
  rfl
theorem dstG_ok (s2 s3 : Int32) {k a9 a12 a100 az z : Nat} (h9 : a9 < 9) (h12 : a12 < 12) (h100 : a100 < 100) (hz : az < z) (hz2 : z ≤ 16) (c : Nat) : okS (dk (dstG s2 s3 k a9 a12 a100 az)) (dstG s2 s3 k a9 a12 a100 az).2.2.1 (dstG s2 s3 k a9 a12 a100 az).2.2.2 c ∧ cop (dk (dstG s2 s3 k a9 a12 a100 az)) = (dstG s2 s3 k a9 a12 a100 az).2.1 ∧ dk (dstG s2 s3 k a9 a12 a100 az) ≠ 2 ∧ dk (dstG s2 s3 k a9 a12 a100 az) ≠ 4 ∧ (dstG s2 s3 k a9 a12 a100 az).2.1 ≤ 8 := by
  unfold dstG
  by_cases q1 : k ≤ 2
  · rw [if_pos q1]
    by_cases q2 : k = 2
    · simp only [if_pos q2, dk, cop, okS]
      simp
      omega
    · simp only [if_neg q2, dk, cop, okS]
      simp
      omega
  · rw [if_neg q1]
    by_cases q3 : k = 3
    · rw [if_pos q3]
      simp only [dk, cop, okS]
      simp
      omega
    · rw [if_neg q3]
      by_cases q4 : k = 4
      · rw [if_pos q4]
        simp only [dk, cop, okS]
        simp
        omega
      · rw [if_neg q4]
        simp only [dk, cop, okS]
        simp
        omega
theorem dst_ok (s : Int32) {z : Nat} (hz : 0 < z ∧ z ≤ 16) (c : Nat) : okS (dk (dst s z)) (dst s z).2.2.1 (dst s z).2.2.2 c ∧ cop (dk (dst s z)) = (dst s z).2.1 ∧ dk (dst s z) ≠ 2 ∧ dk (dst s z) ≠ 4 ∧ (dst s z).2.1 ≤ 8 := by
  have h9 := Nat.mod_lt (drw (seedN (seedN s))) (show 0 < 9 by decide)
  have h12 := Nat.mod_lt (drw (seedN (seedN s))) (show 0 < 12 by decide)
  have h100 := Nat.mod_lt (drw (seedN (seedN (seedN s)))) (show 0 < 100 by decide)
  have hzz := Nat.mod_lt (drw (seedN (seedN s))) hz.1
  rw [dst_G]
  exact dstG_ok _ _ h9 h12 h100 hzz hz.2 c
theorem sDo_c {S : St} {z k a b c : Nat} (h2 : k ≠ 2) (h4 : k ≠ 4) : sDo S z k a b c = sDo S z k a b 0 := by
  unfold sDo
  rw [if_neg (c := k = 2) h2, if_neg (c := k = 4) h4, if_neg (c := k = 2) h2, if_neg (c := k = 4) h4]
section W3
variable {h : Hp} {x m z k : Nat} {S : St}
theorem inx_stE {q r kd a b : Nat} {s : Int32} (I : Inx S z (k + 3840)) (o : okS kd a b 0) : Inx (stE z q s r kd a b S).2 z k := by
  have := inx_step I o
  unfold stE
  show Inx (if _ then _ else _) z k
  split
  · exact inx_crs this
  · exact this
theorem inx_stS {q : Nat} {p : Int32 × St} (I : Inx p.2 z (k + 3840)) : Inx (stS z q p).2 z k := by
  have hz := I.1.1.1
  obtain ⟨o1, -⟩ := dst_ok p.1 (z := z) (by omega) 0
  unfold stS
  exact inx_stE I o1
theorem inx_stm {q : Nat} : ∀ (n : Nat) (p : Int32 × St), Inx p.2 z (k + 3840 * n) → Inx (stm z q n p).2 z k := by
  intro n
  induction n with
  | zero => intro p I; rw [stm_0]; exact I
  | succ n ih => intro p I; rw [stm_s]; exact ih _ (inx_stS (k := k + 3840 * n) (I.le (by omega)))
/-- what is drawn, with its numbers left alone -/
theorem c_blow_1 {w q many u f : Nat} (hw : x + 92 ≤ w) (hq : q ≤ 16) (hm : many ≤ 96) {h : Hp} {d : Int32 × Nat × Nat × Nat} {s1 : Int32} {r1 : Nat} (hr1 : r1 < 16) (hu : u < many) (R : Sta h (x + 42) S z) (C : CO h x) (K : kH h w = 17) (I : Inx S z (k + 3840))
    (hds : ∃ h', fX7_drawStep w (nI z) h = some (.inl none, h') ∧ Dw h h' w d) (hok : okS (dk d) d.2.2.1 d.2.2.2 0) (hcop : cop (dk d) = d.2.1)
    (hdr : ∀ g : Hp, kH g w = 17 → g.2 w 0 = d.1 → fX7_drawn w 16 g = some (.inl (some (.int (nI r1))), (g.1, upI g.2 w 0 s1))) :
    ∃ h', gX9_blow (f + 1) 30 [.ref x, uV, .int (nI many), .int (nI q), .ref (x + 42), .ref w, .int (nI u)] [] h = gX9_blow f 30 [.ref x, uV, .int (nI many), .int (nI q), .ref (x + 42), .ref w, .int (nI (u + 1))] [] h' ∧ h'.1 = h.1 ∧ (∀ a, pers x a → a ≠ w → h'.2 a = h.2 a) ∧ Sta h' (x + 42) (stE z q s1 r1 (dk d) d.2.2.1 d.2.2.2 S).2 z ∧ h'.2 w 0 = s1 := by
  obtain ⟨h1, a1, a2, a3, a4, a5, a6, a7⟩ := hds
  have C1 := C.eq a2
  have R1 : Sta h1 (x + 42) S z := R.eqs a2 (fun y q1 q2 => a3 y (by omega))
  obtain ⟨h2, b1, b2, b3⟩ := c_take (t := x + 20) (k := dk d) (a := d.2.2.1) (b := d.2.2.2) (c := 0) R1 C1.stp (by omega) hok (inv_RdC (k := k) I.1.1 _ _)
  rw [hcop] at b1
  have C2 := C1.eq b2.1
  have K2 : kH h2 w = 17 := (kh_eq b2.1 w).trans ((kh_eq a2 w).trans K)
  have e2 : h2.2 w = h1.2 w := b2.2 w (by omega) (by omega)
  have hd := hdr h2 K2 (by rw [e2]; exact a4)
  have R3 : Sta (h2.1, upI h2.2 w 0 s1) (x + 42) (sDo S z (dk d) d.2.2.1 d.2.2.2 0).2 z := b3.up (fun y q1 q2 => upI_ne (by omega))
  have S3 : (h2.1, upI h2.2 w 0 s1).2 w 0 = s1 := by show upI _ _ _ _ w 0 = _; rw [upI_at, if_pos rfl]
  have f3 : ∀ a, pers x a → a ≠ w → (h2.1, upI h2.2 w 0 s1).2 a = h.2 a := fun a ha hne => by
    show upI _ _ _ _ a = _
    rw [upI_ne hne, b2.2 a (by unfold pers at ha; omega) (by unfold pers at ha; omega), a3 a hne]
  have e3 : (h2.1, upI h2.2 w 0 s1).1 = h.1 := b2.1.trans a2
  rw [zX9_blow_30]
  unfold kX9_blow_30
  rw [if_neg (by rw [nI_leI (by omega) (by omega)]; omega), if_pos R.so.1, if_pos K, R.sz, a1, bV_s, if_pos C1.k, if_pos ((kh_eq a2 w).trans K), C1.r5, if_pos C1.stp.1, a5, a6, a7]
  have b1 : fX6_take (x + 20) (x + 42) (nI d.2.1) (nI d.2.2.1) (nI d.2.2.2) 0 h1 = _ := b1
  rw [b1, bI_s, if_pos K2, hd, bI_s, nI_1]
  unfold stE
  by_cases e : r1 < q
  · obtain ⟨h4, c1, c2, c3⟩ := c_crash R3
    refine ⟨h4, ?_, c2.1.trans e3, fun a ha hne => ?_, ?_, ?_⟩
    · rw [if_neg (by rw [nI_leI (by omega) (by omega)]; omega), if_pos R3.so.1, c1, bV_s]
    · rw [c2.2 a (by unfold pers at ha; omega)]
      exact f3 a ha hne
    · show Sta h4 (x + 42) (if r1 < q then _ else _) z
      rw [if_pos e]
      exact c3
    · rw [c2.2 w (by omega)]
      exact S3
  · refine ⟨(h2.1, upI h2.2 w 0 s1), ?_, e3, f3, ?_, S3⟩
    · rw [if_pos (by rw [nI_leI (by omega) (by omega)]; omega)]
    · show Sta _ (x + 42) (if r1 < q then _ else _) z
      rw [if_neg e]
      exact R3
theorem c_blow_go {w q many : Nat} (hw : x + 92 ≤ w) (hq : q ≤ 16) (hm : many ≤ 96) : ∀ (c u f : Nat) (p : Int32 × St) (h : Hp), u + c = many → c < f → Sta h (x + 42) p.2 z → CO h x → kH h w = 17 → h.2 w 0 = p.1 → Inx p.2 z (k + 3840 * c) →
    ∃ h', gX9_blow f 30 [.ref x, uV, .int (nI many), .int (nI q), .ref (x + 42), .ref w, .int (nI u)] [] h = some (.inl (some (.ref (x + 42))), h') ∧ h'.1 = h.1 ∧ (∀ a, pers x a → a ≠ w → h'.2 a = h.2 a) ∧ Sta h' (x + 42) (stm z q c p).2 z := by
  intro c
  induction c with
  | zero =>
    intro u f p h hu hf R C K Sd I
    obtain ⟨f, rfl⟩ := sc hf
    refine ⟨h, ?_, rfl, fun _ _ _ => rfl, by rw [stm_0]; exact R⟩
    rw [zX9_blow_30]
    unfold kX9_blow_30
    rw [if_pos (by rw [nI_leI (by omega) (by omega)]; omega)]
  | succ c ih =>
    intro u f p h hu hf R C K Sd I
    obtain ⟨f, rfl⟩ := sc hf
    obtain ⟨hz1, hz2⟩ := I.1.1.1
    obtain ⟨o1, o2, -, -, -⟩ := dst_ok p.1 (z := z) (by omega) 0
    have hds := c_drawStep K (z := z) (by omega)
    rw [Sd] at hds
    obtain ⟨h1, a1, a2, a3, a4, a5⟩ := c_blow_1 (k := k + 3840 * c) (q := q) (many := many) (f := f) hw hq hm (Nat.mod_lt (drw (seedN (dst p.1 z).1)) (show 0 < 16 by decide)) (show u < many by omega) R C K (I.le (by omega)) hds o1 o2 (fun g hg e => by
      have := c_drawn hg (n := 16) (by decide) (by decide)
      rw [e] at this
      exact this)
    have I1 : Inx (stS z q p).2 z (k + 3840 * c) := inx_stS (I.le (by omega))
    obtain ⟨h5, i1, i2, i3, i4⟩ := ih (u + 1) f (stS z q p) h1 (by omega) (by omega) a4 (C.eq a2) ((kh_eq a2 w).trans K) a5 I1
    rw [stm_s]
    exact ⟨h5, a1.trans i1, i2.trans a2, fun a ha hne => by rw [i3 a ha hne]; exact a3 a ha hne, i4⟩
/-- a storm of the class: a Storm is made, one of the spare states blown through -/
theorem c_blow (Q : CQ h x S z) (hN : x + 92 ≤ nH h) {q many : Nat} (hq : q ≤ 16) (hm : many ≤ 96) (sd0 : Int32) (I : Inx S z (k + 3840 * 96)) :
    ∃ h', fX9_blow x sd0 (nI many) (nI q) h = some (.inl (some (.ref (x + 42))), h') ∧ Ext h h' ∧ nH h' = nH h + 1 ∧ zH h' = zH h + 4 ∧ (∀ a, a < nH h → pers x a → h'.2 a = h.2 a) ∧ CO h' x ∧ Sta h' (x + 42) (stm z q many (sd0, S)).2 z := by
  obtain ⟨C, R⟩ := id Q
  obtain ⟨s1, s2, s3⟩ := C.spa
  obtain ⟨t1, t2⟩ := C.spr (i := 0) (by decide)
  obtain ⟨h1, a1, a2, a3⟩ := c_spare Q I.1.1 (i := 0) (by decide)
  have t1 : rH h (x + 14) 0 = x + 42 := t1
  have t2 : SO h (x + 42) := t2
  have a1 : fX5_copyFrom (x + 42) (x + 1) h = some (.inl none, h1) := a1
  have a2 : Own h h1 (x + 42) := a2
  have a3 : Sta h1 (x + 42) S z := a3
  have C1 := C.eq a2.1
  have n1 : nH h1 = nH h := nh_eq a2.1
  have E2 := ext_nw h1 17 0 4
  have C2 : CO (nwH h1 17 0 4) x := C1.ext E2 (by omega)
  have R2 : Sta (nwH h1 17 0 4) (x + 42) S z := a3.ext E2 (by omega) (fun y q1 q2 => nw_2 h1 17 0 4 (by omega))
  have K2 : kH (nwH h1 17 0 4) (nH h1) = 17 := nwH_k h1 17 0 4
  have E3 : ((nwH h1 17 0 4).1, upI (nwH h1 17 0 4).2 (nH h1) 0 sd0).1 = (nwH h1 17 0 4).1 := rfl
  have R3 : Sta ((nwH h1 17 0 4).1, upI (nwH h1 17 0 4).2 (nH h1) 0 sd0) (x + 42) S z := R2.up (fun y q1 q2 => upI_ne (by omega))
  obtain ⟨h4, c1, c2, c3, c4⟩ := c_blow_go (x := x) (k := k) (z := z) (w := nH h1) (q := q) (many := many) (by omega) hq hm many 0 FF (sd0, S) ((nwH h1 17 0 4).1, upI (nwH h1 17 0 4).2 (nH h1) 0 sd0) (by omega) (by show _ < 1000000; omega) R3 (C2.eq E3) K2 (by show upI _ _ _ _ (nH h1) 0 = _; rw [upI_at, if_pos rfl]) (I.le (by omega))
  have Eall : Ext h h4 := (Ext.same a2.1).trans (E2.trans (Ext.same (c2.trans E3)))
  refine ⟨h4, ?_, Eall, ?_, ?_, fun a ha hp => ?_, C.ext Eall hN, c4⟩
  · unfold fX9_blow kX9_blow_0
    rw [if_pos C.k, s1, if_pos s2, s3, if_pos (by decide), t1, if_pos t2.1, C.r0, a1, bV_s, letH_s, if_pos (by omega)]
    have hi : fX7_init (nH h1) sd0 (nwH h1 17 0 4) = some (.inl none, ((nwH h1 17 0 4).1, upI (nwH h1 17 0 4).2 (nH h1) 0 sd0)) := by
      unfold fX7_init kX7_init_0
      rw [if_pos (by omega), if_pos K2]
    rw [hi, bV_s]
    exact c1
  · rw [nh_eq c2, nh_eq E3, nwH_n, n1]
  · rw [zh_eq c2, zh_eq E3]
    show zH h1 + 4 = _
    rw [zh_eq a2.1]
  · rw [c3 a hp (by omega)]
    show upI _ _ _ _ a = _
    rw [upI_ne (by omega), nw_2 h1 17 0 4 (by omega), a2.2 a (by unfold pers at hp; omega)]
end W3
