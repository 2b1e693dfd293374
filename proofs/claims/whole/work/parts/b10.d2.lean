/-! ===== a store begins; all on DISK ===== -/
def sSafe (S : St) : St := (mm S, [], [], sM S, sW S, sH S, sK S)
def sZero (S : St) : St := (sD S, sC S, sL S, 0, 0, 0, 0)
def D0 (x : Nat) : Nat := if x < 5 then 1 else if x = 16 then 1 else if x = 17 then 2 else if x = 18 then 4 else 0
def S0 : St := (D0, [], [], 0, 0, 0, 0)
theorem mm_safe (S : St) : mm (sSafe S) = mm S := rfl
theorem D0_lt (x : Nat) : D0 x < 128 := by unfold D0; split; decide; split; decide; split; decide; split <;> decide
section D2
variable {h : Hp} {s z k : Nat} {S : St}
theorem inv_nil {D : Nat → Nat} {a : Nat} {w1 w2 w3 : Int32} (hz : 6 ≤ z ∧ z ≤ 16) (hD : ∀ x, D x < 128) (ha : a + k < 2 ^ 31) (q0 : ∀ x, pa x → D x = 0 ∨ (4 ≤ D x ∧ D x < z)) (qa : ∀ x y, pa x → pa y → D x = D y → D x ≠ 0 → x = y) (hm : ∀ x, pa x → D x ≠ 0 → D (D x) ≠ 0) (hl : ∀ x, pa x → D (tg x) = 2 → D x ≠ 0 → low D (D x)) (W : WL D) : Inv (D, [], [], a, w1, w2, w3) z k := by
  have no : ∀ {c : Ch}, c ∈ sC ((D, [], [], a, w1, w2, w3) : St) → False := fun hc => by cases hc
  have nl : ∀ {e : La}, e ∈ sL ((D, [], [], a, w1, w2, w3) : St) → False := fun hc => by cases hc
  have ns : ∀ {pre l : List Ch} {c : Ch}, sC ((D, [], [], a, w1, w2, w3) : St) = pre ++ c :: l → False := fun {pre l c} e => by
    have e : ([] : List Ch) = pre ++ c :: l := e
    simp at e
  refine ⟨hz, ⟨⟨⟨by show (0 : Nat) ≤ 200; omega, by show (0 : Nat) ≤ 160; omega, by show a < 2 ^ 31; omega, hD, fun c hc => (no hc).elim, fun e he => (nl he).elim, List.Pairwise.nil⟩, fun c hc => (no hc).elim, fun pre c l e => (ns e).elim, fun pre c l e => (ns e).elim, q0, qa, fun c hc => (no hc).elim, fun c hc => (no hc).elim, fun y hy ho => ?_, fun e he => (nl he).elim, fun x hx ht hn => ?_, fun x hx ht hn => ?_, fun pre c l e => (ns e).elim⟩, fun pre c l e => (ns e).elim, ⟨fun e he => (nl he).elim, List.Pairwise.nil, ?_, ?_, ha⟩, fun e he => (nl he).elim, fun x hx hn => ?_, fun c hc => (no hc).elim⟩, W, W⟩
  · rcases ho with ⟨x, hx, he⟩ | ⟨c, hc, -⟩
    · have he : D x = y := he
      have := hm x hx (by rw [he]; exact hy)
      rw [he] at this
      exact this
    · exact (no hc).elim
  · exact ⟨[], [], rfl, hl x hx ht hn, fun c hc => by cases hc⟩
  · exact ⟨hl x hx ht hn, fun c hc => (no hc).elim⟩
  · show 0 + 3 * les [] + 0 ≤ 153
    decide
  · show 0 + les [] + 0 ≤ 60
    decide
  · exact ⟨hm x hx hn, fun c hc => (no hc).elim⟩
theorem inv_safe (I : Inv S z k) : Inv (sSafe S) z k := by
  obtain ⟨hz, I1, W, D⟩ := I
  refine inv_nil hz (fun x => bd_mm I1.1.1 x) I1.2.2.1.2.2.2.2 (fun x hx => mm_pt I1.1 hx) (fun x y hx hy => mm_uniq I1.1 hx hy) (fun x hx hn => I1.1.2.2.2.2.2.2.2.2.1 _ hn (mm_occ I1.1.2.1 hx)) (fun x hx ht hn => ?_) W
  obtain ⟨P, Q, e, h1, h2⟩ := I1.1.2.2.2.2.2.2.2.2.2.2.1 x hx ht hn
  exact mm_low e h1 h2
theorem inv_S0 (hz : 6 ≤ z ∧ z ≤ 16) (hk : k < 2 ^ 31) : Inv S0 z k := by
  have hx0 : ∀ x, pa x → D0 x ≠ 0 → x = 18 := fun x hx hn => by
    unfold pa at hx
    unfold D0 at hn
    rw [if_neg (by omega)] at hn
    split at hn
    · omega
    · split at hn
      · omega
      · split at hn
        · assumption
        · exact absurd rfl hn
  refine inv_nil hz D0_lt (by omega) (fun x hx => ?_) (fun x y hx hy e hn => ?_) (fun x hx hn => ?_) (fun x hx ht hn => ?_) ⟨fun n hn => ?_, fun n hn => ?_, fun n hn => ?_⟩
  · by_cases h0 : D0 x = 0
    · exact Or.inl h0
    · rw [hx0 x hx h0]
      exact Or.inr ⟨by decide, by show 4 < z; omega⟩
  · rw [hx0 x hx hn, hx0 y hy (by rw [← e]; exact hn)]
  · rw [hx0 x hx hn]; decide
  · rw [hx0 x hx hn]
    intro j hj hj2
    show D0 (16 * 4 + j) < 12
    unfold D0
    rw [if_neg (by omega), if_neg (by omega), if_neg (by omega), if_neg (by omega)]
    decide
  · have : ∀ n : Fin 12, fd D0 n.val 0 = 0 ↔ fd D0 n.val 1 = 0 := by decide
    exact this ⟨n, hn⟩
  · have : ∀ n : Fin 12, fd D0 n.val 1 ≤ 2 := by decide
    exact this ⟨n, hn⟩
  · have : ∀ n : Fin 12, fd D0 n.val 0 = 0 → fd D0 n.val 2 = 0 ∧ fd D0 n.val 3 = 0 := by decide
    exact this ⟨n, hn⟩
theorem inv_zero (I : Inv (sSafe S) z k) (hk : k < 2 ^ 31) : Inv (sZero (sSafe S)) z k := by
  obtain ⟨hz, I1, W, D⟩ := I
  exact inv_nil hz I1.1.1.2.2.2.1 (by omega) I1.1.2.2.2.2.1 I1.1.2.2.2.2.2.1 (fun x hx hn => (I1.2.2.2.2.1 x hx hn).1) (fun x hx ht hn => (I1.1.2.2.2.2.2.2.2.2.2.2.2.1 x hx ht hn).1) D
theorem c_safe (R : Sta h s S z) : RsC (fX5_allOnDisk s h) none h s (sSafe S) z := by
  obtain ⟨t1, t2, t3, t4, t5, t6, t7, t8, t9, t10, t11⟩ := R.2.1
  refine ⟨(h.1, upI (upI (cpI h.2 (s + 1) (s + 1) 0 256 256) s 2 0) s 9 0), ?_, ⟨rfl, fun a ha => by dsimp only; rw [upI_ne (by omega), upI_ne (by omega), cpI_ne (by omega)]⟩, SO.eq (h := h) rfl R.so, ?_, R.2.2.1, ?_⟩
  · unfold fX5_allOnDisk kX5_allOnDisk_0
    rw [if_pos R.so.1, so_r1 R.so, if_pos (so_k1 R.so), so_l1 R.so, if_pos (by decide), if_pos (by decide)]
  · dsimp only
    refine ⟨?_, fun x hx => ?_, fun x hx => ?_, ?_, ?_, ?_, ?_, ?_, ?_, fun pre c l e => (by have e : ([] : List Ch) = pre ++ c :: l := e; simp at e), fun pre c l e => (by have e : ([] : List La) = pre ++ c :: l := e; simp at e)⟩
    · rw [upI_at, if_neg (by decide), upI_at, if_neg (by decide), cpI_ne (by omega)]; exact t1
    · rw [upI_ne (by omega), upI_ne (by omega), cpI_at, if_neg (by omega)]
      exact t2 x hx
    · rw [upI_ne (by omega), upI_ne (by omega), cpI_at, if_pos (by omega), show 0 + (256 + x - 256) = x by omega]
      exact t2 x hx
    · rw [upI_at, if_neg (by decide), upI_at, if_pos rfl]; rfl
    · rw [upI_at, if_pos rfl]; rfl
    · rw [upI_at, if_neg (by decide), upI_at, if_neg (by decide), cpI_ne (by omega)]; exact t6
    · rw [upI_at, if_neg (by decide), upI_at, if_neg (by decide), cpI_ne (by omega)]; exact t7
    · rw [upI_at, if_neg (by decide), upI_at, if_neg (by decide), cpI_ne (by omega)]; exact t8
    · rw [upI_at, if_neg (by decide), upI_at, if_neg (by decide), cpI_ne (by omega)]; exact t9
  · obtain ⟨b1, b2, b3, b4, b5, b6, b7⟩ := R.bd
    exact ⟨by show (0 : Nat) ≤ 200; omega, by show (0 : Nat) ≤ 160; omega, b3, fun x => bd_mm R.bd x, fun c hc => (by cases hc), fun e he => (by cases he), List.Pairwise.nil⟩
theorem c_forget (R : Sta h s S z) (hc : sC S = []) (hl : sL S = []) : RsC (fX5_forgetCounts s h) none h s (sZero S) z := by
  obtain ⟨t1, t2, t3, t4, t5, t6, t7, t8, t9, t10, t11⟩ := R.2.1
  refine ⟨(h.1, upI (upI (upI (upI h.2 s 12 0) s 13 0) s 14 0) s 15 0), ?_, ⟨rfl, fun a ha => by dsimp only; rw [upI_ne (by omega), upI_ne (by omega), upI_ne (by omega), upI_ne (by omega)]⟩, SO.eq (h := h) rfl R.so, ?_, R.2.2.1, ?_⟩
  · unfold fX5_forgetCounts kX5_forgetCounts_0
    rw [if_pos R.so.1]
  · dsimp only
    have hs : ∀ y, y < 12 → upI (upI (upI (upI h.2 s 12 0) s 13 0) s 14 0) s 15 0 s y = h.2 s y := fun y hy => by rw [upI_at, if_neg (by omega), upI_at, if_neg (by omega), upI_at, if_neg (by omega), upI_at, if_neg (by omega)]
    have ho : ∀ a, a ≠ s → upI (upI (upI (upI h.2 s 12 0) s 13 0) s 14 0) s 15 0 a = h.2 a := fun a x => by rw [upI_ne x, upI_ne x, upI_ne x, upI_ne x]
    refine ⟨by rw [hs _ (by decide)]; exact t1, fun x hx => by rw [ho _ (by omega)]; exact t2 x hx, fun x hx => by rw [ho _ (by omega)]; exact t3 x hx, by rw [hs _ (by decide)]; exact t4, by rw [hs _ (by decide)]; exact t5, ?_, ?_, ?_, ?_, fun pre c l e => (by have e : sC S = pre ++ c :: l := e; rw [hc] at e; simp at e), fun pre c l e => (by have e : sL S = pre ++ c :: l := e; rw [hl] at e; simp at e)⟩
    · rw [upI_at, if_neg (by decide), upI_at, if_neg (by decide), upI_at, if_neg (by decide), upI_at, if_pos rfl]; rfl
    · rw [upI_at, if_neg (by decide), upI_at, if_neg (by decide), upI_at, if_pos rfl]; rfl
    · rw [upI_at, if_neg (by decide), upI_at, if_pos rfl]; rfl
    · rw [upI_at, if_pos rfl]; rfl
  · obtain ⟨b1, b2, b3, b4, b5, b6, b7⟩ := R.bd
    exact ⟨b1, b2, by show (0 : Nat) < 2 ^ 31; decide, b4, fun c hc' => (by have hc' : c ∈ sC S := hc'; rw [hc] at hc'; cases hc'), fun e he => (by have he : e ∈ sL S := he; rw [hl] at he; cases he), b7⟩
theorem c_begin (O : SO h s) (hz : 6 ≤ z ∧ z ≤ 16) : RsC (fX5_begin s (nI z) h) none h s S0 z := by
  have go1 : ∀ (c x n : Nat) (h : Hp), x + c = 512 → SO h s → ∃ h', gX5_begin (n + c + 1) 7 [.ref s, uV, .int (nI x)] [] h = gX5_begin n 31 [.ref s, uV, .int 0] [] h' ∧ h'.1 = h.1 ∧ (∀ a, a ≠ s + 1 → h'.2 a = h.2 a) ∧ ∀ y, h'.2 (s + 1) y = if x ≤ y ∧ y < 512 then 0 else h.2 (s + 1) y := by
    intro c
    induction c with
    | zero =>
      intro x n h hx O
      refine ⟨h, ?_, rfl, fun _ _ => rfl, fun y => by rw [if_neg (by omega)]⟩
      rw [Nat.add_zero, zX5_begin_7]
      unfold kX5_begin_7
      rw [if_pos O.1, so_r1 O, if_pos (so_k1 O), so_l1 O, t512, if_pos (by rw [nI_leI (by decide) (by omega)]; omega)]
    | succ c ih =>
      intro x n h hx O
      obtain ⟨h', i1, i2, i3, i4⟩ := ih (x + 1) n (h.1, upI h.2 (s + 1) x 0) (by omega) O.up
      refine ⟨h', ?_, i2, fun a ha => by rw [i3 a ha]; exact upI_ne ha, fun y => ?_⟩
      · rw [show n + (c + 1) + 1 = (n + c + 1) + 1 by omega, zX5_begin_7, ← i1]
        unfold kX5_begin_7
        rw [if_pos O.1, so_r1 O, if_pos (so_k1 O), so_l1 O, t512, if_neg (by rw [nI_leI (by decide) (by omega)]; omega), if_pos (inB_nI (by omega) (by decide)), nI_clamp (by omega), nI_1]
        rfl
      · rw [i4]
        dsimp only
        rw [upI_at]
        by_cases q : y = x
        · rw [if_neg (by omega), if_pos q, if_pos (by omega)]
        · rw [if_neg (c := y = x) q]
          by_cases q2 : x + 1 ≤ y ∧ y < 512
          · rw [if_pos q2, if_pos (by omega)]
          · rw [if_neg q2, if_neg (by omega)]
  have go2 : ∀ (c x n : Nat) (h : Hp), x + c = 5 → SO h s → ∃ h', gX5_begin (n + c) 31 [.ref s, uV, .int (nI x)] [] h = gX5_begin n 31 [.ref s, uV, .int (nI 5)] [] h' ∧ h'.1 = h.1 ∧ (∀ a, a ≠ s + 1 → h'.2 a = h.2 a) ∧ ∀ y, h'.2 (s + 1) y = if x ≤ y ∧ y < 5 then 1 else h.2 (s + 1) y := by
    intro c
    induction c with
    | zero =>
      intro x n h hx O
      exact ⟨h, by rw [show x = 5 by omega]; rfl, rfl, fun _ _ => rfl, fun y => by rw [if_neg (by omega)]⟩
    | succ c ih =>
      intro x n h hx O
      obtain ⟨h', i1, i2, i3, i4⟩ := ih (x + 1) n (h.1, upI h.2 (s + 1) x 1) (by omega) O.up
      refine ⟨h', ?_, i2, fun a ha => by rw [i3 a ha]; exact upI_ne ha, fun y => ?_⟩
      · rw [show n + (c + 1) = (n + c) + 1 by omega, zX5_begin_31, ← i1]
        unfold kX5_begin_31
        rw [if_neg (by rw [k4, nI_ltI (by decide) (by omega)]; omega), if_pos O.1, so_r1 O, if_pos (so_k1 O), so_l1 O, if_pos (inB_nI (by omega) (by decide)), nI_clamp (by omega), nI_1]
        rfl
      · rw [i4]
        dsimp only
        rw [upI_at]
        by_cases q : y = x
        · rw [if_neg (by omega), if_pos q, if_pos (by omega)]
        · rw [if_neg (c := y = x) q]
          by_cases q2 : x + 1 ≤ y ∧ y < 5
          · rw [if_pos q2, if_pos (by omega)]
          · rw [if_neg q2, if_neg (by omega)]
  obtain ⟨h1, a1, a2, a3, a4⟩ := go1 512 0 999487 (h.1, upI h.2 s 0 (nI z)) rfl O.up
  have O1 : SO h1 s := SO.eq a2 O
  obtain ⟨h2, b1, b2, b3, b4⟩ := go2 5 0 999482 h1 rfl O1
  have O2 : SO h2 s := SO.eq b2 O1
  dsimp only at a2 a3 a4
  generalize hI : upI (upI (upI h2.2 (s + 1) 16 1) (s + 1) 17 2) (s + 1) 18 4 = I
  have hIo : ∀ a, a ≠ s + 1 → I a = h2.2 a := fun a x => by rw [← hI, upI_ne x, upI_ne x, upI_ne x]
  have hI1 : ∀ y, y < 256 → I (s + 1) y = nI (D0 y) := fun y hy => by
    rw [← hI, upI_at, upI_at, upI_at, b4, a4]
    unfold D0
    by_cases h5 : y < 5
    · rw [if_neg (by omega), if_neg (by omega), if_neg (by omega), if_pos (by omega), if_pos h5]; rfl
    · rw [if_neg (c := 0 ≤ y ∧ y < 5) (by omega), if_neg h5, if_pos (c := 0 ≤ y ∧ y < 512) (by omega)]
      by_cases h16 : y = 16
      · rw [if_neg (by omega), if_neg (by omega), if_pos h16, if_pos h16]; rfl
      · rw [if_neg (c := y = 16) h16, if_neg (c := y = 16) h16]
        by_cases h17 : y = 17
        · rw [if_neg (by omega), if_pos h17, if_pos h17]; rfl
        · rw [if_neg (c := y = 17) h17, if_neg (c := y = 17) h17]
          by_cases h18 : y = 18
          · rw [if_pos h18, if_pos h18]; rfl
          · rw [if_neg h18, if_neg h18]; rfl
  have hz0 : I s 0 = nI z := by rw [hIo _ (by omega), b3 _ (by omega), a3 _ (by omega), upI_at, if_pos rfl]
  have hstart : fX5_begin s (nI z) h = bV (fX5_allOnDisk s (h2.1, I)) fun h9 => (if kH h9 s = 15 then (bV (fX5_forgetCounts s h9) fun h11 => (some (.inl none, h11))) else none) := by
    unfold fX5_begin kX5_begin_0
    rw [if_pos O.1]
    have a1' : gX5_begin FF 7 [.ref s, uV, .int 0] [] (h.1, upI h.2 s 0 (nI z)) = _ := a1
    rw [a1']
    have b1' : gX5_begin 999487 31 [.ref s, uV, .int 0] [] h1 = _ := b1
    rw [b1', show (999482 : Nat) = 999481 + 1 from rfl, zX5_begin_31]
    unfold kX5_begin_31
    rw [if_pos (by decide), if_pos O2.1, so_r1 O2, if_pos (so_k1 O2), so_l1 O2, if_pos (by decide), if_pos (by decide), if_pos (by decide), letH_s]
    have e1 : ((1 : Int32).toInt8.toInt32) = 1 := by decide
    have e2 : ((2 : Int32).toInt8.toInt32) = 2 := by decide
    have e4 : ((4 : Int32).toInt8.toInt32) = 4 := by decide
    rw [e1, e2, e4, hI]
  -- the cells behind it
  refine ⟨(h.1, upI (upI (upI (upI (upI (upI (cpI I (s + 1) (s + 1) 0 256 256) s 2 0) s 9 0) s 12 0) s 13 0) s 14 0) s 15 0), ?_, ⟨rfl, fun a ha => ?_⟩, SO.eq (h := h) rfl O, ?_, hz, ?_⟩
  · rw [hstart]
    unfold fX5_allOnDisk kX5_allOnDisk_0
    have O3 : SO (h2.1, I) s := SO.up O2
    rw [if_pos O3.1, so_r1 O3, if_pos (so_k1 O3), so_l1 O3, if_pos (by decide), if_pos (by decide), bV_s, if_pos O3.1]
    unfold fX5_forgetCounts kX5_forgetCounts_0
    rw [if_pos O3.1, bV_s, b2, a2]
  · dsimp only
    rw [upI_ne (by omega), upI_ne (by omega), upI_ne (by omega), upI_ne (by omega), upI_ne (by omega), upI_ne (by omega), cpI_ne (by omega), hIo _ (by omega), b3 _ (by omega), a3 _ (by omega), upI_ne (by omega)]
  · dsimp only
    have ho : ∀ y, upI (upI (upI (upI (upI (upI (cpI I (s + 1) (s + 1) 0 256 256) s 2 0) s 9 0) s 12 0) s 13 0) s 14 0) s 15 0 (s + 1) y = cpI I (s + 1) (s + 1) 0 256 256 (s + 1) y := fun y => by rw [upI_ne (by omega), upI_ne (by omega), upI_ne (by omega), upI_ne (by omega), upI_ne (by omega), upI_ne (by omega)]
    refine ⟨?_, fun x hx => ?_, fun x hx => ?_, ?_, ?_, ?_, ?_, ?_, ?_, fun pre c l e => (by have e : ([] : List Ch) = pre ++ c :: l := e; simp at e), fun pre c l e => (by have e : ([] : List La) = pre ++ c :: l := e; simp at e)⟩
    · rw [upI_at, if_neg (by decide), upI_at, if_neg (by decide), upI_at, if_neg (by decide), upI_at, if_neg (by decide), upI_at, if_neg (by decide), upI_at, if_neg (by decide), cpI_ne (by omega)]; exact hz0
    · rw [ho, cpI_at, if_neg (by omega)]; exact hI1 x hx
    · rw [ho, cpI_at, if_pos (by omega), show 0 + (256 + x - 256) = x by omega]; exact hI1 x hx
    · rw [upI_at, if_neg (by decide), upI_at, if_neg (by decide), upI_at, if_neg (by decide), upI_at, if_neg (by decide), upI_at, if_neg (by decide), upI_at, if_pos rfl]; rfl
    · rw [upI_at, if_neg (by decide), upI_at, if_neg (by decide), upI_at, if_neg (by decide), upI_at, if_neg (by decide), upI_at, if_pos rfl]; rfl
    · rw [upI_at, if_neg (by decide), upI_at, if_neg (by decide), upI_at, if_neg (by decide), upI_at, if_pos rfl]; rfl
    · rw [upI_at, if_neg (by decide), upI_at, if_neg (by decide), upI_at, if_pos rfl]; rfl
    · rw [upI_at, if_neg (by decide), upI_at, if_pos rfl]; rfl
    · rw [upI_at, if_pos rfl]; rfl
  · exact (inv_S0 hz (k := 0) (by decide)).2.1.1.1
end D2
