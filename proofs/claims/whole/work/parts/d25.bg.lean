/-! ===== the class begins to read ===== -/
section BG
variable {h : Hp} {x n : Nat} {T : Nat → Nat}
theorem c_beginR (C : CO h x) (hn : n ≤ 600) (ht : ∀ i, i < n → h.2 (x + 26) i = cby (T i)) (hT : ∀ i, i < n → T i < 256) : ∃ h', fX3_begin (x + 27) (x + 26) (nI n) h = some (.inl none, h') ∧ FrE h h' x ∧ CP h' x T n 0 ∧ h'.2 (x + 28) 1 = nI 0 ∧ h'.2 (x + 28) 0 = nI 16 ∧ h'.2 (x + 27) 9 = nI 0 := by
  obtain ⟨s1, s2, -⟩ := C.scr
  obtain ⟨t1, t2, t3⟩ := C.rdr.2.2.2.2.1
  have t1 : rH h (x + 27) 5 = x + 36 := t1
  have t2 : kH h (x + 36) = 2 := t2
  have t3 : lH h (x + 36) = 600 := t3
  obtain ⟨p1, p2, p3⟩ := C.tape
  have hlen : (if 0 < (if (if 600 < ((600 : Nat).toInt32) then 600 else ((600 : Nat).toInt32)) < nI n then (if 600 < ((600 : Nat).toInt32) then 600 else ((600 : Nat).toInt32)) else nI n) then (if (if 600 < ((600 : Nat).toInt32) then 600 else ((600 : Nat).toInt32)) < nI n then (if 600 < ((600 : Nat).toInt32) then 600 else ((600 : Nat).toInt32)) else nI n) else (0 : Int32)) = nI n := by
    have e6 : (if (600 : Int32) < ((600 : Nat).toInt32) then (600 : Int32) else ((600 : Nat).toInt32)) = nI 600 := by decide
    rw [e6, if_neg (show ¬ nI 600 < nI n by rw [nI_ltI (by decide) (by omega)]; omega)]
    by_cases e : n = 0
    · rw [e]
      decide
    · rw [if_pos (by rw [show (0 : Int32) = nI 0 from rfl, nI_ltI (by decide) (by omega)]; omega)]
  have u6 : upI h.2 (x + 27) 6 (nI n) (x + 27) 6 = nI n := by rw [upI_at, if_pos rfl]
  refine ⟨(h.1, upI (upI (upI (upI (upI (upI (cpI (upI h.2 (x + 27) 6 (nI n)) (x + 26) (x + 36) 0 0 n) (x + 27) 7 0) (x + 27) 4 0) (x + 27) 3 (-1)) (x + 27) 9 0) (x + 28) 0 16) (x + 28) 1 0), ?_, ⟨rfl, fun a q => ?_⟩, ⟨⟨C.eq rfl, ?_, hn, fun i hi => ?_, hT⟩, ?_, ?_, Nat.zero_le _⟩, ?_, ?_, ?_⟩
  · unfold fX3_begin kX3_begin_0
    rw [if_pos p2, if_pos C.rdr.1, p3, hlen, letH_s, t1, if_pos t2, u6, if_pos (by rw [nI_lt0 (by omega)]; exact id), nI_clamp (by omega), if_pos (by omega), t3, if_pos (by omega), s1, if_pos s2]
    unfold fX4_clear kX4_clear_0
    rw [if_pos (show kH (h.1, _) (x + 28) = 14 from s2), bV_s]
  · show upI _ _ _ _ a = _
    rw [upI_ne (by omega), upI_ne (by omega), upI_ne (by omega), upI_ne (by omega), upI_ne (by omega), upI_ne (by omega), cpI_ne (by omega), upI_ne (by omega)]
  · show upI _ _ _ _ (x + 27) 6 = _
    rw [upI_ne (by omega), upI_ne (by omega), upI_at, if_neg (by decide), upI_at, if_neg (by decide), upI_at, if_neg (by decide), upI_at, if_neg (by decide), cpI_ne (by omega)]
    exact u6
  · show upI _ _ _ _ (x + 36) i = _
    rw [upI_ne (by omega), upI_ne (by omega), upI_ne (by omega), upI_ne (by omega), upI_ne (by omega), upI_ne (by omega), cpI_at, if_pos (by omega), upI_ne (by omega), show 0 + (i - 0) = i by omega]
    exact ht i hi
  · show upI _ _ _ _ (x + 27) 7 = _
    rw [upI_ne (by omega), upI_ne (by omega), upI_at, if_neg (by decide), upI_at, if_neg (by decide), upI_at, if_neg (by decide), upI_at, if_pos rfl]
    rfl
  · show upI _ _ _ _ (x + 27) 4 = _
    rw [upI_ne (by omega), upI_ne (by omega), upI_at, if_neg (by decide), upI_at, if_neg (by decide), upI_at, if_pos rfl]
  · show upI _ _ _ _ (x + 28) 1 = _
    rw [upI_at, if_pos rfl]
    rfl
  · show upI _ _ _ _ (x + 28) 0 = _
    rw [upI_at, if_neg (by decide), upI_at, if_pos rfl]
    rfl
  · show upI _ _ _ _ (x + 27) 9 = _
    rw [upI_ne (by omega), upI_ne (by omega), upI_at, if_pos rfl]
    rfl
/-- a WORK is read by the class -/
theorem c_readWork (C : CO h x) (hn : n ≤ 150) (ht : ∀ i, i < n → h.2 (x + 26) i = cby (T i)) (hT : ∀ i, i < n → T i < 256) : ∃ h', fX3_readWork (x + 27) (x + 26) (nI n) h = some (.inl (some (.int (match pFo T n (n + 1) 0 0 with
      | .inl _ => 0
      | .inr e => nI e.1))), h') ∧ FrE h h' x ∧ CX h' x T n ∧ (match pFo T n (n + 1) 0 0 with
      | .inl v => h'.2 (x + 27) 4 = 0 ∧ h'.2 (x + 28) 1 = nI (cof v.1).length ∧ LayC h' x 0 (cof v.1) ∧ (cof v.1).length ≤ 37
      | .inr e => CE h' x e ∧ e.2 ≤ n) := by
  obtain ⟨h1, a1, a2, a3, a4, a5, a6⟩ := c_beginR C (by omega) ht hT
  obtain ⟨h', b1, b2, b3, b4⟩ := c_work_all a3 a4 a6 hn
  refine ⟨h', ?_, a2.trans b2, b3, ?_⟩
  · unfold fX3_readWork kX3_readWork_0
    rw [if_pos C.rdr.1, a1, bV_s]
    exact b1
  · cases e : pFo T n (n + 1) 0 0 with
    | inr er => rw [e] at b4; exact b4
    | inl v => rw [e] at b4; exact ⟨b4.1, b4.2.1, b4.2.2.1, b4.2.2.2.1⟩
end BG
