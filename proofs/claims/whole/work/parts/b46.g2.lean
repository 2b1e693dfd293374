/-! ===== questions, both sides ===== -/
def tn (a : Int32) : Nat := a.toNatClampNeg
theorem tn_n {n : Nat} (h : n < 2 ^ 31) : tn (nI n) = n := nI_clamp h
def aTold (S : St) (z : Nat) (bl rs a : Int32) : An := if 0 ≤ a ∧ a ≤ 9 then .inl (if a = 0 then nI z else if a = 1 then nI (sC S).length else if a = 2 then nI (sL S).length else if a = 3 then nI (dirtN S z) else if a = 4 then sW S else if a = 5 then sH S else if a = 6 then sK S else if a = 7 then bl else if a = 8 then rs else nI (sM S)) else IA 1
def aPeek (S : St) (z : Nat) (b i w : Int32) : An := if 0 ≤ w ∧ w ≤ nI 1 then (if (0 ≤ b ∧ b < nI z) ∧ (0 ≤ i ∧ i < nI 16) then .inl (nI (sd S (tn w) (16 * tn b + tn i))) else IO3 2) else IA 1
def aUsed (S : St) (z : Nat) (w : Int32) : An := if 0 ≤ w ∧ w ≤ nI 1 then .inl (nI (usdN (sd S (tn w)) z)) else IA 1
noncomputable def aLeaks (S : St) (z : Nat) (w : Int32) : An := if 0 ≤ w ∧ w ≤ nI 1 then .inl (nI (leakN (sd S (tn w)) z)) else IA 1
noncomputable def aLost (S : St) (w : Int32) : An := if 0 ≤ w ∧ w ≤ nI 1 then .inl (nI (lnkN (sd S (tn w))) &&& (nI (rbits (sd S (tn w))) ^^^ (-1))) else IA 1
noncomputable def brkV (B : Nat → Nat) : Nat := ((List.range' 0 24).foldl (pst B) (0, 0)).2 + sr (brD B) 0 12
noncomputable def aBroken (S : St) (w : Int32) : An := if 0 ≤ w ∧ w ≤ nI 1 then .inl (nI (brkV (sd S (tn w)))) else IA 1
def aOwner (S : St) (z : Nat) (b w : Int32) : An := if 0 ≤ w ∧ w ≤ nI 1 then (if 0 ≤ b ∧ b < nI z then .inl (if tn b = 0 then -1 else oI (ptrF (sd S (tn w)) (lnkN (sd S (tn w))) (tn b))) else IO3 2) else IA 1
def aHeld (S : St) (z : Nat) (b : Int32) : An := if 0 ≤ b ∧ b < nI z then .inl (nI (hb (tn b) (goes (tn b) (sC S)))) else IO3 1
def aCopy (S : St) (z : Nat) (b i : Int32) : An := if (0 ≤ b ∧ b < nI z) ∧ (0 ≤ i ∧ i < nI 16) then .inl (nI (vA (sD S) (gone (goes (tn b) (sC S))) (16 * tn b + tn i))) else IO3 1
def aWaits (S : St) (z : Nat) (b : Int32) : An := if 0 ≤ b ∧ b < nI z then .inl (nI (dif (wv (tn b) [] (sC S) 0) (2 ^ tn b))) else IO3 1
def aUnlike (S : St) (z : Nat) (b : Int32) : An := if 0 ≤ b ∧ b < nI z then .inl (nI (sr (unF S (tn b)) 0 16)) else IO3 1
def aRings (S : St) (z : Nat) : An := .inl (nI (sr (fun b => sr (rg S b) 0 b) 0 z))
noncomputable def aFinds (S : St) (z : Nat) : An := .inl (oI (swAt S z))
section G2
variable {h : Hp} {x m z k : Nat} {S : St} {a b c d : Int32}
theorem inv_l60 (I : Inv S z k) : (sL S).length ≤ 60 := by have := I.2.1.2.2.1.2.2.2.1; omega
theorem inv_na (I : Inv S z k) : Na S := I.2.1.1.2.1.na
/-! the class -/
theorem cq_told (Q : CQ h x S z) (I : Inv S z k) (a : Int32) : ClsA (fX9_told x a h) h x (aTold S z (h.2 x 13) (h.2 x 15) a) := by
  obtain ⟨C, R⟩ := id Q
  unfold fX9_told kX9_told_0 aTold
  rw [if_pos C.k, t_wht C]
  by_cases ha : 0 ≤ a ∧ a ≤ 9
  · rw [if_pos ha, if_pos ha, bVx_s, C.k, C.r0, R.so.1]
    simp only [if_true]
    refine clsA_i (h' := h) ?_ (Scr.refl h x)
    by_cases q0 : a = 0
    · rw [if_pos q0, if_pos q0, R.sz]
    rw [if_neg q0, if_neg q0]
    by_cases q1 : a = 1
    · rw [if_pos q1, if_pos q1, R.un]
    rw [if_neg q1, if_neg q1]
    by_cases q2 : a = 2
    · rw [if_pos q2, if_pos q2, R.wa]
    rw [if_neg q2, if_neg q2]
    by_cases q3 : a = 3
    · rw [if_pos q3, if_pos q3, c_dirty R (inv_Zb I), bI_s]
    rw [if_neg q3, if_neg q3]
    obtain ⟨-, -, -, -, -, e4, e5, e6, e7, -⟩ := R.2.1
    by_cases q4 : a = 4
    · rw [if_pos q4, if_pos q4, e4]
    rw [if_neg q4, if_neg q4]
    by_cases q5 : a = 5
    · rw [if_pos q5, if_pos q5, e5]
    rw [if_neg q5, if_neg q5]
    by_cases q6 : a = 6
    · rw [if_pos q6, if_pos q6, e6]
    rw [if_neg q6, if_neg q6]
    by_cases q7 : a = 7
    · rw [if_pos q7, if_pos q7]
    rw [if_neg q7, if_neg q7]
    by_cases q8 : a = 8
    · rw [if_pos q8, if_pos q8]
    rw [if_neg q8, if_neg q8, e7]
  · rw [if_neg ha, if_neg ha, bVx_t]
    rfl
theorem cq_peek (Q : CQ h x S z) (b i w : Int32) : ClsA (fX9_peek x b i w h) h x (aPeek S z b i w) := by
  obtain ⟨C, R⟩ := id Q
  obtain ⟨hz1, hz2⟩ := R.2.2.1
  unfold fX9_peek kX9_peek_0 aPeek
  rw [if_pos C.k, t_whr C]
  by_cases hw : 0 ≤ w ∧ w ≤ nI 1
  · rw [if_pos hw, if_pos hw, bVx_s, if_pos C.k, t_blk Q]
    by_cases hb : 0 ≤ b ∧ b < nI z
    · rw [if_pos hb, bVx_s, if_pos C.k, t_plc C]
      by_cases hi : 0 ≤ i ∧ i < nI 16
      · rw [if_pos hi, if_pos ⟨hb, hi⟩, bVx_s, if_pos C.k, C.r0, if_pos R.so.1]
        obtain ⟨w, w1, rfl⟩ := rg_of (by decide) hw
        obtain ⟨b, b1, rfl⟩ := rl_of (by omega) hb
        obtain ⟨i, i1, rfl⟩ := rl_of (by decide) hi
        rw [c_at (R.cb w1) (by omega) i1, bI_s, tn_n (by omega), tn_n (by omega), tn_n (by omega)]
        exact clsA_i rfl (Scr.refl h x)
      · rw [if_neg hi, if_neg (fun q => hi q.2), bVx_t]
        rfl
    · rw [if_neg hb, if_neg (fun q => hb q.1), bVx_t]
      rfl
  · rw [if_neg hw, if_neg hw, bVx_t]
    rfl
theorem cq_used (Q : CQ h x S z) (w : Int32) : ClsA (fX9_used x w h) h x (aUsed S z w) := by
  obtain ⟨C, R⟩ := id Q
  unfold fX9_used kX9_used_0 aUsed
  rw [if_pos C.k, t_whr C]
  by_cases hw : 0 ≤ w ∧ w ≤ nI 1
  · rw [if_pos hw, if_pos hw, bVx_s, if_pos C.k, C.r0]
    obtain ⟨w, w1, rfl⟩ := rg_of (by decide) hw
    rw [t_used (R.cb w1) R.sz R.2.2.1.2, bI_s, tn_n (by omega)]
    exact clsA_i rfl (Scr.refl h x)
  · rw [if_neg hw, if_neg hw, bVx_t]
    rfl
theorem cq_leaks (Q : CQ h x S z) (I : Inv S z k) (w : Int32) : ClsA (fX9_leaks x w h) h x (aLeaks S z w) := by
  obtain ⟨C, R⟩ := id Q
  unfold fX9_leaks kX9_leaks_0 aLeaks
  rw [if_pos C.k, t_whr C]
  by_cases hw : 0 ≤ w ∧ w ≤ nI 1
  · rw [if_pos hw, if_pos hw, bVx_s, if_pos C.k, C.r0]
    obtain ⟨w, w1, rfl⟩ := rg_of (by decide) hw
    rw [t_leaked (R.cb w1) (sd_wf I w) R.sz R.2.2.1.2, bI_s, tn_n (by omega)]
    exact clsA_i rfl (Scr.refl h x)
  · rw [if_neg hw, if_neg hw, bVx_t]
    rfl
theorem cq_lost (Q : CQ h x S z) (I : Inv S z k) (w : Int32) : ClsA (fX9_lost x w h) h x (aLost S w) := by
  obtain ⟨C, R⟩ := id Q
  unfold fX9_lost kX9_lost_0 aLost
  rw [if_pos C.k, t_whr C]
  by_cases hw : 0 ≤ w ∧ w ≤ nI 1
  · rw [if_pos hw, if_pos hw, bVx_s, if_pos C.k, C.r0]
    obtain ⟨w, w1, rfl⟩ := rg_of (by decide) hw
    rw [t_linked (R.cb w1), bI_s, if_pos C.k, C.r0, t_reached (R.cb w1) (sd_wf I w), bI_s, tn_n (by omega)]
    exact clsA_i rfl (Scr.refl h x)
  · rw [if_neg hw, if_neg hw, bVx_t]
    rfl
theorem sd_pt (I : Inv S z k) (w : Nat) : ∀ n, n < 12 → ∀ f, f = 2 ∨ f = 3 → fd (sd S w) n f < z := fun n hn f hf => by
  by_cases e : w = 0
  · have : sd S w = mm S := by funext x; unfold sd; rw [if_pos e]
    rw [this]
    exact inv_ptm I n hn f hf
  · have : sd S w = sD S := by funext x; unfold sd; rw [if_neg e]
    rw [this]
    exact inv_ptd I n hn f hf
theorem cq_broken (Q : CQ h x S z) (I : Inv S z k) (w : Int32) : ClsA (fX9_broken x w h) h x (aBroken S w) := by
  obtain ⟨C, R⟩ := id Q
  obtain ⟨hz1, hz2⟩ := R.2.2.1
  unfold fX9_broken kX9_broken_0 aBroken
  rw [if_pos C.k, t_whr C]
  by_cases hw : 0 ≤ w ∧ w ≤ nI 1
  · rw [if_pos hw, if_pos hw, bVx_s, if_pos C.k, C.r0]
    obtain ⟨w, w1, rfl⟩ := rg_of (by decide) hw
    rw [t_be (R.cb w1) (sd_wf I w), bI_s, if_pos C.k, C.r0, t_bp (R.cb w1) (sd_wf I w).1 R.sz hz2 (sd_pt I w) (by omega), bI_s, tn_n (by omega), nI_add, Nat.add_comm]
    exact clsA_i rfl (Scr.refl h x)
  · rw [if_neg hw, if_neg hw, bVx_t]
    rfl
theorem cq_owner (Q : CQ h x S z) (b w : Int32) : ClsA (fX9_owner x b w h) h x (aOwner S z b w) := by
  obtain ⟨C, R⟩ := id Q
  obtain ⟨hz1, hz2⟩ := R.2.2.1
  unfold fX9_owner kX9_owner_0 aOwner
  rw [if_pos C.k, t_whr C]
  by_cases hw : 0 ≤ w ∧ w ≤ nI 1
  · rw [if_pos hw, if_pos hw, bVx_s, if_pos C.k, t_blk Q]
    by_cases hb : 0 ≤ b ∧ b < nI z
    · rw [if_pos hb, if_pos hb, bVx_s, if_pos C.k, C.r0]
      obtain ⟨w, w1, rfl⟩ := rg_of (by decide) hw
      obtain ⟨b, b1, rfl⟩ := rl_of (by omega) hb
      rw [t_owner (R.cb w1) (by omega), bI_s, tn_n (by omega), tn_n (by omega)]
      exact clsA_i rfl (Scr.refl h x)
    · rw [if_neg hb, if_neg hb, bVx_t]
      rfl
  · rw [if_neg hw, if_neg hw, bVx_t]
    rfl
theorem cq_held (Q : CQ h x S z) (I : Inv S z k) (b : Int32) : ClsA (fX9_held x b h) h x (aHeld S z b) := by
  obtain ⟨C, R⟩ := id Q
  obtain ⟨hz1, hz2⟩ := R.2.2.1
  unfold fX9_held kX9_held_0 aHeld
  rw [if_pos C.k, t_blk Q]
  by_cases hb : 0 ≤ b ∧ b < nI z
  · rw [if_pos hb, if_pos hb, bVx_s, if_pos C.k, C.r4, if_pos C.pen.1, C.r0]
    obtain ⟨b, b1, rfl⟩ := rl_of (by omega) hb
    obtain ⟨h1, a1, a2, a3, a4, a5, a6, a7⟩ := c_weigh (b := b) (p := x + 15) (by omega) (by omega) (inv_na I) R C.pen
    have C1 := C.eq a2
    rw [a1, bV_s, if_pos C1.k, C1.r4, if_pos C1.pen.1, a7, tn_n (by omega)]
    exact clsA_i rfl ⟨a2, fun y hy => a3 y (by unfold pers at hy; omega) (by unfold pers at hy; omega)⟩
  · rw [if_neg hb, if_neg hb, bVx_t]
    rfl
theorem cq_copy (Q : CQ h x S z) (I : Inv S z k) (b i : Int32) : ClsA (fX9_copy x b i h) h x (aCopy S z b i) := by
  obtain ⟨C, R⟩ := id Q
  obtain ⟨hz1, hz2⟩ := R.2.2.1
  unfold fX9_copy kX9_copy_0 aCopy
  rw [if_pos C.k, t_blk Q]
  by_cases hb : 0 ≤ b ∧ b < nI z
  · rw [if_pos hb, bVx_s, if_pos C.k, t_plc C]
    by_cases hi : 0 ≤ i ∧ i < nI 16
    · rw [if_pos hi, if_pos ⟨hb, hi⟩, bVx_s, if_pos C.k, C.r4, if_pos C.pen.1, C.r0]
      obtain ⟨b, b1, rfl⟩ := rl_of (by omega) hb
      obtain ⟨i, i1, rfl⟩ := rl_of (by decide) hi
      obtain ⟨h1, a1, a2, a3, a4, a5, a6, a7, a8⟩ := c_draft (b := b) (p := x + 15) (by omega) (by omega) (inv_na I) R C.pen
      have C1 := C.eq a2
      obtain ⟨p1, p2, p3, ⟨p4, p5, p6⟩, p7⟩ := C1.pen
      rw [a1, bV_s, if_pos C1.k, C1.r4, if_pos p1, p4, if_pos p5, p6, if_pos (inB_nI i1 (by decide)), nI_clamp (by omega), a8 i i1, tn_n (by omega), tn_n (by omega)]
      exact clsA_i rfl ⟨a2, fun y hy => a3 y (by unfold pers at hy; omega) (by unfold pers at hy; omega) (by unfold pers at hy; omega)⟩
    · rw [if_neg hi, if_neg (fun q => hi q.2), bVx_t]
      rfl
  · rw [if_neg hb, if_neg (fun q => hb q.1), bVx_t]
    rfl
theorem cq_waits (Q : CQ h x S z) (b : Int32) : ClsA (fX9_waits x b h) h x (aWaits S z b) := by
  obtain ⟨C, R⟩ := id Q
  obtain ⟨hz1, hz2⟩ := R.2.2.1
  unfold fX9_waits kX9_waits_0 aWaits
  rw [if_pos C.k, t_blk Q]
  by_cases hb : 0 ≤ b ∧ b < nI z
  · rw [if_pos hb, if_pos hb, bVx_s, if_pos C.k, C.r0, if_pos R.so.1]
    obtain ⟨b, b1, rfl⟩ := rl_of (by omega) hb
    rw [c_waits R (by omega), bI_s, tn_n (by omega)]
    exact clsA_i rfl (Scr.refl h x)
  · rw [if_neg hb, if_neg hb, bVx_t]
    rfl
theorem cq_unlike (Q : CQ h x S z) (b : Int32) : ClsA (fX9_unlike x b h) h x (aUnlike S z b) := by
  obtain ⟨C, R⟩ := id Q
  obtain ⟨hz1, hz2⟩ := R.2.2.1
  unfold fX9_unlike kX9_unlike_0 aUnlike
  rw [if_pos C.k, t_blk Q]
  by_cases hb : 0 ≤ b ∧ b < nI z
  · rw [if_pos hb, if_pos hb, bVx_s]
    obtain ⟨b, b1, rfl⟩ := rl_of (by omega) hb
    have := c_unlike_go C.k C.r0 R (b := b) (by omega) 16 0 FF 0 rfl (by decide) (by decide)
    rw [Nat.zero_add] at this
    rw [tn_n (by omega)]
    exact clsA_i this (Scr.refl h x)
  · rw [if_neg hb, if_neg hb, bVx_t]
    rfl
theorem cq_rings (Q : CQ h x S z) : ClsA (fX9_rings x h) h x (aRings S z) := by
  obtain ⟨C, R⟩ := id Q
  obtain ⟨hz1, hz2⟩ := R.2.2.1
  have := c_r4 C.k C.r0 R z 0 FF 0 (by omega) (by show _ < 1000000; omega) (by omega)
  rw [Nat.zero_add, tri (rg S) (rg_sym S) z] at this
  exact clsA_i this (Scr.refl h x)
theorem cq_finds (Q : CQ h x S z) (I : Inv S z k) : ClsA (fX9_finds x h) h x (aFinds S z) := by
  obtain ⟨C, R⟩ := id Q
  unfold fX9_finds kX9_finds_0
  have := inv_l60 I
  rw [if_pos C.k, C.r5, if_pos C.stp.1, C.r0, c_firstFound R C.stp.1 (inv_wfm I).1 (inv_lk I) (by omega), bI_s]
  exact clsA_i rfl (Scr.refl h x)
end G2
