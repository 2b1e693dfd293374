/-! ===== methods as functions ===== -/
abbrev RS : Type := Option (OU × Hp)
def FF : Nat := 1000000
def inB (i : Int32) (n : Nat) : Bool := decide (¬ (i < 0 ∨ n ≤ i.toNatClampNeg))
def bI (r : RS) (k : Int32 → Hp → RS) : RS := match r with
  | some (.inl (some (.int z)), h) => k z h
  | _ => none
def bR (r : RS) (k : Nat → Hp → RS) : RS := match r with
  | some (.inl (some (.ref z)), h) => k z h
  | _ => none
def bV (r : RS) (k : Hp → RS) : RS := match r with
  | some (.inl none, h) => k h
  | _ => none
def bIx (r : RS) (k : Int32 → Hp → RS) : RS := match r with
  | some (.inl (some (.int z)), h) => k z h
  | some (.inr E, h) => some (.inr E, h)
  | _ => none
def bRx (r : RS) (k : Nat → Hp → RS) : RS := match r with
  | some (.inl (some (.ref z)), h) => k z h
  | some (.inr E, h) => some (.inr E, h)
  | _ => none
def bVx (r : RS) (k : Hp → RS) : RS := match r with
  | some (.inl none, h) => k h
  | some (.inr E, h) => some (.inr E, h)
  | _ => none
def letH {α β : Type} (x : α) (k : α → β) : β := k x
theorem ob_e {α : Type} {c : Prop} [Decidable c] {t : Option α} {x : α} (h : (if c then t else none) = some x) : c ∧ t = some x := by
  by_cases q : c
  · rw [if_pos q] at h; exact ⟨q, h⟩
  · rw [if_neg q] at h; cases h
theorem ob_in {α : Type} {i : Int32} {n : Nat} {t : Option α} {x : α} (h : (if inB i n = true then t else none) = some x) : vp_in i n ∧ t = some x := by
  obtain ⟨q, e⟩ := ob_e h
  have q2 : ¬ (i < 0 ∨ n ≤ i.toNatClampNeg) := of_decide_eq_true (p := ¬ (i < 0 ∨ n ≤ i.toNatClampNeg)) q
  exact ⟨q2, e⟩
theorem if_t {α : Type} {c : Prop} [Decidable c] {a b x : α} (h : (if c then a else b) = x) (q : c) : a = x := by rwa [if_pos q] at h
theorem if_f {α : Type} {c : Prop} [Decidable c] {a b x : α} (h : (if c then a else b) = x) (q : ¬ c) : b = x := by rwa [if_neg q] at h
theorem if_n {α : Type} {c : Prop} [Decidable c] {a b x : α} (h : (if ¬ c then a else b) = x) (q : c) : b = x := by rwa [if_neg (fun z => z q)] at h
theorem lt_e {α β : Type} {x y : α} {k : α → β} {z : β} (e : y = x) (h : letH x k = z) : k y = z := by subst e; exact h
theorem bI_e {r : RS} {k : Int32 → Hp → RS} {x : OU × Hp} (h : bI r k = some x) : ∃ z h1, r = some (.inl (some (.int z)), h1) ∧ k z h1 = some x := by
  unfold bI at h
  split at h
  · exact ⟨_, _, rfl, h⟩
  · cases h
theorem bR_e {r : RS} {k : Nat → Hp → RS} {x : OU × Hp} (h : bR r k = some x) : ∃ z h1, r = some (.inl (some (.ref z)), h1) ∧ k z h1 = some x := by
  unfold bR at h
  split at h
  · exact ⟨_, _, rfl, h⟩
  · cases h
theorem bV_e {r : RS} {k : Hp → RS} {x : OU × Hp} (h : bV r k = some x) : ∃ h1, r = some (.inl none, h1) ∧ k h1 = some x := by
  unfold bV at h
  split at h
  · exact ⟨_, rfl, h⟩
  · cases h
theorem bIx_e {r : RS} {k : Int32 → Hp → RS} {o : OU} {h' : Hp} (h : bIx r k = some (o, h')) : (∃ z h1, r = some (.inl (some (.int z)), h1) ∧ k z h1 = some (o, h')) ∨ ∃ E, o = .inr E ∧ r = some (.inr E, h') := by
  unfold bIx at h
  split at h
  · exact Or.inl ⟨_, _, rfl, h⟩
  · cases h; exact Or.inr ⟨_, rfl, rfl⟩
  · cases h
theorem bRx_e {r : RS} {k : Nat → Hp → RS} {o : OU} {h' : Hp} (h : bRx r k = some (o, h')) : (∃ z h1, r = some (.inl (some (.ref z)), h1) ∧ k z h1 = some (o, h')) ∨ ∃ E, o = .inr E ∧ r = some (.inr E, h') := by
  unfold bRx at h
  split at h
  · exact Or.inl ⟨_, _, rfl, h⟩
  · cases h; exact Or.inr ⟨_, rfl, rfl⟩
  · cases h
theorem bVx_e {r : RS} {k : Hp → RS} {o : OU} {h' : Hp} (h : bVx r k = some (o, h')) : (∃ h1, r = some (.inl none, h1) ∧ k h1 = some (o, h')) ∨ ∃ E, o = .inr E ∧ r = some (.inr E, h') := by
  unfold bVx at h
  split at h
  · exact Or.inl ⟨_, rfl, h⟩
  · cases h; exact Or.inr ⟨_, rfl, rfl⟩
  · cases h

theorem bX3_atEnd_0 {G : GG} {d : Nat} {h : Hp} {o : OU} {h' : Hp} (r0 : Nat) (T : kH h r0 = 13 ∧ (((h.2 r0 6) ≤ (h.2 r0 7) → (((h.2 r0 7) < (h.2 r0 6) → (o = .inl (some (.int 0)) ∧ h' = h)) ∧ (¬ (h.2 r0 7) < (h.2 r0 6) → (o = .inl (some (.int 1)) ∧ h' = h)))) ∧ (¬ (h.2 r0 6) ≤ (h.2 r0 7) → kH h (rH h r0 5) = 2 ∧ vp_in (h.2 r0 7) (lH h (rH h r0 5)) ∧ ((¬ (h.2 (rH h r0 5) (h.2 r0 7).toNatClampNeg) = 32 → (((h.2 r0 7) < (h.2 r0 6) → (o = .inl (some (.int 0)) ∧ h' = h)) ∧ (¬ (h.2 r0 7) < (h.2 r0 6) → (o = .inl (some (.int 1)) ∧ h' = h)))) ∧ ((h.2 (rH h r0 5) (h.2 r0 7).toNatClampNeg) = 32 → V G mX3_atEnd d 0 [.ref r0] [] (h.1, (upI h.2 r0 7 ((h.2 r0 7) + 1))) o h'))))) : V G mX3_atEnd d 0 [.ref r0] [] h o h' := by
  refine v_aload_n (pc' := 1) dX3_atEnd_0 rfl rfl ?_
  obtain ⟨q1, T⟩ := T
  refine v_getI (pc' := 4) 3 7 dX3_atEnd_1 rfl (by decide) (by decide) rfl kf_X3_48 q1 ?_
  refine v_aload_n (pc' := 5) dX3_atEnd_4 rfl rfl ?_
  refine v_getI (pc' := 8) 3 6 dX3_atEnd_5 rfl (by decide) (by decide) rfl kf_X3_38 q1 ?_
  refine v_icmp_ge (tgt := 38) (pc' := 11) dX3_atEnd_8 (by decide) rfl ⟨fun c2 => ?_, fun c2 => ?_⟩
  · have T := T.1 c2
    refine v_aload_n (pc' := 39) dX3_atEnd_38 rfl rfl ?_
    refine v_getI (pc' := 42) 3 7 dX3_atEnd_39 rfl (by decide) (by decide) rfl kf_X3_48 q1 ?_
    refine v_aload_n (pc' := 43) dX3_atEnd_42 rfl rfl ?_
    refine v_getI (pc' := 46) 3 6 dX3_atEnd_43 rfl (by decide) (by decide) rfl kf_X3_38 q1 ?_
    refine v_icmp_lt (tgt := 53) (pc' := 49) dX3_atEnd_46 (by decide) rfl ⟨fun c3 => ?_, fun c3 => ?_⟩
    · have T := T.1 c3
      refine v_iconst (pc' := 54) (v := 0) dX3_atEnd_53 rfl kI_0 ?_
      exact v_zret dX3_atEnd_54 rfl (Or.inl rfl) T
    · have T := T.2 c3
      refine v_iconst (pc' := 50) (v := 1) dX3_atEnd_49 rfl kI_1 ?_
      refine v_goto (pc' := 54) dX3_atEnd_50 (by decide) ?_
      exact v_zret dX3_atEnd_54 rfl (Or.inr rfl) T
  · have T := T.2 c2
    refine v_aload_n (pc' := 12) dX3_atEnd_11 rfl rfl ?_
    refine v_getR (pc' := 15) 3 5 dX3_atEnd_12 rfl (by decide) (by decide) rfl kf_X3_22 q1 ?_
    refine v_aload_n (pc' := 16) dX3_atEnd_15 rfl rfl ?_
    refine v_getI (pc' := 19) 3 7 dX3_atEnd_16 rfl (by decide) (by decide) rfl kf_X3_48 q1 ?_
    obtain ⟨q4, T⟩ := T
    obtain ⟨q5, T⟩ := T
    refine v_bald (pc' := 20) dX3_atEnd_19 rfl rfl q4 q5 ?_
    refine v_bipush (pc' := 22) (v := 32) dX3_atEnd_20 rfl kB_32 ?_
    refine v_icmp_ne (tgt := 38) (pc' := 25) dX3_atEnd_22 (by decide) rfl ⟨fun c6 => ?_, fun c6 => ?_⟩
    · have T := T.1 c6
      refine v_aload_n (pc' := 39) dX3_atEnd_38 rfl rfl ?_
      refine v_getI (pc' := 42) 3 7 dX3_atEnd_39 rfl (by decide) (by decide) rfl kf_X3_48 q1 ?_
      refine v_aload_n (pc' := 43) dX3_atEnd_42 rfl rfl ?_
      refine v_getI (pc' := 46) 3 6 dX3_atEnd_43 rfl (by decide) (by decide) rfl kf_X3_38 q1 ?_
      refine v_icmp_lt (tgt := 53) (pc' := 49) dX3_atEnd_46 (by decide) rfl ⟨fun c7 => ?_, fun c7 => ?_⟩
      · have T := T.1 c7
        refine v_iconst (pc' := 54) (v := 0) dX3_atEnd_53 rfl kI_0 ?_
        exact v_zret dX3_atEnd_54 rfl (Or.inl rfl) T
      · have T := T.2 c7
        refine v_iconst (pc' := 50) (v := 1) dX3_atEnd_49 rfl kI_1 ?_
        refine v_goto (pc' := 54) dX3_atEnd_50 (by decide) ?_
        exact v_zret dX3_atEnd_54 rfl (Or.inr rfl) T
    · have T := T.2 c6
      refine v_aload_n (pc' := 26) dX3_atEnd_25 rfl rfl ?_
      refine v_dup (pc' := 27) dX3_atEnd_26 rfl rfl ?_
      refine v_getI (pc' := 30) 3 7 dX3_atEnd_27 rfl (by decide) (by decide) rfl kf_X3_48 q1 ?_
      refine v_iconst (pc' := 31) (v := 1) dX3_atEnd_30 rfl kI_1 ?_
      refine v_iadd (pc' := 32) dX3_atEnd_31 rfl ?_
      refine v_putI (pc' := 35) 3 7 dX3_atEnd_32 rfl (by decide) (by decide) rfl rfl kf_X3_48 q1 ?_
      refine v_goto (pc' := 0) dX3_atEnd_35 (by decide) ?_
      exact T
theorem bX10_blanks_0 {G : GG} {d : Nat} {h : Hp} {o : OU} {h' : Hp} (r0 : Nat) (hd : 1 ≤ d) (T : kH h r0 = 18 ∧ ∃ z3 h2, VM G mX10_byteAt (d - 1) [.ref r0, .int (h.2 r0 4)] h (.inl (some (.int z3))) h2 ∧ ((¬ z3 = 32 → (o = .inl none ∧ h' = h2)) ∧ (z3 = 32 → kH h2 r0 = 18 ∧ V G mX10_blanks d 0 [.ref r0] [] (h2.1, (upI h2.2 r0 4 ((h2.2 r0 4) + 1))) o h'))) : V G mX10_blanks d 0 [.ref r0] [] h o h' := by
  have hdd : d - 1 + 1 ≤ d := by omega
  refine v_aload_n (pc' := 1) dX10_blanks_0 rfl rfl ?_
  refine v_aload_n (pc' := 2) dX10_blanks_1 rfl rfl ?_
  obtain ⟨q1, T⟩ := T
  refine v_getI (pc' := 5) 8 4 dX10_blanks_2 rfl (by decide) (by decide) rfl kf_X10_81 q1 ?_
  obtain ⟨z3, h2, k4, T⟩ := T
  refine v_callV (pc' := 8) (M1 := mX10_byteAt) (as := [.int (h.2 r0 4)]) (r := r0) (rest := []) 8 dX10_blanks_5 rfl ko_X10_84 kc_X10_byteAt ki_X10_byteAt ks_X10_byteAt (by decide) (by decide) hdd rfl rfl (le_l rfl) q1 k4 ?_
  refine v_bipush (pc' := 10) (v := 32) dX10_blanks_8 rfl kB_32 ?_
  refine v_icmp_ne (tgt := 26) (pc' := 13) dX10_blanks_10 (by decide) rfl ⟨fun c5 => ?_, fun c5 => ?_⟩
  · have T := T.1 c5
    exact v_vret dX10_blanks_26 rfl T
  · have T := T.2 c5
    refine v_aload_n (pc' := 14) dX10_blanks_13 rfl rfl ?_
    refine v_dup (pc' := 15) dX10_blanks_14 rfl rfl ?_
    obtain ⟨q6, T⟩ := T
    refine v_getI (pc' := 18) 8 4 dX10_blanks_15 rfl (by decide) (by decide) rfl kf_X10_81 q6 ?_
    refine v_iconst (pc' := 19) (v := 1) dX10_blanks_18 rfl kI_1 ?_
    refine v_iadd (pc' := 20) dX10_blanks_19 rfl ?_
    refine v_putI (pc' := 23) 8 4 dX10_blanks_20 rfl (by decide) (by decide) rfl rfl kf_X10_81 q6 ?_
    refine v_goto (pc' := 0) dX10_blanks_23 (by decide) ?_
    exact T
theorem bX10_skipWord_0 {G : GG} {d : Nat} {h : Hp} {o : OU} {h' : Hp} (r0 : Nat) (hd : 1 ≤ d) (T : kH h r0 = 18 ∧ ∃ z3 h2, VM G mX10_byteAt (d - 1) [.ref r0, .int (h.2 r0 4)] h (.inl (some (.int z3))) h2 ∧ ∃ z6 h5, VM G mX10_isSmall (d - 1) [.int z3] h2 (.inl (some (.int z6))) h5 ∧ ((z6 = 0 → (o = .inl none ∧ h' = h5)) ∧ (¬ z6 = 0 → kH h5 r0 = 18 ∧ V G mX10_skipWord d 0 [.ref r0] [] (h5.1, (upI h5.2 r0 4 ((h5.2 r0 4) + 1))) o h'))) : V G mX10_skipWord d 0 [.ref r0] [] h o h' := by
  have hdd : d - 1 + 1 ≤ d := by omega
  refine v_aload_n (pc' := 1) dX10_skipWord_0 rfl rfl ?_
  refine v_aload_n (pc' := 2) dX10_skipWord_1 rfl rfl ?_
  obtain ⟨q1, T⟩ := T
  refine v_getI (pc' := 5) 8 4 dX10_skipWord_2 rfl (by decide) (by decide) rfl kf_X10_81 q1 ?_
  obtain ⟨z3, h2, k4, T⟩ := T
  refine v_callV (pc' := 8) (M1 := mX10_byteAt) (as := [.int (h.2 r0 4)]) (r := r0) (rest := []) 8 dX10_skipWord_5 rfl ko_X10_84 kc_X10_byteAt ki_X10_byteAt ks_X10_byteAt (by decide) (by decide) hdd rfl rfl (le_l rfl) q1 k4 ?_
  obtain ⟨z6, h5, k7, T⟩ := T
  refine v_callS (pc' := 11) (M1 := mX10_isSmall) (as := [.int z3]) (rest := []) dX10_skipWord_8 rfl ko_X10_110 kc_X10_isSmall kt_X10_isSmall (by decide) hdd rfl rfl (le_l rfl) k7 ?_
  refine v_if_eq (tgt := 27) (pc' := 14) dX10_skipWord_11 (by decide) rfl ⟨fun c8 => ?_, fun c8 => ?_⟩
  · have T := T.1 c8
    exact v_vret dX10_skipWord_27 rfl T
  · have T := T.2 c8
    refine v_aload_n (pc' := 15) dX10_skipWord_14 rfl rfl ?_
    refine v_dup (pc' := 16) dX10_skipWord_15 rfl rfl ?_
    obtain ⟨q9, T⟩ := T
    refine v_getI (pc' := 19) 8 4 dX10_skipWord_16 rfl (by decide) (by decide) rfl kf_X10_81 q9 ?_
    refine v_iconst (pc' := 20) (v := 1) dX10_skipWord_19 rfl kI_1 ?_
    refine v_iadd (pc' := 21) dX10_skipWord_20 rfl ?_
    refine v_putI (pc' := 24) 8 4 dX10_skipWord_21 rfl (by decide) (by decide) rfl rfl kf_X10_81 q9 ?_
    refine v_goto (pc' := 0) dX10_skipWord_24 (by decide) ?_
    exact T
def kX0_init_0  (r0 : Nat) (h : Hp) : RS := (if r0 ≠ 0 then (letH (nwH h 5 16 16) fun (h2 : Hp) => (if kH h2 r0 = 10 then (letH (sR h2 r0 0 (nH h)) fun (h5 : Hp) => (some (.inl none, h5))) else none)) else none)
theorem uX0_init_0 {G : GG} {d : Nat} (hd : 1 ≤ d)   {r0 } {h : Hp} {o : OU} {h' : Hp} (e : kX0_init_0  r0 h = some (o, h')) : VM G mX0_init d [.ref r0] h o h' := by
  unfold kX0_init_0 at e
  refine eX0_init r0 (by omega) ?_
  obtain ⟨q1, e⟩ := ob_e e
  refine ⟨q1, ?_⟩
  intro h2 evh2
  have e := lt_e evh2 e
  obtain ⟨q2, e⟩ := ob_e e
  refine ⟨q2, ?_⟩
  intro h5 evh5
  have e := lt_e evh5 e
  cases e
  exact ⟨rfl, rfl⟩
def fX0_init (r0 : Nat) (h : Hp) : RS := kX0_init_0 r0 h
theorem tX0_init {G : GG} {d : Nat} {r0} {h : Hp} {o : OU} {h' : Hp} (e : fX0_init r0 h = some (o, h')) (hd : 1 ≤ d) : VM G mX0_init d [.ref r0] h o h' := uX0_init_0 hd e
def kX5_copyFrom_0  (r0 : Nat) (r1 : Nat) (h : Hp) : RS := (if kH h r1 = 15 then (if kH h r0 = 15 then (if kH h (rH h r0 1) = 2 then (if kH h (rH h r1 1) = 2 then (if ¬ ((lH h (rH h r0 1)).toInt32) < 0 then (if 0 + ((lH h (rH h r0 1)).toInt32).toNatClampNeg ≤ lH h (rH h r1 1) then (if 0 + ((lH h (rH h r0 1)).toInt32).toNatClampNeg ≤ lH h (rH h r0 1) then (letH (upI (cpI (upI h.2 r0 0 (h.2 r1 0)) (rH h r1 1) (rH h r0 1) 0 0 ((lH h (rH h r0 1)).toInt32).toNatClampNeg) r0 2 ((cpI (upI h.2 r0 0 (h.2 r1 0)) (rH h r1 1) (rH h r0 1) 0 0 ((lH h (rH h r0 1)).toInt32).toNatClampNeg) r1 2)) fun (i8 : Nat → Nat → Int32) => (if kH h (rH h r1 3) = 1 then (if kH h (rH h r0 3) = 1 then (if ¬ (i8 r0 2) < 0 then (if 0 + (i8 r0 2).toNatClampNeg ≤ lH h (rH h r1 3) then (if 0 + (i8 r0 2).toNatClampNeg ≤ lH h (rH h r0 3) then (if kH h (rH h r1 4) = 1 then (if kH h (rH h r0 4) = 1 then (if ¬ ((cpI i8 (rH h r1 3) (rH h r0 3) 0 0 (i8 r0 2).toNatClampNeg) r0 2) < 0 then (if 0 + ((cpI i8 (rH h r1 3) (rH h r0 3) 0 0 (i8 r0 2).toNatClampNeg) r0 2).toNatClampNeg ≤ lH h (rH h r1 4) then (if 0 + ((cpI i8 (rH h r1 3) (rH h r0 3) 0 0 (i8 r0 2).toNatClampNeg) r0 2).toNatClampNeg ≤ lH h (rH h r0 4) then (letH (cpI (cpI i8 (rH h r1 3) (rH h r0 3) 0 0 (i8 r0 2).toNatClampNeg) (rH h r1 4) (rH h r0 4) 0 0 ((cpI i8 (rH h r1 3) (rH h r0 3) 0 0 (i8 r0 2).toNatClampNeg) r0 2).toNatClampNeg) fun (i20 : Nat → Nat → Int32) => (if kH h (rH h r1 5) = 1 then (if kH h (rH h r0 5) = 1 then (if ¬ (i20 r0 2) < 0 then (if 0 + (i20 r0 2).toNatClampNeg ≤ lH h (rH h r1 5) then (if 0 + (i20 r0 2).toNatClampNeg ≤ lH h (rH h r0 5) then (if kH h (rH h r1 6) = 2 then (if kH h (rH h r0 6) = 2 then (if ¬ (((cpI i20 (rH h r1 5) (rH h r0 5) 0 0 (i20 r0 2).toNatClampNeg) r0 2) * 16) < 0 then (if 0 + (((cpI i20 (rH h r1 5) (rH h r0 5) 0 0 (i20 r0 2).toNatClampNeg) r0 2) * 16).toNatClampNeg ≤ lH h (rH h r1 6) then (if 0 + (((cpI i20 (rH h r1 5) (rH h r0 5) 0 0 (i20 r0 2).toNatClampNeg) r0 2) * 16).toNatClampNeg ≤ lH h (rH h r0 6) then (letH (cpI (cpI i20 (rH h r1 5) (rH h r0 5) 0 0 (i20 r0 2).toNatClampNeg) (rH h r1 6) (rH h r0 6) 0 0 (((cpI i20 (rH h r1 5) (rH h r0 5) 0 0 (i20 r0 2).toNatClampNeg) r0 2) * 16).toNatClampNeg) fun (i32 : Nat → Nat → Int32) => (if kH h (rH h r1 7) = 1 then (if kH h (rH h r0 7) = 1 then (if ¬ ((i32 r0 2) * 4) < 0 then (if 0 + ((i32 r0 2) * 4).toNatClampNeg ≤ lH h (rH h r1 7) then (if 0 + ((i32 r0 2) * 4).toNatClampNeg ≤ lH h (rH h r0 7) then (if kH h (rH h r1 8) = 1 then (if kH h (rH h r0 8) = 1 then (if ¬ ((cpI i32 (rH h r1 7) (rH h r0 7) 0 0 ((i32 r0 2) * 4).toNatClampNeg) r0 2) < 0 then (if 0 + ((cpI i32 (rH h r1 7) (rH h r0 7) 0 0 ((i32 r0 2) * 4).toNatClampNeg) r0 2).toNatClampNeg ≤ lH h (rH h r1 8) then (if 0 + ((cpI i32 (rH h r1 7) (rH h r0 7) 0 0 ((i32 r0 2) * 4).toNatClampNeg) r0 2).toNatClampNeg ≤ lH h (rH h r0 8) then (letH (cpI (cpI i32 (rH h r1 7) (rH h r0 7) 0 0 ((i32 r0 2) * 4).toNatClampNeg) (rH h r1 8) (rH h r0 8) 0 0 ((cpI i32 (rH h r1 7) (rH h r0 7) 0 0 ((i32 r0 2) * 4).toNatClampNeg) r0 2).toNatClampNeg) fun (i44 : Nat → Nat → Int32) => (if kH h (rH h r1 10) = 1 then (if kH h (rH h r0 10) = 1 then (if ¬ ((upI i44 r0 9 (i44 r1 9)) r0 9) < 0 then (if 0 + ((upI i44 r0 9 (i44 r1 9)) r0 9).toNatClampNeg ≤ lH h (rH h r1 10) then (if 0 + ((upI i44 r0 9 (i44 r1 9)) r0 9).toNatClampNeg ≤ lH h (rH h r0 10) then (if kH h (rH h r1 11) = 1 then (if kH h (rH h r0 11) = 1 then (if ¬ ((cpI (upI i44 r0 9 (i44 r1 9)) (rH h r1 10) (rH h r0 10) 0 0 ((upI i44 r0 9 (i44 r1 9)) r0 9).toNatClampNeg) r0 9) < 0 then (if 0 + ((cpI (upI i44 r0 9 (i44 r1 9)) (rH h r1 10) (rH h r0 10) 0 0 ((upI i44 r0 9 (i44 r1 9)) r0 9).toNatClampNeg) r0 9).toNatClampNeg ≤ lH h (rH h r1 11) then (if 0 + ((cpI (upI i44 r0 9 (i44 r1 9)) (rH h r1 10) (rH h r0 10) 0 0 ((upI i44 r0 9 (i44 r1 9)) r0 9).toNatClampNeg) r0 9).toNatClampNeg ≤ lH h (rH h r0 11) then (letH (cpI (cpI (upI i44 r0 9 (i44 r1 9)) (rH h r1 10) (rH h r0 10) 0 0 ((upI i44 r0 9 (i44 r1 9)) r0 9).toNatClampNeg) (rH h r1 11) (rH h r0 11) 0 0 ((cpI (upI i44 r0 9 (i44 r1 9)) (rH h r1 10) (rH h r0 10) 0 0 ((upI i44 r0 9 (i44 r1 9)) r0 9).toNatClampNeg) r0 9).toNatClampNeg) fun (i56 : Nat → Nat → Int32) => (letH (upI (upI (upI i56 r0 12 (i56 r1 12)) r0 13 ((upI i56 r0 12 (i56 r1 12)) r1 13)) r0 14 ((upI (upI i56 r0 12 (i56 r1 12)) r0 13 ((upI i56 r0 12 (i56 r1 12)) r1 13)) r1 14)) fun (i58 : Nat → Nat → Int32) => (some (.inl none, (h.1, (upI i58 r0 15 (i58 r1 15))))))) else none) else none) else none) else none) else none) else none) else none) else none) else none) else none)) else none) else none) else none) else none) else none) else none) else none) else none) else none) else none)) else none) else none) else none) else none) else none) else none) else none) else none) else none) else none)) else none) else none) else none) else none) else none) else none) else none) else none) else none) else none)) else none) else none) else none) else none) else none) else none) else none)
theorem uX5_copyFrom_0 {G : GG} {d : Nat} (hd : 1 ≤ d)   {r0  r1 } {h : Hp} {o : OU} {h' : Hp} (e : kX5_copyFrom_0  r0 r1 h = some (o, h')) : VM G mX5_copyFrom d [.ref r0, .ref r1] h o h' := by
  unfold kX5_copyFrom_0 at e
  refine eX5_copyFrom r0 r1 (by omega) ?_
  obtain ⟨q1, e⟩ := ob_e e
  refine ⟨q1, ?_⟩
  obtain ⟨q2, e⟩ := ob_e e
  refine ⟨q2, ?_⟩
  obtain ⟨q3, e⟩ := ob_e e
  refine ⟨q3, ?_⟩
  obtain ⟨q4, e⟩ := ob_e e
  refine ⟨q4, ?_⟩
  obtain ⟨q5, e⟩ := ob_e e
  refine ⟨q5, ?_⟩
  obtain ⟨q6, e⟩ := ob_e e
  refine ⟨q6, ?_⟩
  obtain ⟨q7, e⟩ := ob_e e
  refine ⟨q7, ?_⟩
  intro i8 evi8
  have e := lt_e evi8 e
  obtain ⟨q8, e⟩ := ob_e e
  refine ⟨q8, ?_⟩
  obtain ⟨q9, e⟩ := ob_e e
  refine ⟨q9, ?_⟩
  obtain ⟨q10, e⟩ := ob_e e
  refine ⟨q10, ?_⟩
  obtain ⟨q11, e⟩ := ob_e e
  refine ⟨q11, ?_⟩
  obtain ⟨q12, e⟩ := ob_e e
  refine ⟨q12, ?_⟩
  obtain ⟨q13, e⟩ := ob_e e
  refine ⟨q13, ?_⟩
  obtain ⟨q14, e⟩ := ob_e e
  refine ⟨q14, ?_⟩
  obtain ⟨q15, e⟩ := ob_e e
  refine ⟨q15, ?_⟩
  obtain ⟨q16, e⟩ := ob_e e
  refine ⟨q16, ?_⟩
  obtain ⟨q17, e⟩ := ob_e e
  refine ⟨q17, ?_⟩
  intro i20 evi20
  have e := lt_e evi20 e
  obtain ⟨q18, e⟩ := ob_e e
  refine ⟨q18, ?_⟩
  obtain ⟨q19, e⟩ := ob_e e
  refine ⟨q19, ?_⟩
  obtain ⟨q20, e⟩ := ob_e e
  refine ⟨q20, ?_⟩
  obtain ⟨q21, e⟩ := ob_e e
  refine ⟨q21, ?_⟩
  obtain ⟨q22, e⟩ := ob_e e
  refine ⟨q22, ?_⟩
  obtain ⟨q23, e⟩ := ob_e e
  refine ⟨q23, ?_⟩
  obtain ⟨q24, e⟩ := ob_e e
  refine ⟨q24, ?_⟩
  obtain ⟨q25, e⟩ := ob_e e
  refine ⟨q25, ?_⟩
  obtain ⟨q26, e⟩ := ob_e e
  refine ⟨q26, ?_⟩
  obtain ⟨q27, e⟩ := ob_e e
  refine ⟨q27, ?_⟩
  intro i32 evi32
  have e := lt_e evi32 e
  obtain ⟨q28, e⟩ := ob_e e
  refine ⟨q28, ?_⟩
  obtain ⟨q29, e⟩ := ob_e e
  refine ⟨q29, ?_⟩
  obtain ⟨q30, e⟩ := ob_e e
  refine ⟨q30, ?_⟩
  obtain ⟨q31, e⟩ := ob_e e
  refine ⟨q31, ?_⟩
  obtain ⟨q32, e⟩ := ob_e e
  refine ⟨q32, ?_⟩
  obtain ⟨q33, e⟩ := ob_e e
  refine ⟨q33, ?_⟩
  obtain ⟨q34, e⟩ := ob_e e
  refine ⟨q34, ?_⟩
  obtain ⟨q35, e⟩ := ob_e e
  refine ⟨q35, ?_⟩
  obtain ⟨q36, e⟩ := ob_e e
  refine ⟨q36, ?_⟩
  obtain ⟨q37, e⟩ := ob_e e
  refine ⟨q37, ?_⟩
  intro i44 evi44
  have e := lt_e evi44 e
  obtain ⟨q38, e⟩ := ob_e e
  refine ⟨q38, ?_⟩
  obtain ⟨q39, e⟩ := ob_e e
  refine ⟨q39, ?_⟩
  obtain ⟨q40, e⟩ := ob_e e
  refine ⟨q40, ?_⟩
  obtain ⟨q41, e⟩ := ob_e e
  refine ⟨q41, ?_⟩
  obtain ⟨q42, e⟩ := ob_e e
  refine ⟨q42, ?_⟩
  obtain ⟨q43, e⟩ := ob_e e
  refine ⟨q43, ?_⟩
  obtain ⟨q44, e⟩ := ob_e e
  refine ⟨q44, ?_⟩
  obtain ⟨q45, e⟩ := ob_e e
  refine ⟨q45, ?_⟩
  obtain ⟨q46, e⟩ := ob_e e
  refine ⟨q46, ?_⟩
  obtain ⟨q47, e⟩ := ob_e e
  refine ⟨q47, ?_⟩
  intro i56 evi56
  have e := lt_e evi56 e
  intro i58 evi58
  have e := lt_e evi58 e
  cases e
  exact ⟨rfl, rfl⟩
def fX5_copyFrom (r0 : Nat) (r1 : Nat) (h : Hp) : RS := kX5_copyFrom_0 r0 r1 h
theorem tX5_copyFrom {G : GG} {d : Nat} {r0 r1} {h : Hp} {o : OU} {h' : Hp} (e : fX5_copyFrom r0 r1 h = some (o, h')) (hd : 1 ≤ d) : VM G mX5_copyFrom d [.ref r0, .ref r1] h o h' := uX5_copyFrom_0 hd e
def kX5_allOnDisk_0  (r0 : Nat) (h : Hp) : RS := (if kH h r0 = 15 then (if kH h (rH h r0 1) = 2 then (if 0 + 256 ≤ lH h (rH h r0 1) then (if 256 + 256 ≤ lH h (rH h r0 1) then (some (.inl none, (h.1, (upI (upI (cpI h.2 (rH h r0 1) (rH h r0 1) 0 256 256) r0 2 0) r0 9 0)))) else none) else none) else none) else none)
theorem uX5_allOnDisk_0 {G : GG} {d : Nat} (hd : 1 ≤ d)   {r0 } {h : Hp} {o : OU} {h' : Hp} (e : kX5_allOnDisk_0  r0 h = some (o, h')) : VM G mX5_allOnDisk d [.ref r0] h o h' := by
  unfold kX5_allOnDisk_0 at e
  refine eX5_allOnDisk r0 (by omega) ?_
  obtain ⟨q1, e⟩ := ob_e e
  refine ⟨q1, ?_⟩
  obtain ⟨q2, e⟩ := ob_e e
  refine ⟨q2, ?_⟩
  obtain ⟨q3, e⟩ := ob_e e
  refine ⟨q3, ?_⟩
  obtain ⟨q4, e⟩ := ob_e e
  refine ⟨q4, ?_⟩
  cases e
  exact ⟨rfl, rfl⟩
def fX5_allOnDisk (r0 : Nat) (h : Hp) : RS := kX5_allOnDisk_0 r0 h
theorem tX5_allOnDisk {G : GG} {d : Nat} {r0} {h : Hp} {o : OU} {h' : Hp} (e : fX5_allOnDisk r0 h = some (o, h')) (hd : 1 ≤ d) : VM G mX5_allOnDisk d [.ref r0] h o h' := uX5_allOnDisk_0 hd e
def kX5_forgetCounts_0  (r0 : Nat) (h : Hp) : RS := (if kH h r0 = 15 then (some (.inl none, (h.1, (upI (upI (upI (upI h.2 r0 12 0) r0 13 0) r0 14 0) r0 15 0)))) else none)
theorem uX5_forgetCounts_0 {G : GG} {d : Nat} (hd : 1 ≤ d)   {r0 } {h : Hp} {o : OU} {h' : Hp} (e : kX5_forgetCounts_0  r0 h = some (o, h')) : VM G mX5_forgetCounts d [.ref r0] h o h' := by
  unfold kX5_forgetCounts_0 at e
  refine eX5_forgetCounts r0 ?_
  obtain ⟨q1, e⟩ := ob_e e
  refine ⟨q1, ?_⟩
  cases e
  exact ⟨rfl, rfl⟩
def fX5_forgetCounts (r0 : Nat) (h : Hp) : RS := kX5_forgetCounts_0 r0 h
theorem tX5_forgetCounts {G : GG} {d : Nat} {r0} {h : Hp} {o : OU} {h' : Hp} (e : fX5_forgetCounts r0 h = some (o, h')) (hd : 1 ≤ d) : VM G mX5_forgetCounts d [.ref r0] h o h' := uX5_forgetCounts_0 hd e
def kX5_begin_0 (rec : Nat → List Value → List Value → Hp → RS)  (r0 : Nat) (x1 : Int32) (h : Hp) : RS := (if kH h r0 = 15 then (rec 7 [.ref r0, uV, .int 0] [] (h.1, (upI h.2 r0 0 x1))) else none)
theorem uX5_begin_0 {G : GG} {d : Nat} (hd : 2 ≤ d) (rec : Nat → List Value → List Value → Hp → RS) (hrec : ∀ pc loc st h o h', rec pc loc st h = some (o, h') → V G mX5_begin d pc loc st h o h')   {r0  x1 } {h : Hp} {o : OU} {h' : Hp} (e : kX5_begin_0 rec  r0 x1 h = some (o, h')) : VM G mX5_begin d [.ref r0, .int x1] h o h' := by
  unfold kX5_begin_0 at e
  refine eX5_begin r0 x1 ?_
  obtain ⟨q1, e⟩ := ob_e e
  refine ⟨q1, ?_⟩
  exact hrec _ _ _ _ _ _ e
def kX5_begin_7 (rec : Nat → List Value → List Value → Hp → RS)  (r0 : Nat) (x2 : Int32) (h : Hp) : RS := (if kH h r0 = 15 then (if kH h (rH h r0 1) = 2 then (if ((lH h (rH h r0 1)).toInt32) ≤ x2 then (rec 31 [.ref r0, uV, .int 0] [] h) else (if inB x2 (lH h (rH h r0 1)) = true then (rec 7 [.ref r0, uV, .int (x2 + 1)] [] (h.1, (upI h.2 (rH h r0 1) x2.toNatClampNeg ((0 : Int32).toInt8.toInt32)))) else none)) else none) else none)
theorem uX5_begin_7 {G : GG} {d : Nat} (hd : 2 ≤ d) (rec : Nat → List Value → List Value → Hp → RS) (hrec : ∀ pc loc st h o h', rec pc loc st h = some (o, h') → V G mX5_begin d pc loc st h o h')   {r0  x2 } {h : Hp} {o : OU} {h' : Hp} (e : kX5_begin_7 rec  r0 x2 h = some (o, h')) : V G mX5_begin d 7 [.ref r0, uV, .int x2] [] h o h' := by
  unfold kX5_begin_7 at e
  refine bX5_begin_7 r0 x2 ?_
  obtain ⟨q1, e⟩ := ob_e e
  refine ⟨q1, ?_⟩
  obtain ⟨q2, e⟩ := ob_e e
  refine ⟨q2, ?_⟩
  refine ⟨fun c3 => ?_, fun c3 => ?_⟩
  · have e := if_t e c3
    exact hrec _ _ _ _ _ _ e
  · have e := if_f e c3
    obtain ⟨q4, e⟩ := ob_in e
    refine ⟨q4, ?_⟩
    exact hrec _ _ _ _ _ _ e
def kX5_begin_31 (rec : Nat → List Value → List Value → Hp → RS)  (r0 : Nat) (x2 : Int32) (h : Hp) : RS := (if 4 < x2 then (if kH h r0 = 15 then (if kH h (rH h r0 1) = 2 then (if inB 16 (lH h (rH h r0 1)) = true then (if inB 17 (lH h (rH h r0 1)) = true then (if inB 18 (lH h (rH h r0 1)) = true then (letH (upI (upI (upI h.2 (rH h r0 1) 16 ((1 : Int32).toInt8.toInt32)) (rH h r0 1) 17 ((2 : Int32).toInt8.toInt32)) (rH h r0 1) 18 ((4 : Int32).toInt8.toInt32)) fun (i7 : Nat → Nat → Int32) => (bV (fX5_allOnDisk r0 (h.1, i7)) fun h9 => (if kH h9 r0 = 15 then (bV (fX5_forgetCounts r0 h9) fun h11 => (some (.inl none, h11))) else none))) else none) else none) else none) else none) else none) else (if kH h r0 = 15 then (if kH h (rH h r0 1) = 2 then (if inB x2 (lH h (rH h r0 1)) = true then (rec 31 [.ref r0, uV, .int (x2 + 1)] [] (h.1, (upI h.2 (rH h r0 1) x2.toNatClampNeg ((1 : Int32).toInt8.toInt32)))) else none) else none) else none))
theorem uX5_begin_31 {G : GG} {d : Nat} (hd : 2 ≤ d) (rec : Nat → List Value → List Value → Hp → RS) (hrec : ∀ pc loc st h o h', rec pc loc st h = some (o, h') → V G mX5_begin d pc loc st h o h')   {r0  x2 } {h : Hp} {o : OU} {h' : Hp} (e : kX5_begin_31 rec  r0 x2 h = some (o, h')) : V G mX5_begin d 31 [.ref r0, uV, .int x2] [] h o h' := by
  unfold kX5_begin_31 at e
  refine bX5_begin_31 r0 x2 (by omega) ?_
  refine ⟨fun c1 => ?_, fun c1 => ?_⟩
  · have e := if_t e c1
    obtain ⟨q2, e⟩ := ob_e e
    refine ⟨q2, ?_⟩
    obtain ⟨q3, e⟩ := ob_e e
    refine ⟨q3, ?_⟩
    obtain ⟨q4, e⟩ := ob_in e
    refine ⟨q4, ?_⟩
    obtain ⟨q5, e⟩ := ob_in e
    refine ⟨q5, ?_⟩
    obtain ⟨q6, e⟩ := ob_in e
    refine ⟨q6, ?_⟩
    intro i7 evi7
    have e := lt_e evi7 e
    obtain ⟨h9, e7, e⟩ := bV_e e
    refine ⟨h9, (tX5_allOnDisk e7 (by omega)), ?_⟩
    obtain ⟨q8, e⟩ := ob_e e
    refine ⟨q8, ?_⟩
    obtain ⟨h11, e9, e⟩ := bV_e e
    refine ⟨h11, (tX5_forgetCounts e9 (by omega)), ?_⟩
    cases e
    exact ⟨rfl, rfl⟩
  · have e := if_f e c1
    obtain ⟨q10, e⟩ := ob_e e
    refine ⟨q10, ?_⟩
    obtain ⟨q11, e⟩ := ob_e e
    refine ⟨q11, ?_⟩
    obtain ⟨q12, e⟩ := ob_in e
    refine ⟨q12, ?_⟩
    exact hrec _ _ _ _ _ _ e
def sX5_begin  (rec : Nat → List Value → List Value → Hp → RS) (pc : Nat) (loc st : List Value) (h : Hp) : RS := match pc, loc, st with
  | 7, [.ref r0, _, .int x2], [] => kX5_begin_7 rec  r0 x2 h
  | 31, [.ref r0, _, .int x2], [] => kX5_begin_31 rec  r0 x2 h
  | _, _, _ => none
def gX5_begin  : Nat → Nat → List Value → List Value → Hp → RS
  | 0 => fun _ _ _ _ => none
  | n + 1 => sX5_begin  (gX5_begin  n)
theorem wX5_begin {G : GG} {d : Nat} (hd : 2 ≤ d)   : ∀ (n pc : Nat) (loc st : List Value) (h : Hp) (o : OU) (h' : Hp), gX5_begin  n pc loc st h = some (o, h') → V G mX5_begin d pc loc st h o h' := by
  intro n
  induction n with
  | zero => intro pc loc st h o h' e; cases e
  | succ n ih =>
    intro pc loc st h o h' e
    unfold gX5_begin sX5_begin at e
    split at e
    · exact V.drop (llp_r (llp_u (llp_r llp_nil))) (uX5_begin_7 hd _ ih   e)
    · exact V.drop (llp_r (llp_u (llp_r llp_nil))) (uX5_begin_31 hd _ ih   e)
    · cases e
theorem zX5_begin_7  (n : Nat) (r0 : Nat) (x2 : Int32) (y1 : Value) (h : Hp) : gX5_begin  (n + 1) 7 [.ref r0, y1, .int x2] [] h = kX5_begin_7 (gX5_begin  n)  r0 x2 h := rfl
theorem zX5_begin_31  (n : Nat) (r0 : Nat) (x2 : Int32) (y1 : Value) (h : Hp) : gX5_begin  (n + 1) 31 [.ref r0, y1, .int x2] [] h = kX5_begin_31 (gX5_begin  n)  r0 x2 h := rfl
def fX5_begin (r0 : Nat) (x1 : Int32) (h : Hp) : RS := kX5_begin_0 (gX5_begin FF) r0 x1 h
theorem tX5_begin {G : GG} {d : Nat} {r0 x1} {h : Hp} {o : OU} {h' : Hp} (e : fX5_begin r0 x1 h = some (o, h')) (hd : 2 ≤ d) : VM G mX5_begin d [.ref r0, .int x1] h o h' := uX5_begin_0 hd _ (wX5_begin hd FF) e
def kX5_init_0  (r0 : Nat) (h : Hp) : RS := (if r0 ≠ 0 then (letH (nwH h 2 512 512) fun (h2 : Hp) => (if kH h2 r0 = 15 then (letH (sR h2 r0 1 (nH h)) fun (h5 : Hp) => (letH (nwH h5 1 256 256) fun (h7 : Hp) => (if kH h7 r0 = 15 then (letH (sR h7 r0 3 (nH h5)) fun (h10 : Hp) => (letH (nwH h10 1 256 256) fun (h12 : Hp) => (if kH h12 r0 = 15 then (letH (sR h12 r0 4 (nH h10)) fun (h15 : Hp) => (letH (nwH h15 1 256 256) fun (h17 : Hp) => (if kH h17 r0 = 15 then (letH (sR h17 r0 5 (nH h15)) fun (h20 : Hp) => (letH (nwH h20 2 4096 4096) fun (h22 : Hp) => (if kH h22 r0 = 15 then (letH (sR h22 r0 6 (nH h20)) fun (h25 : Hp) => (letH (nwH h25 1 1024 1024) fun (h27 : Hp) => (if kH h27 r0 = 15 then (letH (sR h27 r0 7 (nH h25)) fun (h30 : Hp) => (letH (nwH h30 1 256 256) fun (h32 : Hp) => (if kH h32 r0 = 15 then (letH (sR h32 r0 8 (nH h30)) fun (h35 : Hp) => (letH (nwH h35 1 64 64) fun (h37 : Hp) => (if kH h37 r0 = 15 then (letH (sR h37 r0 10 (nH h35)) fun (h40 : Hp) => (letH (nwH h40 1 64 64) fun (h42 : Hp) => (if kH h42 r0 = 15 then (letH (sR h42 r0 11 (nH h40)) fun (h45 : Hp) => (if kH h45 r0 = 15 then (bV (fX5_begin r0 16 h45) fun h47 => (some (.inl none, h47))) else none)) else none))) else none))) else none))) else none))) else none))) else none))) else none))) else none))) else none)) else none)
theorem uX5_init_0 {G : GG} {d : Nat} (hd : 3 ≤ d)   {r0 } {h : Hp} {o : OU} {h' : Hp} (e : kX5_init_0  r0 h = some (o, h')) : VM G mX5_init d [.ref r0] h o h' := by
  unfold kX5_init_0 at e
  refine eX5_init r0 (by omega) ?_
  obtain ⟨q1, e⟩ := ob_e e
  refine ⟨q1, ?_⟩
  intro h2 evh2
  have e := lt_e evh2 e
  obtain ⟨q2, e⟩ := ob_e e
  refine ⟨q2, ?_⟩
  intro h5 evh5
  have e := lt_e evh5 e
  intro h7 evh7
  have e := lt_e evh7 e
  obtain ⟨q3, e⟩ := ob_e e
  refine ⟨q3, ?_⟩
  intro h10 evh10
  have e := lt_e evh10 e
  intro h12 evh12
  have e := lt_e evh12 e
  obtain ⟨q4, e⟩ := ob_e e
  refine ⟨q4, ?_⟩
  intro h15 evh15
  have e := lt_e evh15 e
  intro h17 evh17
  have e := lt_e evh17 e
  obtain ⟨q5, e⟩ := ob_e e
  refine ⟨q5, ?_⟩
  intro h20 evh20
  have e := lt_e evh20 e
  intro h22 evh22
  have e := lt_e evh22 e
  obtain ⟨q6, e⟩ := ob_e e
  refine ⟨q6, ?_⟩
  intro h25 evh25
  have e := lt_e evh25 e
  intro h27 evh27
  have e := lt_e evh27 e
  obtain ⟨q7, e⟩ := ob_e e
  refine ⟨q7, ?_⟩
  intro h30 evh30
  have e := lt_e evh30 e
  intro h32 evh32
  have e := lt_e evh32 e
  obtain ⟨q8, e⟩ := ob_e e
  refine ⟨q8, ?_⟩
  intro h35 evh35
  have e := lt_e evh35 e
  intro h37 evh37
  have e := lt_e evh37 e
  obtain ⟨q9, e⟩ := ob_e e
  refine ⟨q9, ?_⟩
  intro h40 evh40
  have e := lt_e evh40 e
  intro h42 evh42
  have e := lt_e evh42 e
  obtain ⟨q10, e⟩ := ob_e e
  refine ⟨q10, ?_⟩
  intro h45 evh45
  have e := lt_e evh45 e
  obtain ⟨q11, e⟩ := ob_e e
  refine ⟨q11, ?_⟩
  obtain ⟨h47, e12, e⟩ := bV_e e
  refine ⟨h47, (tX5_begin e12 (by omega)), ?_⟩
  cases e
  exact ⟨rfl, rfl⟩
def fX5_init (r0 : Nat) (h : Hp) : RS := kX5_init_0 r0 h
theorem tX5_init {G : GG} {d : Nat} {r0} {h : Hp} {o : OU} {h' : Hp} (e : fX5_init r0 h = some (o, h')) (hd : 3 ≤ d) : VM G mX5_init d [.ref r0] h o h' := uX5_init_0 hd e
def kX0_keep_0  (r0 : Nat) (x1 : Int32) (r2 : Nat) (h : Hp) : RS := (if kH h r0 = 10 then (if kH h (rH h r0 0) = 5 then (if inB x1 (lH h (rH h r0 0)) = true then (if ¬ (rH h (rH h r0 0) x1.toNatClampNeg) = 0 then (if kH h (rH h (rH h r0 0) x1.toNatClampNeg) = 15 then (bV (fX5_copyFrom (rH h (rH h r0 0) x1.toNatClampNeg) r2 h) fun h5 => (some (.inl none, h5))) else none) else (letH (nwH h 15 0 16) fun (h8 : Hp) => (if (nH h) ≠ 0 then (bV (fX5_init (nH h) h8) fun h10 => (if kH h10 (rH h r0 0) = 5 then (if kH h10 (nH h) = 15 then (if inB x1 (lH h10 (rH h r0 0)) = true then (letH (sR h10 (rH h r0 0) x1.toNatClampNeg (nH h)) fun (h16 : Hp) => (if kH h16 r0 = 10 then (if kH h16 (rH h16 r0 0) = 5 then (if inB x1 (lH h16 (rH h16 r0 0)) = true then (if kH h16 (rH h16 (rH h16 r0 0) x1.toNatClampNeg) = 15 then (bV (fX5_copyFrom (rH h16 (rH h16 r0 0) x1.toNatClampNeg) r2 h16) fun h21 => (some (.inl none, h21))) else none) else none) else none) else none)) else none) else none) else none)) else none))) else none) else none) else none)
theorem uX0_keep_0 {G : GG} {d : Nat} (hd : 4 ≤ d)   {r0  x1  r2 } {h : Hp} {o : OU} {h' : Hp} (e : kX0_keep_0  r0 x1 r2 h = some (o, h')) : VM G mX0_keep d [.ref r0, .int x1, .ref r2] h o h' := by
  unfold kX0_keep_0 at e
  refine eX0_keep r0 x1 r2 (by omega) ?_
  obtain ⟨q1, e⟩ := ob_e e
  refine ⟨q1, ?_⟩
  obtain ⟨q2, e⟩ := ob_e e
  refine ⟨q2, ?_⟩
  obtain ⟨q3, e⟩ := ob_in e
  refine ⟨q3, ?_⟩
  refine ⟨fun c4 => ?_, fun c4 => ?_⟩
  · have e := if_t e c4
    obtain ⟨q5, e⟩ := ob_e e
    refine ⟨q5, ?_⟩
    obtain ⟨h5, e6, e⟩ := bV_e e
    refine ⟨h5, (tX5_copyFrom e6 (by omega)), ?_⟩
    cases e
    exact ⟨rfl, rfl⟩
  · have e := if_n e c4
    intro h8 evh8
    have e := lt_e evh8 e
    obtain ⟨q7, e⟩ := ob_e e
    refine ⟨q7, ?_⟩
    obtain ⟨h10, e8, e⟩ := bV_e e
    refine ⟨h10, (tX5_init e8 (by omega)), ?_⟩
    obtain ⟨q9, e⟩ := ob_e e
    refine ⟨q9, ?_⟩
    obtain ⟨q10, e⟩ := ob_e e
    refine ⟨q10, ?_⟩
    obtain ⟨q11, e⟩ := ob_in e
    refine ⟨q11, ?_⟩
    intro h16 evh16
    have e := lt_e evh16 e
    obtain ⟨q12, e⟩ := ob_e e
    refine ⟨q12, ?_⟩
    obtain ⟨q13, e⟩ := ob_e e
    refine ⟨q13, ?_⟩
    obtain ⟨q14, e⟩ := ob_in e
    refine ⟨q14, ?_⟩
    obtain ⟨q15, e⟩ := ob_e e
    refine ⟨q15, ?_⟩
    obtain ⟨h21, e16, e⟩ := bV_e e
    refine ⟨h21, (tX5_copyFrom e16 (by omega)), ?_⟩
    cases e
    exact ⟨rfl, rfl⟩
def fX0_keep (r0 : Nat) (x1 : Int32) (r2 : Nat) (h : Hp) : RS := kX0_keep_0 r0 x1 r2 h
theorem tX0_keep {G : GG} {d : Nat} {r0 x1 r2} {h : Hp} {o : OU} {h' : Hp} (e : fX0_keep r0 x1 r2 h = some (o, h')) (hd : 4 ≤ d) : VM G mX0_keep d [.ref r0, .int x1, .ref r2] h o h' := uX0_keep_0 hd e
def kX0_push_0  (r0 : Nat) (r1 : Nat) (h : Hp) : RS := (if kH h r0 = 10 then (if 16 ≤ (h.2 r0 1) then (some (.inl none, h)) else (bV (fX0_keep r0 (h.2 r0 1) r1 h) fun h3 => (if kH h3 r0 = 10 then (some (.inl none, (h3.1, (upI h3.2 r0 1 ((h3.2 r0 1) + 1))))) else none))) else none)
theorem uX0_push_0 {G : GG} {d : Nat} (hd : 5 ≤ d)   {r0  r1 } {h : Hp} {o : OU} {h' : Hp} (e : kX0_push_0  r0 r1 h = some (o, h')) : VM G mX0_push d [.ref r0, .ref r1] h o h' := by
  unfold kX0_push_0 at e
  refine eX0_push r0 r1 (by omega) ?_
  obtain ⟨q1, e⟩ := ob_e e
  refine ⟨q1, ?_⟩
  refine ⟨fun c2 => ?_, fun c2 => ?_⟩
  · have e := if_t e c2
    cases e
    exact ⟨rfl, rfl⟩
  · have e := if_f e c2
    obtain ⟨h3, e3, e⟩ := bV_e e
    refine ⟨h3, (tX0_keep e3 (by omega)), ?_⟩
    obtain ⟨q4, e⟩ := ob_e e
    refine ⟨q4, ?_⟩
    cases e
    exact ⟨rfl, rfl⟩
def fX0_push (r0 : Nat) (r1 : Nat) (h : Hp) : RS := kX0_push_0 r0 r1 h
theorem tX0_push {G : GG} {d : Nat} {r0 r1} {h : Hp} {o : OU} {h' : Hp} (e : fX0_push r0 r1 h = some (o, h')) (hd : 5 ≤ d) : VM G mX0_push d [.ref r0, .ref r1] h o h' := uX0_push_0 hd e
def kX0_pop_0  (r0 : Nat) (r1 : Nat) (h : Hp) : RS := (if kH h r0 = 10 then (if (h.2 r0 1) ≤ 0 then (some (.inl none, h)) else (if kH h (rH h r0 0) = 5 then (if inB ((h.2 r0 1) - 1) (lH h (rH h r0 0)) = true then (if (rH h (rH h r0 0) ((h.2 r0 1) - 1).toNatClampNeg) = 0 then (some (.inl none, h)) else (if inB ((upI h.2 r0 1 ((h.2 r0 1) - 1)) r0 1) (lH h (rH h r0 0)) = true then (if kH h r1 = 15 then (bV (fX5_copyFrom r1 (rH h (rH h r0 0) ((upI h.2 r0 1 ((h.2 r0 1) - 1)) r0 1).toNatClampNeg) (h.1, (upI h.2 r0 1 ((h.2 r0 1) - 1)))) fun h7 => (some (.inl none, h7))) else none) else none)) else none) else none)) else none)
theorem uX0_pop_0 {G : GG} {d : Nat} (hd : 2 ≤ d)   {r0  r1 } {h : Hp} {o : OU} {h' : Hp} (e : kX0_pop_0  r0 r1 h = some (o, h')) : VM G mX0_pop d [.ref r0, .ref r1] h o h' := by
  unfold kX0_pop_0 at e
  refine eX0_pop r0 r1 (by omega) ?_
  obtain ⟨q1, e⟩ := ob_e e
  refine ⟨q1, ?_⟩
  refine ⟨fun c2 => ?_, fun c2 => ?_⟩
  · have e := if_t e c2
    cases e
    exact ⟨rfl, rfl⟩
  · have e := if_f e c2
    obtain ⟨q3, e⟩ := ob_e e
    refine ⟨q3, ?_⟩
    obtain ⟨q4, e⟩ := ob_in e
    refine ⟨q4, ?_⟩
    refine ⟨fun c5 => ?_, fun c5 => ?_⟩
    · have e := if_t e c5
      cases e
      exact ⟨rfl, rfl⟩
    · have e := if_f e c5
      obtain ⟨q6, e⟩ := ob_in e
      refine ⟨q6, ?_⟩
      obtain ⟨q7, e⟩ := ob_e e
      refine ⟨q7, ?_⟩
      obtain ⟨h7, e8, e⟩ := bV_e e
      refine ⟨h7, (tX5_copyFrom e8 (by omega)), ?_⟩
      cases e
      exact ⟨rfl, rfl⟩
def fX0_pop (r0 : Nat) (r1 : Nat) (h : Hp) : RS := kX0_pop_0 r0 r1 h
theorem tX0_pop {G : GG} {d : Nat} {r0 r1} {h : Hp} {o : OU} {h' : Hp} (e : fX0_pop r0 r1 h = some (o, h')) (hd : 2 ≤ d) : VM G mX0_pop d [.ref r0, .ref r1] h o h' := uX0_pop_0 hd e
def kX0_takeOver_0 (rec : Nat → List Value → List Value → Hp → RS)  (r0 : Nat) (r1 : Nat) (h : Hp) : RS := (rec 2 [.ref r0, .ref r1, .int 0] [] h)
theorem uX0_takeOver_0 {G : GG} {d : Nat} (hd : 5 ≤ d) (rec : Nat → List Value → List Value → Hp → RS) (hrec : ∀ pc loc st h o h', rec pc loc st h = some (o, h') → V G mX0_takeOver d pc loc st h o h')   {r0  r1 } {h : Hp} {o : OU} {h' : Hp} (e : kX0_takeOver_0 rec  r0 r1 h = some (o, h')) : VM G mX0_takeOver d [.ref r0, .ref r1] h o h' := by
  unfold kX0_takeOver_0 at e
  refine eX0_takeOver r0 r1 ?_
  exact hrec _ _ _ _ _ _ e
def kX0_takeOver_2 (rec : Nat → List Value → List Value → Hp → RS)  (r0 : Nat) (r1 : Nat) (x2 : Int32) (h : Hp) : RS := (if kH h r1 = 10 then (if (h.2 r1 1) ≤ x2 then (if kH h r0 = 10 then (some (.inl none, (h.1, (upI h.2 r0 1 (h.2 r1 1))))) else none) else (if kH h (rH h r1 0) = 5 then (if inB x2 (lH h (rH h r1 0)) = true then (if (rH h (rH h r1 0) x2.toNatClampNeg) = 0 then (rec 2 [.ref r0, .ref r1, .int (x2 + 1)] [] h) else (if kH h r0 = 10 then (bV (fX0_keep r0 x2 (rH h (rH h r1 0) x2.toNatClampNeg) h) fun h7 => (rec 2 [.ref r0, .ref r1, .int (x2 + 1)] [] h7)) else none)) else none) else none)) else none)
theorem uX0_takeOver_2 {G : GG} {d : Nat} (hd : 5 ≤ d) (rec : Nat → List Value → List Value → Hp → RS) (hrec : ∀ pc loc st h o h', rec pc loc st h = some (o, h') → V G mX0_takeOver d pc loc st h o h')   {r0  r1  x2 } {h : Hp} {o : OU} {h' : Hp} (e : kX0_takeOver_2 rec  r0 r1 x2 h = some (o, h')) : V G mX0_takeOver d 2 [.ref r0, .ref r1, .int x2] [] h o h' := by
  unfold kX0_takeOver_2 at e
  refine bX0_takeOver_2 r0 r1 x2 (by omega) ?_
  obtain ⟨q1, e⟩ := ob_e e
  refine ⟨q1, ?_⟩
  refine ⟨fun c2 => ?_, fun c2 => ?_⟩
  · have e := if_t e c2
    obtain ⟨q3, e⟩ := ob_e e
    refine ⟨q3, ?_⟩
    cases e
    exact ⟨rfl, rfl⟩
  · have e := if_f e c2
    obtain ⟨q4, e⟩ := ob_e e
    refine ⟨q4, ?_⟩
    obtain ⟨q5, e⟩ := ob_in e
    refine ⟨q5, ?_⟩
    refine ⟨fun c6 => ?_, fun c6 => ?_⟩
    · have e := if_t e c6
      exact hrec _ _ _ _ _ _ e
    · have e := if_f e c6
      obtain ⟨q7, e⟩ := ob_e e
      refine ⟨q7, ?_⟩
      obtain ⟨h7, e8, e⟩ := bV_e e
      refine ⟨h7, (tX0_keep e8 (by omega)), ?_⟩
      exact hrec _ _ _ _ _ _ e
def sX0_takeOver  (rec : Nat → List Value → List Value → Hp → RS) (pc : Nat) (loc st : List Value) (h : Hp) : RS := match pc, loc, st with
  | 2, [.ref r0, .ref r1, .int x2], [] => kX0_takeOver_2 rec  r0 r1 x2 h
  | _, _, _ => none
def gX0_takeOver  : Nat → Nat → List Value → List Value → Hp → RS
  | 0 => fun _ _ _ _ => none
  | n + 1 => sX0_takeOver  (gX0_takeOver  n)
theorem wX0_takeOver {G : GG} {d : Nat} (hd : 5 ≤ d)   : ∀ (n pc : Nat) (loc st : List Value) (h : Hp) (o : OU) (h' : Hp), gX0_takeOver  n pc loc st h = some (o, h') → V G mX0_takeOver d pc loc st h o h' := by
  intro n
  induction n with
  | zero => intro pc loc st h o h' e; cases e
  | succ n ih =>
    intro pc loc st h o h' e
    unfold gX0_takeOver sX0_takeOver at e
    split at e
    · exact uX0_takeOver_2 hd _ ih   e
    · cases e
theorem zX0_takeOver_2  (n : Nat) (r0 : Nat) (r1 : Nat) (x2 : Int32)  (h : Hp) : gX0_takeOver  (n + 1) 2 [.ref r0, .ref r1, .int x2] [] h = kX0_takeOver_2 (gX0_takeOver  n)  r0 r1 x2 h := rfl
def fX0_takeOver (r0 : Nat) (r1 : Nat) (h : Hp) : RS := kX0_takeOver_0 (gX0_takeOver FF) r0 r1 h
theorem tX0_takeOver {G : GG} {d : Nat} {r0 r1} {h : Hp} {o : OU} {h' : Hp} (e : fX0_takeOver r0 r1 h = some (o, h')) (hd : 5 ≤ d) : VM G mX0_takeOver d [.ref r0, .ref r1] h o h' := uX0_takeOver_0 hd _ (wX0_takeOver hd FF) e
def kX1_init_0  (r0 : Nat) (h : Hp) : RS := (if r0 ≠ 0 then (letH (nwH h 15 0 16) fun (h2 : Hp) => (if (nH h) ≠ 0 then (bV (fX5_init (nH h) h2) fun h4 => (if kH h4 r0 = 11 then (letH (sR h4 r0 0 (nH h)) fun (h8 : Hp) => (letH (nwH h8 10 0 2) fun (h10 : Hp) => (if (nH h8) ≠ 0 then (bV (fX0_init (nH h8) h10) fun h12 => (if kH h12 r0 = 11 then (letH (sR h12 r0 1 (nH h8)) fun (h16 : Hp) => (some (.inl none, h16))) else none)) else none))) else none)) else none)) else none)
theorem uX1_init_0 {G : GG} {d : Nat} (hd : 4 ≤ d)   {r0 } {h : Hp} {o : OU} {h' : Hp} (e : kX1_init_0  r0 h = some (o, h')) : VM G mX1_init d [.ref r0] h o h' := by
  unfold kX1_init_0 at e
  refine eX1_init r0 (by omega) ?_
  obtain ⟨q1, e⟩ := ob_e e
  refine ⟨q1, ?_⟩
  intro h2 evh2
  have e := lt_e evh2 e
  obtain ⟨q2, e⟩ := ob_e e
  refine ⟨q2, ?_⟩
  obtain ⟨h4, e3, e⟩ := bV_e e
  refine ⟨h4, (tX5_init e3 (by omega)), ?_⟩
  obtain ⟨q4, e⟩ := ob_e e
  refine ⟨q4, ?_⟩
  intro h8 evh8
  have e := lt_e evh8 e
  intro h10 evh10
  have e := lt_e evh10 e
  obtain ⟨q5, e⟩ := ob_e e
  refine ⟨q5, ?_⟩
  obtain ⟨h12, e6, e⟩ := bV_e e
  refine ⟨h12, (tX0_init e6 (by omega)), ?_⟩
  obtain ⟨q7, e⟩ := ob_e e
  refine ⟨q7, ?_⟩
  intro h16 evh16
  have e := lt_e evh16 e
  cases e
  exact ⟨rfl, rfl⟩
def fX1_init (r0 : Nat) (h : Hp) : RS := kX1_init_0 r0 h
theorem tX1_init {G : GG} {d : Nat} {r0} {h : Hp} {o : OU} {h' : Hp} (e : fX1_init r0 h = some (o, h')) (hd : 4 ≤ d) : VM G mX1_init d [.ref r0] h o h' := uX1_init_0 hd e
def kX2_init_0  (r0 : Nat) (h : Hp) : RS := (if r0 ≠ 0 then (letH (nwH h 3 256 256) fun (h2 : Hp) => (if kH h2 r0 = 12 then (letH (sR h2 r0 0 (nH h)) fun (h5 : Hp) => (letH (nwH h5 1 256 256) fun (h7 : Hp) => (if kH h7 r0 = 12 then (letH (sR h7 r0 1 (nH h5)) fun (h10 : Hp) => (letH (nwH h10 2 16 16) fun (h12 : Hp) => (if kH h12 r0 = 12 then (letH (sR h12 r0 2 (nH h10)) fun (h15 : Hp) => (letH (nwH h15 1 64 64) fun (h17 : Hp) => (if kH h17 r0 = 12 then (letH (sR h17 r0 3 (nH h15)) fun (h20 : Hp) => (some (.inl none, h20))) else none))) else none))) else none))) else none)) else none)
theorem uX2_init_0 {G : GG} {d : Nat} (hd : 1 ≤ d)   {r0 } {h : Hp} {o : OU} {h' : Hp} (e : kX2_init_0  r0 h = some (o, h')) : VM G mX2_init d [.ref r0] h o h' := by
  unfold kX2_init_0 at e
  refine eX2_init r0 (by omega) ?_
  obtain ⟨q1, e⟩ := ob_e e
  refine ⟨q1, ?_⟩
  intro h2 evh2
  have e := lt_e evh2 e
  obtain ⟨q2, e⟩ := ob_e e
  refine ⟨q2, ?_⟩
  intro h5 evh5
  have e := lt_e evh5 e
  intro h7 evh7
  have e := lt_e evh7 e
  obtain ⟨q3, e⟩ := ob_e e
  refine ⟨q3, ?_⟩
  intro h10 evh10
  have e := lt_e evh10 e
  intro h12 evh12
  have e := lt_e evh12 e
  obtain ⟨q4, e⟩ := ob_e e
  refine ⟨q4, ?_⟩
  intro h15 evh15
  have e := lt_e evh15 e
  intro h17 evh17
  have e := lt_e evh17 e
  obtain ⟨q5, e⟩ := ob_e e
  refine ⟨q5, ?_⟩
  intro h20 evh20
  have e := lt_e evh20 e
  cases e
  exact ⟨rfl, rfl⟩
def fX2_init (r0 : Nat) (h : Hp) : RS := kX2_init_0 r0 h
theorem tX2_init {G : GG} {d : Nat} {r0} {h : Hp} {o : OU} {h' : Hp} (e : fX2_init r0 h = some (o, h')) (hd : 1 ≤ d) : VM G mX2_init d [.ref r0] h o h' := uX2_init_0 hd e
def kX2_needsGo_0 (rec : Nat → List Value → List Value → Hp → RS)  (r0 : Nat) (r1 : Nat) (x2 : Int32) (h : Hp) : RS := (rec 4 [.ref r0, .ref r1, .int x2, .int (x2 * 4), uV] [] h)
theorem uX2_needsGo_0 {G : GG} {d : Nat} (hd : 1 ≤ d) (rec : Nat → List Value → List Value → Hp → RS) (hrec : ∀ pc loc st h o h', rec pc loc st h = some (o, h') → V G mX2_needsGo d pc loc st h o h')   {r0  r1  x2 } {h : Hp} {o : OU} {h' : Hp} (e : kX2_needsGo_0 rec  r0 r1 x2 h = some (o, h')) : VM G mX2_needsGo d [.ref r0, .ref r1, .int x2] h o h' := by
  unfold kX2_needsGo_0 at e
  refine eX2_needsGo r0 r1 x2 ?_
  exact hrec _ _ _ _ _ _ e
def kX2_needsGo_4 (rec : Nat → List Value → List Value → Hp → RS)  (r0 : Nat) (r1 : Nat) (x2 : Int32) (x3 : Int32) (h : Hp) : RS := (if ((x2 + 1) * 4) ≤ x3 then (rec 47 [.ref r0, .ref r1, .int x2, .int 0, uV] [] h) else (if kH h r1 = 15 then (if kH h (rH h r1 7) = 1 then (if inB x3 (lH h (rH h r1 7)) = true then (if (h.2 (rH h r1 7) x3.toNatClampNeg) = (-1) then (rec 4 [.ref r0, .ref r1, .int x2, .int (x3 + 1), uV] [] h) else (if kH h r0 = 12 then (if kH h (rH h r0 0) = 3 then (if inB (h.2 (rH h r1 7) x3.toNatClampNeg) (lH h (rH h r0 0)) = true then (if ¬ (h.2 (rH h r0 0) (h.2 (rH h r1 7) x3.toNatClampNeg).toNatClampNeg) = 0 then (rec 4 [.ref r0, .ref r1, .int x2, .int (x3 + 1), uV] [] h) else (some (.inl (some (.int 0)), h))) else none) else none) else none)) else none) else none) else none))
theorem uX2_needsGo_4 {G : GG} {d : Nat} (hd : 1 ≤ d) (rec : Nat → List Value → List Value → Hp → RS) (hrec : ∀ pc loc st h o h', rec pc loc st h = some (o, h') → V G mX2_needsGo d pc loc st h o h')   {r0  r1  x2  x3 } {h : Hp} {o : OU} {h' : Hp} (e : kX2_needsGo_4 rec  r0 r1 x2 x3 h = some (o, h')) : V G mX2_needsGo d 4 [.ref r0, .ref r1, .int x2, .int x3, uV] [] h o h' := by
  unfold kX2_needsGo_4 at e
  refine bX2_needsGo_4 r0 r1 x2 x3 ?_
  refine ⟨fun c1 => ?_, fun c1 => ?_⟩
  · have e := if_t e c1
    exact hrec _ _ _ _ _ _ e
  · have e := if_f e c1
    obtain ⟨q2, e⟩ := ob_e e
    refine ⟨q2, ?_⟩
    obtain ⟨q3, e⟩ := ob_e e
    refine ⟨q3, ?_⟩
    obtain ⟨q4, e⟩ := ob_in e
    refine ⟨q4, ?_⟩
    refine ⟨fun c5 => ?_, fun c5 => ?_⟩
    · have e := if_t e c5
      exact hrec _ _ _ _ _ _ e
    · have e := if_f e c5
      obtain ⟨q6, e⟩ := ob_e e
      refine ⟨q6, ?_⟩
      obtain ⟨q7, e⟩ := ob_e e
      refine ⟨q7, ?_⟩
      obtain ⟨q8, e⟩ := ob_in e
      refine ⟨q8, ?_⟩
      refine ⟨fun c9 => ?_, fun c9 => ?_⟩
      · have e := if_t e c9
        exact hrec _ _ _ _ _ _ e
      · have e := if_n e c9
        cases e
        exact ⟨rfl, rfl⟩
def kX2_needsGo_47 (rec : Nat → List Value → List Value → Hp → RS)  (r0 : Nat) (r1 : Nat) (x2 : Int32) (x3 : Int32) (h : Hp) : RS := (if kH h r1 = 15 then (if kH h (rH h r1 8) = 1 then (if inB x2 (lH h (rH h r1 8)) = true then (if (h.2 (rH h r1 8) x2.toNatClampNeg) = (-1) then (some (.inl (some (.int 1)), h)) else (if x2 ≤ x3 then (some (.inl (some (.int 1)), h)) else (if kH h (rH h r1 3) = 1 then (if inB x3 (lH h (rH h r1 3)) = true then (if ¬ (h.2 (rH h r1 3) x3.toNatClampNeg) = (h.2 (rH h r1 8) x2.toNatClampNeg) then (rec 47 [.ref r0, .ref r1, .int x2, .int (x3 + 1), uV] [] h) else (if kH h r0 = 12 then (if kH h (rH h r0 0) = 3 then (if inB x3 (lH h (rH h r0 0)) = true then (if ¬ (h.2 (rH h r0 0) x3.toNatClampNeg) = 0 then (rec 47 [.ref r0, .ref r1, .int x2, .int (x3 + 1), uV] [] h) else (some (.inl (some (.int 0)), h))) else none) else none) else none)) else none) else none))) else none) else none) else none)
theorem uX2_needsGo_47 {G : GG} {d : Nat} (hd : 1 ≤ d) (rec : Nat → List Value → List Value → Hp → RS) (hrec : ∀ pc loc st h o h', rec pc loc st h = some (o, h') → V G mX2_needsGo d pc loc st h o h')   {r0  r1  x2  x3 } {h : Hp} {o : OU} {h' : Hp} (e : kX2_needsGo_47 rec  r0 r1 x2 x3 h = some (o, h')) : V G mX2_needsGo d 47 [.ref r0, .ref r1, .int x2, .int x3, uV] [] h o h' := by
  unfold kX2_needsGo_47 at e
  refine bX2_needsGo_47 r0 r1 x2 x3 ?_
  obtain ⟨q1, e⟩ := ob_e e
  refine ⟨q1, ?_⟩
  obtain ⟨q2, e⟩ := ob_e e
  refine ⟨q2, ?_⟩
  obtain ⟨q3, e⟩ := ob_in e
  refine ⟨q3, ?_⟩
  refine ⟨fun c4 => ?_, fun c4 => ?_⟩
  · have e := if_t e c4
    cases e
    exact ⟨rfl, rfl⟩
  · have e := if_f e c4
    refine ⟨fun c5 => ?_, fun c5 => ?_⟩
    · have e := if_t e c5
      cases e
      exact ⟨rfl, rfl⟩
    · have e := if_f e c5
      obtain ⟨q6, e⟩ := ob_e e
      refine ⟨q6, ?_⟩
      obtain ⟨q7, e⟩ := ob_in e
      refine ⟨q7, ?_⟩
      refine ⟨fun c8 => ?_, fun c8 => ?_⟩
      · have e := if_t e c8
        exact hrec _ _ _ _ _ _ e
      · have e := if_n e c8
        obtain ⟨q9, e⟩ := ob_e e
        refine ⟨q9, ?_⟩
        obtain ⟨q10, e⟩ := ob_e e
        refine ⟨q10, ?_⟩
        obtain ⟨q11, e⟩ := ob_in e
        refine ⟨q11, ?_⟩
        refine ⟨fun c12 => ?_, fun c12 => ?_⟩
        · have e := if_t e c12
          exact hrec _ _ _ _ _ _ e
        · have e := if_n e c12
          cases e
          exact ⟨rfl, rfl⟩
def sX2_needsGo  (rec : Nat → List Value → List Value → Hp → RS) (pc : Nat) (loc st : List Value) (h : Hp) : RS := match pc, loc, st with
  | 4, [.ref r0, .ref r1, .int x2, .int x3, _], [] => kX2_needsGo_4 rec  r0 r1 x2 x3 h
  | 47, [.ref r0, .ref r1, .int x2, .int x3, _], [] => kX2_needsGo_47 rec  r0 r1 x2 x3 h
  | _, _, _ => none
def gX2_needsGo  : Nat → Nat → List Value → List Value → Hp → RS
  | 0 => fun _ _ _ _ => none
  | n + 1 => sX2_needsGo  (gX2_needsGo  n)
theorem wX2_needsGo {G : GG} {d : Nat} (hd : 1 ≤ d)   : ∀ (n pc : Nat) (loc st : List Value) (h : Hp) (o : OU) (h' : Hp), gX2_needsGo  n pc loc st h = some (o, h') → V G mX2_needsGo d pc loc st h o h' := by
  intro n
  induction n with
  | zero => intro pc loc st h o h' e; cases e
  | succ n ih =>
    intro pc loc st h o h' e
    unfold gX2_needsGo sX2_needsGo at e
    split at e
    · exact V.drop (llp_r (llp_r (llp_r (llp_r (llp_u llp_nil))))) (uX2_needsGo_4 hd _ ih   e)
    · exact V.drop (llp_r (llp_r (llp_r (llp_r (llp_u llp_nil))))) (uX2_needsGo_47 hd _ ih   e)
    · cases e
theorem zX2_needsGo_4  (n : Nat) (r0 : Nat) (r1 : Nat) (x2 : Int32) (x3 : Int32) (y4 : Value) (h : Hp) : gX2_needsGo  (n + 1) 4 [.ref r0, .ref r1, .int x2, .int x3, y4] [] h = kX2_needsGo_4 (gX2_needsGo  n)  r0 r1 x2 x3 h := rfl
theorem zX2_needsGo_47  (n : Nat) (r0 : Nat) (r1 : Nat) (x2 : Int32) (x3 : Int32) (y4 : Value) (h : Hp) : gX2_needsGo  (n + 1) 47 [.ref r0, .ref r1, .int x2, .int x3, y4] [] h = kX2_needsGo_47 (gX2_needsGo  n)  r0 r1 x2 x3 h := rfl
def fX2_needsGo (r0 : Nat) (r1 : Nat) (x2 : Int32) (h : Hp) : RS := kX2_needsGo_0 (gX2_needsGo FF) r0 r1 x2 h
theorem tX2_needsGo {G : GG} {d : Nat} {r0 r1 x2} {h : Hp} {o : OU} {h' : Hp} (e : fX2_needsGo r0 r1 x2 h = some (o, h')) (hd : 1 ≤ d) : VM G mX2_needsGo d [.ref r0, .ref r1, .int x2] h o h' := uX2_needsGo_0 hd _ (wX2_needsGo hd FF) e
def kX2_weigh_0 (rec : Nat → List Value → List Value → Hp → RS)  (r0 : Nat) (r1 : Nat) (x2 : Int32) (h : Hp) : RS := (if kH h r0 = 12 then (rec 15 [.ref r0, .ref r1, .int x2, .int 0, .int 0, uV] [] (h.1, (upI (upI h.2 r0 4 0) r0 5 0))) else none)
theorem uX2_weigh_0 {G : GG} {d : Nat} (hd : 2 ≤ d) (rec : Nat → List Value → List Value → Hp → RS) (hrec : ∀ pc loc st h o h', rec pc loc st h = some (o, h') → V G mX2_weigh d pc loc st h o h')   {r0  r1  x2 } {h : Hp} {o : OU} {h' : Hp} (e : kX2_weigh_0 rec  r0 r1 x2 h = some (o, h')) : VM G mX2_weigh d [.ref r0, .ref r1, .int x2] h o h' := by
  unfold kX2_weigh_0 at e
  refine eX2_weigh r0 r1 x2 ?_
  obtain ⟨q1, e⟩ := ob_e e
  refine ⟨q1, ?_⟩
  exact hrec _ _ _ _ _ _ e
def kX2_weigh_15 (rec : Nat → List Value → List Value → Hp → RS)  (r0 : Nat) (r1 : Nat) (x2 : Int32) (x3 : Int32) (x4 : Int32) (h : Hp) : RS := (if kH h r1 = 15 then (if (h.2 r1 2) ≤ x4 then (some (.inl none, h)) else (if kH h r0 = 12 then (if kH h (rH h r0 0) = 3 then (if inB x4 (lH h (rH h r0 0)) = true then (if kH h (rH h r1 3) = 1 then (if inB x4 (lH h (rH h r1 3)) = true then (if ¬ ((upI h.2 (rH h r0 0) x4.toNatClampNeg 0) (rH h r1 3) x4.toNatClampNeg) = x2 then (rec 15 [.ref r0, .ref r1, .int x2, .int x3, .int (x4 + 1), uV] [] (h.1, (upI h.2 (rH h r0 0) x4.toNatClampNeg 0))) else (if kH h (rH h r1 4) = 1 then (if inB x4 (lH h (rH h r1 4)) = true then (if ¬ ((upI h.2 (rH h r0 0) x4.toNatClampNeg 0) (rH h r1 4) x4.toNatClampNeg) = 16 then (rec 69 [.ref r0, .ref r1, .int x2, .int x3, .int x4, uV] [.int (1 <<< (((upI h.2 (rH h r0 0) x4.toNatClampNeg 0) (rH h r1 4) x4.toNatClampNeg) &&& 31))] (h.1, (upI h.2 (rH h r0 0) x4.toNatClampNeg 0))) else (rec 69 [.ref r0, .ref r1, .int x2, .int x3, .int x4, uV] [.int 65535] (h.1, (upI h.2 (rH h r0 0) x4.toNatClampNeg 0)))) else none) else none)) else none) else none) else none) else none) else none)) else none)
theorem uX2_weigh_15 {G : GG} {d : Nat} (hd : 2 ≤ d) (rec : Nat → List Value → List Value → Hp → RS) (hrec : ∀ pc loc st h o h', rec pc loc st h = some (o, h') → V G mX2_weigh d pc loc st h o h')   {r0  r1  x2  x3  x4 } {h : Hp} {o : OU} {h' : Hp} (e : kX2_weigh_15 rec  r0 r1 x2 x3 x4 h = some (o, h')) : V G mX2_weigh d 15 [.ref r0, .ref r1, .int x2, .int x3, .int x4, uV] [] h o h' := by
  unfold kX2_weigh_15 at e
  refine bX2_weigh_15 r0 r1 x2 x3 x4 ?_
  obtain ⟨q1, e⟩ := ob_e e
  refine ⟨q1, ?_⟩
  refine ⟨fun c2 => ?_, fun c2 => ?_⟩
  · have e := if_t e c2
    cases e
    exact ⟨rfl, rfl⟩
  · have e := if_f e c2
    obtain ⟨q3, e⟩ := ob_e e
    refine ⟨q3, ?_⟩
    obtain ⟨q4, e⟩ := ob_e e
    refine ⟨q4, ?_⟩
    obtain ⟨q5, e⟩ := ob_in e
    refine ⟨q5, ?_⟩
    obtain ⟨q6, e⟩ := ob_e e
    refine ⟨q6, ?_⟩
    obtain ⟨q7, e⟩ := ob_in e
    refine ⟨q7, ?_⟩
    refine ⟨fun c8 => ?_, fun c8 => ?_⟩
    · have e := if_t e c8
      exact hrec _ _ _ _ _ _ e
    · have e := if_n e c8
      obtain ⟨q9, e⟩ := ob_e e
      refine ⟨q9, ?_⟩
      obtain ⟨q10, e⟩ := ob_in e
      refine ⟨q10, ?_⟩
      refine ⟨fun c11 => ?_, fun c11 => ?_⟩
      · have e := if_t e c11
        exact hrec _ _ _ _ _ _ e
      · have e := if_n e c11
        exact hrec _ _ _ _ _ _ e
def kX2_weigh_69 (rec : Nat → List Value → List Value → Hp → RS)  (r0 : Nat) (r1 : Nat) (x2 : Int32) (x3 : Int32) (x4 : Int32) (s0 : Int32) (h : Hp) : RS := (if ¬ (s0 &&& x3) = 0 then (if kH h r0 = 12 then (rec 15 [.ref r0, .ref r1, .int x2, .int (x3 ||| s0), .int (x4 + 1), uV] [] (h.1, (upI h.2 r0 5 ((h.2 r0 5) + 1)))) else none) else (if kH h r0 = 12 then (bI (fX2_needsGo r0 r1 x4 h) fun z4 h3 => (if z4 = 0 then (if kH h3 r0 = 12 then (rec 15 [.ref r0, .ref r1, .int x2, .int (x3 ||| s0), .int (x4 + 1), uV] [] (h3.1, (upI h3.2 r0 5 ((h3.2 r0 5) + 1)))) else none) else (if kH h3 r0 = 12 then (if kH h3 (rH h3 r0 0) = 3 then (if inB x4 (lH h3 (rH h3 r0 0)) = true then (rec 15 [.ref r0, .ref r1, .int x2, .int x3, .int (x4 + 1), uV] [] (h3.1, (upI (upI h3.2 (rH h3 r0 0) x4.toNatClampNeg 1) r0 4 (((upI h3.2 (rH h3 r0 0) x4.toNatClampNeg 1) r0 4) + 1)))) else none) else none) else none))) else none))
theorem uX2_weigh_69 {G : GG} {d : Nat} (hd : 2 ≤ d) (rec : Nat → List Value → List Value → Hp → RS) (hrec : ∀ pc loc st h o h', rec pc loc st h = some (o, h') → V G mX2_weigh d pc loc st h o h')   {r0  r1  x2  x3  x4  s0 } {h : Hp} {o : OU} {h' : Hp} (e : kX2_weigh_69 rec  r0 r1 x2 x3 x4 s0 h = some (o, h')) : V G mX2_weigh d 69 [.ref r0, .ref r1, .int x2, .int x3, .int x4, uV] [.int s0] h o h' := by
  unfold kX2_weigh_69 at e
  refine bX2_weigh_69 r0 r1 x2 x3 x4 s0 (by omega) ?_
  refine ⟨fun c1 => ?_, fun c1 => ?_⟩
  · have e := if_t e c1
    obtain ⟨q2, e⟩ := ob_e e
    refine ⟨q2, ?_⟩
    exact hrec _ _ _ _ _ _ e
  · have e := if_n e c1
    obtain ⟨q3, e⟩ := ob_e e
    refine ⟨q3, ?_⟩
    obtain ⟨z4, h3, e4, e⟩ := bI_e e
    refine ⟨z4, h3, (tX2_needsGo e4 (by omega)), ?_⟩
    refine ⟨fun c5 => ?_, fun c5 => ?_⟩
    · have e := if_t e c5
      obtain ⟨q6, e⟩ := ob_e e
      refine ⟨q6, ?_⟩
      exact hrec _ _ _ _ _ _ e
    · have e := if_f e c5
      obtain ⟨q7, e⟩ := ob_e e
      refine ⟨q7, ?_⟩
      obtain ⟨q8, e⟩ := ob_e e
      refine ⟨q8, ?_⟩
      obtain ⟨q9, e⟩ := ob_in e
      refine ⟨q9, ?_⟩
      exact hrec _ _ _ _ _ _ e
def sX2_weigh  (rec : Nat → List Value → List Value → Hp → RS) (pc : Nat) (loc st : List Value) (h : Hp) : RS := match pc, loc, st with
  | 15, [.ref r0, .ref r1, .int x2, .int x3, .int x4, _], [] => kX2_weigh_15 rec  r0 r1 x2 x3 x4 h
  | 69, [.ref r0, .ref r1, .int x2, .int x3, .int x4, _], [.int s0] => kX2_weigh_69 rec  r0 r1 x2 x3 x4 s0 h
  | _, _, _ => none
def gX2_weigh  : Nat → Nat → List Value → List Value → Hp → RS
  | 0 => fun _ _ _ _ => none
  | n + 1 => sX2_weigh  (gX2_weigh  n)
theorem wX2_weigh {G : GG} {d : Nat} (hd : 2 ≤ d)   : ∀ (n pc : Nat) (loc st : List Value) (h : Hp) (o : OU) (h' : Hp), gX2_weigh  n pc loc st h = some (o, h') → V G mX2_weigh d pc loc st h o h' := by
  intro n
  induction n with
  | zero => intro pc loc st h o h' e; cases e
  | succ n ih =>
    intro pc loc st h o h' e
    unfold gX2_weigh sX2_weigh at e
    split at e
    · exact V.drop (llp_r (llp_r (llp_r (llp_r (llp_r (llp_u llp_nil)))))) (uX2_weigh_15 hd _ ih   e)
    · exact V.drop (llp_r (llp_r (llp_r (llp_r (llp_r (llp_u llp_nil)))))) (uX2_weigh_69 hd _ ih   e)
    · cases e
theorem zX2_weigh_15  (n : Nat) (r0 : Nat) (r1 : Nat) (x2 : Int32) (x3 : Int32) (x4 : Int32) (y5 : Value) (h : Hp) : gX2_weigh  (n + 1) 15 [.ref r0, .ref r1, .int x2, .int x3, .int x4, y5] [] h = kX2_weigh_15 (gX2_weigh  n)  r0 r1 x2 x3 x4 h := rfl
theorem zX2_weigh_69  (n : Nat) (r0 : Nat) (r1 : Nat) (x2 : Int32) (x3 : Int32) (x4 : Int32) (s0 : Int32) (y5 : Value) (h : Hp) : gX2_weigh  (n + 1) 69 [.ref r0, .ref r1, .int x2, .int x3, .int x4, y5] [.int s0] h = kX2_weigh_69 (gX2_weigh  n)  r0 r1 x2 x3 x4 s0 h := rfl
def fX2_weigh (r0 : Nat) (r1 : Nat) (x2 : Int32) (h : Hp) : RS := kX2_weigh_0 (gX2_weigh FF) r0 r1 x2 h
theorem tX2_weigh {G : GG} {d : Nat} {r0 r1 x2} {h : Hp} {o : OU} {h' : Hp} (e : fX2_weigh r0 r1 x2 h = some (o, h')) (hd : 2 ≤ d) : VM G mX2_weigh d [.ref r0, .ref r1, .int x2] h o h' := uX2_weigh_0 hd _ (wX2_weigh hd FF) e
def kX5_firstPlace_0  (r0 : Nat) (x1 : Int32) (h : Hp) : RS := (if kH h r0 = 15 then (if kH h (rH h r0 4) = 1 then (if inB x1 (lH h (rH h r0 4)) = true then (if ¬ (h.2 (rH h r0 4) x1.toNatClampNeg) = 16 then (some (.inl (some (.int (h.2 (rH h r0 4) x1.toNatClampNeg))), h)) else (some (.inl (some (.int 0)), h))) else none) else none) else none)
theorem uX5_firstPlace_0 {G : GG} {d : Nat} (hd : 1 ≤ d)   {r0  x1 } {h : Hp} {o : OU} {h' : Hp} (e : kX5_firstPlace_0  r0 x1 h = some (o, h')) : VM G mX5_firstPlace d [.ref r0, .int x1] h o h' := by
  unfold kX5_firstPlace_0 at e
  refine eX5_firstPlace r0 x1 ?_
  obtain ⟨q1, e⟩ := ob_e e
  refine ⟨q1, ?_⟩
  obtain ⟨q2, e⟩ := ob_e e
  refine ⟨q2, ?_⟩
  obtain ⟨q3, e⟩ := ob_in e
  refine ⟨q3, ?_⟩
  refine ⟨fun c4 => ?_, fun c4 => ?_⟩
  · have e := if_t e c4
    cases e
    exact ⟨rfl, rfl⟩
  · have e := if_n e c4
    cases e
    exact ⟨rfl, rfl⟩
def fX5_firstPlace (r0 : Nat) (x1 : Int32) (h : Hp) : RS := kX5_firstPlace_0 r0 x1 h
theorem tX5_firstPlace {G : GG} {d : Nat} {r0 x1} {h : Hp} {o : OU} {h' : Hp} (e : fX5_firstPlace r0 x1 h = some (o, h')) (hd : 1 ≤ d) : VM G mX5_firstPlace d [.ref r0, .int x1] h o h' := uX5_firstPlace_0 hd e
def kX2_draft_0 (rec : Nat → List Value → List Value → Hp → RS)  (r0 : Nat) (r1 : Nat) (x2 : Int32) (h : Hp) : RS := (if kH h r0 = 12 then (bV (fX2_weigh r0 r1 x2 h) fun h1 => (if kH h1 r1 = 15 then (if kH h1 r0 = 12 then (if kH h1 (rH h1 r1 1) = 2 then (if kH h1 (rH h1 r0 2) = 2 then (if ¬ (x2 * 16) < 0 then (if (x2 * 16).toNatClampNeg + 16 ≤ lH h1 (rH h1 r1 1) then (if 0 + 16 ≤ lH h1 (rH h1 r0 2) then (rec 31 [.ref r0, .ref r1, .int x2, .int (((cpI h1.2 (rH h1 r1 1) (rH h1 r0 2) (x2 * 16).toNatClampNeg 0 16) r1 2) - 1), uV, uV] [] (h1.1, (cpI h1.2 (rH h1 r1 1) (rH h1 r0 2) (x2 * 16).toNatClampNeg 0 16))) else none) else none) else none) else none) else none) else none) else none)) else none)
theorem uX2_draft_0 {G : GG} {d : Nat} (hd : 3 ≤ d) (rec : Nat → List Value → List Value → Hp → RS) (hrec : ∀ pc loc st h o h', rec pc loc st h = some (o, h') → V G mX2_draft d pc loc st h o h')   {r0  r1  x2 } {h : Hp} {o : OU} {h' : Hp} (e : kX2_draft_0 rec  r0 r1 x2 h = some (o, h')) : VM G mX2_draft d [.ref r0, .ref r1, .int x2] h o h' := by
  unfold kX2_draft_0 at e
  refine eX2_draft r0 r1 x2 (by omega) ?_
  obtain ⟨q1, e⟩ := ob_e e
  refine ⟨q1, ?_⟩
  obtain ⟨h1, e2, e⟩ := bV_e e
  refine ⟨h1, (tX2_weigh e2 (by omega)), ?_⟩
  obtain ⟨q3, e⟩ := ob_e e
  refine ⟨q3, ?_⟩
  obtain ⟨q4, e⟩ := ob_e e
  refine ⟨q4, ?_⟩
  obtain ⟨q5, e⟩ := ob_e e
  refine ⟨q5, ?_⟩
  obtain ⟨q6, e⟩ := ob_e e
  refine ⟨q6, ?_⟩
  obtain ⟨q7, e⟩ := ob_e e
  refine ⟨q7, ?_⟩
  obtain ⟨q8, e⟩ := ob_e e
  refine ⟨q8, ?_⟩
  obtain ⟨q9, e⟩ := ob_e e
  refine ⟨q9, ?_⟩
  exact hrec _ _ _ _ _ _ e
def kX2_draft_31 (rec : Nat → List Value → List Value → Hp → RS)  (r0 : Nat) (r1 : Nat) (x2 : Int32) (x3 : Int32) (h : Hp) : RS := (if kH h r0 = 12 then (if (h.2 r0 5) ≤ 0 then (some (.inl none, h)) else (if x3 < 0 then (some (.inl none, h)) else (if kH h r1 = 15 then (if kH h (rH h r1 3) = 1 then (if inB x3 (lH h (rH h r1 3)) = true then (if ¬ (h.2 (rH h r1 3) x3.toNatClampNeg) = x2 then (rec 31 [.ref r0, .ref r1, .int x2, .int (x3 + (-1)), uV, uV] [] h) else (if kH h (rH h r0 0) = 3 then (if inB x3 (lH h (rH h r0 0)) = true then (if ¬ (h.2 (rH h r0 0) x3.toNatClampNeg) = 0 then (rec 31 [.ref r0, .ref r1, .int x2, .int (x3 + (-1)), uV, uV] [] h) else (bI (fX5_firstPlace r1 x3 h) fun z12 h11 => (if kH h11 r1 = 15 then (if kH h11 (rH h11 r1 4) = 1 then (if inB x3 (lH h11 (rH h11 r1 4)) = true then (if ¬ (h11.2 (rH h11 r1 4) x3.toNatClampNeg) = 16 then (if kH h11 r0 = 12 then (if kH h11 (rH h11 r1 6) = 2 then (if kH h11 (rH h11 r0 2) = 2 then (if ¬ ((x3 * 16) + z12) < 0 then (if ¬ z12 < 0 then (if ((x3 * 16) + z12).toNatClampNeg + 1 ≤ lH h11 (rH h11 r1 6) then (if z12.toNatClampNeg + 1 ≤ lH h11 (rH h11 r0 2) then (rec 31 [.ref r0, .ref r1, .int x2, .int (x3 + (-1)), uV, uV] [] (h11.1, (cpI h11.2 (rH h11 r1 6) (rH h11 r0 2) ((x3 * 16) + z12).toNatClampNeg z12.toNatClampNeg 1))) else none) else none) else none) else none) else none) else none) else none) else (if kH h11 r0 = 12 then (if kH h11 (rH h11 r1 6) = 2 then (if kH h11 (rH h11 r0 2) = 2 then (if ¬ ((x3 * 16) + z12) < 0 then (if ¬ z12 < 0 then (if ((x3 * 16) + z12).toNatClampNeg + 16 ≤ lH h11 (rH h11 r1 6) then (if z12.toNatClampNeg + 16 ≤ lH h11 (rH h11 r0 2) then (rec 31 [.ref r0, .ref r1, .int x2, .int (x3 + (-1)), uV, uV] [] (h11.1, (cpI h11.2 (rH h11 r1 6) (rH h11 r0 2) ((x3 * 16) + z12).toNatClampNeg z12.toNatClampNeg 16))) else none) else none) else none) else none) else none) else none) else none)) else none) else none) else none))) else none) else none)) else none) else none) else none))) else none)
theorem uX2_draft_31 {G : GG} {d : Nat} (hd : 3 ≤ d) (rec : Nat → List Value → List Value → Hp → RS) (hrec : ∀ pc loc st h o h', rec pc loc st h = some (o, h') → V G mX2_draft d pc loc st h o h')   {r0  r1  x2  x3 } {h : Hp} {o : OU} {h' : Hp} (e : kX2_draft_31 rec  r0 r1 x2 x3 h = some (o, h')) : V G mX2_draft d 31 [.ref r0, .ref r1, .int x2, .int x3, uV, uV] [] h o h' := by
  unfold kX2_draft_31 at e
  refine bX2_draft_31 r0 r1 x2 x3 (by omega) ?_
  obtain ⟨q1, e⟩ := ob_e e
  refine ⟨q1, ?_⟩
  refine ⟨fun c2 => ?_, fun c2 => ?_⟩
  · have e := if_t e c2
    cases e
    exact ⟨rfl, rfl⟩
  · have e := if_f e c2
    refine ⟨fun c3 => ?_, fun c3 => ?_⟩
    · have e := if_t e c3
      cases e
      exact ⟨rfl, rfl⟩
    · have e := if_f e c3
      obtain ⟨q4, e⟩ := ob_e e
      refine ⟨q4, ?_⟩
      obtain ⟨q5, e⟩ := ob_e e
      refine ⟨q5, ?_⟩
      obtain ⟨q6, e⟩ := ob_in e
      refine ⟨q6, ?_⟩
      refine ⟨fun c7 => ?_, fun c7 => ?_⟩
      · have e := if_t e c7
        exact hrec _ _ _ _ _ _ e
      · have e := if_n e c7
        obtain ⟨q8, e⟩ := ob_e e
        refine ⟨q8, ?_⟩
        obtain ⟨q9, e⟩ := ob_in e
        refine ⟨q9, ?_⟩
        refine ⟨fun c10 => ?_, fun c10 => ?_⟩
        · have e := if_t e c10
          exact hrec _ _ _ _ _ _ e
        · have e := if_n e c10
          obtain ⟨z12, h11, e11, e⟩ := bI_e e
          refine ⟨z12, h11, (tX5_firstPlace e11 (by omega)), ?_⟩
          obtain ⟨q12, e⟩ := ob_e e
          refine ⟨q12, ?_⟩
          obtain ⟨q13, e⟩ := ob_e e
          refine ⟨q13, ?_⟩
          obtain ⟨q14, e⟩ := ob_in e
          refine ⟨q14, ?_⟩
          refine ⟨fun c15 => ?_, fun c15 => ?_⟩
          · have e := if_t e c15
            obtain ⟨q16, e⟩ := ob_e e
            refine ⟨q16, ?_⟩
            obtain ⟨q17, e⟩ := ob_e e
            refine ⟨q17, ?_⟩
            obtain ⟨q18, e⟩ := ob_e e
            refine ⟨q18, ?_⟩
            obtain ⟨q19, e⟩ := ob_e e
            refine ⟨q19, ?_⟩
            obtain ⟨q20, e⟩ := ob_e e
            refine ⟨q20, ?_⟩
            obtain ⟨q21, e⟩ := ob_e e
            refine ⟨q21, ?_⟩
            obtain ⟨q22, e⟩ := ob_e e
            refine ⟨q22, ?_⟩
            exact hrec _ _ _ _ _ _ e
          · have e := if_n e c15
            obtain ⟨q23, e⟩ := ob_e e
            refine ⟨q23, ?_⟩
            obtain ⟨q24, e⟩ := ob_e e
            refine ⟨q24, ?_⟩
            obtain ⟨q25, e⟩ := ob_e e
            refine ⟨q25, ?_⟩
            obtain ⟨q26, e⟩ := ob_e e
            refine ⟨q26, ?_⟩
            obtain ⟨q27, e⟩ := ob_e e
            refine ⟨q27, ?_⟩
            obtain ⟨q28, e⟩ := ob_e e
            refine ⟨q28, ?_⟩
            obtain ⟨q29, e⟩ := ob_e e
            refine ⟨q29, ?_⟩
            exact hrec _ _ _ _ _ _ e
def sX2_draft  (rec : Nat → List Value → List Value → Hp → RS) (pc : Nat) (loc st : List Value) (h : Hp) : RS := match pc, loc, st with
  | 31, [.ref r0, .ref r1, .int x2, .int x3, _, _], [] => kX2_draft_31 rec  r0 r1 x2 x3 h
  | _, _, _ => none
def gX2_draft  : Nat → Nat → List Value → List Value → Hp → RS
  | 0 => fun _ _ _ _ => none
  | n + 1 => sX2_draft  (gX2_draft  n)
theorem wX2_draft {G : GG} {d : Nat} (hd : 3 ≤ d)   : ∀ (n pc : Nat) (loc st : List Value) (h : Hp) (o : OU) (h' : Hp), gX2_draft  n pc loc st h = some (o, h') → V G mX2_draft d pc loc st h o h' := by
  intro n
  induction n with
  | zero => intro pc loc st h o h' e; cases e
  | succ n ih =>
    intro pc loc st h o h' e
    unfold gX2_draft sX2_draft at e
    split at e
    · exact V.drop (llp_r (llp_r (llp_r (llp_r (llp_u (llp_u llp_nil)))))) (uX2_draft_31 hd _ ih   e)
    · cases e
theorem zX2_draft_31  (n : Nat) (r0 : Nat) (r1 : Nat) (x2 : Int32) (x3 : Int32) (y4 : Value) (y5 : Value) (h : Hp) : gX2_draft  (n + 1) 31 [.ref r0, .ref r1, .int x2, .int x3, y4, y5] [] h = kX2_draft_31 (gX2_draft  n)  r0 r1 x2 x3 h := rfl
def fX2_draft (r0 : Nat) (r1 : Nat) (x2 : Int32) (h : Hp) : RS := kX2_draft_0 (gX2_draft FF) r0 r1 x2 h
theorem tX2_draft {G : GG} {d : Nat} {r0 r1 x2} {h : Hp} {o : OU} {h' : Hp} (e : fX2_draft r0 r1 x2 h = some (o, h')) (hd : 3 ≤ d) : VM G mX2_draft d [.ref r0, .ref r1, .int x2] h o h' := uX2_draft_0 hd _ (wX2_draft hd FF) e
def kX2_moveChange_0 (rec : Nat → List Value → List Value → Hp → RS)  (r0 : Nat) (r1 : Nat) (x2 : Int32) (x3 : Int32) (h : Hp) : RS := (if kH h r1 = 15 then (if kH h (rH h r1 3) = 1 then (if inB x2 (lH h (rH h r1 3)) = true then (if inB x3 (lH h (rH h r1 3)) = true then (if kH h (rH h r1 4) = 1 then (if inB x2 (lH h (rH h r1 4)) = true then (if inB x3 (lH h (rH h r1 4)) = true then (letH (upI (upI h.2 (rH h r1 3) x3.toNatClampNeg (h.2 (rH h r1 3) x2.toNatClampNeg)) (rH h r1 4) x3.toNatClampNeg ((upI h.2 (rH h r1 3) x3.toNatClampNeg (h.2 (rH h r1 3) x2.toNatClampNeg)) (rH h r1 4) x2.toNatClampNeg)) fun (i8 : Nat → Nat → Int32) => (if kH h (rH h r1 5) = 1 then (if inB x2 (lH h (rH h r1 5)) = true then (if inB x3 (lH h (rH h r1 5)) = true then (if kH h (rH h r1 8) = 1 then (if inB x2 (lH h (rH h r1 8)) = true then (if inB x3 (lH h (rH h r1 8)) = true then (letH (upI (upI i8 (rH h r1 5) x3.toNatClampNeg (i8 (rH h r1 5) x2.toNatClampNeg)) (rH h r1 8) x3.toNatClampNeg ((upI i8 (rH h r1 5) x3.toNatClampNeg (i8 (rH h r1 5) x2.toNatClampNeg)) (rH h r1 8) x2.toNatClampNeg)) fun (i16 : Nat → Nat → Int32) => (rec 51 [.ref r0, .ref r1, .int x2, .int x3, .int 0, uV] [] (h.1, i16))) else none) else none) else none) else none) else none) else none)) else none) else none) else none) else none) else none) else none) else none)
theorem uX2_moveChange_0 {G : GG} {d : Nat} (hd : 1 ≤ d) (rec : Nat → List Value → List Value → Hp → RS) (hrec : ∀ pc loc st h o h', rec pc loc st h = some (o, h') → V G mX2_moveChange d pc loc st h o h')   {r0  r1  x2  x3 } {h : Hp} {o : OU} {h' : Hp} (e : kX2_moveChange_0 rec  r0 r1 x2 x3 h = some (o, h')) : VM G mX2_moveChange d [.ref r0, .ref r1, .int x2, .int x3] h o h' := by
  unfold kX2_moveChange_0 at e
  refine eX2_moveChange r0 r1 x2 x3 ?_
  obtain ⟨q1, e⟩ := ob_e e
  refine ⟨q1, ?_⟩
  obtain ⟨q2, e⟩ := ob_e e
  refine ⟨q2, ?_⟩
  obtain ⟨q3, e⟩ := ob_in e
  refine ⟨q3, ?_⟩
  obtain ⟨q4, e⟩ := ob_in e
  refine ⟨q4, ?_⟩
  obtain ⟨q5, e⟩ := ob_e e
  refine ⟨q5, ?_⟩
  obtain ⟨q6, e⟩ := ob_in e
  refine ⟨q6, ?_⟩
  obtain ⟨q7, e⟩ := ob_in e
  refine ⟨q7, ?_⟩
  intro i8 evi8
  have e := lt_e evi8 e
  obtain ⟨q8, e⟩ := ob_e e
  refine ⟨q8, ?_⟩
  obtain ⟨q9, e⟩ := ob_in e
  refine ⟨q9, ?_⟩
  obtain ⟨q10, e⟩ := ob_in e
  refine ⟨q10, ?_⟩
  obtain ⟨q11, e⟩ := ob_e e
  refine ⟨q11, ?_⟩
  obtain ⟨q12, e⟩ := ob_in e
  refine ⟨q12, ?_⟩
  obtain ⟨q13, e⟩ := ob_in e
  refine ⟨q13, ?_⟩
  intro i16 evi16
  have e := lt_e evi16 e
  exact hrec _ _ _ _ _ _ e
def kX2_moveChange_51 (rec : Nat → List Value → List Value → Hp → RS)  (r0 : Nat) (r1 : Nat) (x2 : Int32) (x3 : Int32) (x4 : Int32) (h : Hp) : RS := (if 4 ≤ x4 then (if x2 = x3 then (some (.inl none, h)) else (if kH h r1 = 15 then (if kH h (rH h r1 6) = 2 then (if ¬ (x2 * 16) < 0 then (if ¬ (x3 * 16) < 0 then (if (x2 * 16).toNatClampNeg + 16 ≤ lH h (rH h r1 6) then (if (x3 * 16).toNatClampNeg + 16 ≤ lH h (rH h r1 6) then (some (.inl none, (h.1, (cpI h.2 (rH h r1 6) (rH h r1 6) (x2 * 16).toNatClampNeg (x3 * 16).toNatClampNeg 16)))) else none) else none) else none) else none) else none) else none)) else (if kH h r1 = 15 then (if kH h (rH h r1 7) = 1 then (if inB ((x2 * 4) + x4) (lH h (rH h r1 7)) = true then (if ¬ (h.2 (rH h r1 7) ((x2 * 4) + x4).toNatClampNeg) = (-1) then (if kH h r0 = 12 then (if kH h (rH h r0 1) = 1 then (if inB (h.2 (rH h r1 7) ((x2 * 4) + x4).toNatClampNeg) (lH h (rH h r0 1)) = true then (if inB ((x3 * 4) + x4) (lH h (rH h r1 7)) = true then (letH (upI h.2 (rH h r1 7) ((x3 * 4) + x4).toNatClampNeg (h.2 (rH h r0 1) (h.2 (rH h r1 7) ((x2 * 4) + x4).toNatClampNeg).toNatClampNeg)) fun (i17 : Nat → Nat → Int32) => (rec 51 [.ref r0, .ref r1, .int x2, .int x3, .int (x4 + 1), uV] [] (h.1, i17))) else none) else none) else none) else none) else (if inB ((x3 * 4) + x4) (lH h (rH h r1 7)) = true then (rec 51 [.ref r0, .ref r1, .int x2, .int x3, .int (x4 + 1), uV] [] (h.1, (upI h.2 (rH h r1 7) ((x3 * 4) + x4).toNatClampNeg (-1)))) else none)) else none) else none) else none))
theorem uX2_moveChange_51 {G : GG} {d : Nat} (hd : 1 ≤ d) (rec : Nat → List Value → List Value → Hp → RS) (hrec : ∀ pc loc st h o h', rec pc loc st h = some (o, h') → V G mX2_moveChange d pc loc st h o h')   {r0  r1  x2  x3  x4 } {h : Hp} {o : OU} {h' : Hp} (e : kX2_moveChange_51 rec  r0 r1 x2 x3 x4 h = some (o, h')) : V G mX2_moveChange d 51 [.ref r0, .ref r1, .int x2, .int x3, .int x4, uV] [] h o h' := by
  unfold kX2_moveChange_51 at e
  refine bX2_moveChange_51 r0 r1 x2 x3 x4 (by omega) ?_
  refine ⟨fun c1 => ?_, fun c1 => ?_⟩
  · have e := if_t e c1
    refine ⟨fun c2 => ?_, fun c2 => ?_⟩
    · have e := if_t e c2
      cases e
      exact ⟨rfl, rfl⟩
    · have e := if_f e c2
      obtain ⟨q3, e⟩ := ob_e e
      refine ⟨q3, ?_⟩
      obtain ⟨q4, e⟩ := ob_e e
      refine ⟨q4, ?_⟩
      obtain ⟨q5, e⟩ := ob_e e
      refine ⟨q5, ?_⟩
      obtain ⟨q6, e⟩ := ob_e e
      refine ⟨q6, ?_⟩
      obtain ⟨q7, e⟩ := ob_e e
      refine ⟨q7, ?_⟩
      obtain ⟨q8, e⟩ := ob_e e
      refine ⟨q8, ?_⟩
      cases e
      exact ⟨rfl, rfl⟩
  · have e := if_f e c1
    obtain ⟨q9, e⟩ := ob_e e
    refine ⟨q9, ?_⟩
    obtain ⟨q10, e⟩ := ob_e e
    refine ⟨q10, ?_⟩
    obtain ⟨q11, e⟩ := ob_in e
    refine ⟨q11, ?_⟩
    refine ⟨fun c12 => ?_, fun c12 => ?_⟩
    · have e := if_t e c12
      obtain ⟨q13, e⟩ := ob_e e
      refine ⟨q13, ?_⟩
      obtain ⟨q14, e⟩ := ob_e e
      refine ⟨q14, ?_⟩
      obtain ⟨q15, e⟩ := ob_in e
      refine ⟨q15, ?_⟩
      obtain ⟨q16, e⟩ := ob_in e
      refine ⟨q16, ?_⟩
      intro i17 evi17
      have e := lt_e evi17 e
      exact hrec _ _ _ _ _ _ e
    · have e := if_n e c12
      obtain ⟨q17, e⟩ := ob_in e
      refine ⟨q17, ?_⟩
      exact hrec _ _ _ _ _ _ e
def sX2_moveChange  (rec : Nat → List Value → List Value → Hp → RS) (pc : Nat) (loc st : List Value) (h : Hp) : RS := match pc, loc, st with
  | 51, [.ref r0, .ref r1, .int x2, .int x3, .int x4, _], [] => kX2_moveChange_51 rec  r0 r1 x2 x3 x4 h
  | _, _, _ => none
def gX2_moveChange  : Nat → Nat → List Value → List Value → Hp → RS
  | 0 => fun _ _ _ _ => none
  | n + 1 => sX2_moveChange  (gX2_moveChange  n)
theorem wX2_moveChange {G : GG} {d : Nat} (hd : 1 ≤ d)   : ∀ (n pc : Nat) (loc st : List Value) (h : Hp) (o : OU) (h' : Hp), gX2_moveChange  n pc loc st h = some (o, h') → V G mX2_moveChange d pc loc st h o h' := by
  intro n
  induction n with
  | zero => intro pc loc st h o h' e; cases e
  | succ n ih =>
    intro pc loc st h o h' e
    unfold gX2_moveChange sX2_moveChange at e
    split at e
    · exact V.drop (llp_r (llp_r (llp_r (llp_r (llp_r (llp_u llp_nil)))))) (uX2_moveChange_51 hd _ ih   e)
    · cases e
theorem zX2_moveChange_51  (n : Nat) (r0 : Nat) (r1 : Nat) (x2 : Int32) (x3 : Int32) (x4 : Int32) (y5 : Value) (h : Hp) : gX2_moveChange  (n + 1) 51 [.ref r0, .ref r1, .int x2, .int x3, .int x4, y5] [] h = kX2_moveChange_51 (gX2_moveChange  n)  r0 r1 x2 x3 x4 h := rfl
def fX2_moveChange (r0 : Nat) (r1 : Nat) (x2 : Int32) (x3 : Int32) (h : Hp) : RS := kX2_moveChange_0 (gX2_moveChange FF) r0 r1 x2 x3 h
theorem tX2_moveChange {G : GG} {d : Nat} {r0 r1 x2 x3} {h : Hp} {o : OU} {h' : Hp} (e : fX2_moveChange r0 r1 x2 x3 h = some (o, h')) (hd : 1 ≤ d) : VM G mX2_moveChange d [.ref r0, .ref r1, .int x2, .int x3] h o h' := uX2_moveChange_0 hd _ (wX2_moveChange hd FF) e
def kX2_closeRanks_0 (rec : Nat → List Value → List Value → Hp → RS)  (r0 : Nat) (r1 : Nat) (h : Hp) : RS := (rec 4 [.ref r0, .ref r1, .int 0, .int 0] [] h)
theorem uX2_closeRanks_0 {G : GG} {d : Nat} (hd : 2 ≤ d) (rec : Nat → List Value → List Value → Hp → RS) (hrec : ∀ pc loc st h o h', rec pc loc st h = some (o, h') → V G mX2_closeRanks d pc loc st h o h')   {r0  r1 } {h : Hp} {o : OU} {h' : Hp} (e : kX2_closeRanks_0 rec  r0 r1 h = some (o, h')) : VM G mX2_closeRanks d [.ref r0, .ref r1] h o h' := by
  unfold kX2_closeRanks_0 at e
  refine eX2_closeRanks r0 r1 ?_
  exact hrec _ _ _ _ _ _ e
def kX2_closeRanks_4 (rec : Nat → List Value → List Value → Hp → RS)  (r0 : Nat) (r1 : Nat) (x2 : Int32) (x3 : Int32) (h : Hp) : RS := (if kH h r1 = 15 then (if (h.2 r1 2) ≤ x3 then (some (.inl none, (h.1, (upI h.2 r1 2 x2)))) else (if kH h r0 = 12 then (if kH h (rH h r0 0) = 3 then (if inB x3 (lH h (rH h r0 0)) = true then (if (h.2 (rH h r0 0) x3.toNatClampNeg) = 0 then (bV (fX2_moveChange r0 r1 x3 x2 h) fun h7 => (if kH h7 r0 = 12 then (if kH h7 (rH h7 r0 1) = 1 then (if inB x3 (lH h7 (rH h7 r0 1)) = true then (rec 4 [.ref r0, .ref r1, .int (x2 + 1), .int (x3 + 1)] [] (h7.1, (upI h7.2 (rH h7 r0 1) x3.toNatClampNeg x2))) else none) else none) else none)) else (if kH h (rH h r0 1) = 1 then (if inB x3 (lH h (rH h r0 1)) = true then (rec 4 [.ref r0, .ref r1, .int x2, .int (x3 + 1)] [] (h.1, (upI h.2 (rH h r0 1) x3.toNatClampNeg (-1)))) else none) else none)) else none) else none) else none)) else none)
theorem uX2_closeRanks_4 {G : GG} {d : Nat} (hd : 2 ≤ d) (rec : Nat → List Value → List Value → Hp → RS) (hrec : ∀ pc loc st h o h', rec pc loc st h = some (o, h') → V G mX2_closeRanks d pc loc st h o h')   {r0  r1  x2  x3 } {h : Hp} {o : OU} {h' : Hp} (e : kX2_closeRanks_4 rec  r0 r1 x2 x3 h = some (o, h')) : V G mX2_closeRanks d 4 [.ref r0, .ref r1, .int x2, .int x3] [] h o h' := by
  unfold kX2_closeRanks_4 at e
  refine bX2_closeRanks_4 r0 r1 x2 x3 (by omega) ?_
  obtain ⟨q1, e⟩ := ob_e e
  refine ⟨q1, ?_⟩
  refine ⟨fun c2 => ?_, fun c2 => ?_⟩
  · have e := if_t e c2
    cases e
    exact ⟨rfl, rfl⟩
  · have e := if_f e c2
    obtain ⟨q3, e⟩ := ob_e e
    refine ⟨q3, ?_⟩
    obtain ⟨q4, e⟩ := ob_e e
    refine ⟨q4, ?_⟩
    obtain ⟨q5, e⟩ := ob_in e
    refine ⟨q5, ?_⟩
    refine ⟨fun c6 => ?_, fun c6 => ?_⟩
    · have e := if_t e c6
      obtain ⟨h7, e7, e⟩ := bV_e e
      refine ⟨h7, (tX2_moveChange e7 (by omega)), ?_⟩
      obtain ⟨q8, e⟩ := ob_e e
      refine ⟨q8, ?_⟩
      obtain ⟨q9, e⟩ := ob_e e
      refine ⟨q9, ?_⟩
      obtain ⟨q10, e⟩ := ob_in e
      refine ⟨q10, ?_⟩
      exact hrec _ _ _ _ _ _ e
    · have e := if_f e c6
      obtain ⟨q11, e⟩ := ob_e e
      refine ⟨q11, ?_⟩
      obtain ⟨q12, e⟩ := ob_in e
      refine ⟨q12, ?_⟩
      exact hrec _ _ _ _ _ _ e
def sX2_closeRanks  (rec : Nat → List Value → List Value → Hp → RS) (pc : Nat) (loc st : List Value) (h : Hp) : RS := match pc, loc, st with
  | 4, [.ref r0, .ref r1, .int x2, .int x3], [] => kX2_closeRanks_4 rec  r0 r1 x2 x3 h
  | _, _, _ => none
def gX2_closeRanks  : Nat → Nat → List Value → List Value → Hp → RS
  | 0 => fun _ _ _ _ => none
  | n + 1 => sX2_closeRanks  (gX2_closeRanks  n)
theorem wX2_closeRanks {G : GG} {d : Nat} (hd : 2 ≤ d)   : ∀ (n pc : Nat) (loc st : List Value) (h : Hp) (o : OU) (h' : Hp), gX2_closeRanks  n pc loc st h = some (o, h') → V G mX2_closeRanks d pc loc st h o h' := by
  intro n
  induction n with
  | zero => intro pc loc st h o h' e; cases e
  | succ n ih =>
    intro pc loc st h o h' e
    unfold gX2_closeRanks sX2_closeRanks at e
    split at e
    · exact uX2_closeRanks_4 hd _ ih   e
    · cases e
theorem zX2_closeRanks_4  (n : Nat) (r0 : Nat) (r1 : Nat) (x2 : Int32) (x3 : Int32)  (h : Hp) : gX2_closeRanks  (n + 1) 4 [.ref r0, .ref r1, .int x2, .int x3] [] h = kX2_closeRanks_4 (gX2_closeRanks  n)  r0 r1 x2 x3 h := rfl
def fX2_closeRanks (r0 : Nat) (r1 : Nat) (h : Hp) : RS := kX2_closeRanks_0 (gX2_closeRanks FF) r0 r1 h
theorem tX2_closeRanks {G : GG} {d : Nat} {r0 r1} {h : Hp} {o : OU} {h' : Hp} (e : fX2_closeRanks r0 r1 h = some (o, h')) (hd : 2 ≤ d) : VM G mX2_closeRanks d [.ref r0, .ref r1] h o h' := uX2_closeRanks_0 hd _ (wX2_closeRanks hd FF) e
def kX2_takeDue_0 (rec : Nat → List Value → List Value → Hp → RS)  (r0 : Nat) (r1 : Nat) (h : Hp) : RS := (rec 7 [.ref r0, .ref r1, .int 0, .int 0, .int 0, uV] [] h)
theorem uX2_takeDue_0 {G : GG} {d : Nat} (hd : 1 ≤ d) (rec : Nat → List Value → List Value → Hp → RS) (hrec : ∀ pc loc st h o h', rec pc loc st h = some (o, h') → V G mX2_takeDue d pc loc st h o h')   {r0  r1 } {h : Hp} {o : OU} {h' : Hp} (e : kX2_takeDue_0 rec  r0 r1 h = some (o, h')) : VM G mX2_takeDue d [.ref r0, .ref r1] h o h' := by
  unfold kX2_takeDue_0 at e
  refine eX2_takeDue r0 r1 ?_
  exact hrec _ _ _ _ _ _ e
def kX2_takeDue_7 (rec : Nat → List Value → List Value → Hp → RS)  (r0 : Nat) (r1 : Nat) (x2 : Int32) (x3 : Int32) (x4 : Int32) (h : Hp) : RS := (if kH h r1 = 15 then (if (h.2 r1 9) ≤ x4 then (some (.inl (some (.int x2)), (h.1, (upI h.2 r1 9 x3)))) else (if kH h r0 = 12 then (if kH h (rH h r1 10) = 1 then (if inB x4 (lH h (rH h r1 10)) = true then (if kH h (rH h r0 1) = 1 then (if inB (h.2 (rH h r1 10) x4.toNatClampNeg) (lH h (rH h r0 1)) = true then (if ¬ (h.2 (rH h r0 1) (h.2 (rH h r1 10) x4.toNatClampNeg).toNatClampNeg) = (-1) then (if kH h (rH h r1 11) = 1 then (if inB x4 (lH h (rH h r1 11)) = true then (if inB x3 (lH h (rH h r1 11)) = true then (if inB x3 (lH h (rH h r1 10)) = true then (letH (upI (upI h.2 (rH h r1 11) x3.toNatClampNeg (h.2 (rH h r1 11) x4.toNatClampNeg)) (rH h r1 10) x3.toNatClampNeg (h.2 (rH h r0 1) (h.2 (rH h r1 10) x4.toNatClampNeg).toNatClampNeg)) fun (i13 : Nat → Nat → Int32) => (rec 7 [.ref r0, .ref r1, .int x2, .int (x3 + 1), .int (x4 + 1), uV] [] (h.1, i13))) else none) else none) else none) else none) else (if kH h (rH h r1 11) = 1 then (if inB x4 (lH h (rH h r1 11)) = true then (if kH h (rH h r0 3) = 1 then (if inB x2 (lH h (rH h r0 3)) = true then (rec 7 [.ref r0, .ref r1, .int (x2 + 1), .int x3, .int (x4 + 1), uV] [] (h.1, (upI h.2 (rH h r0 3) x2.toNatClampNeg (h.2 (rH h r1 11) x4.toNatClampNeg)))) else none) else none) else none) else none)) else none) else none) else none) else none) else none)) else none)
theorem uX2_takeDue_7 {G : GG} {d : Nat} (hd : 1 ≤ d) (rec : Nat → List Value → List Value → Hp → RS) (hrec : ∀ pc loc st h o h', rec pc loc st h = some (o, h') → V G mX2_takeDue d pc loc st h o h')   {r0  r1  x2  x3  x4 } {h : Hp} {o : OU} {h' : Hp} (e : kX2_takeDue_7 rec  r0 r1 x2 x3 x4 h = some (o, h')) : V G mX2_takeDue d 7 [.ref r0, .ref r1, .int x2, .int x3, .int x4, uV] [] h o h' := by
  unfold kX2_takeDue_7 at e
  refine bX2_takeDue_7 r0 r1 x2 x3 x4 ?_
  obtain ⟨q1, e⟩ := ob_e e
  refine ⟨q1, ?_⟩
  refine ⟨fun c2 => ?_, fun c2 => ?_⟩
  · have e := if_t e c2
    cases e
    exact ⟨rfl, rfl⟩
  · have e := if_f e c2
    obtain ⟨q3, e⟩ := ob_e e
    refine ⟨q3, ?_⟩
    obtain ⟨q4, e⟩ := ob_e e
    refine ⟨q4, ?_⟩
    obtain ⟨q5, e⟩ := ob_in e
    refine ⟨q5, ?_⟩
    obtain ⟨q6, e⟩ := ob_e e
    refine ⟨q6, ?_⟩
    obtain ⟨q7, e⟩ := ob_in e
    refine ⟨q7, ?_⟩
    refine ⟨fun c8 => ?_, fun c8 => ?_⟩
    · have e := if_t e c8
      obtain ⟨q9, e⟩ := ob_e e
      refine ⟨q9, ?_⟩
      obtain ⟨q10, e⟩ := ob_in e
      refine ⟨q10, ?_⟩
      obtain ⟨q11, e⟩ := ob_in e
      refine ⟨q11, ?_⟩
      obtain ⟨q12, e⟩ := ob_in e
      refine ⟨q12, ?_⟩
      intro i13 evi13
      have e := lt_e evi13 e
      exact hrec _ _ _ _ _ _ e
    · have e := if_n e c8
      obtain ⟨q13, e⟩ := ob_e e
      refine ⟨q13, ?_⟩
      obtain ⟨q14, e⟩ := ob_in e
      refine ⟨q14, ?_⟩
      obtain ⟨q15, e⟩ := ob_e e
      refine ⟨q15, ?_⟩
      obtain ⟨q16, e⟩ := ob_in e
      refine ⟨q16, ?_⟩
      exact hrec _ _ _ _ _ _ e
def sX2_takeDue  (rec : Nat → List Value → List Value → Hp → RS) (pc : Nat) (loc st : List Value) (h : Hp) : RS := match pc, loc, st with
  | 7, [.ref r0, .ref r1, .int x2, .int x3, .int x4, _], [] => kX2_takeDue_7 rec  r0 r1 x2 x3 x4 h
  | _, _, _ => none
def gX2_takeDue  : Nat → Nat → List Value → List Value → Hp → RS
  | 0 => fun _ _ _ _ => none
  | n + 1 => sX2_takeDue  (gX2_takeDue  n)
theorem wX2_takeDue {G : GG} {d : Nat} (hd : 1 ≤ d)   : ∀ (n pc : Nat) (loc st : List Value) (h : Hp) (o : OU) (h' : Hp), gX2_takeDue  n pc loc st h = some (o, h') → V G mX2_takeDue d pc loc st h o h' := by
  intro n
  induction n with
  | zero => intro pc loc st h o h' e; cases e
  | succ n ih =>
    intro pc loc st h o h' e
    unfold gX2_takeDue sX2_takeDue at e
    split at e
    · exact V.drop (llp_r (llp_r (llp_r (llp_r (llp_r (llp_u llp_nil)))))) (uX2_takeDue_7 hd _ ih   e)
    · cases e
theorem zX2_takeDue_7  (n : Nat) (r0 : Nat) (r1 : Nat) (x2 : Int32) (x3 : Int32) (x4 : Int32) (y5 : Value) (h : Hp) : gX2_takeDue  (n + 1) 7 [.ref r0, .ref r1, .int x2, .int x3, .int x4, y5] [] h = kX2_takeDue_7 (gX2_takeDue  n)  r0 r1 x2 x3 x4 h := rfl
def fX2_takeDue (r0 : Nat) (r1 : Nat) (h : Hp) : RS := kX2_takeDue_0 (gX2_takeDue FF) r0 r1 h
theorem tX2_takeDue {G : GG} {d : Nat} {r0 r1} {h : Hp} {o : OU} {h' : Hp} (e : fX2_takeDue r0 r1 h = some (o, h')) (hd : 1 ≤ d) : VM G mX2_takeDue d [.ref r0, .ref r1] h o h' := uX2_takeDue_0 hd _ (wX2_takeDue hd FF) e
def kX5_nodeField_0  (r0 : Nat) (x1 : Int32) (x2 : Int32) (x3 : Int32) (h : Hp) : RS := (if x1 < 0 then (some (.inl (some (.int 0)), h)) else (if 1 < x1 then (some (.inl (some (.int 0)), h)) else (if x2 < 0 then (some (.inl (some (.int 0)), h)) else (if 12 ≤ x2 then (some (.inl (some (.int 0)), h)) else (if x3 < 0 then (some (.inl (some (.int 0)), h)) else (if x3 ≤ 3 then (if kH h r0 = 15 then (if kH h (rH h r0 1) = 2 then (if inB ((((x1 * 256) + 16) + (x2 * 4)) + x3) (lH h (rH h r0 1)) = true then (some (.inl (some (.int (h.2 (rH h r0 1) ((((x1 * 256) + 16) + (x2 * 4)) + x3).toNatClampNeg))), h)) else none) else none) else none) else (some (.inl (some (.int 0)), h))))))))
theorem uX5_nodeField_0 {G : GG} {d : Nat} (hd : 1 ≤ d)   {r0  x1  x2  x3 } {h : Hp} {o : OU} {h' : Hp} (e : kX5_nodeField_0  r0 x1 x2 x3 h = some (o, h')) : VM G mX5_nodeField d [.ref r0, .int x1, .int x2, .int x3] h o h' := by
  unfold kX5_nodeField_0 at e
  refine eX5_nodeField r0 x1 x2 x3 ?_
  refine ⟨fun c1 => ?_, fun c1 => ?_⟩
  · have e := if_t e c1
    cases e
    exact ⟨rfl, rfl⟩
  · have e := if_f e c1
    refine ⟨fun c2 => ?_, fun c2 => ?_⟩
    · have e := if_t e c2
      cases e
      exact ⟨rfl, rfl⟩
    · have e := if_f e c2
      refine ⟨fun c3 => ?_, fun c3 => ?_⟩
      · have e := if_t e c3
        cases e
        exact ⟨rfl, rfl⟩
      · have e := if_f e c3
        refine ⟨fun c4 => ?_, fun c4 => ?_⟩
        · have e := if_t e c4
          cases e
          exact ⟨rfl, rfl⟩
        · have e := if_f e c4
          refine ⟨fun c5 => ?_, fun c5 => ?_⟩
          · have e := if_t e c5
            cases e
            exact ⟨rfl, rfl⟩
          · have e := if_f e c5
            refine ⟨fun c6 => ?_, fun c6 => ?_⟩
            · have e := if_t e c6
              obtain ⟨q7, e⟩ := ob_e e
              refine ⟨q7, ?_⟩
              obtain ⟨q8, e⟩ := ob_e e
              refine ⟨q8, ?_⟩
              obtain ⟨q9, e⟩ := ob_in e
              refine ⟨q9, ?_⟩
              cases e
              exact ⟨rfl, rfl⟩
            · have e := if_f e c6
              cases e
              exact ⟨rfl, rfl⟩
def fX5_nodeField (r0 : Nat) (x1 : Int32) (x2 : Int32) (x3 : Int32) (h : Hp) : RS := kX5_nodeField_0 r0 x1 x2 x3 h
theorem tX5_nodeField {G : GG} {d : Nat} {r0 x1 x2 x3} {h : Hp} {o : OU} {h' : Hp} (e : fX5_nodeField r0 x1 x2 x3 h = some (o, h')) (hd : 1 ≤ d) : VM G mX5_nodeField d [.ref r0, .int x1, .int x2, .int x3] h o h' := uX5_nodeField_0 hd e
def kX5_put_0 (rec : Nat → List Value → List Value → Hp → RS)  (r0 : Nat) (x1 : Int32) (x2 : Int32) (x3 : Int32) (h : Hp) : RS := (if x1 < 0 then (some (.inl (some (.int (-1))), h)) else (if 16 ≤ x1 then (some (.inl (some (.int (-1))), h)) else (if x2 < 0 then (some (.inl (some (.int (-1))), h)) else (if 16 < x2 then (some (.inl (some (.int (-1))), h)) else (if kH h r0 = 15 then (if (h.2 r0 2) < 256 then (if ¬ x2 = 16 then (if ¬ x2 = 16 then (rec 76 [.ref r0, .int x1, .int x2, .int x3, .int ((x1 * 16) + x2), .int ((x1 * 16) + x2), .int 1, .int ((x1 * 16) + x2), uV] [] h) else (rec 76 [.ref r0, .int x1, .int x2, .int x3, .int ((x1 * 16) + x2), .int ((x1 * 16) + 15), .int 1, .int ((x1 * 16) + x2), uV] [] h)) else (if ¬ x2 = 16 then (rec 76 [.ref r0, .int x1, .int x2, .int x3, .int ((x1 * 16) + 0), .int ((x1 * 16) + x2), .int 1, .int ((x1 * 16) + 0), uV] [] h) else (rec 76 [.ref r0, .int x1, .int x2, .int x3, .int ((x1 * 16) + 0), .int ((x1 * 16) + 15), .int 1, .int ((x1 * 16) + 0), uV] [] h))) else (some (.inl (some (.int (-1))), h))) else none)))))
theorem uX5_put_0 {G : GG} {d : Nat} (hd : 1 ≤ d) (rec : Nat → List Value → List Value → Hp → RS) (hrec : ∀ pc loc st h o h', rec pc loc st h = some (o, h') → V G mX5_put d pc loc st h o h')   {r0  x1  x2  x3 } {h : Hp} {o : OU} {h' : Hp} (e : kX5_put_0 rec  r0 x1 x2 x3 h = some (o, h')) : VM G mX5_put d [.ref r0, .int x1, .int x2, .int x3] h o h' := by
  unfold kX5_put_0 at e
  refine eX5_put r0 x1 x2 x3 ?_
  refine ⟨fun c1 => ?_, fun c1 => ?_⟩
  · have e := if_t e c1
    cases e
    exact ⟨rfl, rfl⟩
  · have e := if_f e c1
    refine ⟨fun c2 => ?_, fun c2 => ?_⟩
    · have e := if_t e c2
      cases e
      exact ⟨rfl, rfl⟩
    · have e := if_f e c2
      refine ⟨fun c3 => ?_, fun c3 => ?_⟩
      · have e := if_t e c3
        cases e
        exact ⟨rfl, rfl⟩
      · have e := if_f e c3
        refine ⟨fun c4 => ?_, fun c4 => ?_⟩
        · have e := if_t e c4
          cases e
          exact ⟨rfl, rfl⟩
        · have e := if_f e c4
          obtain ⟨q5, e⟩ := ob_e e
          refine ⟨q5, ?_⟩
          refine ⟨fun c6 => ?_, fun c6 => ?_⟩
          · have e := if_t e c6
            refine ⟨fun c7 => ?_, fun c7 => ?_⟩
            · have e := if_t e c7
              refine ⟨fun c8 => ?_, fun c8 => ?_⟩
              · have e := if_t e c8
                exact hrec _ _ _ _ _ _ e
              · have e := if_n e c8
                exact hrec _ _ _ _ _ _ e
            · have e := if_n e c7
              refine ⟨fun c9 => ?_, fun c9 => ?_⟩
              · have e := if_t e c9
                exact hrec _ _ _ _ _ _ e
              · have e := if_n e c9
                exact hrec _ _ _ _ _ _ e
          · have e := if_f e c6
            cases e
            exact ⟨rfl, rfl⟩
def kX5_put_76 (rec : Nat → List Value → List Value → Hp → RS)  (r0 : Nat) (x1 : Int32) (x2 : Int32) (x3 : Int32) (x4 : Int32) (x5 : Int32) (x6 : Int32) (x7 : Int32) (h : Hp) : RS := (if x5 < x7 then (if x6 = 0 then (if kH h r0 = 15 then (rec 129 [.ref r0, .int x1, .int x2, .int x3, uV, .int x5, uV, .int (h.2 r0 2), .int x4] [] h) else none) else (some (.inl (some (.int (-1))), h))) else (if x6 = 0 then (rec 76 [.ref r0, .int x1, .int x2, .int x3, .int x4, .int x5, .int 0, .int (x7 + 1), uV] [] h) else (if kH h r0 = 15 then (if kH h (rH h r0 1) = 2 then (if inB x7 (lH h (rH h r0 1)) = true then (if ¬ (h.2 (rH h r0 1) x7.toNatClampNeg) = x3 then (rec 76 [.ref r0, .int x1, .int x2, .int x3, .int x4, .int x5, .int 0, .int (x7 + 1), uV] [] h) else (rec 76 [.ref r0, .int x1, .int x2, .int x3, .int x4, .int x5, .int 1, .int (x7 + 1), uV] [] h)) else none) else none) else none)))
theorem uX5_put_76 {G : GG} {d : Nat} (hd : 1 ≤ d) (rec : Nat → List Value → List Value → Hp → RS) (hrec : ∀ pc loc st h o h', rec pc loc st h = some (o, h') → V G mX5_put d pc loc st h o h')   {r0  x1  x2  x3  x4  x5  x6  x7 } {h : Hp} {o : OU} {h' : Hp} (e : kX5_put_76 rec  r0 x1 x2 x3 x4 x5 x6 x7 h = some (o, h')) : V G mX5_put d 76 [.ref r0, .int x1, .int x2, .int x3, .int x4, .int x5, .int x6, .int x7, uV] [] h o h' := by
  unfold kX5_put_76 at e
  refine bX5_put_76 r0 x1 x2 x3 x4 x5 x6 x7 ?_
  refine ⟨fun c1 => ?_, fun c1 => ?_⟩
  · have e := if_t e c1
    refine ⟨fun c2 => ?_, fun c2 => ?_⟩
    · have e := if_t e c2
      obtain ⟨q3, e⟩ := ob_e e
      refine ⟨q3, ?_⟩
      exact hrec _ _ _ _ _ _ e
    · have e := if_f e c2
      cases e
      exact ⟨rfl, rfl⟩
  · have e := if_f e c1
    refine ⟨fun c4 => ?_, fun c4 => ?_⟩
    · have e := if_t e c4
      exact hrec _ _ _ _ _ _ e
    · have e := if_f e c4
      obtain ⟨q5, e⟩ := ob_e e
      refine ⟨q5, ?_⟩
      obtain ⟨q6, e⟩ := ob_e e
      refine ⟨q6, ?_⟩
      obtain ⟨q7, e⟩ := ob_in e
      refine ⟨q7, ?_⟩
      refine ⟨fun c8 => ?_, fun c8 => ?_⟩
      · have e := if_t e c8
        exact hrec _ _ _ _ _ _ e
      · have e := if_n e c8
        exact hrec _ _ _ _ _ _ e
def kX5_put_129 (rec : Nat → List Value → List Value → Hp → RS)  (r0 : Nat) (x1 : Int32) (x2 : Int32) (x3 : Int32) (x5 : Int32) (x7 : Int32) (x8 : Int32) (h : Hp) : RS := (if x5 < x8 then (if kH h r0 = 15 then (if kH h (rH h r0 3) = 1 then (if inB x7 (lH h (rH h r0 3)) = true then (if kH h (rH h r0 4) = 1 then (if inB x7 (lH h (rH h r0 4)) = true then (if kH h (rH h r0 5) = 1 then (if inB x7 (lH h (rH h r0 5)) = true then (rec 203 [.ref r0, uV, uV, uV, uV, uV, uV, .int x7, .int 0] [] (h.1, (upI (upI (upI h.2 (rH h r0 3) x7.toNatClampNeg x1) (rH h r0 4) x7.toNatClampNeg x2) (rH h r0 5) x7.toNatClampNeg x3))) else none) else none) else none) else none) else none) else none) else none) else (if kH h r0 = 15 then (if kH h (rH h r0 1) = 2 then (if inB x8 (lH h (rH h r0 1)) = true then (if kH h (rH h r0 6) = 2 then (if inB (((x7 * 16) + x8) - (x1 * 16)) (lH h (rH h r0 6)) = true then (letH (upI (upI h.2 (rH h r0 6) (((x7 * 16) + x8) - (x1 * 16)).toNatClampNeg ((h.2 (rH h r0 1) x8.toNatClampNeg).toInt8.toInt32)) (rH h r0 1) x8.toNatClampNeg x3.toInt8.toInt32.toInt8.toInt32) fun (i14 : Nat → Nat → Int32) => (rec 129 [.ref r0, .int x1, .int x2, .int x3, uV, .int x5, uV, .int x7, .int (x8 + 1)] [] (h.1, i14))) else none) else none) else none) else none) else none))
theorem uX5_put_129 {G : GG} {d : Nat} (hd : 1 ≤ d) (rec : Nat → List Value → List Value → Hp → RS) (hrec : ∀ pc loc st h o h', rec pc loc st h = some (o, h') → V G mX5_put d pc loc st h o h')   {r0  x1  x2  x3  x5  x7  x8 } {h : Hp} {o : OU} {h' : Hp} (e : kX5_put_129 rec  r0 x1 x2 x3 x5 x7 x8 h = some (o, h')) : V G mX5_put d 129 [.ref r0, .int x1, .int x2, .int x3, uV, .int x5, uV, .int x7, .int x8] [] h o h' := by
  unfold kX5_put_129 at e
  refine bX5_put_129 r0 x1 x2 x3 x5 x7 x8 ?_
  refine ⟨fun c1 => ?_, fun c1 => ?_⟩
  · have e := if_t e c1
    obtain ⟨q2, e⟩ := ob_e e
    refine ⟨q2, ?_⟩
    obtain ⟨q3, e⟩ := ob_e e
    refine ⟨q3, ?_⟩
    obtain ⟨q4, e⟩ := ob_in e
    refine ⟨q4, ?_⟩
    obtain ⟨q5, e⟩ := ob_e e
    refine ⟨q5, ?_⟩
    obtain ⟨q6, e⟩ := ob_in e
    refine ⟨q6, ?_⟩
    obtain ⟨q7, e⟩ := ob_e e
    refine ⟨q7, ?_⟩
    obtain ⟨q8, e⟩ := ob_in e
    refine ⟨q8, ?_⟩
    exact hrec _ _ _ _ _ _ e
  · have e := if_f e c1
    obtain ⟨q9, e⟩ := ob_e e
    refine ⟨q9, ?_⟩
    obtain ⟨q10, e⟩ := ob_e e
    refine ⟨q10, ?_⟩
    obtain ⟨q11, e⟩ := ob_in e
    refine ⟨q11, ?_⟩
    obtain ⟨q12, e⟩ := ob_e e
    refine ⟨q12, ?_⟩
    obtain ⟨q13, e⟩ := ob_in e
    refine ⟨q13, ?_⟩
    intro i14 evi14
    have e := lt_e evi14 e
    exact hrec _ _ _ _ _ _ e
def kX5_put_203 (rec : Nat → List Value → List Value → Hp → RS)  (r0 : Nat) (x7 : Int32) (x8 : Int32) (h : Hp) : RS := (if 4 ≤ x8 then (if kH h r0 = 15 then (if kH h (rH h r0 8) = 1 then (if inB x7 (lH h (rH h r0 8)) = true then (letH (upI (upI (upI h.2 (rH h r0 8) x7.toNatClampNeg (-1)) r0 2 (((upI h.2 (rH h r0 8) x7.toNatClampNeg (-1)) r0 2) + 1)) r0 15 (((upI (upI h.2 (rH h r0 8) x7.toNatClampNeg (-1)) r0 2 (((upI h.2 (rH h r0 8) x7.toNatClampNeg (-1)) r0 2) + 1)) r0 15) + 1)) fun (i5 : Nat → Nat → Int32) => (some (.inl (some (.int x7)), (h.1, i5)))) else none) else none) else none) else (if kH h r0 = 15 then (if kH h (rH h r0 7) = 1 then (if inB ((x7 * 4) + x8) (lH h (rH h r0 7)) = true then (rec 203 [.ref r0, uV, uV, uV, uV, uV, uV, .int x7, .int (x8 + 1)] [] (h.1, (upI h.2 (rH h r0 7) ((x7 * 4) + x8).toNatClampNeg (-1)))) else none) else none) else none))
theorem uX5_put_203 {G : GG} {d : Nat} (hd : 1 ≤ d) (rec : Nat → List Value → List Value → Hp → RS) (hrec : ∀ pc loc st h o h', rec pc loc st h = some (o, h') → V G mX5_put d pc loc st h o h')   {r0  x7  x8 } {h : Hp} {o : OU} {h' : Hp} (e : kX5_put_203 rec  r0 x7 x8 h = some (o, h')) : V G mX5_put d 203 [.ref r0, uV, uV, uV, uV, uV, uV, .int x7, .int x8] [] h o h' := by
  unfold kX5_put_203 at e
  refine bX5_put_203 r0 x7 x8 ?_
  refine ⟨fun c1 => ?_, fun c1 => ?_⟩
  · have e := if_t e c1
    obtain ⟨q2, e⟩ := ob_e e
    refine ⟨q2, ?_⟩
    obtain ⟨q3, e⟩ := ob_e e
    refine ⟨q3, ?_⟩
    obtain ⟨q4, e⟩ := ob_in e
    refine ⟨q4, ?_⟩
    intro i5 evi5
    have e := lt_e evi5 e
    cases e
    exact ⟨rfl, rfl⟩
  · have e := if_f e c1
    obtain ⟨q5, e⟩ := ob_e e
    refine ⟨q5, ?_⟩
    obtain ⟨q6, e⟩ := ob_e e
    refine ⟨q6, ?_⟩
    obtain ⟨q7, e⟩ := ob_in e
    refine ⟨q7, ?_⟩
    exact hrec _ _ _ _ _ _ e
def sX5_put  (rec : Nat → List Value → List Value → Hp → RS) (pc : Nat) (loc st : List Value) (h : Hp) : RS := match pc, loc, st with
  | 76, [.ref r0, .int x1, .int x2, .int x3, .int x4, .int x5, .int x6, .int x7, _], [] => kX5_put_76 rec  r0 x1 x2 x3 x4 x5 x6 x7 h
  | 129, [.ref r0, .int x1, .int x2, .int x3, _, .int x5, _, .int x7, .int x8], [] => kX5_put_129 rec  r0 x1 x2 x3 x5 x7 x8 h
  | 203, [.ref r0, _, _, _, _, _, _, .int x7, .int x8], [] => kX5_put_203 rec  r0 x7 x8 h
  | _, _, _ => none
def gX5_put  : Nat → Nat → List Value → List Value → Hp → RS
  | 0 => fun _ _ _ _ => none
  | n + 1 => sX5_put  (gX5_put  n)
theorem wX5_put {G : GG} {d : Nat} (hd : 1 ≤ d)   : ∀ (n pc : Nat) (loc st : List Value) (h : Hp) (o : OU) (h' : Hp), gX5_put  n pc loc st h = some (o, h') → V G mX5_put d pc loc st h o h' := by
  intro n
  induction n with
  | zero => intro pc loc st h o h' e; cases e
  | succ n ih =>
    intro pc loc st h o h' e
    unfold gX5_put sX5_put at e
    split at e
    · exact V.drop (llp_r (llp_r (llp_r (llp_r (llp_r (llp_r (llp_r (llp_r (llp_u llp_nil))))))))) (uX5_put_76 hd _ ih   e)
    · exact V.drop (llp_r (llp_r (llp_r (llp_r (llp_u (llp_r (llp_u (llp_r (llp_r llp_nil))))))))) (uX5_put_129 hd _ ih   e)
    · exact V.drop (llp_r (llp_u (llp_u (llp_u (llp_u (llp_u (llp_u (llp_r (llp_r llp_nil))))))))) (uX5_put_203 hd _ ih   e)
    · cases e
theorem zX5_put_76  (n : Nat) (r0 : Nat) (x1 : Int32) (x2 : Int32) (x3 : Int32) (x4 : Int32) (x5 : Int32) (x6 : Int32) (x7 : Int32) (y8 : Value) (h : Hp) : gX5_put  (n + 1) 76 [.ref r0, .int x1, .int x2, .int x3, .int x4, .int x5, .int x6, .int x7, y8] [] h = kX5_put_76 (gX5_put  n)  r0 x1 x2 x3 x4 x5 x6 x7 h := rfl
theorem zX5_put_129  (n : Nat) (r0 : Nat) (x1 : Int32) (x2 : Int32) (x3 : Int32) (x5 : Int32) (x7 : Int32) (x8 : Int32) (y4 : Value) (y6 : Value) (h : Hp) : gX5_put  (n + 1) 129 [.ref r0, .int x1, .int x2, .int x3, y4, .int x5, y6, .int x7, .int x8] [] h = kX5_put_129 (gX5_put  n)  r0 x1 x2 x3 x5 x7 x8 h := rfl
theorem zX5_put_203  (n : Nat) (r0 : Nat) (x7 : Int32) (x8 : Int32) (y1 : Value) (y2 : Value) (y3 : Value) (y4 : Value) (y5 : Value) (y6 : Value) (h : Hp) : gX5_put  (n + 1) 203 [.ref r0, y1, y2, y3, y4, y5, y6, .int x7, .int x8] [] h = kX5_put_203 (gX5_put  n)  r0 x7 x8 h := rfl
def fX5_put (r0 : Nat) (x1 : Int32) (x2 : Int32) (x3 : Int32) (h : Hp) : RS := kX5_put_0 (gX5_put FF) r0 x1 x2 x3 h
theorem tX5_put {G : GG} {d : Nat} {r0 x1 x2 x3} {h : Hp} {o : OU} {h' : Hp} (e : fX5_put r0 x1 x2 x3 h = some (o, h')) (hd : 1 ≤ d) : VM G mX5_put d [.ref r0, .int x1, .int x2, .int x3] h o h' := uX5_put_0 hd _ (wX5_put hd FF) e
def kX5_putOff_0  (r0 : Nat) (x1 : Int32) (x2 : Int32) (h : Hp) : RS := (if x2 = (-1) then (some (.inl none, h)) else (if kH h r0 = 15 then (if 64 ≤ (h.2 r0 9) then (some (.inl none, h)) else (if kH h (rH h r0 11) = 1 then (if inB (h.2 r0 9) (lH h (rH h r0 11)) = true then (if kH h (rH h r0 10) = 1 then (if inB ((upI h.2 (rH h r0 11) (h.2 r0 9).toNatClampNeg x1) r0 9) (lH h (rH h r0 10)) = true then (letH (upI (upI h.2 (rH h r0 11) (h.2 r0 9).toNatClampNeg x1) (rH h r0 10) ((upI h.2 (rH h r0 11) (h.2 r0 9).toNatClampNeg x1) r0 9).toNatClampNeg x2) fun (i8 : Nat → Nat → Int32) => (some (.inl none, (h.1, (upI i8 r0 9 ((i8 r0 9) + 1)))))) else none) else none) else none) else none)) else none))
theorem uX5_putOff_0 {G : GG} {d : Nat} (hd : 1 ≤ d)   {r0  x1  x2 } {h : Hp} {o : OU} {h' : Hp} (e : kX5_putOff_0  r0 x1 x2 h = some (o, h')) : VM G mX5_putOff d [.ref r0, .int x1, .int x2] h o h' := by
  unfold kX5_putOff_0 at e
  refine eX5_putOff r0 x1 x2 ?_
  refine ⟨fun c1 => ?_, fun c1 => ?_⟩
  · have e := if_t e c1
    cases e
    exact ⟨rfl, rfl⟩
  · have e := if_f e c1
    obtain ⟨q2, e⟩ := ob_e e
    refine ⟨q2, ?_⟩
    refine ⟨fun c3 => ?_, fun c3 => ?_⟩
    · have e := if_t e c3
      cases e
      exact ⟨rfl, rfl⟩
    · have e := if_f e c3
      obtain ⟨q4, e⟩ := ob_e e
      refine ⟨q4, ?_⟩
      obtain ⟨q5, e⟩ := ob_in e
      refine ⟨q5, ?_⟩
      obtain ⟨q6, e⟩ := ob_e e
      refine ⟨q6, ?_⟩
      obtain ⟨q7, e⟩ := ob_in e
      refine ⟨q7, ?_⟩
      intro i8 evi8
      have e := lt_e evi8 e
      cases e
      exact ⟨rfl, rfl⟩
def fX5_putOff (r0 : Nat) (x1 : Int32) (x2 : Int32) (h : Hp) : RS := kX5_putOff_0 r0 x1 x2 h
theorem tX5_putOff {G : GG} {d : Nat} {r0 x1 x2} {h : Hp} {o : OU} {h' : Hp} (e : fX5_putOff r0 x1 x2 h = some (o, h')) (hd : 1 ≤ d) : VM G mX5_putOff d [.ref r0, .int x1, .int x2] h o h' := uX5_putOff_0 hd e
def kX5_setLinks_0 (rec : Nat → List Value → List Value → Hp → RS)  (r0 : Nat) (x1 : Int32) (x2 : Int32) (h : Hp) : RS := (if kH h r0 = 15 then (bI (fX5_put r0 (1 + (x1 / 4)) (((x1 - x1 / 4 * 4) * 4) + 0) x2 h) fun z2 h1 => (if x2 = 0 then (if kH h1 r0 = 15 then (bI (fX5_put r0 (1 + (x1 / 4)) (((x1 - x1 / 4 * 4) * 4) + 1) 0 h1) fun z7 h6 => (rec 43 [.ref r0, .int x1, uV, .int (1 + (x1 / 4)), .int ((x1 - x1 / 4 * 4) * 4), .int 2, uV] [] h6)) else none) else (some (.inl none, h1)))) else none)
theorem uX5_setLinks_0 {G : GG} {d : Nat} (hd : 2 ≤ d) (rec : Nat → List Value → List Value → Hp → RS) (hrec : ∀ pc loc st h o h', rec pc loc st h = some (o, h') → V G mX5_setLinks d pc loc st h o h')   {r0  x1  x2 } {h : Hp} {o : OU} {h' : Hp} (e : kX5_setLinks_0 rec  r0 x1 x2 h = some (o, h')) : VM G mX5_setLinks d [.ref r0, .int x1, .int x2] h o h' := by
  unfold kX5_setLinks_0 at e
  refine eX5_setLinks r0 x1 x2 (by omega) ?_
  obtain ⟨q1, e⟩ := ob_e e
  refine ⟨q1, ?_⟩
  obtain ⟨z2, h1, e2, e⟩ := bI_e e
  refine ⟨z2, h1, (tX5_put e2 (by omega)), ?_⟩
  refine ⟨fun c3 => ?_, fun c3 => ?_⟩
  · have e := if_t e c3
    obtain ⟨q4, e⟩ := ob_e e
    refine ⟨q4, ?_⟩
    obtain ⟨z7, h6, e5, e⟩ := bI_e e
    refine ⟨z7, h6, (tX5_put e5 (by omega)), ?_⟩
    exact hrec _ _ _ _ _ _ e
  · have e := if_f e c3
    cases e
    exact ⟨rfl, rfl⟩
def kX5_setLinks_43 (rec : Nat → List Value → List Value → Hp → RS)  (r0 : Nat) (x1 : Int32) (x3 : Int32) (x4 : Int32) (x5 : Int32) (h : Hp) : RS := (if 3 < x5 then (some (.inl none, h)) else (if kH h r0 = 15 then (bI (fX5_nodeField r0 0 x1 x5 h) fun z3 h2 => (if z3 = 0 then (rec 43 [.ref r0, .int x1, uV, .int x3, .int x4, .int (x5 + 1), uV] [] h2) else (if kH h2 r0 = 15 then (bI (fX5_put r0 x3 (x4 + x5) 0 h2) fun z8 h7 => (if kH h7 r0 = 15 then (bV (fX5_putOff r0 (100 + z3) z8 h7) fun h11 => (rec 43 [.ref r0, .int x1, uV, .int x3, .int x4, .int (x5 + 1), uV] [] h11)) else none)) else none))) else none))
theorem uX5_setLinks_43 {G : GG} {d : Nat} (hd : 2 ≤ d) (rec : Nat → List Value → List Value → Hp → RS) (hrec : ∀ pc loc st h o h', rec pc loc st h = some (o, h') → V G mX5_setLinks d pc loc st h o h')   {r0  x1  x3  x4  x5 } {h : Hp} {o : OU} {h' : Hp} (e : kX5_setLinks_43 rec  r0 x1 x3 x4 x5 h = some (o, h')) : V G mX5_setLinks d 43 [.ref r0, .int x1, uV, .int x3, .int x4, .int x5, uV] [] h o h' := by
  unfold kX5_setLinks_43 at e
  refine bX5_setLinks_43 r0 x1 x3 x4 x5 (by omega) ?_
  refine ⟨fun c1 => ?_, fun c1 => ?_⟩
  · have e := if_t e c1
    cases e
    exact ⟨rfl, rfl⟩
  · have e := if_f e c1
    obtain ⟨q2, e⟩ := ob_e e
    refine ⟨q2, ?_⟩
    obtain ⟨z3, h2, e3, e⟩ := bI_e e
    refine ⟨z3, h2, (tX5_nodeField e3 (by omega)), ?_⟩
    refine ⟨fun c4 => ?_, fun c4 => ?_⟩
    · have e := if_t e c4
      exact hrec _ _ _ _ _ _ e
    · have e := if_f e c4
      obtain ⟨q5, e⟩ := ob_e e
      refine ⟨q5, ?_⟩
      obtain ⟨z8, h7, e6, e⟩ := bI_e e
      refine ⟨z8, h7, (tX5_put e6 (by omega)), ?_⟩
      obtain ⟨q7, e⟩ := ob_e e
      refine ⟨q7, ?_⟩
      obtain ⟨h11, e8, e⟩ := bV_e e
      refine ⟨h11, (tX5_putOff e8 (by omega)), ?_⟩
      exact hrec _ _ _ _ _ _ e
def sX5_setLinks  (rec : Nat → List Value → List Value → Hp → RS) (pc : Nat) (loc st : List Value) (h : Hp) : RS := match pc, loc, st with
  | 43, [.ref r0, .int x1, _, .int x3, .int x4, .int x5, _], [] => kX5_setLinks_43 rec  r0 x1 x3 x4 x5 h
  | _, _, _ => none
def gX5_setLinks  : Nat → Nat → List Value → List Value → Hp → RS
  | 0 => fun _ _ _ _ => none
  | n + 1 => sX5_setLinks  (gX5_setLinks  n)
theorem wX5_setLinks {G : GG} {d : Nat} (hd : 2 ≤ d)   : ∀ (n pc : Nat) (loc st : List Value) (h : Hp) (o : OU) (h' : Hp), gX5_setLinks  n pc loc st h = some (o, h') → V G mX5_setLinks d pc loc st h o h' := by
  intro n
  induction n with
  | zero => intro pc loc st h o h' e; cases e
  | succ n ih =>
    intro pc loc st h o h' e
    unfold gX5_setLinks sX5_setLinks at e
    split at e
    · exact V.drop (llp_r (llp_r (llp_u (llp_r (llp_r (llp_r (llp_u llp_nil))))))) (uX5_setLinks_43 hd _ ih   e)
    · cases e
theorem zX5_setLinks_43  (n : Nat) (r0 : Nat) (x1 : Int32) (x3 : Int32) (x4 : Int32) (x5 : Int32) (y2 : Value) (y6 : Value) (h : Hp) : gX5_setLinks  (n + 1) 43 [.ref r0, .int x1, y2, .int x3, .int x4, .int x5, y6] [] h = kX5_setLinks_43 (gX5_setLinks  n)  r0 x1 x3 x4 x5 h := rfl
def fX5_setLinks (r0 : Nat) (x1 : Int32) (x2 : Int32) (h : Hp) : RS := kX5_setLinks_0 (gX5_setLinks FF) r0 x1 x2 h
theorem tX5_setLinks {G : GG} {d : Nat} {r0 x1 x2} {h : Hp} {o : OU} {h' : Hp} (e : fX5_setLinks r0 x1 x2 h = some (o, h')) (hd : 2 ≤ d) : VM G mX5_setLinks d [.ref r0, .int x1, .int x2] h o h' := uX5_setLinks_0 hd _ (wX5_setLinks hd FF) e
def kX5_doPutOff_0  (r0 : Nat) (x1 : Int32) (h : Hp) : RS := (if x1 < 100 then (if kH h r0 = 15 then (bI (fX5_nodeField r0 0 x1 0 h) fun z3 h2 => (if z3 ≤ 0 then (some (.inl none, h2)) else (if kH h2 r0 = 15 then (bV (fX5_setLinks r0 x1 (z3 - 1) h2) fun h7 => (some (.inl none, h7))) else none))) else none) else (if kH h r0 = 15 then (bI (fX5_put r0 0 (x1 - 100) 0 h) fun z11 h10 => (some (.inl none, h10))) else none))
theorem uX5_doPutOff_0 {G : GG} {d : Nat} (hd : 3 ≤ d)   {r0  x1 } {h : Hp} {o : OU} {h' : Hp} (e : kX5_doPutOff_0  r0 x1 h = some (o, h')) : VM G mX5_doPutOff d [.ref r0, .int x1] h o h' := by
  unfold kX5_doPutOff_0 at e
  refine eX5_doPutOff r0 x1 (by omega) ?_
  refine ⟨fun c1 => ?_, fun c1 => ?_⟩
  · have e := if_t e c1
    obtain ⟨q2, e⟩ := ob_e e
    refine ⟨q2, ?_⟩
    obtain ⟨z3, h2, e3, e⟩ := bI_e e
    refine ⟨z3, h2, (tX5_nodeField e3 (by omega)), ?_⟩
    refine ⟨fun c4 => ?_, fun c4 => ?_⟩
    · have e := if_t e c4
      cases e
      exact ⟨rfl, rfl⟩
    · have e := if_f e c4
      obtain ⟨q5, e⟩ := ob_e e
      refine ⟨q5, ?_⟩
      obtain ⟨h7, e6, e⟩ := bV_e e
      refine ⟨h7, (tX5_setLinks e6 (by omega)), ?_⟩
      cases e
      exact ⟨rfl, rfl⟩
  · have e := if_f e c1
    obtain ⟨q7, e⟩ := ob_e e
    refine ⟨q7, ?_⟩
    obtain ⟨z11, h10, e8, e⟩ := bI_e e
    refine ⟨z11, h10, (tX5_put e8 (by omega)), ?_⟩
    cases e
    exact ⟨rfl, rfl⟩
def fX5_doPutOff (r0 : Nat) (x1 : Int32) (h : Hp) : RS := kX5_doPutOff_0 r0 x1 h
theorem tX5_doPutOff {G : GG} {d : Nat} {r0 x1} {h : Hp} {o : OU} {h' : Hp} (e : fX5_doPutOff r0 x1 h = some (o, h')) (hd : 3 ≤ d) : VM G mX5_doPutOff d [.ref r0, .int x1] h o h' := uX5_doPutOff_0 hd e
def kX2_writeBlock_0 (rec : Nat → List Value → List Value → Hp → RS)  (r0 : Nat) (r1 : Nat) (x2 : Int32) (h : Hp) : RS := (if x2 < 0 then (some (.inl (some (.int 0)), h)) else (if kH h r1 = 15 then (if (h.2 r1 0) ≤ x2 then (some (.inl (some (.int 0)), h)) else (if ¬ (h.2 r1 2) = 0 then (if kH h r0 = 12 then (bV (fX2_draft r0 r1 x2 h) fun h5 => (if kH h5 r0 = 12 then (if ¬ ((h5.2 r0 4) + (h5.2 r0 5)) = 0 then (if kH h5 r1 = 15 then (if kH h5 (rH h5 r0 2) = 2 then (if kH h5 (rH h5 r1 1) = 2 then (if ¬ (256 + (x2 * 16)) < 0 then (if 0 + 16 ≤ lH h5 (rH h5 r0 2) then (if (256 + (x2 * 16)).toNatClampNeg + 16 ≤ lH h5 (rH h5 r1 1) then (letH (upI (cpI h5.2 (rH h5 r0 2) (rH h5 r1 1) 0 (256 + (x2 * 16)).toNatClampNeg 16) r1 12 (((cpI h5.2 (rH h5 r0 2) (rH h5 r1 1) 0 (256 + (x2 * 16)).toNatClampNeg 16) r1 12) + 1)) fun (i16 : Nat → Nat → Int32) => (if ((upI i16 r1 13 ((i16 r1 13) + (i16 r0 5))) r0 4) ≤ 0 then (some (.inl (some (.int 1)), (h5.1, (upI i16 r1 13 ((i16 r1 13) + (i16 r0 5)))))) else (bV (fX2_closeRanks r0 r1 (h5.1, (upI i16 r1 13 ((i16 r1 13) + (i16 r0 5))))) fun h19 => (if kH h19 r0 = 12 then (bI (fX2_takeDue r0 r1 h19) fun z22 h21 => (rec 107 [.ref r0, .ref r1, uV, .int z22, .int 0] [] h21)) else none)))) else none) else none) else none) else none) else none) else none) else (some (.inl (some (.int 0)), h5))) else none)) else none) else (some (.inl (some (.int 0)), h)))) else none))
theorem uX2_writeBlock_0 {G : GG} {d : Nat} (hd : 4 ≤ d) (rec : Nat → List Value → List Value → Hp → RS) (hrec : ∀ pc loc st h o h', rec pc loc st h = some (o, h') → V G mX2_writeBlock d pc loc st h o h')   {r0  r1  x2 } {h : Hp} {o : OU} {h' : Hp} (e : kX2_writeBlock_0 rec  r0 r1 x2 h = some (o, h')) : VM G mX2_writeBlock d [.ref r0, .ref r1, .int x2] h o h' := by
  unfold kX2_writeBlock_0 at e
  refine eX2_writeBlock r0 r1 x2 (by omega) ?_
  refine ⟨fun c1 => ?_, fun c1 => ?_⟩
  · have e := if_t e c1
    cases e
    exact ⟨rfl, rfl⟩
  · have e := if_f e c1
    obtain ⟨q2, e⟩ := ob_e e
    refine ⟨q2, ?_⟩
    refine ⟨fun c3 => ?_, fun c3 => ?_⟩
    · have e := if_t e c3
      cases e
      exact ⟨rfl, rfl⟩
    · have e := if_f e c3
      refine ⟨fun c4 => ?_, fun c4 => ?_⟩
      · have e := if_t e c4
        obtain ⟨q5, e⟩ := ob_e e
        refine ⟨q5, ?_⟩
        obtain ⟨h5, e6, e⟩ := bV_e e
        refine ⟨h5, (tX2_draft e6 (by omega)), ?_⟩
        obtain ⟨q7, e⟩ := ob_e e
        refine ⟨q7, ?_⟩
        refine ⟨fun c8 => ?_, fun c8 => ?_⟩
        · have e := if_t e c8
          obtain ⟨q9, e⟩ := ob_e e
          refine ⟨q9, ?_⟩
          obtain ⟨q10, e⟩ := ob_e e
          refine ⟨q10, ?_⟩
          obtain ⟨q11, e⟩ := ob_e e
          refine ⟨q11, ?_⟩
          obtain ⟨q12, e⟩ := ob_e e
          refine ⟨q12, ?_⟩
          obtain ⟨q13, e⟩ := ob_e e
          refine ⟨q13, ?_⟩
          obtain ⟨q14, e⟩ := ob_e e
          refine ⟨q14, ?_⟩
          intro i16 evi16
          have e := lt_e evi16 e
          refine ⟨fun c15 => ?_, fun c15 => ?_⟩
          · have e := if_t e c15
            cases e
            exact ⟨rfl, rfl⟩
          · have e := if_f e c15
            obtain ⟨h19, e16, e⟩ := bV_e e
            refine ⟨h19, (tX2_closeRanks e16 (by omega)), ?_⟩
            obtain ⟨q17, e⟩ := ob_e e
            refine ⟨q17, ?_⟩
            obtain ⟨z22, h21, e18, e⟩ := bI_e e
            refine ⟨z22, h21, (tX2_takeDue e18 (by omega)), ?_⟩
            exact hrec _ _ _ _ _ _ e
        · have e := if_n e c8
          cases e
          exact ⟨rfl, rfl⟩
      · have e := if_n e c4
        cases e
        exact ⟨rfl, rfl⟩
def kX2_writeBlock_107 (rec : Nat → List Value → List Value → Hp → RS)  (r0 : Nat) (r1 : Nat) (x3 : Int32) (x4 : Int32) (h : Hp) : RS := (if x3 ≤ x4 then (some (.inl (some (.int 1)), h)) else (if kH h r0 = 12 then (if kH h (rH h r0 3) = 1 then (if inB x4 (lH h (rH h r0 3)) = true then (if kH h r1 = 15 then (bV (fX5_doPutOff r1 (h.2 (rH h r0 3) x4.toNatClampNeg) h) fun h5 => (rec 107 [.ref r0, .ref r1, uV, .int x3, .int (x4 + 1)] [] h5)) else none) else none) else none) else none))
theorem uX2_writeBlock_107 {G : GG} {d : Nat} (hd : 4 ≤ d) (rec : Nat → List Value → List Value → Hp → RS) (hrec : ∀ pc loc st h o h', rec pc loc st h = some (o, h') → V G mX2_writeBlock d pc loc st h o h')   {r0  r1  x3  x4 } {h : Hp} {o : OU} {h' : Hp} (e : kX2_writeBlock_107 rec  r0 r1 x3 x4 h = some (o, h')) : V G mX2_writeBlock d 107 [.ref r0, .ref r1, uV, .int x3, .int x4] [] h o h' := by
  unfold kX2_writeBlock_107 at e
  refine bX2_writeBlock_107 r0 r1 x3 x4 (by omega) ?_
  refine ⟨fun c1 => ?_, fun c1 => ?_⟩
  · have e := if_t e c1
    cases e
    exact ⟨rfl, rfl⟩
  · have e := if_f e c1
    obtain ⟨q2, e⟩ := ob_e e
    refine ⟨q2, ?_⟩
    obtain ⟨q3, e⟩ := ob_e e
    refine ⟨q3, ?_⟩
    obtain ⟨q4, e⟩ := ob_in e
    refine ⟨q4, ?_⟩
    obtain ⟨q5, e⟩ := ob_e e
    refine ⟨q5, ?_⟩
    obtain ⟨h5, e6, e⟩ := bV_e e
    refine ⟨h5, (tX5_doPutOff e6 (by omega)), ?_⟩
    exact hrec _ _ _ _ _ _ e
def sX2_writeBlock  (rec : Nat → List Value → List Value → Hp → RS) (pc : Nat) (loc st : List Value) (h : Hp) : RS := match pc, loc, st with
  | 107, [.ref r0, .ref r1, _, .int x3, .int x4], [] => kX2_writeBlock_107 rec  r0 r1 x3 x4 h
  | _, _, _ => none
def gX2_writeBlock  : Nat → Nat → List Value → List Value → Hp → RS
  | 0 => fun _ _ _ _ => none
  | n + 1 => sX2_writeBlock  (gX2_writeBlock  n)
theorem wX2_writeBlock {G : GG} {d : Nat} (hd : 4 ≤ d)   : ∀ (n pc : Nat) (loc st : List Value) (h : Hp) (o : OU) (h' : Hp), gX2_writeBlock  n pc loc st h = some (o, h') → V G mX2_writeBlock d pc loc st h o h' := by
  intro n
  induction n with
  | zero => intro pc loc st h o h' e; cases e
  | succ n ih =>
    intro pc loc st h o h' e
    unfold gX2_writeBlock sX2_writeBlock at e
    split at e
    · exact V.drop (llp_r (llp_r (llp_u (llp_r (llp_r llp_nil))))) (uX2_writeBlock_107 hd _ ih   e)
    · cases e
theorem zX2_writeBlock_107  (n : Nat) (r0 : Nat) (r1 : Nat) (x3 : Int32) (x4 : Int32) (y2 : Value) (h : Hp) : gX2_writeBlock  (n + 1) 107 [.ref r0, .ref r1, y2, .int x3, .int x4] [] h = kX2_writeBlock_107 (gX2_writeBlock  n)  r0 r1 x3 x4 h := rfl
def fX2_writeBlock (r0 : Nat) (r1 : Nat) (x2 : Int32) (h : Hp) : RS := kX2_writeBlock_0 (gX2_writeBlock FF) r0 r1 x2 h
theorem tX2_writeBlock {G : GG} {d : Nat} {r0 r1 x2} {h : Hp} {o : OU} {h' : Hp} (e : fX2_writeBlock r0 r1 x2 h = some (o, h')) (hd : 4 ≤ d) : VM G mX2_writeBlock d [.ref r0, .ref r1, .int x2] h o h' := uX2_writeBlock_0 hd _ (wX2_writeBlock hd FF) e
def kX2_syncAll_0 (rec : Nat → List Value → List Value → Hp → RS)  (r0 : Nat) (r1 : Nat) (h : Hp) : RS := (rec 4 [.ref r0, .ref r1, .int 0, .int 0] [] h)
theorem uX2_syncAll_0 {G : GG} {d : Nat} (hd : 5 ≤ d) (rec : Nat → List Value → List Value → Hp → RS) (hrec : ∀ pc loc st h o h', rec pc loc st h = some (o, h') → V G mX2_syncAll d pc loc st h o h')   {r0  r1 } {h : Hp} {o : OU} {h' : Hp} (e : kX2_syncAll_0 rec  r0 r1 h = some (o, h')) : VM G mX2_syncAll d [.ref r0, .ref r1] h o h' := by
  unfold kX2_syncAll_0 at e
  refine eX2_syncAll r0 r1 ?_
  exact hrec _ _ _ _ _ _ e
def kX2_syncAll_4 (rec : Nat → List Value → List Value → Hp → RS)  (r0 : Nat) (r1 : Nat) (x2 : Int32) (x3 : Int32) (h : Hp) : RS := (if kH h r1 = 15 then (if (h.2 r1 0) ≤ x3 then (some (.inl (some (.int x2)), h)) else (if kH h r0 = 12 then (bI (fX2_writeBlock r0 r1 x3 h) fun z4 h3 => (if z4 = 0 then (rec 4 [.ref r0, .ref r1, .int x2, .int (x3 + 1)] [] h3) else (rec 4 [.ref r0, .ref r1, .int (x2 + 1), .int (x3 + 1)] [] h3))) else none)) else none)
theorem uX2_syncAll_4 {G : GG} {d : Nat} (hd : 5 ≤ d) (rec : Nat → List Value → List Value → Hp → RS) (hrec : ∀ pc loc st h o h', rec pc loc st h = some (o, h') → V G mX2_syncAll d pc loc st h o h')   {r0  r1  x2  x3 } {h : Hp} {o : OU} {h' : Hp} (e : kX2_syncAll_4 rec  r0 r1 x2 x3 h = some (o, h')) : V G mX2_syncAll d 4 [.ref r0, .ref r1, .int x2, .int x3] [] h o h' := by
  unfold kX2_syncAll_4 at e
  refine bX2_syncAll_4 r0 r1 x2 x3 (by omega) ?_
  obtain ⟨q1, e⟩ := ob_e e
  refine ⟨q1, ?_⟩
  refine ⟨fun c2 => ?_, fun c2 => ?_⟩
  · have e := if_t e c2
    cases e
    exact ⟨rfl, rfl⟩
  · have e := if_f e c2
    obtain ⟨q3, e⟩ := ob_e e
    refine ⟨q3, ?_⟩
    obtain ⟨z4, h3, e4, e⟩ := bI_e e
    refine ⟨z4, h3, (tX2_writeBlock e4 (by omega)), ?_⟩
    refine ⟨fun c5 => ?_, fun c5 => ?_⟩
    · have e := if_t e c5
      exact hrec _ _ _ _ _ _ e
    · have e := if_f e c5
      exact hrec _ _ _ _ _ _ e
def sX2_syncAll  (rec : Nat → List Value → List Value → Hp → RS) (pc : Nat) (loc st : List Value) (h : Hp) : RS := match pc, loc, st with
  | 4, [.ref r0, .ref r1, .int x2, .int x3], [] => kX2_syncAll_4 rec  r0 r1 x2 x3 h
  | _, _, _ => none
def gX2_syncAll  : Nat → Nat → List Value → List Value → Hp → RS
  | 0 => fun _ _ _ _ => none
  | n + 1 => sX2_syncAll  (gX2_syncAll  n)
theorem wX2_syncAll {G : GG} {d : Nat} (hd : 5 ≤ d)   : ∀ (n pc : Nat) (loc st : List Value) (h : Hp) (o : OU) (h' : Hp), gX2_syncAll  n pc loc st h = some (o, h') → V G mX2_syncAll d pc loc st h o h' := by
  intro n
  induction n with
  | zero => intro pc loc st h o h' e; cases e
  | succ n ih =>
    intro pc loc st h o h' e
    unfold gX2_syncAll sX2_syncAll at e
    split at e
    · exact uX2_syncAll_4 hd _ ih   e
    · cases e
theorem zX2_syncAll_4  (n : Nat) (r0 : Nat) (r1 : Nat) (x2 : Int32) (x3 : Int32)  (h : Hp) : gX2_syncAll  (n + 1) 4 [.ref r0, .ref r1, .int x2, .int x3] [] h = kX2_syncAll_4 (gX2_syncAll  n)  r0 r1 x2 x3 h := rfl
def fX2_syncAll (r0 : Nat) (r1 : Nat) (h : Hp) : RS := kX2_syncAll_0 (gX2_syncAll FF) r0 r1 h
theorem tX2_syncAll {G : GG} {d : Nat} {r0 r1} {h : Hp} {o : OU} {h' : Hp} (e : fX2_syncAll r0 r1 h = some (o, h')) (hd : 5 ≤ d) : VM G mX2_syncAll d [.ref r0, .ref r1] h o h' := uX2_syncAll_0 hd _ (wX2_syncAll hd FF) e
def kX2_settleAll_0 (rec : Nat → List Value → List Value → Hp → RS)  (r0 : Nat) (r1 : Nat) (h : Hp) : RS := (rec 4 [.ref r0, .ref r1, .int 0, .int 0] [] h)
theorem uX2_settleAll_0 {G : GG} {d : Nat} (hd : 6 ≤ d) (rec : Nat → List Value → List Value → Hp → RS) (hrec : ∀ pc loc st h o h', rec pc loc st h = some (o, h') → V G mX2_settleAll d pc loc st h o h')   {r0  r1 } {h : Hp} {o : OU} {h' : Hp} (e : kX2_settleAll_0 rec  r0 r1 h = some (o, h')) : VM G mX2_settleAll d [.ref r0, .ref r1] h o h' := by
  unfold kX2_settleAll_0 at e
  refine eX2_settleAll r0 r1 ?_
  exact hrec _ _ _ _ _ _ e
def kX2_settleAll_4 (rec : Nat → List Value → List Value → Hp → RS)  (r0 : Nat) (r1 : Nat) (x2 : Int32) (x3 : Int32) (h : Hp) : RS := (if 10000 ≤ x3 then (some (.inl (some (.int x2)), h)) else (if kH h r1 = 15 then (if (h.2 r1 2) ≤ 0 then (some (.inl (some (.int x2)), h)) else (if kH h r0 = 12 then (bI (fX2_syncAll r0 r1 h) fun z5 h4 => (rec 4 [.ref r0, .ref r1, .int (x2 + z5), .int (x3 + 1)] [] h4)) else none)) else none))
theorem uX2_settleAll_4 {G : GG} {d : Nat} (hd : 6 ≤ d) (rec : Nat → List Value → List Value → Hp → RS) (hrec : ∀ pc loc st h o h', rec pc loc st h = some (o, h') → V G mX2_settleAll d pc loc st h o h')   {r0  r1  x2  x3 } {h : Hp} {o : OU} {h' : Hp} (e : kX2_settleAll_4 rec  r0 r1 x2 x3 h = some (o, h')) : V G mX2_settleAll d 4 [.ref r0, .ref r1, .int x2, .int x3] [] h o h' := by
  unfold kX2_settleAll_4 at e
  refine bX2_settleAll_4 r0 r1 x2 x3 (by omega) ?_
  refine ⟨fun c1 => ?_, fun c1 => ?_⟩
  · have e := if_t e c1
    cases e
    exact ⟨rfl, rfl⟩
  · have e := if_f e c1
    obtain ⟨q2, e⟩ := ob_e e
    refine ⟨q2, ?_⟩
    refine ⟨fun c3 => ?_, fun c3 => ?_⟩
    · have e := if_t e c3
      cases e
      exact ⟨rfl, rfl⟩
    · have e := if_f e c3
      obtain ⟨q4, e⟩ := ob_e e
      refine ⟨q4, ?_⟩
      obtain ⟨z5, h4, e5, e⟩ := bI_e e
      refine ⟨z5, h4, (tX2_syncAll e5 (by omega)), ?_⟩
      exact hrec _ _ _ _ _ _ e
def sX2_settleAll  (rec : Nat → List Value → List Value → Hp → RS) (pc : Nat) (loc st : List Value) (h : Hp) : RS := match pc, loc, st with
  | 4, [.ref r0, .ref r1, .int x2, .int x3], [] => kX2_settleAll_4 rec  r0 r1 x2 x3 h
  | _, _, _ => none
def gX2_settleAll  : Nat → Nat → List Value → List Value → Hp → RS
  | 0 => fun _ _ _ _ => none
  | n + 1 => sX2_settleAll  (gX2_settleAll  n)
theorem wX2_settleAll {G : GG} {d : Nat} (hd : 6 ≤ d)   : ∀ (n pc : Nat) (loc st : List Value) (h : Hp) (o : OU) (h' : Hp), gX2_settleAll  n pc loc st h = some (o, h') → V G mX2_settleAll d pc loc st h o h' := by
  intro n
  induction n with
  | zero => intro pc loc st h o h' e; cases e
  | succ n ih =>
    intro pc loc st h o h' e
    unfold gX2_settleAll sX2_settleAll at e
    split at e
    · exact uX2_settleAll_4 hd _ ih   e
    · cases e
theorem zX2_settleAll_4  (n : Nat) (r0 : Nat) (r1 : Nat) (x2 : Int32) (x3 : Int32)  (h : Hp) : gX2_settleAll  (n + 1) 4 [.ref r0, .ref r1, .int x2, .int x3] [] h = kX2_settleAll_4 (gX2_settleAll  n)  r0 r1 x2 x3 h := rfl
def fX2_settleAll (r0 : Nat) (r1 : Nat) (h : Hp) : RS := kX2_settleAll_0 (gX2_settleAll FF) r0 r1 h
theorem tX2_settleAll {G : GG} {d : Nat} {r0 r1} {h : Hp} {o : OU} {h' : Hp} (e : fX2_settleAll r0 r1 h = some (o, h')) (hd : 6 ≤ d) : VM G mX2_settleAll d [.ref r0, .ref r1] h o h' := uX2_settleAll_0 hd _ (wX2_settleAll hd FF) e
def kX4_init_0  (r0 : Nat) (h : Hp) : RS := (if r0 ≠ 0 then (letH (nwH h 1 64 64) fun (h2 : Hp) => (if kH h2 r0 = 14 then (letH (sR h2 r0 2 (nH h)) fun (h5 : Hp) => (letH (nwH h5 1 64 64) fun (h7 : Hp) => (if kH h7 r0 = 14 then (letH (sR h7 r0 3 (nH h5)) fun (h10 : Hp) => (letH (nwH h10 1 64 64) fun (h12 : Hp) => (if kH h12 r0 = 14 then (letH (sR h12 r0 4 (nH h10)) fun (h15 : Hp) => (letH (nwH h15 1 64 64) fun (h17 : Hp) => (if kH h17 r0 = 14 then (letH (sR h17 r0 5 (nH h15)) fun (h20 : Hp) => (letH (nwH h20 1 64 64) fun (h22 : Hp) => (if kH h22 r0 = 14 then (letH (sR h22 r0 6 (nH h20)) fun (h25 : Hp) => (letH (nwH h25 1 64 64) fun (h27 : Hp) => (if kH h27 r0 = 14 then (letH (sR h27 r0 7 (nH h25)) fun (h30 : Hp) => (some (.inl none, h30))) else none))) else none))) else none))) else none))) else none))) else none)) else none)
theorem uX4_init_0 {G : GG} {d : Nat} (hd : 1 ≤ d)   {r0 } {h : Hp} {o : OU} {h' : Hp} (e : kX4_init_0  r0 h = some (o, h')) : VM G mX4_init d [.ref r0] h o h' := by
  unfold kX4_init_0 at e
  refine eX4_init r0 (by omega) ?_
  obtain ⟨q1, e⟩ := ob_e e
  refine ⟨q1, ?_⟩
  intro h2 evh2
  have e := lt_e evh2 e
  obtain ⟨q2, e⟩ := ob_e e
  refine ⟨q2, ?_⟩
  intro h5 evh5
  have e := lt_e evh5 e
  intro h7 evh7
  have e := lt_e evh7 e
  obtain ⟨q3, e⟩ := ob_e e
  refine ⟨q3, ?_⟩
  intro h10 evh10
  have e := lt_e evh10 e
  intro h12 evh12
  have e := lt_e evh12 e
  obtain ⟨q4, e⟩ := ob_e e
  refine ⟨q4, ?_⟩
  intro h15 evh15
  have e := lt_e evh15 e
  intro h17 evh17
  have e := lt_e evh17 e
  obtain ⟨q5, e⟩ := ob_e e
  refine ⟨q5, ?_⟩
  intro h20 evh20
  have e := lt_e evh20 e
  intro h22 evh22
  have e := lt_e evh22 e
  obtain ⟨q6, e⟩ := ob_e e
  refine ⟨q6, ?_⟩
  intro h25 evh25
  have e := lt_e evh25 e
  intro h27 evh27
  have e := lt_e evh27 e
  obtain ⟨q7, e⟩ := ob_e e
  refine ⟨q7, ?_⟩
  intro h30 evh30
  have e := lt_e evh30 e
  cases e
  exact ⟨rfl, rfl⟩
def fX4_init (r0 : Nat) (h : Hp) : RS := kX4_init_0 r0 h
theorem tX4_init {G : GG} {d : Nat} {r0} {h : Hp} {o : OU} {h' : Hp} (e : fX4_init r0 h = some (o, h')) (hd : 1 ≤ d) : VM G mX4_init d [.ref r0] h o h' := uX4_init_0 hd e
def kX3_init_0  (r0 : Nat) (h : Hp) : RS := (if r0 ≠ 0 then (letH (nwH h 14 0 8) fun (h2 : Hp) => (if (nH h) ≠ 0 then (bV (fX4_init (nH h) h2) fun h4 => (if kH h4 r0 = 13 then (letH (sR h4 r0 0 (nH h)) fun (h8 : Hp) => (letH (nwH h8 1 16 16) fun (h10 : Hp) => (if kH h10 r0 = 13 then (letH (sR h10 r0 1 (nH h8)) fun (h13 : Hp) => (letH (nwH h13 2 600 600) fun (h15 : Hp) => (if kH h15 r0 = 13 then (letH (sR h15 r0 5 (nH h13)) fun (h18 : Hp) => (letH (nwH h18 1 6 6) fun (h20 : Hp) => (if kH h20 r0 = 13 then (letH (sR h20 r0 8 (nH h18)) fun (h23 : Hp) => (some (.inl none, h23))) else none))) else none))) else none))) else none)) else none)) else none)
theorem uX3_init_0 {G : GG} {d : Nat} (hd : 2 ≤ d)   {r0 } {h : Hp} {o : OU} {h' : Hp} (e : kX3_init_0  r0 h = some (o, h')) : VM G mX3_init d [.ref r0] h o h' := by
  unfold kX3_init_0 at e
  refine eX3_init r0 (by omega) ?_
  obtain ⟨q1, e⟩ := ob_e e
  refine ⟨q1, ?_⟩
  intro h2 evh2
  have e := lt_e evh2 e
  obtain ⟨q2, e⟩ := ob_e e
  refine ⟨q2, ?_⟩
  obtain ⟨h4, e3, e⟩ := bV_e e
  refine ⟨h4, (tX4_init e3 (by omega)), ?_⟩
  obtain ⟨q4, e⟩ := ob_e e
  refine ⟨q4, ?_⟩
  intro h8 evh8
  have e := lt_e evh8 e
  intro h10 evh10
  have e := lt_e evh10 e
  obtain ⟨q5, e⟩ := ob_e e
  refine ⟨q5, ?_⟩
  intro h13 evh13
  have e := lt_e evh13 e
  intro h15 evh15
  have e := lt_e evh15 e
  obtain ⟨q6, e⟩ := ob_e e
  refine ⟨q6, ?_⟩
  intro h18 evh18
  have e := lt_e evh18 e
  intro h20 evh20
  have e := lt_e evh20 e
  obtain ⟨q7, e⟩ := ob_e e
  refine ⟨q7, ?_⟩
  intro h23 evh23
  have e := lt_e evh23 e
  cases e
  exact ⟨rfl, rfl⟩
def fX3_init (r0 : Nat) (h : Hp) : RS := kX3_init_0 r0 h
theorem tX3_init {G : GG} {d : Nat} {r0} {h : Hp} {o : OU} {h' : Hp} (e : fX3_init r0 h = some (o, h')) (hd : 2 ≤ d) : VM G mX3_init d [.ref r0] h o h' := uX3_init_0 hd e
def kX4_clear_0  (r0 : Nat) (h : Hp) : RS := (if kH h r0 = 14 then (some (.inl none, (h.1, (upI (upI h.2 r0 0 16) r0 1 0)))) else none)
theorem uX4_clear_0 {G : GG} {d : Nat} (hd : 1 ≤ d)   {r0 } {h : Hp} {o : OU} {h' : Hp} (e : kX4_clear_0  r0 h = some (o, h')) : VM G mX4_clear d [.ref r0] h o h' := by
  unfold kX4_clear_0 at e
  refine eX4_clear r0 ?_
  obtain ⟨q1, e⟩ := ob_e e
  refine ⟨q1, ?_⟩
  cases e
  exact ⟨rfl, rfl⟩
def fX4_clear (r0 : Nat) (h : Hp) : RS := kX4_clear_0 r0 h
theorem tX4_clear {G : GG} {d : Nat} {r0} {h : Hp} {o : OU} {h' : Hp} (e : fX4_clear r0 h = some (o, h')) (hd : 1 ≤ d) : VM G mX4_clear d [.ref r0] h o h' := uX4_clear_0 hd e
def kX3_begin_0  (r0 : Nat) (r1 : Nat) (x2 : Int32) (h : Hp) : RS := (if kH h r1 = 2 then (if kH h r0 = 13 then (letH (upI h.2 r0 6 (if 0 < (if (if 600 < ((lH h r1).toInt32) then 600 else ((lH h r1).toInt32)) < x2 then (if 600 < ((lH h r1).toInt32) then 600 else ((lH h r1).toInt32)) else x2) then (if (if 600 < ((lH h r1).toInt32) then 600 else ((lH h r1).toInt32)) < x2 then (if 600 < ((lH h r1).toInt32) then 600 else ((lH h r1).toInt32)) else x2) else 0)) fun (i3 : Nat → Nat → Int32) => (if kH h (rH h r0 5) = 2 then (if ¬ (i3 r0 6) < 0 then (if 0 + (i3 r0 6).toNatClampNeg ≤ lH h r1 then (if 0 + (i3 r0 6).toNatClampNeg ≤ lH h (rH h r0 5) then (if kH h (rH h r0 0) = 14 then (bV (fX4_clear (rH h r0 0) (h.1, (upI (upI (upI (upI (cpI i3 r1 (rH h r0 5) 0 0 (i3 r0 6).toNatClampNeg) r0 7 0) r0 4 0) r0 3 (-1)) r0 9 0))) fun h9 => (some (.inl none, h9))) else none) else none) else none) else none) else none)) else none) else none)
theorem uX3_begin_0 {G : GG} {d : Nat} (hd : 2 ≤ d)   {r0  r1  x2 } {h : Hp} {o : OU} {h' : Hp} (e : kX3_begin_0  r0 r1 x2 h = some (o, h')) : VM G mX3_begin d [.ref r0, .ref r1, .int x2] h o h' := by
  unfold kX3_begin_0 at e
  refine eX3_begin r0 r1 x2 (by omega) ?_
  obtain ⟨q1, e⟩ := ob_e e
  refine ⟨q1, ?_⟩
  obtain ⟨q2, e⟩ := ob_e e
  refine ⟨q2, ?_⟩
  intro i3 evi3
  have e := lt_e evi3 e
  obtain ⟨q3, e⟩ := ob_e e
  refine ⟨q3, ?_⟩
  obtain ⟨q4, e⟩ := ob_e e
  refine ⟨q4, ?_⟩
  obtain ⟨q5, e⟩ := ob_e e
  refine ⟨q5, ?_⟩
  obtain ⟨q6, e⟩ := ob_e e
  refine ⟨q6, ?_⟩
  obtain ⟨q7, e⟩ := ob_e e
  refine ⟨q7, ?_⟩
  obtain ⟨h9, e8, e⟩ := bV_e e
  refine ⟨h9, (tX4_clear e8 (by omega)), ?_⟩
  cases e
  exact ⟨rfl, rfl⟩
def fX3_begin (r0 : Nat) (r1 : Nat) (x2 : Int32) (h : Hp) : RS := kX3_begin_0 r0 r1 x2 h
theorem tX3_begin {G : GG} {d : Nat} {r0 r1 x2} {h : Hp} {o : OU} {h' : Hp} (e : fX3_begin r0 r1 x2 h = some (o, h')) (hd : 2 ≤ d) : VM G mX3_begin d [.ref r0, .ref r1, .int x2] h o h' := uX3_begin_0 hd e
def kX3_atEnd_0 (rec : Nat → List Value → List Value → Hp → RS)  (r0 : Nat) (h : Hp) : RS := (if kH h r0 = 13 then (if (h.2 r0 6) ≤ (h.2 r0 7) then (if (h.2 r0 7) < (h.2 r0 6) then (some (.inl (some (.int 0)), h)) else (some (.inl (some (.int 1)), h))) else (if kH h (rH h r0 5) = 2 then (if inB (h.2 r0 7) (lH h (rH h r0 5)) = true then (if ¬ (h.2 (rH h r0 5) (h.2 r0 7).toNatClampNeg) = 32 then (if (h.2 r0 7) < (h.2 r0 6) then (some (.inl (some (.int 0)), h)) else (some (.inl (some (.int 1)), h))) else (rec 0 [.ref r0] [] (h.1, (upI h.2 r0 7 ((h.2 r0 7) + 1))))) else none) else none)) else none)
theorem uX3_atEnd_0 {G : GG} {d : Nat} (hd : 1 ≤ d) (rec : Nat → List Value → List Value → Hp → RS) (hrec : ∀ pc loc st h o h', rec pc loc st h = some (o, h') → V G mX3_atEnd d pc loc st h o h')   {r0 } {h : Hp} {o : OU} {h' : Hp} (e : kX3_atEnd_0 rec  r0 h = some (o, h')) : V G mX3_atEnd d 0 [.ref r0] [] h o h' := by
  unfold kX3_atEnd_0 at e
  refine bX3_atEnd_0 r0 ?_
  obtain ⟨q1, e⟩ := ob_e e
  refine ⟨q1, ?_⟩
  refine ⟨fun c2 => ?_, fun c2 => ?_⟩
  · have e := if_t e c2
    refine ⟨fun c3 => ?_, fun c3 => ?_⟩
    · have e := if_t e c3
      cases e
      exact ⟨rfl, rfl⟩
    · have e := if_f e c3
      cases e
      exact ⟨rfl, rfl⟩
  · have e := if_f e c2
    obtain ⟨q4, e⟩ := ob_e e
    refine ⟨q4, ?_⟩
    obtain ⟨q5, e⟩ := ob_in e
    refine ⟨q5, ?_⟩
    refine ⟨fun c6 => ?_, fun c6 => ?_⟩
    · have e := if_t e c6
      refine ⟨fun c7 => ?_, fun c7 => ?_⟩
      · have e := if_t e c7
        cases e
        exact ⟨rfl, rfl⟩
      · have e := if_f e c7
        cases e
        exact ⟨rfl, rfl⟩
    · have e := if_n e c6
      exact hrec _ _ _ _ _ _ e
def sX3_atEnd  (rec : Nat → List Value → List Value → Hp → RS) (pc : Nat) (loc st : List Value) (h : Hp) : RS := match pc, loc, st with
  | 0, [.ref r0], [] => kX3_atEnd_0 rec  r0 h
  | _, _, _ => none
def gX3_atEnd  : Nat → Nat → List Value → List Value → Hp → RS
  | 0 => fun _ _ _ _ => none
  | n + 1 => sX3_atEnd  (gX3_atEnd  n)
theorem wX3_atEnd {G : GG} {d : Nat} (hd : 1 ≤ d)   : ∀ (n pc : Nat) (loc st : List Value) (h : Hp) (o : OU) (h' : Hp), gX3_atEnd  n pc loc st h = some (o, h') → V G mX3_atEnd d pc loc st h o h' := by
  intro n
  induction n with
  | zero => intro pc loc st h o h' e; cases e
  | succ n ih =>
    intro pc loc st h o h' e
    unfold gX3_atEnd sX3_atEnd at e
    split at e
    · exact uX3_atEnd_0 hd _ ih   e
    · cases e
theorem zX3_atEnd_0  (n : Nat) (r0 : Nat)  (h : Hp) : gX3_atEnd  (n + 1) 0 [.ref r0] [] h = kX3_atEnd_0 (gX3_atEnd  n)  r0 h := rfl
def fX3_atEnd (r0 : Nat) (h : Hp) : RS := gX3_atEnd FF 0 [.ref r0] [] h
theorem tX3_atEnd {G : GG} {d : Nat} {r0} {h : Hp} {o : OU} {h' : Hp} (e : fX3_atEnd r0 h = some (o, h')) (hd : 1 ≤ d) : VM G mX3_atEnd d [.ref r0] h o h' := V.toM rfl rfl (le_l rfl) (cat_all rfl) (wX3_atEnd hd FF 0 [.ref r0] [] h o h' e)
def kX3_blame_0  (r0 : Nat) (x1 : Int32) (x2 : Int32) (h : Hp) : RS := (if kH h r0 = 13 then (if ¬ (h.2 r0 4) = 0 then (some (.inl none, h)) else (some (.inl none, (h.1, (upI (upI h.2 r0 4 x1) r0 3 x2))))) else none)
theorem uX3_blame_0 {G : GG} {d : Nat} (hd : 1 ≤ d)   {r0  x1  x2 } {h : Hp} {o : OU} {h' : Hp} (e : kX3_blame_0  r0 x1 x2 h = some (o, h')) : VM G mX3_blame d [.ref r0, .int x1, .int x2] h o h' := by
  unfold kX3_blame_0 at e
  refine eX3_blame r0 x1 x2 ?_
  obtain ⟨q1, e⟩ := ob_e e
  refine ⟨q1, ?_⟩
  refine ⟨fun c2 => ?_, fun c2 => ?_⟩
  · have e := if_t e c2
    cases e
    exact ⟨rfl, rfl⟩
  · have e := if_n e c2
    cases e
    exact ⟨rfl, rfl⟩
def fX3_blame (r0 : Nat) (x1 : Int32) (x2 : Int32) (h : Hp) : RS := kX3_blame_0 r0 x1 x2 h
theorem tX3_blame {G : GG} {d : Nat} {r0 x1 x2} {h : Hp} {o : OU} {h' : Hp} (e : fX3_blame r0 x1 x2 h = some (o, h')) (hd : 1 ≤ d) : VM G mX3_blame d [.ref r0, .int x1, .int x2] h o h' := uX3_blame_0 hd e
def kX3_isDigit_0  (r0 : Nat) (x1 : Int32) (h : Hp) : RS := (if x1 < 48 then (some (.inl (some (.int 0)), h)) else (if 57 < x1 then (some (.inl (some (.int 0)), h)) else (some (.inl (some (.int 1)), h))))
theorem uX3_isDigit_0 {G : GG} {d : Nat} (hd : 1 ≤ d)   {r0  x1 } {h : Hp} {o : OU} {h' : Hp} (e : kX3_isDigit_0  r0 x1 h = some (o, h')) : VM G mX3_isDigit d [.ref r0, .int x1] h o h' := by
  unfold kX3_isDigit_0 at e
  refine eX3_isDigit r0 x1 ?_
  refine ⟨fun c1 => ?_, fun c1 => ?_⟩
  · have e := if_t e c1
    cases e
    exact ⟨rfl, rfl⟩
  · have e := if_f e c1
    refine ⟨fun c2 => ?_, fun c2 => ?_⟩
    · have e := if_t e c2
      cases e
      exact ⟨rfl, rfl⟩
    · have e := if_f e c2
      cases e
      exact ⟨rfl, rfl⟩
def fX3_isDigit (r0 : Nat) (x1 : Int32) (h : Hp) : RS := kX3_isDigit_0 r0 x1 h
theorem tX3_isDigit {G : GG} {d : Nat} {r0 x1} {h : Hp} {o : OU} {h' : Hp} (e : fX3_isDigit r0 x1 h = some (o, h')) (hd : 1 ≤ d) : VM G mX3_isDigit d [.ref r0, .int x1] h o h' := uX3_isDigit_0 hd e
def kX3_readNumber_0 (rec : Nat → List Value → List Value → Hp → RS)  (r0 : Nat) (x1 : Int32) (x2 : Int32) (h : Hp) : RS := (if kH h r0 = 13 then (if (h.2 r0 4) = 0 then (bI (fX3_atEnd r0 h) fun z4 h3 => (if ¬ z4 = 0 then (if kH h3 r0 = 13 then (bV (fX3_blame r0 1 (h3.2 r0 7) h3) fun h8 => (some (.inl (some (.int x1)), h8))) else none) else (if kH h3 r0 = 13 then (if kH h3 (rH h3 r0 5) = 2 then (if inB (h3.2 r0 7) (lH h3 (rH h3 r0 5)) = true then (bI (fX3_isDigit r0 (h3.2 (rH h3 r0 5) (h3.2 r0 7).toNatClampNeg) h3) fun z14 h13 => (if ¬ z14 = 0 then (if kH h13 r0 = 13 then (rec 51 [.ref r0, .int x1, .int x2, .int (h13.2 r0 7), .int 0] [] h13) else none) else (if kH h13 r0 = 13 then (bV (fX3_blame r0 1 (h13.2 r0 7) h13) fun h19 => (some (.inl (some (.int x1)), h19))) else none))) else none) else none) else none))) else (some (.inl (some (.int x1)), h))) else none)
theorem uX3_readNumber_0 {G : GG} {d : Nat} (hd : 2 ≤ d) (rec : Nat → List Value → List Value → Hp → RS) (hrec : ∀ pc loc st h o h', rec pc loc st h = some (o, h') → V G mX3_readNumber d pc loc st h o h')   {r0  x1  x2 } {h : Hp} {o : OU} {h' : Hp} (e : kX3_readNumber_0 rec  r0 x1 x2 h = some (o, h')) : VM G mX3_readNumber d [.ref r0, .int x1, .int x2] h o h' := by
  unfold kX3_readNumber_0 at e
  refine eX3_readNumber r0 x1 x2 (by omega) ?_
  obtain ⟨q1, e⟩ := ob_e e
  refine ⟨q1, ?_⟩
  refine ⟨fun c2 => ?_, fun c2 => ?_⟩
  · have e := if_t e c2
    obtain ⟨z4, h3, e3, e⟩ := bI_e e
    refine ⟨z4, h3, (tX3_atEnd e3 (by omega)), ?_⟩
    refine ⟨fun c4 => ?_, fun c4 => ?_⟩
    · have e := if_t e c4
      obtain ⟨q5, e⟩ := ob_e e
      refine ⟨q5, ?_⟩
      obtain ⟨h8, e6, e⟩ := bV_e e
      refine ⟨h8, (tX3_blame e6 (by omega)), ?_⟩
      cases e
      exact ⟨rfl, rfl⟩
    · have e := if_n e c4
      obtain ⟨q7, e⟩ := ob_e e
      refine ⟨q7, ?_⟩
      obtain ⟨q8, e⟩ := ob_e e
      refine ⟨q8, ?_⟩
      obtain ⟨q9, e⟩ := ob_in e
      refine ⟨q9, ?_⟩
      obtain ⟨z14, h13, e10, e⟩ := bI_e e
      refine ⟨z14, h13, (tX3_isDigit e10 (by omega)), ?_⟩
      refine ⟨fun c11 => ?_, fun c11 => ?_⟩
      · have e := if_t e c11
        obtain ⟨q12, e⟩ := ob_e e
        refine ⟨q12, ?_⟩
        exact hrec _ _ _ _ _ _ e
      · have e := if_n e c11
        obtain ⟨q13, e⟩ := ob_e e
        refine ⟨q13, ?_⟩
        obtain ⟨h19, e14, e⟩ := bV_e e
        refine ⟨h19, (tX3_blame e14 (by omega)), ?_⟩
        cases e
        exact ⟨rfl, rfl⟩
  · have e := if_f e c2
    cases e
    exact ⟨rfl, rfl⟩
def kX3_readNumber_51 (rec : Nat → List Value → List Value → Hp → RS)  (r0 : Nat) (x1 : Int32) (x2 : Int32) (x3 : Int32) (x4 : Int32) (h : Hp) : RS := (if kH h r0 = 13 then (if (h.2 r0 6) ≤ (h.2 r0 7) then (if x4 < x1 then (bV (fX3_blame r0 2 x3 h) fun h4 => (some (.inl (some (.int x1)), h4))) else (if x4 ≤ x2 then (some (.inl (some (.int x4)), h)) else (bV (fX3_blame r0 2 x3 h) fun h7 => (some (.inl (some (.int x1)), h7))))) else (if kH h (rH h r0 5) = 2 then (if inB (h.2 r0 7) (lH h (rH h r0 5)) = true then (bI (fX3_isDigit r0 (h.2 (rH h r0 5) (h.2 r0 7).toNatClampNeg) h) fun z12 h11 => (if z12 = 0 then (if x4 < x1 then (if kH h11 r0 = 13 then (bV (fX3_blame r0 2 x3 h11) fun h16 => (some (.inl (some (.int x1)), h16))) else none) else (if x4 ≤ x2 then (some (.inl (some (.int x4)), h11)) else (if kH h11 r0 = 13 then (bV (fX3_blame r0 2 x3 h11) fun h20 => (some (.inl (some (.int x1)), h20))) else none))) else (if kH h11 r0 = 13 then (if kH h11 (rH h11 r0 5) = 2 then (if inB (h11.2 r0 7) (lH h11 (rH h11 r0 5)) = true then (rec 51 [.ref r0, .int x1, .int x2, .int x3, .int (if (((x4 * 10) + (h11.2 (rH h11 r0 5) (h11.2 r0 7).toNatClampNeg)) - 48) < 1000 then (((x4 * 10) + (h11.2 (rH h11 r0 5) (h11.2 r0 7).toNatClampNeg)) - 48) else 1000)] [] (h11.1, (upI h11.2 r0 7 ((h11.2 r0 7) + 1)))) else none) else none) else none))) else none) else none)) else none)
theorem uX3_readNumber_51 {G : GG} {d : Nat} (hd : 2 ≤ d) (rec : Nat → List Value → List Value → Hp → RS) (hrec : ∀ pc loc st h o h', rec pc loc st h = some (o, h') → V G mX3_readNumber d pc loc st h o h')   {r0  x1  x2  x3  x4 } {h : Hp} {o : OU} {h' : Hp} (e : kX3_readNumber_51 rec  r0 x1 x2 x3 x4 h = some (o, h')) : V G mX3_readNumber d 51 [.ref r0, .int x1, .int x2, .int x3, .int x4] [] h o h' := by
  unfold kX3_readNumber_51 at e
  refine bX3_readNumber_51 r0 x1 x2 x3 x4 (by omega) ?_
  obtain ⟨q1, e⟩ := ob_e e
  refine ⟨q1, ?_⟩
  refine ⟨fun c2 => ?_, fun c2 => ?_⟩
  · have e := if_t e c2
    refine ⟨fun c3 => ?_, fun c3 => ?_⟩
    · have e := if_t e c3
      obtain ⟨h4, e4, e⟩ := bV_e e
      refine ⟨h4, (tX3_blame e4 (by omega)), ?_⟩
      cases e
      exact ⟨rfl, rfl⟩
    · have e := if_f e c3
      refine ⟨fun c5 => ?_, fun c5 => ?_⟩
      · have e := if_t e c5
        cases e
        exact ⟨rfl, rfl⟩
      · have e := if_f e c5
        obtain ⟨h7, e6, e⟩ := bV_e e
        refine ⟨h7, (tX3_blame e6 (by omega)), ?_⟩
        cases e
        exact ⟨rfl, rfl⟩
  · have e := if_f e c2
    obtain ⟨q7, e⟩ := ob_e e
    refine ⟨q7, ?_⟩
    obtain ⟨q8, e⟩ := ob_in e
    refine ⟨q8, ?_⟩
    obtain ⟨z12, h11, e9, e⟩ := bI_e e
    refine ⟨z12, h11, (tX3_isDigit e9 (by omega)), ?_⟩
    refine ⟨fun c10 => ?_, fun c10 => ?_⟩
    · have e := if_t e c10
      refine ⟨fun c11 => ?_, fun c11 => ?_⟩
      · have e := if_t e c11
        obtain ⟨q12, e⟩ := ob_e e
        refine ⟨q12, ?_⟩
        obtain ⟨h16, e13, e⟩ := bV_e e
        refine ⟨h16, (tX3_blame e13 (by omega)), ?_⟩
        cases e
        exact ⟨rfl, rfl⟩
      · have e := if_f e c11
        refine ⟨fun c14 => ?_, fun c14 => ?_⟩
        · have e := if_t e c14
          cases e
          exact ⟨rfl, rfl⟩
        · have e := if_f e c14
          obtain ⟨q15, e⟩ := ob_e e
          refine ⟨q15, ?_⟩
          obtain ⟨h20, e16, e⟩ := bV_e e
          refine ⟨h20, (tX3_blame e16 (by omega)), ?_⟩
          cases e
          exact ⟨rfl, rfl⟩
    · have e := if_f e c10
      obtain ⟨q17, e⟩ := ob_e e
      refine ⟨q17, ?_⟩
      obtain ⟨q18, e⟩ := ob_e e
      refine ⟨q18, ?_⟩
      obtain ⟨q19, e⟩ := ob_in e
      refine ⟨q19, ?_⟩
      exact hrec _ _ _ _ _ _ e
def sX3_readNumber  (rec : Nat → List Value → List Value → Hp → RS) (pc : Nat) (loc st : List Value) (h : Hp) : RS := match pc, loc, st with
  | 51, [.ref r0, .int x1, .int x2, .int x3, .int x4], [] => kX3_readNumber_51 rec  r0 x1 x2 x3 x4 h
  | _, _, _ => none
def gX3_readNumber  : Nat → Nat → List Value → List Value → Hp → RS
  | 0 => fun _ _ _ _ => none
  | n + 1 => sX3_readNumber  (gX3_readNumber  n)
theorem wX3_readNumber {G : GG} {d : Nat} (hd : 2 ≤ d)   : ∀ (n pc : Nat) (loc st : List Value) (h : Hp) (o : OU) (h' : Hp), gX3_readNumber  n pc loc st h = some (o, h') → V G mX3_readNumber d pc loc st h o h' := by
  intro n
  induction n with
  | zero => intro pc loc st h o h' e; cases e
  | succ n ih =>
    intro pc loc st h o h' e
    unfold gX3_readNumber sX3_readNumber at e
    split at e
    · exact uX3_readNumber_51 hd _ ih   e
    · cases e
theorem zX3_readNumber_51  (n : Nat) (r0 : Nat) (x1 : Int32) (x2 : Int32) (x3 : Int32) (x4 : Int32)  (h : Hp) : gX3_readNumber  (n + 1) 51 [.ref r0, .int x1, .int x2, .int x3, .int x4] [] h = kX3_readNumber_51 (gX3_readNumber  n)  r0 x1 x2 x3 x4 h := rfl
def fX3_readNumber (r0 : Nat) (x1 : Int32) (x2 : Int32) (h : Hp) : RS := kX3_readNumber_0 (gX3_readNumber FF) r0 x1 x2 h
theorem tX3_readNumber {G : GG} {d : Nat} {r0 x1 x2} {h : Hp} {o : OU} {h' : Hp} (e : fX3_readNumber r0 x1 x2 h = some (o, h')) (hd : 2 ≤ d) : VM G mX3_readNumber d [.ref r0, .int x1, .int x2] h o h' := uX3_readNumber_0 hd _ (wX3_readNumber hd FF) e
def kX4_add_0  (r0 : Nat) (x1 : Int32) (x2 : Int32) (x3 : Int32) (x4 : Int32) (h : Hp) : RS := (if kH h r0 = 14 then (if 64 ≤ (h.2 r0 1) then (some (.inl none, h)) else (if kH h (rH h r0 2) = 1 then (if inB (h.2 r0 1) (lH h (rH h r0 2)) = true then (if kH h (rH h r0 3) = 1 then (if inB ((upI h.2 (rH h r0 2) (h.2 r0 1).toNatClampNeg x1) r0 1) (lH h (rH h r0 3)) = true then (letH (upI (upI h.2 (rH h r0 2) (h.2 r0 1).toNatClampNeg x1) (rH h r0 3) ((upI h.2 (rH h r0 2) (h.2 r0 1).toNatClampNeg x1) r0 1).toNatClampNeg x2) fun (i7 : Nat → Nat → Int32) => (if kH h (rH h r0 4) = 1 then (if inB (i7 r0 1) (lH h (rH h r0 4)) = true then (if kH h (rH h r0 5) = 1 then (if inB ((upI i7 (rH h r0 4) (i7 r0 1).toNatClampNeg x3) r0 1) (lH h (rH h r0 5)) = true then (letH (upI (upI i7 (rH h r0 4) (i7 r0 1).toNatClampNeg x3) (rH h r0 5) ((upI i7 (rH h r0 4) (i7 r0 1).toNatClampNeg x3) r0 1).toNatClampNeg x4) fun (i13 : Nat → Nat → Int32) => (some (.inl none, (h.1, (upI i13 r0 1 ((i13 r0 1) + 1)))))) else none) else none) else none) else none)) else none) else none) else none) else none)) else none)
theorem uX4_add_0 {G : GG} {d : Nat} (hd : 1 ≤ d)   {r0  x1  x2  x3  x4 } {h : Hp} {o : OU} {h' : Hp} (e : kX4_add_0  r0 x1 x2 x3 x4 h = some (o, h')) : VM G mX4_add d [.ref r0, .int x1, .int x2, .int x3, .int x4] h o h' := by
  unfold kX4_add_0 at e
  refine eX4_add r0 x1 x2 x3 x4 ?_
  obtain ⟨q1, e⟩ := ob_e e
  refine ⟨q1, ?_⟩
  refine ⟨fun c2 => ?_, fun c2 => ?_⟩
  · have e := if_t e c2
    cases e
    exact ⟨rfl, rfl⟩
  · have e := if_f e c2
    obtain ⟨q3, e⟩ := ob_e e
    refine ⟨q3, ?_⟩
    obtain ⟨q4, e⟩ := ob_in e
    refine ⟨q4, ?_⟩
    obtain ⟨q5, e⟩ := ob_e e
    refine ⟨q5, ?_⟩
    obtain ⟨q6, e⟩ := ob_in e
    refine ⟨q6, ?_⟩
    intro i7 evi7
    have e := lt_e evi7 e
    obtain ⟨q7, e⟩ := ob_e e
    refine ⟨q7, ?_⟩
    obtain ⟨q8, e⟩ := ob_in e
    refine ⟨q8, ?_⟩
    obtain ⟨q9, e⟩ := ob_e e
    refine ⟨q9, ?_⟩
    obtain ⟨q10, e⟩ := ob_in e
    refine ⟨q10, ?_⟩
    intro i13 evi13
    have e := lt_e evi13 e
    cases e
    exact ⟨rfl, rfl⟩
def fX4_add (r0 : Nat) (x1 : Int32) (x2 : Int32) (x3 : Int32) (x4 : Int32) (h : Hp) : RS := kX4_add_0 r0 x1 x2 x3 x4 h
theorem tX4_add {G : GG} {d : Nat} {r0 x1 x2 x3 x4} {h : Hp} {o : OU} {h' : Hp} (e : fX4_add r0 x1 x2 x3 x4 h = some (o, h')) (hd : 1 ≤ d) : VM G mX4_add d [.ref r0, .int x1, .int x2, .int x3, .int x4] h o h' := uX4_add_0 hd e
def kX3_readNumbers_0 (rec : Nat → List Value → List Value → Hp → RS)  (r0 : Nat) (x1 : Int32) (h : Hp) : RS := (if x1 < 0 then (rec 25 [.ref r0, .int x1, .int 0, .int 0, .int 0] [] h) else (if 6 < x1 then (rec 25 [.ref r0, .int x1, .int 0, .int 0, .int 0] [] h) else (if kH h r0 = 13 then (bI (fX3_readNumber r0 0 11 h) fun z4 h3 => (rec 25 [.ref r0, .int x1, .int z4, .int 0, .int 0] [] h3)) else none)))
theorem uX3_readNumbers_0 {G : GG} {d : Nat} (hd : 3 ≤ d) (rec : Nat → List Value → List Value → Hp → RS) (hrec : ∀ pc loc st h o h', rec pc loc st h = some (o, h') → V G mX3_readNumbers d pc loc st h o h')   {r0  x1 } {h : Hp} {o : OU} {h' : Hp} (e : kX3_readNumbers_0 rec  r0 x1 h = some (o, h')) : VM G mX3_readNumbers d [.ref r0, .int x1] h o h' := by
  unfold kX3_readNumbers_0 at e
  refine eX3_readNumbers r0 x1 (by omega) ?_
  refine ⟨fun c1 => ?_, fun c1 => ?_⟩
  · have e := if_t e c1
    exact hrec _ _ _ _ _ _ e
  · have e := if_f e c1
    refine ⟨fun c2 => ?_, fun c2 => ?_⟩
    · have e := if_t e c2
      exact hrec _ _ _ _ _ _ e
    · have e := if_f e c2
      obtain ⟨q3, e⟩ := ob_e e
      refine ⟨q3, ?_⟩
      obtain ⟨z4, h3, e4, e⟩ := bI_e e
      refine ⟨z4, h3, (tX3_readNumber e4 (by omega)), ?_⟩
      exact hrec _ _ _ _ _ _ e
def kX3_readNumbers_25 (rec : Nat → List Value → List Value → Hp → RS)  (r0 : Nat) (x1 : Int32) (x2 : Int32) (x3 : Int32) (x4 : Int32) (h : Hp) : RS := (if x1 = 0 then (if kH h r0 = 13 then (bI (fX3_readNumber r0 1 99 h) fun z3 h2 => (rec 194 [.ref r0, .int x1, .int x2, .int z3, .int x4] [] h2)) else none) else (if x1 = 1 then (if kH h r0 = 13 then (bI (fX3_readNumber r0 1 99 h) fun z8 h7 => (rec 194 [.ref r0, .int x1, .int x2, .int z8, .int x4] [] h7)) else none) else (if x1 = 2 then (if kH h r0 = 13 then (bI (fX3_readNumber r0 1 99 h) fun z13 h12 => (if kH h12 r0 = 13 then (bI (fX3_readNumber r0 0 11 h12) fun z17 h16 => (rec 194 [.ref r0, .int x1, .int x2, .int z13, .int z17] [] h16)) else none)) else none) else (if x1 = 3 then (if kH h r0 = 13 then (bI (fX3_readNumber r0 0 99 h) fun z22 h21 => (rec 194 [.ref r0, .int x1, .int x2, .int z22, .int x4] [] h21)) else none) else (if x1 = 4 then (if kH h r0 = 13 then (bI (fX3_readNumber r0 0 31 h) fun z27 h26 => (if kH h26 r0 = 13 then (bI (fX3_readNumber r0 0 99 h26) fun z31 h30 => (rec 194 [.ref r0, .int x1, .int x2, .int z27, .int z31] [] h30)) else none)) else none) else (if x1 = 5 then (rec 194 [.ref r0, .int x1, .int x2, .int x3, .int x4] [] h) else (if x1 = 6 then (if kH h r0 = 13 then (bI (fX3_readNumber r0 1 99 h) fun z37 h36 => (rec 194 [.ref r0, .int x1, .int x2, .int z37, .int x4] [] h36)) else none) else (if x1 = 7 then (rec 194 [.ref r0, .int x1, .int x2, .int x3, .int x4] [] h) else (if x1 = 8 then (if kH h r0 = 13 then (bI (fX3_readNumber r0 0 15 h) fun z43 h42 => (rec 194 [.ref r0, .int x1, .int z43, .int x3, .int x4] [] h42)) else none) else (if x1 = 9 then (rec 194 [.ref r0, .int x1, .int x2, .int x3, .int x4] [] h) else (if x1 = 10 then (rec 194 [.ref r0, .int x1, .int x2, .int x3, .int x4] [] h) else (if x1 = 11 then (if kH h r0 = 13 then (bI (fX3_readNumber r0 0 60 h) fun z50 h49 => (rec 194 [.ref r0, .int x1, .int z50, .int x3, .int x4] [] h49)) else none) else (if x1 = 12 then (if kH h r0 = 13 then (bI (fX3_readNumber r0 6 16 h) fun z55 h54 => (if kH h54 r0 = 13 then (if kH h54 (rH h54 r0 0) = 14 then (some (.inl none, (h54.1, (upI h54.2 (rH h54 r0 0) 0 z55)))) else none) else none)) else none) else (rec 194 [.ref r0, .int x1, .int x2, .int x3, .int x4] [] h))))))))))))))
theorem uX3_readNumbers_25 {G : GG} {d : Nat} (hd : 3 ≤ d) (rec : Nat → List Value → List Value → Hp → RS) (hrec : ∀ pc loc st h o h', rec pc loc st h = some (o, h') → V G mX3_readNumbers d pc loc st h o h')   {r0  x1  x2  x3  x4 } {h : Hp} {o : OU} {h' : Hp} (e : kX3_readNumbers_25 rec  r0 x1 x2 x3 x4 h = some (o, h')) : V G mX3_readNumbers d 25 [.ref r0, .int x1, .int x2, .int x3, .int x4] [] h o h' := by
  unfold kX3_readNumbers_25 at e
  refine bX3_readNumbers_25 r0 x1 x2 x3 x4 (by omega) ?_
  refine ⟨?_, ?_, ?_, ?_, ?_, ?_, ?_, ?_, ?_, ?_, ?_, ?_, ?_, ?_⟩
  · intro cc
    have e := if_t e cc
    obtain ⟨q1, e⟩ := ob_e e
    refine ⟨q1, ?_⟩
    obtain ⟨z3, h2, e2, e⟩ := bI_e e
    refine ⟨z3, h2, (tX3_readNumber e2 (by omega)), ?_⟩
    exact hrec _ _ _ _ _ _ e
  · intro cc
    have e := if_f e (by rw [cc]; decide)
    have e := if_t e cc
    obtain ⟨q3, e⟩ := ob_e e
    refine ⟨q3, ?_⟩
    obtain ⟨z8, h7, e4, e⟩ := bI_e e
    refine ⟨z8, h7, (tX3_readNumber e4 (by omega)), ?_⟩
    exact hrec _ _ _ _ _ _ e
  · intro cc
    have e := if_f e (by rw [cc]; decide)
    have e := if_f e (by rw [cc]; decide)
    have e := if_t e cc
    obtain ⟨q5, e⟩ := ob_e e
    refine ⟨q5, ?_⟩
    obtain ⟨z13, h12, e6, e⟩ := bI_e e
    refine ⟨z13, h12, (tX3_readNumber e6 (by omega)), ?_⟩
    obtain ⟨q7, e⟩ := ob_e e
    refine ⟨q7, ?_⟩
    obtain ⟨z17, h16, e8, e⟩ := bI_e e
    refine ⟨z17, h16, (tX3_readNumber e8 (by omega)), ?_⟩
    exact hrec _ _ _ _ _ _ e
  · intro cc
    have e := if_f e (by rw [cc]; decide)
    have e := if_f e (by rw [cc]; decide)
    have e := if_f e (by rw [cc]; decide)
    have e := if_t e cc
    obtain ⟨q9, e⟩ := ob_e e
    refine ⟨q9, ?_⟩
    obtain ⟨z22, h21, e10, e⟩ := bI_e e
    refine ⟨z22, h21, (tX3_readNumber e10 (by omega)), ?_⟩
    exact hrec _ _ _ _ _ _ e
  · intro cc
    have e := if_f e (by rw [cc]; decide)
    have e := if_f e (by rw [cc]; decide)
    have e := if_f e (by rw [cc]; decide)
    have e := if_f e (by rw [cc]; decide)
    have e := if_t e cc
    obtain ⟨q11, e⟩ := ob_e e
    refine ⟨q11, ?_⟩
    obtain ⟨z27, h26, e12, e⟩ := bI_e e
    refine ⟨z27, h26, (tX3_readNumber e12 (by omega)), ?_⟩
    obtain ⟨q13, e⟩ := ob_e e
    refine ⟨q13, ?_⟩
    obtain ⟨z31, h30, e14, e⟩ := bI_e e
    refine ⟨z31, h30, (tX3_readNumber e14 (by omega)), ?_⟩
    exact hrec _ _ _ _ _ _ e
  · intro cc
    have e := if_f e (by rw [cc]; decide)
    have e := if_f e (by rw [cc]; decide)
    have e := if_f e (by rw [cc]; decide)
    have e := if_f e (by rw [cc]; decide)
    have e := if_f e (by rw [cc]; decide)
    have e := if_t e cc
    exact hrec _ _ _ _ _ _ e
  · intro cc
    have e := if_f e (by rw [cc]; decide)
    have e := if_f e (by rw [cc]; decide)
    have e := if_f e (by rw [cc]; decide)
    have e := if_f e (by rw [cc]; decide)
    have e := if_f e (by rw [cc]; decide)
    have e := if_f e (by rw [cc]; decide)
    have e := if_t e cc
    obtain ⟨q15, e⟩ := ob_e e
    refine ⟨q15, ?_⟩
    obtain ⟨z37, h36, e16, e⟩ := bI_e e
    refine ⟨z37, h36, (tX3_readNumber e16 (by omega)), ?_⟩
    exact hrec _ _ _ _ _ _ e
  · intro cc
    have e := if_f e (by rw [cc]; decide)
    have e := if_f e (by rw [cc]; decide)
    have e := if_f e (by rw [cc]; decide)
    have e := if_f e (by rw [cc]; decide)
    have e := if_f e (by rw [cc]; decide)
    have e := if_f e (by rw [cc]; decide)
    have e := if_f e (by rw [cc]; decide)
    have e := if_t e cc
    exact hrec _ _ _ _ _ _ e
  · intro cc
    have e := if_f e (by rw [cc]; decide)
    have e := if_f e (by rw [cc]; decide)
    have e := if_f e (by rw [cc]; decide)
    have e := if_f e (by rw [cc]; decide)
    have e := if_f e (by rw [cc]; decide)
    have e := if_f e (by rw [cc]; decide)
    have e := if_f e (by rw [cc]; decide)
    have e := if_f e (by rw [cc]; decide)
    have e := if_t e cc
    obtain ⟨q17, e⟩ := ob_e e
    refine ⟨q17, ?_⟩
    obtain ⟨z43, h42, e18, e⟩ := bI_e e
    refine ⟨z43, h42, (tX3_readNumber e18 (by omega)), ?_⟩
    exact hrec _ _ _ _ _ _ e
  · intro cc
    have e := if_f e (by rw [cc]; decide)
    have e := if_f e (by rw [cc]; decide)
    have e := if_f e (by rw [cc]; decide)
    have e := if_f e (by rw [cc]; decide)
    have e := if_f e (by rw [cc]; decide)
    have e := if_f e (by rw [cc]; decide)
    have e := if_f e (by rw [cc]; decide)
    have e := if_f e (by rw [cc]; decide)
    have e := if_f e (by rw [cc]; decide)
    have e := if_t e cc
    exact hrec _ _ _ _ _ _ e
  · intro cc
    have e := if_f e (by rw [cc]; decide)
    have e := if_f e (by rw [cc]; decide)
    have e := if_f e (by rw [cc]; decide)
    have e := if_f e (by rw [cc]; decide)
    have e := if_f e (by rw [cc]; decide)
    have e := if_f e (by rw [cc]; decide)
    have e := if_f e (by rw [cc]; decide)
    have e := if_f e (by rw [cc]; decide)
    have e := if_f e (by rw [cc]; decide)
    have e := if_f e (by rw [cc]; decide)
    have e := if_t e cc
    exact hrec _ _ _ _ _ _ e
  · intro cc
    have e := if_f e (by rw [cc]; decide)
    have e := if_f e (by rw [cc]; decide)
    have e := if_f e (by rw [cc]; decide)
    have e := if_f e (by rw [cc]; decide)
    have e := if_f e (by rw [cc]; decide)
    have e := if_f e (by rw [cc]; decide)
    have e := if_f e (by rw [cc]; decide)
    have e := if_f e (by rw [cc]; decide)
    have e := if_f e (by rw [cc]; decide)
    have e := if_f e (by rw [cc]; decide)
    have e := if_f e (by rw [cc]; decide)
    have e := if_t e cc
    obtain ⟨q19, e⟩ := ob_e e
    refine ⟨q19, ?_⟩
    obtain ⟨z50, h49, e20, e⟩ := bI_e e
    refine ⟨z50, h49, (tX3_readNumber e20 (by omega)), ?_⟩
    exact hrec _ _ _ _ _ _ e
  · intro cc
    have e := if_f e (by rw [cc]; decide)
    have e := if_f e (by rw [cc]; decide)
    have e := if_f e (by rw [cc]; decide)
    have e := if_f e (by rw [cc]; decide)
    have e := if_f e (by rw [cc]; decide)
    have e := if_f e (by rw [cc]; decide)
    have e := if_f e (by rw [cc]; decide)
    have e := if_f e (by rw [cc]; decide)
    have e := if_f e (by rw [cc]; decide)
    have e := if_f e (by rw [cc]; decide)
    have e := if_f e (by rw [cc]; decide)
    have e := if_f e (by rw [cc]; decide)
    have e := if_t e cc
    obtain ⟨q21, e⟩ := ob_e e
    refine ⟨q21, ?_⟩
    obtain ⟨z55, h54, e22, e⟩ := bI_e e
    refine ⟨z55, h54, (tX3_readNumber e22 (by omega)), ?_⟩
    obtain ⟨q23, e⟩ := ob_e e
    refine ⟨q23, ?_⟩
    obtain ⟨q24, e⟩ := ob_e e
    refine ⟨q24, ?_⟩
    cases e
    exact ⟨rfl, rfl⟩
  · intro n0 n1 n2 n3 n4 n5 n6 n7 n8 n9 n10 n11 n12
    have e := if_f e n0
    have e := if_f e n1
    have e := if_f e n2
    have e := if_f e n3
    have e := if_f e n4
    have e := if_f e n5
    have e := if_f e n6
    have e := if_f e n7
    have e := if_f e n8
    have e := if_f e n9
    have e := if_f e n10
    have e := if_f e n11
    have e := if_f e n12
    exact hrec _ _ _ _ _ _ e
def kX3_readNumbers_194 (rec : Nat → List Value → List Value → Hp → RS)  (r0 : Nat) (x1 : Int32) (x2 : Int32) (x3 : Int32) (x4 : Int32) (h : Hp) : RS := (if kH h r0 = 13 then (if kH h (rH h r0 0) = 14 then (bV (fX4_add (rH h r0 0) x1 x2 x3 x4 h) fun h2 => (some (.inl none, h2))) else none) else none)
theorem uX3_readNumbers_194 {G : GG} {d : Nat} (hd : 3 ≤ d) (rec : Nat → List Value → List Value → Hp → RS) (hrec : ∀ pc loc st h o h', rec pc loc st h = some (o, h') → V G mX3_readNumbers d pc loc st h o h')   {r0  x1  x2  x3  x4 } {h : Hp} {o : OU} {h' : Hp} (e : kX3_readNumbers_194 rec  r0 x1 x2 x3 x4 h = some (o, h')) : V G mX3_readNumbers d 194 [.ref r0, .int x1, .int x2, .int x3, .int x4] [] h o h' := by
  unfold kX3_readNumbers_194 at e
  refine bX3_readNumbers_194 r0 x1 x2 x3 x4 (by omega) ?_
  obtain ⟨q1, e⟩ := ob_e e
  refine ⟨q1, ?_⟩
  obtain ⟨q2, e⟩ := ob_e e
  refine ⟨q2, ?_⟩
  obtain ⟨h2, e3, e⟩ := bV_e e
  refine ⟨h2, (tX4_add e3 (by omega)), ?_⟩
  cases e
  exact ⟨rfl, rfl⟩
def sX3_readNumbers  (rec : Nat → List Value → List Value → Hp → RS) (pc : Nat) (loc st : List Value) (h : Hp) : RS := match pc, loc, st with
  | 25, [.ref r0, .int x1, .int x2, .int x3, .int x4], [] => kX3_readNumbers_25 rec  r0 x1 x2 x3 x4 h
  | 194, [.ref r0, .int x1, .int x2, .int x3, .int x4], [] => kX3_readNumbers_194 rec  r0 x1 x2 x3 x4 h
  | _, _, _ => none
def gX3_readNumbers  : Nat → Nat → List Value → List Value → Hp → RS
  | 0 => fun _ _ _ _ => none
  | n + 1 => sX3_readNumbers  (gX3_readNumbers  n)
theorem wX3_readNumbers {G : GG} {d : Nat} (hd : 3 ≤ d)   : ∀ (n pc : Nat) (loc st : List Value) (h : Hp) (o : OU) (h' : Hp), gX3_readNumbers  n pc loc st h = some (o, h') → V G mX3_readNumbers d pc loc st h o h' := by
  intro n
  induction n with
  | zero => intro pc loc st h o h' e; cases e
  | succ n ih =>
    intro pc loc st h o h' e
    unfold gX3_readNumbers sX3_readNumbers at e
    split at e
    · exact uX3_readNumbers_25 hd _ ih   e
    · exact uX3_readNumbers_194 hd _ ih   e
    · cases e
theorem zX3_readNumbers_25  (n : Nat) (r0 : Nat) (x1 : Int32) (x2 : Int32) (x3 : Int32) (x4 : Int32)  (h : Hp) : gX3_readNumbers  (n + 1) 25 [.ref r0, .int x1, .int x2, .int x3, .int x4] [] h = kX3_readNumbers_25 (gX3_readNumbers  n)  r0 x1 x2 x3 x4 h := rfl
theorem zX3_readNumbers_194  (n : Nat) (r0 : Nat) (x1 : Int32) (x2 : Int32) (x3 : Int32) (x4 : Int32)  (h : Hp) : gX3_readNumbers  (n + 1) 194 [.ref r0, .int x1, .int x2, .int x3, .int x4] [] h = kX3_readNumbers_194 (gX3_readNumbers  n)  r0 x1 x2 x3 x4 h := rfl
def fX3_readNumbers (r0 : Nat) (x1 : Int32) (h : Hp) : RS := kX3_readNumbers_0 (gX3_readNumbers FF) r0 x1 h
theorem tX3_readNumbers {G : GG} {d : Nat} {r0 x1} {h : Hp} {o : OU} {h' : Hp} (e : fX3_readNumbers r0 x1 h = some (o, h')) (hd : 3 ≤ d) : VM G mX3_readNumbers d [.ref r0, .int x1] h o h' := uX3_readNumbers_0 hd _ (wX3_readNumbers hd FF) e
def kX3_readSign_0  (r0 : Nat) (x1 : Int32) (h : Hp) : RS := (if kH h r0 = 13 then (if (h.2 r0 4) = 0 then (bI (fX3_atEnd r0 h) fun z4 h3 => (if ¬ z4 = 0 then (if kH h3 r0 = 13 then (bV (fX3_blame r0 1 (h3.2 r0 7) h3) fun h8 => (some (.inl none, h8))) else none) else (if kH h3 r0 = 13 then (if kH h3 (rH h3 r0 5) = 2 then (if inB (h3.2 r0 7) (lH h3 (rH h3 r0 5)) = true then (if (h3.2 (rH h3 r0 5) (h3.2 r0 7).toNatClampNeg) = x1 then (some (.inl none, (h3.1, (upI h3.2 r0 7 ((h3.2 r0 7) + 1))))) else (bV (fX3_blame r0 1 (h3.2 r0 7) h3) fun h14 => (some (.inl none, h14)))) else none) else none) else none))) else (some (.inl none, h))) else none)
theorem uX3_readSign_0 {G : GG} {d : Nat} (hd : 2 ≤ d)   {r0  x1 } {h : Hp} {o : OU} {h' : Hp} (e : kX3_readSign_0  r0 x1 h = some (o, h')) : VM G mX3_readSign d [.ref r0, .int x1] h o h' := by
  unfold kX3_readSign_0 at e
  refine eX3_readSign r0 x1 (by omega) ?_
  obtain ⟨q1, e⟩ := ob_e e
  refine ⟨q1, ?_⟩
  refine ⟨fun c2 => ?_, fun c2 => ?_⟩
  · have e := if_t e c2
    obtain ⟨z4, h3, e3, e⟩ := bI_e e
    refine ⟨z4, h3, (tX3_atEnd e3 (by omega)), ?_⟩
    refine ⟨fun c4 => ?_, fun c4 => ?_⟩
    · have e := if_t e c4
      obtain ⟨q5, e⟩ := ob_e e
      refine ⟨q5, ?_⟩
      obtain ⟨h8, e6, e⟩ := bV_e e
      refine ⟨h8, (tX3_blame e6 (by omega)), ?_⟩
      cases e
      exact ⟨rfl, rfl⟩
    · have e := if_n e c4
      obtain ⟨q7, e⟩ := ob_e e
      refine ⟨q7, ?_⟩
      obtain ⟨q8, e⟩ := ob_e e
      refine ⟨q8, ?_⟩
      obtain ⟨q9, e⟩ := ob_in e
      refine ⟨q9, ?_⟩
      refine ⟨fun c10 => ?_, fun c10 => ?_⟩
      · have e := if_t e c10
        cases e
        exact ⟨rfl, rfl⟩
      · have e := if_f e c10
        obtain ⟨h14, e11, e⟩ := bV_e e
        refine ⟨h14, (tX3_blame e11 (by omega)), ?_⟩
        cases e
        exact ⟨rfl, rfl⟩
  · have e := if_f e c2
    cases e
    exact ⟨rfl, rfl⟩
def fX3_readSign (r0 : Nat) (x1 : Int32) (h : Hp) : RS := kX3_readSign_0 r0 x1 h
theorem tX3_readSign {G : GG} {d : Nat} {r0 x1} {h : Hp} {o : OU} {h' : Hp} (e : fX3_readSign r0 x1 h = some (o, h')) (hd : 2 ≤ d) : VM G mX3_readSign d [.ref r0, .int x1] h o h' := uX3_readSign_0 hd e
def kX4_addEnd_0  (r0 : Nat) (x1 : Int32) (h : Hp) : RS := (if kH h r0 = 14 then (if 64 ≤ (h.2 r0 1) then (some (.inl none, h)) else (if x1 < 0 then (some (.inl none, h)) else (if (h.2 r0 1) ≤ x1 then (some (.inl none, h)) else (if kH h (rH h r0 7) = 1 then (if inB x1 (lH h (rH h r0 7)) = true then (if inB ((upI h.2 (rH h r0 7) x1.toNatClampNeg (h.2 r0 1)) r0 1) (lH h (rH h r0 7)) = true then (letH (upI (upI h.2 (rH h r0 7) x1.toNatClampNeg (h.2 r0 1)) (rH h r0 7) ((upI h.2 (rH h r0 7) x1.toNatClampNeg (h.2 r0 1)) r0 1).toNatClampNeg x1) fun (i8 : Nat → Nat → Int32) => (bV (fX4_add r0 13 0 0 0 (h.1, i8)) fun h10 => (some (.inl none, h10)))) else none) else none) else none)))) else none)
theorem uX4_addEnd_0 {G : GG} {d : Nat} (hd : 2 ≤ d)   {r0  x1 } {h : Hp} {o : OU} {h' : Hp} (e : kX4_addEnd_0  r0 x1 h = some (o, h')) : VM G mX4_addEnd d [.ref r0, .int x1] h o h' := by
  unfold kX4_addEnd_0 at e
  refine eX4_addEnd r0 x1 (by omega) ?_
  obtain ⟨q1, e⟩ := ob_e e
  refine ⟨q1, ?_⟩
  refine ⟨fun c2 => ?_, fun c2 => ?_⟩
  · have e := if_t e c2
    cases e
    exact ⟨rfl, rfl⟩
  · have e := if_f e c2
    refine ⟨fun c3 => ?_, fun c3 => ?_⟩
    · have e := if_t e c3
      cases e
      exact ⟨rfl, rfl⟩
    · have e := if_f e c3
      refine ⟨fun c4 => ?_, fun c4 => ?_⟩
      · have e := if_t e c4
        cases e
        exact ⟨rfl, rfl⟩
      · have e := if_f e c4
        obtain ⟨q5, e⟩ := ob_e e
        refine ⟨q5, ?_⟩
        obtain ⟨q6, e⟩ := ob_in e
        refine ⟨q6, ?_⟩
        obtain ⟨q7, e⟩ := ob_in e
        refine ⟨q7, ?_⟩
        intro i8 evi8
        have e := lt_e evi8 e
        obtain ⟨h10, e8, e⟩ := bV_e e
        refine ⟨h10, (tX4_add e8 (by omega)), ?_⟩
        cases e
        exact ⟨rfl, rfl⟩
def fX4_addEnd (r0 : Nat) (x1 : Int32) (h : Hp) : RS := kX4_addEnd_0 r0 x1 h
theorem tX4_addEnd {G : GG} {d : Nat} {r0 x1} {h : Hp} {o : OU} {h' : Hp} (e : fX4_addEnd r0 x1 h = some (o, h')) (hd : 2 ≤ d) : VM G mX4_addEnd d [.ref r0, .int x1] h o h' := uX4_addEnd_0 hd e
def kX3_readBook_0 (rec : Nat → List Value → List Value → Hp → RS)  (r0 : Nat) (r1 : Nat) (x2 : Int32) (h : Hp) : RS := (if kH h r0 = 13 then (bV (fX3_begin r0 r1 x2 h) fun h1 => (if kH h1 r0 = 13 then (rec 13 [.ref r0, uV, uV, .int 0, uV, uV, uV] [] (h1.1, (upI h1.2 r0 2 0))) else none)) else none)
theorem uX3_readBook_0 {G : GG} {d : Nat} (hd : 3 ≤ d) (rec : Nat → List Value → List Value → Hp → RS) (hrec : ∀ pc loc st h o h', rec pc loc st h = some (o, h') → V G mX3_readBook d pc loc st h o h')   {r0  r1  x2 } {h : Hp} {o : OU} {h' : Hp} (e : kX3_readBook_0 rec  r0 r1 x2 h = some (o, h')) : VM G mX3_readBook d [.ref r0, .ref r1, .int x2] h o h' := by
  unfold kX3_readBook_0 at e
  refine eX3_readBook r0 r1 x2 (by omega) ?_
  obtain ⟨q1, e⟩ := ob_e e
  refine ⟨q1, ?_⟩
  obtain ⟨h1, e2, e⟩ := bV_e e
  refine ⟨h1, (tX3_begin e2 (by omega)), ?_⟩
  obtain ⟨q3, e⟩ := ob_e e
  refine ⟨q3, ?_⟩
  exact hrec _ _ _ _ _ _ e
def kX3_readBook_13 (rec : Nat → List Value → List Value → Hp → RS)  (r0 : Nat) (x3 : Int32) (h : Hp) : RS := (if 16 ≤ x3 then (rec 34 [.ref r0, uV, uV, .int 0, uV, uV, uV] [] h) else (if kH h r0 = 13 then (if kH h (rH h r0 1) = 1 then (if inB x3 (lH h (rH h r0 1)) = true then (rec 13 [.ref r0, uV, uV, .int (x3 + 1), uV, uV, uV] [] (h.1, (upI h.2 (rH h r0 1) x3.toNatClampNeg (-1)))) else none) else none) else none))
theorem uX3_readBook_13 {G : GG} {d : Nat} (hd : 3 ≤ d) (rec : Nat → List Value → List Value → Hp → RS) (hrec : ∀ pc loc st h o h', rec pc loc st h = some (o, h') → V G mX3_readBook d pc loc st h o h')   {r0  x3 } {h : Hp} {o : OU} {h' : Hp} (e : kX3_readBook_13 rec  r0 x3 h = some (o, h')) : V G mX3_readBook d 13 [.ref r0, uV, uV, .int x3, uV, uV, uV] [] h o h' := by
  unfold kX3_readBook_13 at e
  refine bX3_readBook_13 r0 x3 ?_
  refine ⟨fun c1 => ?_, fun c1 => ?_⟩
  · have e := if_t e c1
    exact hrec _ _ _ _ _ _ e
  · have e := if_f e c1
    obtain ⟨q2, e⟩ := ob_e e
    refine ⟨q2, ?_⟩
    obtain ⟨q3, e⟩ := ob_e e
    refine ⟨q3, ?_⟩
    obtain ⟨q4, e⟩ := ob_in e
    refine ⟨q4, ?_⟩
    exact hrec _ _ _ _ _ _ e
def kX3_readBook_34 (rec : Nat → List Value → List Value → Hp → RS)  (r0 : Nat) (x3 : Int32) (h : Hp) : RS := (if kH h r0 = 13 then (if (h.2 r0 6) < x3 then (some (.inl (some (.int (h.2 r0 4))), h)) else (if ¬ (h.2 r0 4) = 0 then (some (.inl (some (.int (h.2 r0 4))), h)) else (bI (fX3_atEnd r0 h) fun z5 h4 => (if ¬ z5 = 0 then (if kH h4 r0 = 13 then (some (.inl (some (.int (h4.2 r0 4))), h4)) else none) else (if kH h4 r0 = 13 then (bI (fX3_readNumber r0 0 15 h4) fun z11 h10 => (if kH h10 r0 = 13 then (if kH h10 (rH h10 r0 1) = 1 then (if inB z11 (lH h10 (rH h10 r0 1)) = true then (if (h10.2 (rH h10 r0 1) z11.toNatClampNeg) = (-1) then (bI (fX3_readNumber r0 0 99 h10) fun z18 h17 => (if kH h17 r0 = 13 then (bV (fX3_readSign r0 59 h17) fun h20 => (if kH h20 r0 = 13 then (if ¬ (h20.2 r0 4) = 0 then (rec 34 [.ref r0, uV, uV, .int (x3 + 1), uV, uV, uV] [] h20) else (if kH h20 (rH h20 r0 1) = 1 then (if inB z11 (lH h20 (rH h20 r0 1)) = true then (rec 34 [.ref r0, uV, uV, .int (x3 + 1), uV, uV, uV] [] (h20.1, (upI (upI h20.2 (rH h20 r0 1) z11.toNatClampNeg z18) r0 2 (((upI h20.2 (rH h20 r0 1) z11.toNatClampNeg z18) r0 2) + 1)))) else none) else none)) else none)) else none)) else (bV (fX3_blame r0 2 (h4.2 r0 7) h10) fun h27 => (if kH h27 r0 = 13 then (bI (fX3_readNumber r0 0 99 h27) fun z30 h29 => (if kH h29 r0 = 13 then (bV (fX3_readSign r0 59 h29) fun h33 => (if kH h33 r0 = 13 then (if ¬ (h33.2 r0 4) = 0 then (rec 34 [.ref r0, uV, uV, .int (x3 + 1), uV, uV, uV] [] h33) else (if kH h33 (rH h33 r0 1) = 1 then (if inB z11 (lH h33 (rH h33 r0 1)) = true then (rec 34 [.ref r0, uV, uV, .int (x3 + 1), uV, uV, uV] [] (h33.1, (upI (upI h33.2 (rH h33 r0 1) z11.toNatClampNeg z30) r0 2 (((upI h33.2 (rH h33 r0 1) z11.toNatClampNeg z30) r0 2) + 1)))) else none) else none)) else none)) else none)) else none))) else none) else none) else none)) else none))))) else none)
theorem uX3_readBook_34 {G : GG} {d : Nat} (hd : 3 ≤ d) (rec : Nat → List Value → List Value → Hp → RS) (hrec : ∀ pc loc st h o h', rec pc loc st h = some (o, h') → V G mX3_readBook d pc loc st h o h')   {r0  x3 } {h : Hp} {o : OU} {h' : Hp} (e : kX3_readBook_34 rec  r0 x3 h = some (o, h')) : V G mX3_readBook d 34 [.ref r0, uV, uV, .int x3, uV, uV, uV] [] h o h' := by
  unfold kX3_readBook_34 at e
  refine bX3_readBook_34 r0 x3 (by omega) ?_
  obtain ⟨q1, e⟩ := ob_e e
  refine ⟨q1, ?_⟩
  refine ⟨fun c2 => ?_, fun c2 => ?_⟩
  · have e := if_t e c2
    cases e
    exact ⟨rfl, rfl⟩
  · have e := if_f e c2
    refine ⟨fun c3 => ?_, fun c3 => ?_⟩
    · have e := if_t e c3
      cases e
      exact ⟨rfl, rfl⟩
    · have e := if_n e c3
      obtain ⟨z5, h4, e4, e⟩ := bI_e e
      refine ⟨z5, h4, (tX3_atEnd e4 (by omega)), ?_⟩
      refine ⟨fun c5 => ?_, fun c5 => ?_⟩
      · have e := if_t e c5
        obtain ⟨q6, e⟩ := ob_e e
        refine ⟨q6, ?_⟩
        cases e
        exact ⟨rfl, rfl⟩
      · have e := if_n e c5
        obtain ⟨q7, e⟩ := ob_e e
        refine ⟨q7, ?_⟩
        obtain ⟨z11, h10, e8, e⟩ := bI_e e
        refine ⟨z11, h10, (tX3_readNumber e8 (by omega)), ?_⟩
        obtain ⟨q9, e⟩ := ob_e e
        refine ⟨q9, ?_⟩
        obtain ⟨q10, e⟩ := ob_e e
        refine ⟨q10, ?_⟩
        obtain ⟨q11, e⟩ := ob_in e
        refine ⟨q11, ?_⟩
        refine ⟨fun c12 => ?_, fun c12 => ?_⟩
        · have e := if_t e c12
          obtain ⟨z18, h17, e13, e⟩ := bI_e e
          refine ⟨z18, h17, (tX3_readNumber e13 (by omega)), ?_⟩
          obtain ⟨q14, e⟩ := ob_e e
          refine ⟨q14, ?_⟩
          obtain ⟨h20, e15, e⟩ := bV_e e
          refine ⟨h20, (tX3_readSign e15 (by omega)), ?_⟩
          obtain ⟨q16, e⟩ := ob_e e
          refine ⟨q16, ?_⟩
          refine ⟨fun c17 => ?_, fun c17 => ?_⟩
          · have e := if_t e c17
            exact hrec _ _ _ _ _ _ e
          · have e := if_n e c17
            obtain ⟨q18, e⟩ := ob_e e
            refine ⟨q18, ?_⟩
            obtain ⟨q19, e⟩ := ob_in e
            refine ⟨q19, ?_⟩
            exact hrec _ _ _ _ _ _ e
        · have e := if_f e c12
          obtain ⟨h27, e20, e⟩ := bV_e e
          refine ⟨h27, (tX3_blame e20 (by omega)), ?_⟩
          obtain ⟨q21, e⟩ := ob_e e
          refine ⟨q21, ?_⟩
          obtain ⟨z30, h29, e22, e⟩ := bI_e e
          refine ⟨z30, h29, (tX3_readNumber e22 (by omega)), ?_⟩
          obtain ⟨q23, e⟩ := ob_e e
          refine ⟨q23, ?_⟩
          obtain ⟨h33, e24, e⟩ := bV_e e
          refine ⟨h33, (tX3_readSign e24 (by omega)), ?_⟩
          obtain ⟨q25, e⟩ := ob_e e
          refine ⟨q25, ?_⟩
          refine ⟨fun c26 => ?_, fun c26 => ?_⟩
          · have e := if_t e c26
            exact hrec _ _ _ _ _ _ e
          · have e := if_n e c26
            obtain ⟨q27, e⟩ := ob_e e
            refine ⟨q27, ?_⟩
            obtain ⟨q28, e⟩ := ob_in e
            refine ⟨q28, ?_⟩
            exact hrec _ _ _ _ _ _ e
def sX3_readBook  (rec : Nat → List Value → List Value → Hp → RS) (pc : Nat) (loc st : List Value) (h : Hp) : RS := match pc, loc, st with
  | 13, [.ref r0, _, _, .int x3, _, _, _], [] => kX3_readBook_13 rec  r0 x3 h
  | 34, [.ref r0, _, _, .int x3, _, _, _], [] => kX3_readBook_34 rec  r0 x3 h
  | _, _, _ => none
def gX3_readBook  : Nat → Nat → List Value → List Value → Hp → RS
  | 0 => fun _ _ _ _ => none
  | n + 1 => sX3_readBook  (gX3_readBook  n)
theorem wX3_readBook {G : GG} {d : Nat} (hd : 3 ≤ d)   : ∀ (n pc : Nat) (loc st : List Value) (h : Hp) (o : OU) (h' : Hp), gX3_readBook  n pc loc st h = some (o, h') → V G mX3_readBook d pc loc st h o h' := by
  intro n
  induction n with
  | zero => intro pc loc st h o h' e; cases e
  | succ n ih =>
    intro pc loc st h o h' e
    unfold gX3_readBook sX3_readBook at e
    split at e
    · exact V.drop (llp_r (llp_u (llp_u (llp_r (llp_u (llp_u (llp_u llp_nil))))))) (uX3_readBook_13 hd _ ih   e)
    · exact V.drop (llp_r (llp_u (llp_u (llp_r (llp_u (llp_u (llp_u llp_nil))))))) (uX3_readBook_34 hd _ ih   e)
    · cases e
theorem zX3_readBook_13  (n : Nat) (r0 : Nat) (x3 : Int32) (y1 : Value) (y2 : Value) (y4 : Value) (y5 : Value) (y6 : Value) (h : Hp) : gX3_readBook  (n + 1) 13 [.ref r0, y1, y2, .int x3, y4, y5, y6] [] h = kX3_readBook_13 (gX3_readBook  n)  r0 x3 h := rfl
theorem zX3_readBook_34  (n : Nat) (r0 : Nat) (x3 : Int32) (y1 : Value) (y2 : Value) (y4 : Value) (y5 : Value) (y6 : Value) (h : Hp) : gX3_readBook  (n + 1) 34 [.ref r0, y1, y2, .int x3, y4, y5, y6] [] h = kX3_readBook_34 (gX3_readBook  n)  r0 x3 h := rfl
def fX3_readBook (r0 : Nat) (r1 : Nat) (x2 : Int32) (h : Hp) : RS := kX3_readBook_0 (gX3_readBook FF) r0 r1 x2 h
theorem tX3_readBook {G : GG} {d : Nat} {r0 r1 x2} {h : Hp} {o : OU} {h' : Hp} (e : fX3_readBook r0 r1 x2 h = some (o, h')) (hd : 3 ≤ d) : VM G mX3_readBook d [.ref r0, .ref r1, .int x2] h o h' := uX3_readBook_0 hd _ (wX3_readBook hd FF) e
def kX4_afterAgain_0  (r0 : Nat) (x1 : Int32) (h : Hp) : RS := (if kH h r0 = 14 then (if kH h (rH h r0 3) = 1 then (if inB x1 (lH h (rH h r0 3)) = true then (if kH h (rH h r0 6) = 1 then (if inB x1 (lH h (rH h r0 6)) = true then (if ¬ ((upI h.2 (rH h r0 6) x1.toNatClampNeg (h.2 (rH h r0 3) x1.toNatClampNeg)) (rH h r0 6) x1.toNatClampNeg) = 0 then (some (.inl (some (.int (x1 + 1))), (h.1, (upI h.2 (rH h r0 6) x1.toNatClampNeg (h.2 (rH h r0 3) x1.toNatClampNeg))))) else (if kH h (rH h r0 7) = 1 then (if inB x1 (lH h (rH h r0 7)) = true then (some (.inl (some (.int (((upI h.2 (rH h r0 6) x1.toNatClampNeg (h.2 (rH h r0 3) x1.toNatClampNeg)) (rH h r0 7) x1.toNatClampNeg) + 1))), (h.1, (upI h.2 (rH h r0 6) x1.toNatClampNeg (h.2 (rH h r0 3) x1.toNatClampNeg))))) else none) else none)) else none) else none) else none) else none) else none)
theorem uX4_afterAgain_0 {G : GG} {d : Nat} (hd : 1 ≤ d)   {r0  x1 } {h : Hp} {o : OU} {h' : Hp} (e : kX4_afterAgain_0  r0 x1 h = some (o, h')) : VM G mX4_afterAgain d [.ref r0, .int x1] h o h' := by
  unfold kX4_afterAgain_0 at e
  refine eX4_afterAgain r0 x1 ?_
  obtain ⟨q1, e⟩ := ob_e e
  refine ⟨q1, ?_⟩
  obtain ⟨q2, e⟩ := ob_e e
  refine ⟨q2, ?_⟩
  obtain ⟨q3, e⟩ := ob_in e
  refine ⟨q3, ?_⟩
  obtain ⟨q4, e⟩ := ob_e e
  refine ⟨q4, ?_⟩
  obtain ⟨q5, e⟩ := ob_in e
  refine ⟨q5, ?_⟩
  refine ⟨fun c6 => ?_, fun c6 => ?_⟩
  · have e := if_t e c6
    cases e
    exact ⟨rfl, rfl⟩
  · have e := if_n e c6
    obtain ⟨q7, e⟩ := ob_e e
    refine ⟨q7, ?_⟩
    obtain ⟨q8, e⟩ := ob_in e
    refine ⟨q8, ?_⟩
    cases e
    exact ⟨rfl, rfl⟩
def fX4_afterAgain (r0 : Nat) (x1 : Int32) (h : Hp) : RS := kX4_afterAgain_0 r0 x1 h
theorem tX4_afterAgain {G : GG} {d : Nat} {r0 x1} {h : Hp} {o : OU} {h' : Hp} (e : fX4_afterAgain r0 x1 h = some (o, h')) (hd : 1 ≤ d) : VM G mX4_afterAgain d [.ref r0, .int x1] h o h' := uX4_afterAgain_0 hd e
def kX4_afterEnd_0  (r0 : Nat) (x1 : Int32) (h : Hp) : RS := (if kH h r0 = 14 then (if kH h (rH h r0 7) = 1 then (if inB x1 (lH h (rH h r0 7)) = true then (if kH h (rH h r0 6) = 1 then (if inB (h.2 (rH h r0 7) x1.toNatClampNeg) (lH h (rH h r0 6)) = true then (letH (upI h.2 (rH h r0 6) (h.2 (rH h r0 7) x1.toNatClampNeg).toNatClampNeg ((h.2 (rH h r0 6) (h.2 (rH h r0 7) x1.toNatClampNeg).toNatClampNeg) - 1)) fun (i6 : Nat → Nat → Int32) => (if (i6 (rH h r0 6) (h.2 (rH h r0 7) x1.toNatClampNeg).toNatClampNeg) ≤ 0 then (some (.inl (some (.int (x1 + 1))), (h.1, i6))) else (some (.inl (some (.int ((h.2 (rH h r0 7) x1.toNatClampNeg) + 1))), (h.1, i6))))) else none) else none) else none) else none) else none)
theorem uX4_afterEnd_0 {G : GG} {d : Nat} (hd : 1 ≤ d)   {r0  x1 } {h : Hp} {o : OU} {h' : Hp} (e : kX4_afterEnd_0  r0 x1 h = some (o, h')) : VM G mX4_afterEnd d [.ref r0, .int x1] h o h' := by
  unfold kX4_afterEnd_0 at e
  refine eX4_afterEnd r0 x1 ?_
  obtain ⟨q1, e⟩ := ob_e e
  refine ⟨q1, ?_⟩
  obtain ⟨q2, e⟩ := ob_e e
  refine ⟨q2, ?_⟩
  obtain ⟨q3, e⟩ := ob_in e
  refine ⟨q3, ?_⟩
  obtain ⟨q4, e⟩ := ob_e e
  refine ⟨q4, ?_⟩
  obtain ⟨q5, e⟩ := ob_in e
  refine ⟨q5, ?_⟩
  intro i6 evi6
  have e := lt_e evi6 e
  refine ⟨fun c6 => ?_, fun c6 => ?_⟩
  · have e := if_t e c6
    cases e
    exact ⟨rfl, rfl⟩
  · have e := if_f e c6
    cases e
    exact ⟨rfl, rfl⟩
def fX4_afterEnd (r0 : Nat) (x1 : Int32) (h : Hp) : RS := kX4_afterEnd_0 r0 x1 h
theorem tX4_afterEnd {G : GG} {d : Nat} {r0 x1} {h : Hp} {o : OU} {h' : Hp} (e : fX4_afterEnd r0 x1 h = some (o, h')) (hd : 1 ≤ d) : VM G mX4_afterEnd d [.ref r0, .int x1] h o h' := uX4_afterEnd_0 hd e
def kX5_crash_0  (r0 : Nat) (h : Hp) : RS := (if kH h r0 = 15 then (if kH h (rH h r0 1) = 2 then (if 256 + 256 ≤ lH h (rH h r0 1) then (if 0 + 256 ≤ lH h (rH h r0 1) then (letH (upI (upI (upI (cpI h.2 (rH h r0 1) (rH h r0 1) 256 0 256) r0 2 0) r0 9 0) r0 14 (((upI (upI (cpI h.2 (rH h r0 1) (rH h r0 1) 256 0 256) r0 2 0) r0 9 0) r0 14) + 1)) fun (i5 : Nat → Nat → Int32) => (some (.inl none, (h.1, i5)))) else none) else none) else none) else none)
theorem uX5_crash_0 {G : GG} {d : Nat} (hd : 1 ≤ d)   {r0 } {h : Hp} {o : OU} {h' : Hp} (e : kX5_crash_0  r0 h = some (o, h')) : VM G mX5_crash d [.ref r0] h o h' := by
  unfold kX5_crash_0 at e
  refine eX5_crash r0 (by omega) ?_
  obtain ⟨q1, e⟩ := ob_e e
  refine ⟨q1, ?_⟩
  obtain ⟨q2, e⟩ := ob_e e
  refine ⟨q2, ?_⟩
  obtain ⟨q3, e⟩ := ob_e e
  refine ⟨q3, ?_⟩
  obtain ⟨q4, e⟩ := ob_e e
  refine ⟨q4, ?_⟩
  intro i5 evi5
  have e := lt_e evi5 e
  cases e
  exact ⟨rfl, rfl⟩
def fX5_crash (r0 : Nat) (h : Hp) : RS := kX5_crash_0 r0 h
theorem tX5_crash {G : GG} {d : Nat} {r0} {h : Hp} {o : OU} {h' : Hp} (e : fX5_crash r0 h = some (o, h')) (hd : 1 ≤ d) : VM G mX5_crash d [.ref r0] h o h' := uX5_crash_0 hd e
def kX5_at_0  (r0 : Nat) (x1 : Int32) (x2 : Int32) (x3 : Int32) (h : Hp) : RS := (if x1 < 0 then (some (.inl (some (.int 0)), h)) else (if 1 < x1 then (some (.inl (some (.int 0)), h)) else (if x2 < 0 then (some (.inl (some (.int 0)), h)) else (if 16 ≤ x2 then (some (.inl (some (.int 0)), h)) else (if x3 < 0 then (some (.inl (some (.int 0)), h)) else (if x3 < 16 then (if kH h r0 = 15 then (if kH h (rH h r0 1) = 2 then (if inB (((x1 * 256) + (x2 * 16)) + x3) (lH h (rH h r0 1)) = true then (some (.inl (some (.int (h.2 (rH h r0 1) (((x1 * 256) + (x2 * 16)) + x3).toNatClampNeg))), h)) else none) else none) else none) else (some (.inl (some (.int 0)), h))))))))
theorem uX5_at_0 {G : GG} {d : Nat} (hd : 1 ≤ d)   {r0  x1  x2  x3 } {h : Hp} {o : OU} {h' : Hp} (e : kX5_at_0  r0 x1 x2 x3 h = some (o, h')) : VM G mX5_at d [.ref r0, .int x1, .int x2, .int x3] h o h' := by
  unfold kX5_at_0 at e
  refine eX5_at r0 x1 x2 x3 ?_
  refine ⟨fun c1 => ?_, fun c1 => ?_⟩
  · have e := if_t e c1
    cases e
    exact ⟨rfl, rfl⟩
  · have e := if_f e c1
    refine ⟨fun c2 => ?_, fun c2 => ?_⟩
    · have e := if_t e c2
      cases e
      exact ⟨rfl, rfl⟩
    · have e := if_f e c2
      refine ⟨fun c3 => ?_, fun c3 => ?_⟩
      · have e := if_t e c3
        cases e
        exact ⟨rfl, rfl⟩
      · have e := if_f e c3
        refine ⟨fun c4 => ?_, fun c4 => ?_⟩
        · have e := if_t e c4
          cases e
          exact ⟨rfl, rfl⟩
        · have e := if_f e c4
          refine ⟨fun c5 => ?_, fun c5 => ?_⟩
          · have e := if_t e c5
            cases e
            exact ⟨rfl, rfl⟩
          · have e := if_f e c5
            refine ⟨fun c6 => ?_, fun c6 => ?_⟩
            · have e := if_t e c6
              obtain ⟨q7, e⟩ := ob_e e
              refine ⟨q7, ?_⟩
              obtain ⟨q8, e⟩ := ob_e e
              refine ⟨q8, ?_⟩
              obtain ⟨q9, e⟩ := ob_in e
              refine ⟨q9, ?_⟩
              cases e
              exact ⟨rfl, rfl⟩
            · have e := if_f e c6
              cases e
              exact ⟨rfl, rfl⟩
def fX5_at (r0 : Nat) (x1 : Int32) (x2 : Int32) (x3 : Int32) (h : Hp) : RS := kX5_at_0 r0 x1 x2 x3 h
theorem tX5_at {G : GG} {d : Nat} {r0 x1 x2 x3} {h : Hp} {o : OU} {h' : Hp} (e : fX5_at r0 x1 x2 x3 h = some (o, h')) (hd : 1 ≤ d) : VM G mX5_at d [.ref r0, .int x1, .int x2, .int x3] h o h' := uX5_at_0 hd e
