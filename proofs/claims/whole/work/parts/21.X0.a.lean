theorem dX0_init_0 : decode cX0_init 0 = .ok (.aload_n 0, 1) := by decide +kernel
theorem dX0_init_1 : decode cX0_init 1 = .ok (.invokespecial 3, 3) := by decide +kernel
theorem dX0_init_4 : decode cX0_init 4 = .ok (.aload_n 0, 1) := by decide +kernel
theorem dX0_init_5 : decode cX0_init 5 = .ok (.bipush 16, 2) := by decide +kernel
theorem dX0_init_7 : decode cX0_init 7 = .ok (.anewarray 9, 3) := by decide +kernel
theorem dX0_init_10 : decode cX0_init 10 = .ok (.putfield 11, 3) := by decide +kernel
theorem dX0_init_13 : decode cX0_init 13 = .ok (.return_, 1) := by decide +kernel
theorem dX0_push_0 : decode cX0_push 0 = .ok (.aload_n 0, 1) := by decide +kernel
theorem dX0_push_1 : decode cX0_push 1 = .ok (.getfield 17, 3) := by decide +kernel
theorem dX0_push_4 : decode cX0_push 4 = .ok (.bipush 16, 2) := by decide +kernel
theorem dX0_push_6 : decode cX0_push 6 = .ok (.if_icmp .ge 22, 3) := by decide +kernel
theorem dX0_push_9 : decode cX0_push 9 = .ok (.aload_n 0, 1) := by decide +kernel
theorem dX0_push_10 : decode cX0_push 10 = .ok (.aload_n 0, 1) := by decide +kernel
theorem dX0_push_11 : decode cX0_push 11 = .ok (.getfield 17, 3) := by decide +kernel
theorem dX0_push_14 : decode cX0_push 14 = .ok (.aload_n 1, 1) := by decide +kernel
theorem dX0_push_15 : decode cX0_push 15 = .ok (.invokevirtual 21, 3) := by decide +kernel
theorem dX0_push_18 : decode cX0_push 18 = .ok (.aload_n 0, 1) := by decide +kernel
theorem dX0_push_19 : decode cX0_push 19 = .ok (.dup, 1) := by decide +kernel
theorem dX0_push_20 : decode cX0_push 20 = .ok (.getfield 17, 3) := by decide +kernel
theorem dX0_push_23 : decode cX0_push 23 = .ok (.iconst 1, 1) := by decide +kernel
theorem dX0_push_24 : decode cX0_push 24 = .ok (.iadd, 1) := by decide +kernel
theorem dX0_push_25 : decode cX0_push 25 = .ok (.putfield 17, 3) := by decide +kernel
theorem dX0_push_28 : decode cX0_push 28 = .ok (.return_, 1) := by decide +kernel
theorem dX0_pop_0 : decode cX0_pop 0 = .ok (.aload_n 0, 1) := by decide +kernel
theorem dX0_pop_1 : decode cX0_pop 1 = .ok (.getfield 17, 3) := by decide +kernel
theorem dX0_pop_4 : decode cX0_pop 4 = .ok (.ifCond .le 40, 3) := by decide +kernel
theorem dX0_pop_7 : decode cX0_pop 7 = .ok (.aload_n 0, 1) := by decide +kernel
theorem dX0_pop_8 : decode cX0_pop 8 = .ok (.getfield 11, 3) := by decide +kernel
theorem dX0_pop_11 : decode cX0_pop 11 = .ok (.aload_n 0, 1) := by decide +kernel
theorem dX0_pop_12 : decode cX0_pop 12 = .ok (.getfield 17, 3) := by decide +kernel
theorem dX0_pop_15 : decode cX0_pop 15 = .ok (.iconst 1, 1) := by decide +kernel
theorem dX0_pop_16 : decode cX0_pop 16 = .ok (.isub, 1) := by decide +kernel
theorem dX0_pop_17 : decode cX0_pop 17 = .ok (.aaload, 1) := by decide +kernel
theorem dX0_pop_18 : decode cX0_pop 18 = .ok (.ifnull 26, 3) := by decide +kernel
theorem dX0_pop_21 : decode cX0_pop 21 = .ok (.aload_n 0, 1) := by decide +kernel
theorem dX0_pop_22 : decode cX0_pop 22 = .ok (.dup, 1) := by decide +kernel
theorem dX0_pop_23 : decode cX0_pop 23 = .ok (.getfield 17, 3) := by decide +kernel
theorem dX0_pop_26 : decode cX0_pop 26 = .ok (.iconst 1, 1) := by decide +kernel
theorem dX0_pop_27 : decode cX0_pop 27 = .ok (.isub, 1) := by decide +kernel
theorem dX0_pop_28 : decode cX0_pop 28 = .ok (.putfield 17, 3) := by decide +kernel
theorem dX0_pop_31 : decode cX0_pop 31 = .ok (.aload_n 1, 1) := by decide +kernel
theorem dX0_pop_32 : decode cX0_pop 32 = .ok (.aload_n 0, 1) := by decide +kernel
theorem dX0_pop_33 : decode cX0_pop 33 = .ok (.getfield 11, 3) := by decide +kernel
theorem dX0_pop_36 : decode cX0_pop 36 = .ok (.aload_n 0, 1) := by decide +kernel
theorem dX0_pop_37 : decode cX0_pop 37 = .ok (.getfield 17, 3) := by decide +kernel
theorem dX0_pop_40 : decode cX0_pop 40 = .ok (.aaload, 1) := by decide +kernel
theorem dX0_pop_41 : decode cX0_pop 41 = .ok (.invokevirtual 25, 3) := by decide +kernel
theorem dX0_pop_44 : decode cX0_pop 44 = .ok (.return_, 1) := by decide +kernel
theorem dX0_takeOver_0 : decode cX0_takeOver 0 = .ok (.iconst 0, 1) := by decide +kernel
theorem dX0_takeOver_1 : decode cX0_takeOver 1 = .ok (.istore_n 2, 1) := by decide +kernel
theorem dX0_takeOver_2 : decode cX0_takeOver 2 = .ok (.iload_n 2, 1) := by decide +kernel
theorem dX0_takeOver_3 : decode cX0_takeOver 3 = .ok (.aload_n 1, 1) := by decide +kernel
theorem dX0_takeOver_4 : decode cX0_takeOver 4 = .ok (.getfield 17, 3) := by decide +kernel
theorem dX0_takeOver_7 : decode cX0_takeOver 7 = .ok (.if_icmp .ge 29, 3) := by decide +kernel
theorem dX0_takeOver_10 : decode cX0_takeOver 10 = .ok (.aload_n 1, 1) := by decide +kernel
theorem dX0_takeOver_11 : decode cX0_takeOver 11 = .ok (.getfield 11, 3) := by decide +kernel
theorem dX0_takeOver_14 : decode cX0_takeOver 14 = .ok (.iload_n 2, 1) := by decide +kernel
theorem dX0_takeOver_15 : decode cX0_takeOver 15 = .ok (.aaload, 1) := by decide +kernel
theorem dX0_takeOver_16 : decode cX0_takeOver 16 = .ok (.ifnull 14, 3) := by decide +kernel
theorem dX0_takeOver_19 : decode cX0_takeOver 19 = .ok (.aload_n 0, 1) := by decide +kernel
theorem dX0_takeOver_20 : decode cX0_takeOver 20 = .ok (.iload_n 2, 1) := by decide +kernel
theorem dX0_takeOver_21 : decode cX0_takeOver 21 = .ok (.aload_n 1, 1) := by decide +kernel
theorem dX0_takeOver_22 : decode cX0_takeOver 22 = .ok (.getfield 11, 3) := by decide +kernel
theorem dX0_takeOver_25 : decode cX0_takeOver 25 = .ok (.iload_n 2, 1) := by decide +kernel
theorem dX0_takeOver_26 : decode cX0_takeOver 26 = .ok (.aaload, 1) := by decide +kernel
theorem dX0_takeOver_27 : decode cX0_takeOver 27 = .ok (.invokevirtual 21, 3) := by decide +kernel
theorem dX0_takeOver_30 : decode cX0_takeOver 30 = .ok (.iinc 2 1, 3) := by decide +kernel
theorem dX0_takeOver_33 : decode cX0_takeOver 33 = .ok (.goto (-31), 3) := by decide +kernel
theorem dX0_takeOver_36 : decode cX0_takeOver 36 = .ok (.aload_n 0, 1) := by decide +kernel
theorem dX0_takeOver_37 : decode cX0_takeOver 37 = .ok (.aload_n 1, 1) := by decide +kernel
theorem dX0_takeOver_38 : decode cX0_takeOver 38 = .ok (.getfield 17, 3) := by decide +kernel
theorem dX0_takeOver_41 : decode cX0_takeOver 41 = .ok (.putfield 17, 3) := by decide +kernel
theorem dX0_takeOver_44 : decode cX0_takeOver 44 = .ok (.return_, 1) := by decide +kernel
theorem dX0_keep_0 : decode cX0_keep 0 = .ok (.aload_n 0, 1) := by decide +kernel
theorem dX0_keep_1 : decode cX0_keep 1 = .ok (.getfield 11, 3) := by decide +kernel
theorem dX0_keep_4 : decode cX0_keep 4 = .ok (.iload_n 1, 1) := by decide +kernel
theorem dX0_keep_5 : decode cX0_keep 5 = .ok (.aaload, 1) := by decide +kernel
theorem dX0_keep_6 : decode cX0_keep 6 = .ok (.ifnonnull 16, 3) := by decide +kernel
theorem dX0_keep_9 : decode cX0_keep 9 = .ok (.aload_n 0, 1) := by decide +kernel
theorem dX0_keep_10 : decode cX0_keep 10 = .ok (.getfield 11, 3) := by decide +kernel
theorem dX0_keep_13 : decode cX0_keep 13 = .ok (.iload_n 1, 1) := by decide +kernel
theorem dX0_keep_14 : decode cX0_keep 14 = .ok (.new 9, 3) := by decide +kernel
theorem dX0_keep_17 : decode cX0_keep 17 = .ok (.dup, 1) := by decide +kernel
theorem dX0_keep_18 : decode cX0_keep 18 = .ok (.invokespecial 29, 3) := by decide +kernel
theorem dX0_keep_21 : decode cX0_keep 21 = .ok (.aastore, 1) := by decide +kernel
theorem dX0_keep_22 : decode cX0_keep 22 = .ok (.aload_n 0, 1) := by decide +kernel
theorem dX0_keep_23 : decode cX0_keep 23 = .ok (.getfield 11, 3) := by decide +kernel
theorem dX0_keep_26 : decode cX0_keep 26 = .ok (.iload_n 1, 1) := by decide +kernel
theorem dX0_keep_27 : decode cX0_keep 27 = .ok (.aaload, 1) := by decide +kernel
theorem dX0_keep_28 : decode cX0_keep 28 = .ok (.aload_n 2, 1) := by decide +kernel
theorem dX0_keep_29 : decode cX0_keep 29 = .ok (.invokevirtual 25, 3) := by decide +kernel
theorem dX0_keep_32 : decode cX0_keep 32 = .ok (.return_, 1) := by decide +kernel
theorem eX0_init {G : GG} {d : Nat} {h : Hp} {o : OU} {h' : Hp} (r0 : Nat) (hd : 1 ≤ d) (T : r0 ≠ 0 ∧ (∀ h2 : Hp, h2 = (nwH h 5 16 16) → kH h2 r0 = 10 ∧ (∀ h5 : Hp, h5 = (sR h2 r0 0 (nH h)) → (o = .inl none ∧ h' = h5)))) : VM G mX0_init d [.ref r0] h o h' := by
  refine V.toM rfl rfl (le_l rfl) (cat_all rfl) ?_
  show V G mX0_init d 0 [.ref r0] [] h o h'
  have hdd : d - 1 + 1 ≤ d := by omega
  refine v_aload_n (pc' := 1) dX0_init_0 rfl rfl ?_
  obtain ⟨q1, T⟩ := T
  refine v_objInit (pc' := 4) dX0_init_1 rfl km_X0_3 kx_oi kx_oc hd (le_l rfl) q1 ?_
  refine v_aload_n (pc' := 5) dX0_init_4 rfl rfl ?_
  refine v_bipush (pc' := 7) (v := 16) dX0_init_5 rfl kB_16 ?_
  refine v_anewa (pc' := 10) 5 5 (N := 16) dX0_init_7 rfl (by decide) kk_X0_9 (by decide) (by decide) (by decide) ?_
  show V G mX0_init d 10 [.ref r0] [.ref (nH h), .ref r0] (nwH h 5 16 16) o h'
  obtain ⟨h2, e3⟩ : ∃ z : Hp, z = (nwH h 5 16 16) := ⟨_, rfl⟩
  rw [← e3]
  have T := T h2 e3
  obtain ⟨q4, T⟩ := T
  refine v_putF (pc' := 13) 0 0 dX0_init_10 rfl (by decide) (by decide) rfl rfl rfl rfl kf_X0_11 q4 ?_
  show V G mX0_init d 13 [.ref r0] [] (sR h2 r0 0 (nH h)) o h'
  obtain ⟨h5, e6⟩ : ∃ z : Hp, z = (sR h2 r0 0 (nH h)) := ⟨_, rfl⟩
  rw [← e6]
  have T := T h5 e6
  exact v_vret dX0_init_13 rfl T
theorem eX0_push {G : GG} {d : Nat} {h : Hp} {o : OU} {h' : Hp} (r0 : Nat) (r1 : Nat) (hd : 1 ≤ d) (T : kH h r0 = 10 ∧ ((16 ≤ (h.2 r0 1) → (o = .inl none ∧ h' = h)) ∧ (¬ 16 ≤ (h.2 r0 1) → ∃ h3, VM G mX0_keep (d - 1) [.ref r0, .int (h.2 r0 1), .ref r1] h (.inl none) h3 ∧ kH h3 r0 = 10 ∧ (o = .inl none ∧ h' = (h3.1, (upI h3.2 r0 1 ((h3.2 r0 1) + 1))))))) : VM G mX0_push d [.ref r0, .ref r1] h o h' := by
  refine V.toM rfl rfl (le_l rfl) (cat_all rfl) ?_
  show V G mX0_push d 0 [.ref r0, .ref r1] [] h o h'
  have hdd : d - 1 + 1 ≤ d := by omega
  refine v_aload_n (pc' := 1) dX0_push_0 rfl rfl ?_
  obtain ⟨q1, T⟩ := T
  refine v_getI (pc' := 4) 0 1 dX0_push_1 rfl (by decide) (by decide) rfl kf_X0_17 q1 ?_
  refine v_bipush (pc' := 6) (v := 16) dX0_push_4 rfl kB_16 ?_
  refine v_icmp_ge (tgt := 28) (pc' := 9) dX0_push_6 (by decide) rfl ⟨fun c2 => ?_, fun c2 => ?_⟩
  · have T := T.1 c2
    exact v_vret dX0_push_28 rfl T
  · have T := T.2 c2
    refine v_aload_n (pc' := 10) dX0_push_9 rfl rfl ?_
    refine v_aload_n (pc' := 11) dX0_push_10 rfl rfl ?_
    refine v_getI (pc' := 14) 0 1 dX0_push_11 rfl (by decide) (by decide) rfl kf_X0_17 q1 ?_
    refine v_aload_n (pc' := 15) dX0_push_14 rfl rfl ?_
    obtain ⟨h3, k4, T⟩ := T
    refine v_callV (pc' := 18) (M1 := mX0_keep) (as := [.int (h.2 r0 1), .ref r1]) (r := r0) (rest := []) 0 dX0_push_15 rfl ko_X0_21 kc_X0_keep ki_X0_keep ks_X0_keep (by decide) (by decide) hdd rfl rfl (le_l rfl) q1 k4 ?_
    refine v_aload_n (pc' := 19) dX0_push_18 rfl rfl ?_
    refine v_dup (pc' := 20) dX0_push_19 rfl rfl ?_
    obtain ⟨q5, T⟩ := T
    refine v_getI (pc' := 23) 0 1 dX0_push_20 rfl (by decide) (by decide) rfl kf_X0_17 q5 ?_
    refine v_iconst (pc' := 24) (v := 1) dX0_push_23 rfl kI_1 ?_
    refine v_iadd (pc' := 25) dX0_push_24 rfl ?_
    refine v_putI (pc' := 28) 0 1 dX0_push_25 rfl (by decide) (by decide) rfl rfl kf_X0_17 q5 ?_
    exact v_vret dX0_push_28 rfl T
theorem eX0_pop {G : GG} {d : Nat} {h : Hp} {o : OU} {h' : Hp} (r0 : Nat) (r1 : Nat) (hd : 1 ≤ d) (T : kH h r0 = 10 ∧ (((h.2 r0 1) ≤ 0 → (o = .inl none ∧ h' = h)) ∧ (¬ (h.2 r0 1) ≤ 0 → kH h (rH h r0 0) = 5 ∧ vp_in ((h.2 r0 1) - 1) (lH h (rH h r0 0)) ∧ (((rH h (rH h r0 0) ((h.2 r0 1) - 1).toNatClampNeg) = 0 → (o = .inl none ∧ h' = h)) ∧ (¬ (rH h (rH h r0 0) ((h.2 r0 1) - 1).toNatClampNeg) = 0 → vp_in ((upI h.2 r0 1 ((h.2 r0 1) - 1)) r0 1) (lH h (rH h r0 0)) ∧ kH h r1 = 15 ∧ ∃ h7, VM G mX5_copyFrom (d - 1) [.ref r1, .ref (rH h (rH h r0 0) ((upI h.2 r0 1 ((h.2 r0 1) - 1)) r0 1).toNatClampNeg)] (h.1, (upI h.2 r0 1 ((h.2 r0 1) - 1))) (.inl none) h7 ∧ (o = .inl none ∧ h' = h7)))))) : VM G mX0_pop d [.ref r0, .ref r1] h o h' := by
  refine V.toM rfl rfl (le_l rfl) (cat_all rfl) ?_
  show V G mX0_pop d 0 [.ref r0, .ref r1] [] h o h'
  have hdd : d - 1 + 1 ≤ d := by omega
  refine v_aload_n (pc' := 1) dX0_pop_0 rfl rfl ?_
  obtain ⟨q1, T⟩ := T
  refine v_getI (pc' := 4) 0 1 dX0_pop_1 rfl (by decide) (by decide) rfl kf_X0_17 q1 ?_
  refine v_if_le (tgt := 44) (pc' := 7) dX0_pop_4 (by decide) rfl ⟨fun c2 => ?_, fun c2 => ?_⟩
  · have T := T.1 c2
    exact v_vret dX0_pop_44 rfl T
  · have T := T.2 c2
    refine v_aload_n (pc' := 8) dX0_pop_7 rfl rfl ?_
    refine v_getR (pc' := 11) 0 0 dX0_pop_8 rfl (by decide) (by decide) rfl kf_X0_11 q1 ?_
    refine v_aload_n (pc' := 12) dX0_pop_11 rfl rfl ?_
    refine v_getI (pc' := 15) 0 1 dX0_pop_12 rfl (by decide) (by decide) rfl kf_X0_17 q1 ?_
    refine v_iconst (pc' := 16) (v := 1) dX0_pop_15 rfl kI_1 ?_
    refine v_isub (pc' := 17) dX0_pop_16 rfl ?_
    obtain ⟨q3, T⟩ := T
    obtain ⟨q4, T⟩ := T
    refine v_aald (pc' := 18) 5 dX0_pop_17 rfl rfl (by decide) q3 q4 ?_
    refine v_ifnull (tgt := 44) (pc' := 21) dX0_pop_18 (by decide) rfl ⟨fun c5 => ?_, fun c5 => ?_⟩
    · have T := T.1 c5
      exact v_vret dX0_pop_44 rfl T
    · have T := T.2 c5
      refine v_aload_n (pc' := 22) dX0_pop_21 rfl rfl ?_
      refine v_dup (pc' := 23) dX0_pop_22 rfl rfl ?_
      refine v_getI (pc' := 26) 0 1 dX0_pop_23 rfl (by decide) (by decide) rfl kf_X0_17 q1 ?_
      refine v_iconst (pc' := 27) (v := 1) dX0_pop_26 rfl kI_1 ?_
      refine v_isub (pc' := 28) dX0_pop_27 rfl ?_
      refine v_putI (pc' := 31) 0 1 dX0_pop_28 rfl (by decide) (by decide) rfl rfl kf_X0_17 q1 ?_
      refine v_aload_n (pc' := 32) dX0_pop_31 rfl rfl ?_
      refine v_aload_n (pc' := 33) dX0_pop_32 rfl rfl ?_
      refine v_getR (pc' := 36) 0 0 dX0_pop_33 rfl (by decide) (by decide) rfl kf_X0_11 q1 ?_
      refine v_aload_n (pc' := 37) dX0_pop_36 rfl rfl ?_
      refine v_getI (pc' := 40) 0 1 dX0_pop_37 rfl (by decide) (by decide) rfl kf_X0_17 q1 ?_
      obtain ⟨q6, T⟩ := T
      refine v_aald (pc' := 41) 5 dX0_pop_40 rfl rfl (by decide) q3 q6 ?_
      obtain ⟨q9, T⟩ := T
      obtain ⟨h7, k8, T⟩ := T
      refine v_callV (pc' := 44) (M1 := mX5_copyFrom) (as := [.ref (rH h (rH h r0 0) ((upI h.2 r0 1 ((h.2 r0 1) - 1)) r0 1).toNatClampNeg)]) (r := r1) (rest := []) 5 dX0_pop_41 rfl ko_X0_25 kc_X5_copyFrom ki_X5_copyFrom ks_X5_copyFrom (by decide) (by decide) hdd rfl rfl (le_l rfl) q9 k8 ?_
      exact v_vret dX0_pop_44 rfl T
theorem eX0_takeOver {G : GG} {d : Nat} {h : Hp} {o : OU} {h' : Hp} (r0 : Nat) (r1 : Nat) (T : V G mX0_takeOver d 2 [.ref r0, .ref r1, .int 0] [] h o h') : VM G mX0_takeOver d [.ref r0, .ref r1] h o h' := by
  refine V.toM rfl rfl (le_l rfl) (cat_all rfl) ?_
  show V G mX0_takeOver d 0 [.ref r0, .ref r1, uV] [] h o h'
  refine v_iconst (pc' := 1) (v := 0) dX0_takeOver_0 rfl kI_0 ?_
  refine v_istore_n (pc' := 2) (loc' := [.ref r0, .ref r1, .int 0]) dX0_takeOver_1 rfl (lt_l rfl) rfl ?_
  exact T
theorem bX0_takeOver_2 {G : GG} {d : Nat} {h : Hp} {o : OU} {h' : Hp} (r0 : Nat) (r1 : Nat) (x2 : Int32) (hd : 1 ≤ d) (T : kH h r1 = 10 ∧ (((h.2 r1 1) ≤ x2 → kH h r0 = 10 ∧ (o = .inl none ∧ h' = (h.1, (upI h.2 r0 1 (h.2 r1 1))))) ∧ (¬ (h.2 r1 1) ≤ x2 → kH h (rH h r1 0) = 5 ∧ vp_in x2 (lH h (rH h r1 0)) ∧ (((rH h (rH h r1 0) x2.toNatClampNeg) = 0 → V G mX0_takeOver d 2 [.ref r0, .ref r1, .int (x2 + 1)] [] h o h') ∧ (¬ (rH h (rH h r1 0) x2.toNatClampNeg) = 0 → kH h r0 = 10 ∧ ∃ h7, VM G mX0_keep (d - 1) [.ref r0, .int x2, .ref (rH h (rH h r1 0) x2.toNatClampNeg)] h (.inl none) h7 ∧ V G mX0_takeOver d 2 [.ref r0, .ref r1, .int (x2 + 1)] [] h7 o h'))))) : V G mX0_takeOver d 2 [.ref r0, .ref r1, .int x2] [] h o h' := by
  have hdd : d - 1 + 1 ≤ d := by omega
  refine v_iload_n (pc' := 3) dX0_takeOver_2 rfl rfl ?_
  refine v_aload_n (pc' := 4) dX0_takeOver_3 rfl rfl ?_
  obtain ⟨q1, T⟩ := T
  refine v_getI (pc' := 7) 0 1 dX0_takeOver_4 rfl (by decide) (by decide) rfl kf_X0_17 q1 ?_
  refine v_icmp_ge (tgt := 36) (pc' := 10) dX0_takeOver_7 (by decide) rfl ⟨fun c2 => ?_, fun c2 => ?_⟩
  · have T := T.1 c2
    refine v_aload_n (pc' := 37) dX0_takeOver_36 rfl rfl ?_
    refine v_aload_n (pc' := 38) dX0_takeOver_37 rfl rfl ?_
    refine v_getI (pc' := 41) 0 1 dX0_takeOver_38 rfl (by decide) (by decide) rfl kf_X0_17 q1 ?_
    obtain ⟨q3, T⟩ := T
    refine v_putI (pc' := 44) 0 1 dX0_takeOver_41 rfl (by decide) (by decide) rfl rfl kf_X0_17 q3 ?_
    exact v_vret dX0_takeOver_44 rfl T
  · have T := T.2 c2
    refine v_aload_n (pc' := 11) dX0_takeOver_10 rfl rfl ?_
    refine v_getR (pc' := 14) 0 0 dX0_takeOver_11 rfl (by decide) (by decide) rfl kf_X0_11 q1 ?_
    refine v_iload_n (pc' := 15) dX0_takeOver_14 rfl rfl ?_
    obtain ⟨q4, T⟩ := T
    obtain ⟨q5, T⟩ := T
    refine v_aald (pc' := 16) 5 dX0_takeOver_15 rfl rfl (by decide) q4 q5 ?_
    refine v_ifnull (tgt := 30) (pc' := 19) dX0_takeOver_16 (by decide) rfl ⟨fun c6 => ?_, fun c6 => ?_⟩
    · have T := T.1 c6
      refine v_iinc (pc' := 33) (loc' := [.ref r0, .ref r1, .int (x2 + 1)]) dX0_takeOver_30 rfl rfl (kX_1 _) rfl ?_
      refine v_goto (pc' := 2) dX0_takeOver_33 (by decide) ?_
      exact T
    · have T := T.2 c6
      refine v_aload_n (pc' := 20) dX0_takeOver_19 rfl rfl ?_
      refine v_iload_n (pc' := 21) dX0_takeOver_20 rfl rfl ?_
      refine v_aload_n (pc' := 22) dX0_takeOver_21 rfl rfl ?_
      refine v_getR (pc' := 25) 0 0 dX0_takeOver_22 rfl (by decide) (by decide) rfl kf_X0_11 q1 ?_
      refine v_iload_n (pc' := 26) dX0_takeOver_25 rfl rfl ?_
      refine v_aald (pc' := 27) 5 dX0_takeOver_26 rfl rfl (by decide) q4 q5 ?_
      obtain ⟨q9, T⟩ := T
      obtain ⟨h7, k8, T⟩ := T
      refine v_callV (pc' := 30) (M1 := mX0_keep) (as := [.int x2, .ref (rH h (rH h r1 0) x2.toNatClampNeg)]) (r := r0) (rest := []) 0 dX0_takeOver_27 rfl ko_X0_21 kc_X0_keep ki_X0_keep ks_X0_keep (by decide) (by decide) hdd rfl rfl (le_l rfl) q9 k8 ?_
      refine v_iinc (pc' := 33) (loc' := [.ref r0, .ref r1, .int (x2 + 1)]) dX0_takeOver_30 rfl rfl (kX_1 _) rfl ?_
      refine v_goto (pc' := 2) dX0_takeOver_33 (by decide) ?_
      exact T
theorem eX0_keep {G : GG} {d : Nat} {h : Hp} {o : OU} {h' : Hp} (r0 : Nat) (x1 : Int32) (r2 : Nat) (hd : 1 ≤ d) (T : kH h r0 = 10 ∧ kH h (rH h r0 0) = 5 ∧ vp_in x1 (lH h (rH h r0 0)) ∧ ((¬ (rH h (rH h r0 0) x1.toNatClampNeg) = 0 → kH h (rH h (rH h r0 0) x1.toNatClampNeg) = 15 ∧ ∃ h5, VM G mX5_copyFrom (d - 1) [.ref (rH h (rH h r0 0) x1.toNatClampNeg), .ref r2] h (.inl none) h5 ∧ (o = .inl none ∧ h' = h5)) ∧ ((rH h (rH h r0 0) x1.toNatClampNeg) = 0 → (∀ h8 : Hp, h8 = (nwH h 15 0 16) → (nH h) ≠ 0 ∧ ∃ h10, VM G mX5_init (d - 1) [.ref (nH h)] h8 (.inl none) h10 ∧ kH h10 (rH h r0 0) = 5 ∧ kH h10 (nH h) = 15 ∧ vp_in x1 (lH h10 (rH h r0 0)) ∧ (∀ h16 : Hp, h16 = (sR h10 (rH h r0 0) x1.toNatClampNeg (nH h)) → kH h16 r0 = 10 ∧ kH h16 (rH h16 r0 0) = 5 ∧ vp_in x1 (lH h16 (rH h16 r0 0)) ∧ kH h16 (rH h16 (rH h16 r0 0) x1.toNatClampNeg) = 15 ∧ ∃ h21, VM G mX5_copyFrom (d - 1) [.ref (rH h16 (rH h16 r0 0) x1.toNatClampNeg), .ref r2] h16 (.inl none) h21 ∧ (o = .inl none ∧ h' = h21)))))) : VM G mX0_keep d [.ref r0, .int x1, .ref r2] h o h' := by
  refine V.toM rfl rfl (le_l rfl) (cat_all rfl) ?_
  show V G mX0_keep d 0 [.ref r0, .int x1, .ref r2] [] h o h'
  have hdd : d - 1 + 1 ≤ d := by omega
  refine v_aload_n (pc' := 1) dX0_keep_0 rfl rfl ?_
  obtain ⟨q1, T⟩ := T
  refine v_getR (pc' := 4) 0 0 dX0_keep_1 rfl (by decide) (by decide) rfl kf_X0_11 q1 ?_
  refine v_iload_n (pc' := 5) dX0_keep_4 rfl rfl ?_
  obtain ⟨q2, T⟩ := T
  obtain ⟨q3, T⟩ := T
  refine v_aald (pc' := 6) 5 dX0_keep_5 rfl rfl (by decide) q2 q3 ?_
  refine v_ifnonnull (tgt := 22) (pc' := 9) dX0_keep_6 (by decide) rfl ⟨fun c4 => ?_, fun c4 => ?_⟩
  · have T := T.1 c4
    refine v_aload_n (pc' := 23) dX0_keep_22 rfl rfl ?_
    refine v_getR (pc' := 26) 0 0 dX0_keep_23 rfl (by decide) (by decide) rfl kf_X0_11 q1 ?_
    refine v_iload_n (pc' := 27) dX0_keep_26 rfl rfl ?_
    refine v_aald (pc' := 28) 5 dX0_keep_27 rfl rfl (by decide) q2 q3 ?_
    refine v_aload_n (pc' := 29) dX0_keep_28 rfl rfl ?_
    obtain ⟨q7, T⟩ := T
    obtain ⟨h5, k6, T⟩ := T
    refine v_callV (pc' := 32) (M1 := mX5_copyFrom) (as := [.ref r2]) (r := (rH h (rH h r0 0) x1.toNatClampNeg)) (rest := []) 5 dX0_keep_29 rfl ko_X0_25 kc_X5_copyFrom ki_X5_copyFrom ks_X5_copyFrom (by decide) (by decide) hdd rfl rfl (le_l rfl) q7 k6 ?_
    exact v_vret dX0_keep_32 rfl T
  · have T := T.2 c4
    refine v_aload_n (pc' := 10) dX0_keep_9 rfl rfl ?_
    refine v_getR (pc' := 13) 0 0 dX0_keep_10 rfl (by decide) (by decide) rfl kf_X0_11 q1 ?_
    refine v_iload_n (pc' := 14) dX0_keep_13 rfl rfl ?_
    refine v_new (pc' := 17) 5 dX0_keep_14 rfl (by decide) kk_X0_9 kb_X5 kn_X5 ?_
    show V G mX0_keep d 17 [.ref r0, .int x1, .ref r2] [.ref (nH h), .int x1, .ref (rH h r0 0)] (nwH h 15 0 16) o h'
    obtain ⟨h8, e9⟩ : ∃ z : Hp, z = (nwH h 15 0 16) := ⟨_, rfl⟩
    rw [← e9]
    have T := T h8 e9
    refine v_dup (pc' := 18) dX0_keep_17 rfl rfl ?_
    obtain ⟨q12, T⟩ := T
    obtain ⟨h10, k11, T⟩ := T
    refine v_callI (pc' := 21) (M1 := mX5_init) (as := []) (r := (nH h)) (rest := [.ref (nH h), .int x1, .ref (rH h r0 0)]) dX0_keep_18 rfl rfl rfl ko_X0_29 kc_X5_init ki_X5_init (by decide) hdd rfl rfl (le_l rfl) q12 k11 ?_
    obtain ⟨q13, T⟩ := T
    obtain ⟨q14, T⟩ := T
    obtain ⟨q15, T⟩ := T
    refine v_aast (pc' := 22) 5 5 dX0_keep_21 rfl rfl (by decide) (by decide) rfl q13 q14 q15 ?_
    show V G mX0_keep d 22 [.ref r0, .int x1, .ref r2] [] (sR h10 (rH h r0 0) x1.toNatClampNeg (nH h)) o h'
    obtain ⟨h16, e17⟩ : ∃ z : Hp, z = (sR h10 (rH h r0 0) x1.toNatClampNeg (nH h)) := ⟨_, rfl⟩
    rw [← e17]
    have T := T h16 e17
    refine v_aload_n (pc' := 23) dX0_keep_22 rfl rfl ?_
    obtain ⟨q18, T⟩ := T
    refine v_getR (pc' := 26) 0 0 dX0_keep_23 rfl (by decide) (by decide) rfl kf_X0_11 q18 ?_
    refine v_iload_n (pc' := 27) dX0_keep_26 rfl rfl ?_
    obtain ⟨q19, T⟩ := T
    obtain ⟨q20, T⟩ := T
    refine v_aald (pc' := 28) 5 dX0_keep_27 rfl rfl (by decide) q19 q20 ?_
    refine v_aload_n (pc' := 29) dX0_keep_28 rfl rfl ?_
    obtain ⟨q23, T⟩ := T
    obtain ⟨h21, k22, T⟩ := T
    refine v_callV (pc' := 32) (M1 := mX5_copyFrom) (as := [.ref r2]) (r := (rH h16 (rH h16 r0 0) x1.toNatClampNeg)) (rest := []) 5 dX0_keep_29 rfl ko_X0_25 kc_X5_copyFrom ki_X5_copyFrom ks_X5_copyFrom (by decide) (by decide) hdd rfl rfl (le_l rfl) q23 k22 ?_
    exact v_vret dX0_keep_32 rfl T
