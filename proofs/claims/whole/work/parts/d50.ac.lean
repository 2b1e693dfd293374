/-! ===== the law: calls that change something ===== -/
section ACT
variable {h h' h2 : Hp} {x m o B L c z n : Nat} {xs : Nat → Int32} {bl bl' : Nat → Nat} {S S' : St} {T T' : Nat → Nat} {ls ls' : List (Nat × Nat)} {fp rs fp' rs' : Int32} {rf rf' : Nat → Int32} {hi hi' : List St} {im im' : List (St × List St)}
theorem bud_le (c : Nat) : bud c ≤ bud (c + 1) := by unfold bud; omega
theorem astep0 (P : x = 8 ∧ m = 100 ∧ o = 252 ∧ B = 253) {rc : RS} {rr : Hp → RS} {v : Int32} {h1 : Hp} {z' n' : Nat} (hl : Ls o B h L xs) (R : RW h m S z T n ls fp rs rf hi im) (e1 : rc = some (.inl (some (.int v)), h1)) (A1 : CW h1 x B bl' S' z' T' n' ls' fp' rs' rf' hi' im') (K : KC h h1 x B) (rm : Rm h1 bl' (20000 - 6 * c) (2000000 - 100 * c)) (I : IwA S' z' hi' im' (bud c)) (hr : ∀ g, RW g m S z T n ls fp rs rf hi im → ∃ h6, rr g = some (.inl (some (.int v)), h6) ∧ Gm g h6 m ∧ h6.2 m 0 = 0 ∧ RW h6 m S' z' T' n' ls' fp' rs' rf' hi' im') :
    ∃ h2 h6 v, rc = some (.inl (some (.int v)), h2) ∧ Ls o B h2 L xs ∧ kH h2 m = 18 ∧ rr h2 = some (.inl (some (.int v)), h6) ∧ LW x m o B h6 L xs c := by
  have hn := hl.2.2.2.2
  have K1 : KC h h1 x o := KC.lo P K
  have R2 := R.kc K1 (by omega) (by omega) (by omega)
  obtain ⟨h6, e6, G6, t6, R6⟩ := hr _ R2
  exact ⟨h1, h6, v, e1, hl.kc P K1, R2.1.1.k, e6, LX.fin P hl K1 G6 A1 R6 I rm⟩
theorem astep (P : x = 8 ∧ m = 100 ∧ o = 252 ∧ B = 253) {mp : String → Option Int32} {rc : RS} {rr : Hp → RS} {v : Int32} {h1 : Hp} {z' n' : Nat} (hl : Ls o B h L xs) (R : RW h m S z T n ls fp rs rf hi im) (e1 : rc = some (.inl (some (.int v)), h1)) (A1 : CW h1 x B bl' S' z' T' n' ls' fp' rs' rf' hi' im') (K : KC h h1 x B) (rm : Rm h1 bl' (20000 - 6 * c) (2000000 - 100 * c)) (I : IwA S' z' hi' im' (bud c)) (hr : ∀ g, RW g m S z T n ls fp rs rf hi im → ∃ h6, rr g = some (.inl (some (.int v)), h6) ∧ Gm g h6 m ∧ h6.2 m 0 = 0 ∧ RW h6 m S' z' T' n' ls' fp' rs' rf' hi' im') :
    ∃ h2 h6 cd v, wrp o mp rc = some (.inl (some (.int cd)), h2) ∧ Ls o B h2 L xs ∧ kH h2 m = 18 ∧ rr h2 = some (.inl (some (.int v)), h6) ∧ kH h6 m = 18 ∧ h6.2 m 0 = cd ∧ (cd = 0 → h6.2 o 0 = v) ∧ LW x m o B h6 L xs c := by
  have hn := hl.2.2.2.2
  have K1 : KC h h1 x o := KC.lo P K
  have l1 := hl.kc P K1
  have K2 := K1.trans (kc_out P h1 v)
  have A2 : CW (h1.1, upI h1.2 o 0 v) x B bl' S' z' T' n' ls' fp' rs' rf' hi' im' := A1.low P rfl (fun a w => upI_ne (by omega))
  have R2 := R.kc K2 (by omega) (by omega) (by omega)
  obtain ⟨h6, e6, G6, t6, R6⟩ := hr _ R2
  refine ⟨_, h6, 0, v, ?_, l1.out P v, R2.1.1.k, e6, R6.1.1.k, t6, fun _ => ?_, LX.fin P hl K2 G6 A2 R6 I rm⟩
  · unfold wrp
    rw [e1]
    show (if kH h1 o = 4 then _ else none) = _
    rw [if_pos l1.1, l1.2.1, if_pos (show inB 0 1 = true by decide)]
  · rw [G6.2 o (by omega)]
    show upI _ _ _ _ o 0 = _
    rw [upI_at, if_pos rfl]
theorem Rm.sm {h1 : Hp} (rm : Rm h bl (20000 - 6 * (c + 1)) (2000000 - 100 * (c + 1))) (e : h1.1 = h.1) : Rm h1 bl (20000 - 6 * c) (2000000 - 100 * c) := by
  have := rm.1
  have := rm.2
  exact ⟨by rw [nh_eq e]; omega, by rw [zh_eq e]; omega⟩
theorem gm_th0 (h : Hp) (m : Nat) : Gm h (th0 h m) m := ⟨rfl, fun a q => upI_ne (by omega)⟩
theorem inx_64 {k : Nat} (I : Inx S z k) : (sL S).length ≤ 64 := by have := inv_l60 I.1.1; omega
theorem a_feed (P : x = 8 ∧ m = 100 ∧ o = 252 ∧ B = 253) (hl : Ls o B h L xs) (X : LX x m B h (c + 1) bl S z T n ls fp rs rf hi im) (a b cc d e : Int32) :
    ∃ h2 h6 v, fX9_feed x a b cc d e h = some (.inl (some (.int v)), h2) ∧ Ls o B h2 L xs ∧ kH h2 m = 18 ∧ fX10_feed m a b cc d e h2 = some (.inl (some (.int v)), h6) ∧ LW x m o B h6 L xs c := by
  obtain ⟨A, R, I, rm⟩ := X
  by_cases q : n ≤ 580
  · obtain ⟨h1, e1, e2, A1, K⟩ := cf_go A q a b cc d e
    exact astep0 P (rr := fun g => fX10_feed m a b cc d e g) hl R e1 A1 K (rm.sm e2) (I.le (bud_le c)) (fun g Rg => mf_go Rg q a b cc d e)
  · exact astep0 P (rr := fun g => fX10_feed m a b cc d e g) hl R (cf_no A (by omega) a b cc d e) A (KC.refl h x B) (rm.sm rfl) (I.le (bud_le c)) (fun g Rg => ⟨_, mf_no Rg (by omega) a b cc d e, gm_th0 g m, th0_0 g m, Rg.th0⟩)
theorem a_undo (P : x = 8 ∧ m = 100 ∧ o = 252 ∧ B = 253) (hl : Ls o B h L xs) (X : LX x m B h (c + 1) bl S z T n ls fp rs rf hi im) :
    ∃ h2 h6 v, fX9_undo x h = some (.inl (some (.int v)), h2) ∧ Ls o B h2 L xs ∧ kH h2 m = 18 ∧ fX10_undo m h2 = some (.inl (some (.int v)), h6) ∧ LW x m o B h6 L xs c := by
  obtain ⟨A, R, I, rm⟩ := X
  have I' := I.le (bud_le c)
  rcases List.eq_nil_or_concat hi with q | ⟨l, Q, q⟩ <;> try rw [List.concat_eq_append] at q
  · exact astep0 P (rr := fun g => fX10_undo m g) hl R (cu_0 A q) A (KC.refl h x B) (rm.sm rfl) I' (fun g Rg => ⟨_, mu_0 Rg q, gm_th0 g m, th0_0 g m, Rg.th0⟩)
  · subst q
    have IQ := I'.2.1 Q (by simp)
    obtain ⟨h1, e1, e2, A1, K⟩ := cu_1 A (inx_64 IQ)
    exact astep0 P (rr := fun g => fX10_undo m g) hl R e1 A1 K (rm.sm e2) ⟨IQ, fun V hV => I'.2.1 V (by simp [hV]), I'.2.2⟩ (fun g Rg => mu_1 Rg)
theorem a_image (P : x = 8 ∧ m = 100 ∧ o = 252 ∧ B = 253) (hl : Ls o B h L xs) (X : LX x m B h (c + 1) bl S z T n ls fp rs rf hi im) :
    ∃ h2 h6 v, fX9_image x h = some (.inl (some (.int v)), h2) ∧ Ls o B h2 L xs ∧ kH h2 m = 18 ∧ fX10_image m h2 = some (.inl (some (.int v)), h6) ∧ LW x m o B h6 L xs c := by
  obtain ⟨A, R, I, rm⟩ := X
  have I' := I.le (bud_le c)
  have h3 := A.2.2.2.2.2.1
  have rm' := rm.sm (h1 := h) rfl
  by_cases q : im.length < 3
  · obtain ⟨h1, bl1, e1, A1, K, rm1⟩ := ci_go A q (inx_64 I.1) (fun V hV => inx_64 (I.2.1 V hV)) rm'
    exact astep0 P (rr := fun g => fX10_image m g) hl R e1 A1 K rm1 ⟨I'.1, I'.2.1, fun v hv => by
      rw [List.mem_append, List.mem_singleton] at hv
      rcases hv with hv | hv
      · exact I'.2.2 v hv
      · rw [hv]; exact ⟨I'.1, I'.2.1⟩⟩ (fun g Rg => mi_go Rg q)
  · exact astep0 P (rr := fun g => fX10_image m g) hl R (ci_full A (by omega)) A (KC.refl h x B) rm' I' (fun g Rg => ⟨_, mi_full Rg (by omega), gm_th0 g m, th0_0 g m, Rg.th0⟩)
theorem a_restore (P : x = 8 ∧ m = 100 ∧ o = 252 ∧ B = 253) (hl : Ls o B h L xs) (X : LX x m B h (c + 1) bl S z T n ls fp rs rf hi im) :
    ∃ h2 h6 v, fX9_restore x h = some (.inl (some (.int v)), h2) ∧ Ls o B h2 L xs ∧ kH h2 m = 18 ∧ fX10_restore m h2 = some (.inl (some (.int v)), h6) ∧ LW x m o B h6 L xs c := by
  obtain ⟨A, R, I, rm⟩ := X
  have I' := I.le (bud_le c)
  have rm' := rm.sm (h1 := h) rfl
  rcases List.eq_nil_or_concat im with q | ⟨l, Q, q⟩ <;> try rw [List.concat_eq_append] at q
  · exact astep0 P (rr := fun g => fX10_restore m g) hl R (cr_0 A q) A (KC.refl h x B) rm' I' (fun g Rg => ⟨_, mr_0 Rg q, gm_th0 g m, th0_0 g m, Rg.th0⟩)
  · subst q
    have IQ := I'.2.2 Q (by simp)
    obtain ⟨h1, bl1, e1, A1, K, rm1⟩ := cr_1 A (inx_64 IQ.1) (fun V hV => inx_64 (IQ.2 V hV)) rm'
    exact astep0 P (rr := fun g => fX10_restore m g) hl R e1 A1 K rm1 ⟨IQ.1, IQ.2, fun v hv => I'.2.2 v (by simp [hv])⟩ (fun g Rg => mr_1 Rg)
theorem a_bad (P : x = 8 ∧ m = 100 ∧ o = 252 ∧ B = 253) {rc : RS} {rr : Hp → RS} (hl : Ls o B h L xs) (X : LX x m B h (c + 1) bl S z T n ls fp rs rf hi im) (h512 : c + 1 ≤ 512) (e : rc = some (.inr xIA, thr h x 1)) (hr : ∀ g, RW g m S z T n ls fp rs rf hi im → rr g = some (.inl (some (.int 0)), bdM g m 1 1)) :
    ∃ h2 h6 cd v, wrp o (mp1 xIA) rc = some (.inl (some (.int cd)), h2) ∧ Ls o B h2 L xs ∧ kH h2 m = 18 ∧ rr h2 = some (.inl (some (.int v)), h6) ∧ kH h6 m = 18 ∧ h6.2 m 0 = cd ∧ (cd = 0 → h6.2 o 0 = v) ∧ LW x m o B h6 L xs c :=
  qstep P (mp := mp1 xIA) (rr := rr) (a := IA 1) hl X e hr ⟨if_pos rfl, by decide, by decide⟩ h512
theorem a_store (P : x = 8 ∧ m = 100 ∧ o = 252 ∧ B = 253) (hl : Ls o B h L xs) (X : LX x m B h (c + 1) bl S z T n ls fp rs rf hi im) (h512 : c + 1 ≤ 512) (a : Int32) :
    ∃ h2 h6 cd v, wrp o (mp1 xIA) (fX9_store x a h) = some (.inl (some (.int cd)), h2) ∧ Ls o B h2 L xs ∧ kH h2 m = 18 ∧ fX10_store m a h2 = some (.inl (some (.int v)), h6) ∧ kH h6 m = 18 ∧ h6.2 m 0 = cd ∧ (cd = 0 → h6.2 o 0 = v) ∧ LW x m o B h6 L xs c := by
  by_cases ha : 0 ≤ a ∧ a ≤ nI n
  · obtain ⟨A, R, I, rm⟩ := X
    have n600 := A.2.1.1.2.1
    obtain ⟨k, hk1, rfl⟩ := rg_of (n := n) (by omega) ha
    have Cg := cs_go A hk1
    have Mg := fun g (Rg : RW g m S z T n ls fp rs rf hi im) => mt_go Rg hk1
    cases e : stP T k (k + 1) 0 (16, []) 0 with
    | inr er =>
      rw [e] at Cg
      obtain ⟨h1, e1, e2, A1, K⟩ := Cg
      exact astep P (rr := fun g => fX10_store m (nI k) g) hl R e1 A1 K (rm.sm e2) (I.le (bud_le c)) (fun g Rg => by have := Mg g Rg; rw [e] at this; exact this)
    | inl v =>
      rw [e] at Cg
      obtain ⟨h1, e1, e2, A1, K⟩ := Cg
      obtain ⟨O, h60⟩ := stP_ok (k + 1) 0 (16, []) 0 v (Nat.zero_le _) e ⟨by decide, by simp⟩ (Nat.le_refl _) (by decide)
      have In := (nwS_ok (k := bud c) O h60 (by unfold bud; omega)).1
      exact astep P (rr := fun g => fX10_store m (nI k) g) hl R e1 A1 K (rm.sm e2) ⟨In, fun V hV => by simp at hV, fun V hV => by simp at hV⟩ (fun g Rg => by have := Mg g Rg; rw [e] at this; exact this)
  · exact a_bad P (rr := fun g => fX10_store m a g) hl X h512 (cs_bad X.1 ha) (fun g Rg => mt_bad Rg ha)
theorem a_book (P : x = 8 ∧ m = 100 ∧ o = 252 ∧ B = 253) (hl : Ls o B h L xs) (X : LX x m B h (c + 1) bl S z T n ls fp rs rf hi im) (h512 : c + 1 ≤ 512) (a : Int32) :
    ∃ h2 h6 cd v, wrp o (mp1 xIA) (fX9_book x a h) = some (.inl (some (.int cd)), h2) ∧ Ls o B h2 L xs ∧ kH h2 m = 18 ∧ fX10_book m a h2 = some (.inl (some (.int v)), h6) ∧ kH h6 m = 18 ∧ h6.2 m 0 = cd ∧ (cd = 0 → h6.2 o 0 = v) ∧ LW x m o B h6 L xs c := by
  by_cases ha : 0 ≤ a ∧ a ≤ nI n ∧ a ≤ nI 60
  · obtain ⟨A, R, I, rm⟩ := X
    have n600 := A.2.1.1.2.1
    obtain ⟨k, rfl, hk1, hk2⟩ := len_of n600 ha (by decide)
    have Cg := cb_go A hk1 hk2
    have Mg := fun g (Rg : RW g m S z T n ls fp rs rf hi im) => mb_go Rg hk1 hk2
    cases e : bkP T k (k + 1) [] 0 with
    | inr er =>
      rw [e] at Cg
      obtain ⟨h1, e1, e2, A1, K⟩ := Cg
      exact astep P (rr := fun g => fX10_book m (nI k) g) hl R e1 A1 K (rm.sm e2) (I.le (bud_le c)) (fun g Rg => by have := Mg g Rg; rw [e] at this; exact this)
    | inl v =>
      rw [e] at Cg
      obtain ⟨h1, e1, e2, A1, K⟩ := Cg
      exact astep P (rr := fun g => fX10_book m (nI k) g) hl R e1 A1 K (rm.sm e2) (I.le (bud_le c)) (fun g Rg => by have := Mg g Rg; rw [e] at this; exact this)
  · exact a_bad P (rr := fun g => fX10_book m a g) hl X h512 (cb_bad X.1 ha) (fun g Rg => mb_bad Rg ha)
theorem a_work (P : x = 8 ∧ m = 100 ∧ o = 252 ∧ B = 253) (hl : Ls o B h L xs) (X : LX x m B h (c + 1) bl S z T n ls fp rs rf hi im) (h512 : c + 1 ≤ 512) (a : Int32) :
    ∃ h2 h6 cd v, wrp o (mp1 xIA) (fX9_work x a h) = some (.inl (some (.int cd)), h2) ∧ Ls o B h2 L xs ∧ kH h2 m = 18 ∧ fX10_work m a h2 = some (.inl (some (.int v)), h6) ∧ kH h6 m = 18 ∧ h6.2 m 0 = cd ∧ (cd = 0 → h6.2 o 0 = v) ∧ LW x m o B h6 L xs c := by
  by_cases ha : 0 ≤ a ∧ a ≤ nI n ∧ a ≤ nI 150
  · obtain ⟨A, R, I, rm⟩ := X
    have n600 := A.2.1.1.2.1
    have h16 := A.2.2.2.1.2.1
    have I' := I.le (bud_le c)
    by_cases hf : hi.length = 16
    · obtain ⟨h1, e1, e2, A1, K⟩ := cw_full A ha hf
      exact astep P (rr := fun g => fX10_work m a g) hl R e1 A1 K (rm.sm e2) I' (fun g Rg => mw_full Rg ha hf)
    · obtain ⟨k, rfl, hk1, hk2⟩ := len_of n600 ha (by decide)
      have eb : bud (c + 1) = bud c + 768000 := by unfold bud; omega
      have IS : Inx S z (bud c + 768000) := by rw [← eb]; exact I.1
      have Cg := cw_go A hk1 hk2 (by omega) IS (rm.sm (h1 := h) rfl)
      have Mg := fun g (Rg : RW g m S z T n ls fp rs rf hi im) => mw_go Rg hk1 hk2 (by omega) IS
      cases e : pFo T k (k + 1) 0 0 with
      | inr er =>
        rw [e] at Cg
        obtain ⟨h1, e1, e2, A1, K⟩ := Cg
        exact astep P (rr := fun g => fX10_work m (nI k) g) hl R e1 A1 K (rm.sm e2) I' (fun g Rg => by have := Mg g Rg; rw [e] at this; exact this)
      | inl v =>
        rw [e] at Cg
        obtain ⟨h1, bl1, e1, A1, K, rm1, Ig1⟩ := Cg
        exact astep P (rr := fun g => fX10_work m (nI k) g) hl R e1 A1 K rm1 ⟨Ig1.2.2.le (Nat.le_add_right _ _), fun V hV => by
          rw [List.mem_append, List.mem_singleton] at hV
          rcases hV with hV | hV
          · exact I'.2.1 V hV
          · rw [hV]; exact I'.1, I'.2.2⟩ (fun g Rg => by have := Mg g Rg; rw [e] at this; exact this)
  · exact a_bad P (rr := fun g => fX10_work m a g) hl X h512 (cw_bad X.1 ha) (fun g Rg => mw_bad Rg ha)
end ACT
