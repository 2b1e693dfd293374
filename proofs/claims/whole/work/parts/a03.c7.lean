/-! ===== the class weighs a block's changes ===== -/
def plc (c : Ch) : Nat := if cP c = 16 then 65535 else 2 ^ cP c
theorem plc_lt {c : Ch} (hp : cP c ≤ 16) : plc c < 2 ^ 16 := by
  unfold plc
  split
  · decide
  · exact Nat.pow_lt_pow_right (by decide) (by omega)
theorem plc_bit (c : Ch) (i : Nat) : (plc c).testBit i = if cP c = 16 then decide (i < 16) else decide (cP c = i) := by
  unfold plc
  split
  · exact Nat.testBit_two_pow_sub_one (n := 16) (i := i)
  · exact Nat.testBit_two_pow
def stp (b : Nat) (g : List (Ch × Bool)) : Nat := g.foldl (fun a q => if cB q.1 = b ∧ q.2 = false then a ||| plc q.1 else a) 0
theorem stp_snoc (b : Nat) (g : List (Ch × Bool)) (q : Ch × Bool) : stp b (g ++ [q]) = if cB q.1 = b ∧ q.2 = false then stp b g ||| plc q.1 else stp b g := by
  unfold stp
  rw [List.foldl_append]
  rfl
theorem stp_lt (b : Nat) (g : List (Ch × Bool)) : (∀ q ∈ g, cP q.1 ≤ 16) → stp b g < 2 ^ 16 := by
  refine snoc_ind (P := fun g => (∀ q ∈ g, cP q.1 ≤ 16) → stp b g < 2 ^ 16) (fun _ => by show 0 < 2 ^ 16; decide) (fun g q ih hg => ?_) g
  rw [stp_snoc]
  have h1 := ih (fun x hx => hg x (List.mem_append_left _ hx))
  split
  · exact Nat.or_lt_two_pow h1 (plc_lt (hg q (by simp)))
  · exact h1
theorem stp_bit (b i : Nat) (g : List (Ch × Bool)) : (stp b g).testBit i = true ↔ ∃ q ∈ g, cB q.1 = b ∧ q.2 = false ∧ (plc q.1).testBit i = true := by
  refine snoc_ind (P := fun g => (stp b g).testBit i = true ↔ ∃ q ∈ g, cB q.1 = b ∧ q.2 = false ∧ (plc q.1).testBit i = true) ?_ (fun g q ih => ?_) g
  · simp [stp]
  · rw [stp_snoc]
    by_cases e : cB q.1 = b ∧ q.2 = false
    · rw [if_pos e, Nat.testBit_or, Bool.or_eq_true, ih]
      constructor
      · rintro (⟨x, hx, h1⟩ | h1)
        · exact ⟨x, List.mem_append_left _ hx, h1⟩
        · exact ⟨q, by simp, e.1, e.2, h1⟩
      · rintro ⟨x, hx, h1⟩
        rcases List.mem_append.mp hx with w | w
        · exact Or.inl ⟨x, w, h1⟩
        · rw [List.mem_singleton] at w
          subst w
          exact Or.inr h1.2.2
    · rw [if_neg e, ih]
      constructor
      · rintro ⟨x, hx, h1⟩
        exact ⟨x, List.mem_append_left _ hx, h1⟩
      · rintro ⟨x, hx, h1⟩
        rcases List.mem_append.mp hx with w | w
        · exact ⟨x, w, h1⟩
        · rw [List.mem_singleton] at w
          subst w
          exact absurd ⟨h1.1, h1.2.1⟩ e
theorem stp_and {b : Nat} {g : List (Ch × Bool)} {c : Ch} (hc : cP c ≤ 16) (hg : ∀ q ∈ g, cP q.1 ≤ 16) : plc c &&& stp b g = 0 ↔ g.all (fun e => !(cB e.1 == b) || e.2 || !(cP e.1 == 16 || cP c == 16 || cP c == cP e.1)) = true := by
  rw [List.all_eq_true]
  constructor
  · intro h0 e he
    cases hb : (cB e.1 == b)
    · simp
    · cases hf : e.2
      · have hb' : cB e.1 = b := by simpa using hb
        cases ho : (cP e.1 == 16 || cP c == 16 || cP c == cP e.1)
        · rfl
        · exfalso
          have he16 := hg e he
          obtain ⟨i, hi1, hi2⟩ : ∃ i, (plc c).testBit i = true ∧ (plc e.1).testBit i = true := by
            rw [Bool.or_eq_true, Bool.or_eq_true, beq_iff_eq, beq_iff_eq, beq_iff_eq] at ho
            by_cases q1 : cP c = 16
            · by_cases q2 : cP e.1 = 16
              · exact ⟨0, by rw [plc_bit, if_pos q1]; rfl, by rw [plc_bit, if_pos q2]; rfl⟩
              · exact ⟨cP e.1, by rw [plc_bit, if_pos q1]; exact decide_eq_true (by omega), by rw [plc_bit, if_neg q2]; exact decide_eq_true rfl⟩
            · by_cases q2 : cP e.1 = 16
              · exact ⟨cP c, by rw [plc_bit, if_neg q1]; exact decide_eq_true rfl, by rw [plc_bit, if_pos q2]; exact decide_eq_true (by omega)⟩
              · have q3 : cP c = cP e.1 := by omega
                exact ⟨cP c, by rw [plc_bit, if_neg q1]; exact decide_eq_true rfl, by rw [plc_bit, if_neg q2]; exact decide_eq_true q3.symm⟩
          have h2 : (plc c &&& stp b g).testBit i = true := by
            rw [Nat.testBit_and, hi1, (stp_bit b i g).mpr ⟨e, he, hb', hf, hi2⟩]
            rfl
          rw [h0] at h2
          simp at h2
      · simp
  · intro h0
    apply Nat.eq_of_testBit_eq
    intro i
    rw [Nat.testBit_and, Nat.zero_testBit]
    cases h1 : (plc c).testBit i
    · rfl
    · cases h2 : (stp b g).testBit i
      · rfl
      · exfalso
        obtain ⟨q, hq, q1, q2, q3⟩ := (stp_bit b i g).mp h2
        have h3 := h0 q hq
        rw [q2] at h3
        have q1' : (cB q.1 == b) = true := by simpa using q1
        rw [q1'] at h3
        simp only [Bool.not_true, Bool.or_false, Bool.false_or, Bool.not_eq_true', Bool.or_eq_false_iff, beq_eq_false_iff_ne] at h3
        obtain ⟨⟨e1, e2⟩, e3⟩ := h3
        rw [plc_bit, if_neg e2, decide_eq_true_eq] at h1
        rw [plc_bit, if_neg e1, decide_eq_true_eq] at q3
        omega
theorem k65535 : (65535 : Int32) = nI 65535 := rfl
theorem gone_snoc (g : List (Ch × Bool)) (q : Ch × Bool) : (gone (g ++ [q])).length = (gone g).length + if q.2 then 1 else 0 := by
  rw [gone_app, List.length_append, gone_cons]
  split <;> rfl
theorem gone_le (g : List (Ch × Bool)) : (gone g).length ≤ g.length := by
  unfold gone
  rw [List.length_map]
  exact List.length_filter_le _ _
section C7
variable {s p z : Nat} {S : St}
theorem c_weigh69 {h : Hp} (R : Sta h s S z) (M : PO h p) (A : Na S) {b : Nat} {pre l : List Ch} {c : Ch} (e : sC S = pre ++ c :: l) (F : Flc h p (goes b pre)) (hcb : cB c = b) (rec : Nat → List Value → List Value → Hp → RS) :
    kX2_weigh_69 rec p s (nI b) (nI (stp b (goes b pre))) (nI pre.length) (nI (plc c)) h = if mayG c (goes b pre) = true then rec 15 [.ref p, .ref s, .int (nI b), .int (nI (stp b (goes b pre))), .int (nI (pre.length + 1)), uV] [] (h.1, upI (upI h.2 (p + 1) pre.length 1) p 4 (h.2 p 4 + 1)) else rec 15 [.ref p, .ref s, .int (nI b), .int (nI (stp b (goes b pre) ||| plc c)), .int (nI (pre.length + 1)), uV] [] (h.1, upI h.2 p 5 (h.2 p 5 + 1)) := by
  obtain ⟨hch, hl, hl2⟩ := R.ch e
  obtain ⟨-, -, w1, w2, -⟩ := hch
  obtain ⟨M0, ⟨M1, M2, M3⟩, -⟩ := id M
  have hg16 : ∀ q ∈ goes b pre, cP q.1 ≤ 16 := fun q hq => (R.bd.2.2.2.2.1 _ (by rw [e]; exact List.mem_append_left _ (goes_mem hq))).2.2.2.1
  have hst := stp_lt b (goes b pre) hg16
  have hpl := plc_lt w2
  have hand : nI (plc c) &&& nI (stp b (goes b pre)) = nI (plc c &&& stp b (goes b pre)) := and_nI (by omega) (by omega)
  have hor : nI (stp b (goes b pre)) ||| nI (plc c) = nI (stp b (goes b pre) ||| plc c) := or_nI (by omega) (by omega)
  have hlt : plc c &&& stp b (goes b pre) < 2 ^ 31 := by have := Nat.and_le_left (n := plc c) (m := stp b (goes b pre)); omega
  have hng := c_needsGo R M A e F hcb
  have hiff := stp_and (b := b) w2 hg16
  unfold kX2_weigh_69 mayG
  rw [hand, hor, nI_1, hcb]
  by_cases h0 : plc c &&& stp b (goes b pre) = 0
  · rw [hiff.mp h0, Bool.and_true, if_neg (by rw [nI_eq0 hlt]; simp [h0]), if_pos M0, hng, bI_s]
    cases hk : (okN c (goes b pre) (c1 c) && okN c (goes b pre) (c2 c) && okN c (goes b pre) (c3 c) && okN c (goes b pre) (c4 c)) with
    | false => rw [if_pos (show b2i false = 0 from rfl), if_pos M0, if_neg (by decide)]
    | true =>
      rw [if_neg (show ¬ b2i true = 0 by decide), if_pos M0, M1, if_pos M2, M3, if_pos (inB_nI (by omega) (by decide)), nI_clamp (by omega), if_pos rfl, upI_ne (by omega)]
  · have hf : (goes b pre).all (fun e => !(cB e.1 == b) || e.2 || !(cP e.1 == 16 || cP c == 16 || cP c == cP e.1)) = false := by
      cases hq : (goes b pre).all (fun e => !(cB e.1 == b) || e.2 || !(cP e.1 == 16 || cP c == 16 || cP c == cP e.1))
      · rfl
      · exact absurd (hiff.mpr hq) h0
    rw [hf, Bool.and_false, if_pos (by rw [nI_eq0 hlt]; exact h0), if_pos M0]
    rfl
theorem c_weigh_go {b : Nat} (hb0 : b < 16) (hps : p + 5 ≤ s ∨ s + 10 ≤ p) (A : Na S) : ∀ (l pre : List Ch) (n : Nat) (h : Hp), Sta h s S z → PO h p → Flc h p (goes b pre) → sC S = pre ++ l → h.2 p 4 = nI (gone (goes b pre)).length → h.2 p 5 = nI (hb b (goes b pre)) →
    ∃ h', gX2_weigh (n + 2 * l.length + 1) 15 [.ref p, .ref s, .int (nI b), .int (nI (stp b (goes b pre))), .int (nI pre.length), uV] [] h = some (.inl none, h') ∧ h'.1 = h.1 ∧ (∀ a, a ≠ p → a ≠ p + 1 → h'.2 a = h.2 a) ∧ (∀ j, j ≠ 4 → j ≠ 5 → h'.2 p j = h.2 p j) ∧
      Flc h' p (goes b (sC S)) ∧ h'.2 p 4 = nI (gone (goes b (sC S))).length ∧ h'.2 p 5 = nI (hb b (goes b (sC S))) := by
  intro l
  induction l with
  | nil =>
    intro pre n h R M F e h4 h5
    have hl : (sC S).length = pre.length := by rw [e]; simp
    have e' : pre = sC S := by rw [e]; simp
    have hB := R.bd.1
    refine ⟨h, ?_, rfl, fun _ _ _ => rfl, fun _ _ _ => rfl, by rw [← e']; exact F, by rw [← e']; exact h4, by rw [← e']; exact h5⟩
    rw [show n + 2 * ([] : List Ch).length + 1 = n + 1 from rfl, zX2_weigh_15]
    simp (maxSteps := 3000000) (disch := omega) only [kX2_weigh_15, R.so.1, R.un, hl, ↓reduceIte, if_true, if_false, ite_not, not_true_eq_false, not_false_eq_true, ↓qqI_p, ↓qqR_p, ↓qqV_p, ↓qqIx_p, ↓qqRx_p, ↓qqVx_p, qqI_s, qqR_s, qqV_s, qqIx_s, qqRx_s, qqVx_s, qqIx_t, qqVx_t, ↓letH_s, inB_nI, nI_leI, nI_ltI, nI_eq, nI_eq0, nI_eqm, nI_eqn, nI_le0, nI_lt0, nI_0lt, nI_0le, nI_clamp, pk_mul, nI_add, pk_div, pk_sub, rem_n, z_add, add_z, m_cell, kmk, lmk, rmk, b2i_0, b2i_n1, bft, le_t, le_f, lt_t, lt_f, eq_t, eq_f, k1, k2, k3, k4, k5, k6, k7, k8, k9, k10, k11, k12, k13, k15, k16, k20, k24, k30, k60, k64, k99, k100, k200, k255, k256, k512, k2912, k3392, k3393, k3394, k3395, k3396, k3397, k3398]
  | cons c l ih =>
    intro pre n h R M F e h4 h5
    obtain ⟨hc, hl, hl2⟩ := R.ch e
    obtain ⟨q1, q2, -⟩ := R.cst e
    obtain ⟨-, -, w1, w2, -⟩ := hc
    have hgl := goes_len b pre
    have hle := hb_le b (goes b pre)
    have hgo := gone_le (goes b pre)
    obtain ⟨M0, ⟨M1, M2, M3⟩, -⟩ := id M
    obtain ⟨r1, -, ⟨r2, r3, r4⟩, ⟨r5, r6, r7⟩, -⟩ := id R.so
    have R1 : Sta (h.1, upI h.2 (p + 1) pre.length 0) s S z := R.up (fun a x y => upI_ne (by omega))
    have MM1 : PO (h.1, upI h.2 (p + 1) pre.length 0) p := M.up
    have F1 : Flc (h.1, upI h.2 (p + 1) pre.length 0) p (goes b pre) := fun P q T hP => by
      have hlt : P.length < pre.length := by rw [← hgl, hP]; simp
      dsimp only
      rw [upI_at, eq_f (by omega)]
      exact F P q T hP
    have hu2 : upI h.2 (p + 1) pre.length 0 (s + 2) = h.2 (s + 2) := upI_ne (by omega)
    have hu3 : upI h.2 (p + 1) pre.length 0 (s + 3) = h.2 (s + 3) := upI_ne (by omega)
    have hgs := goes_snoc b pre c
    by_cases hcb : cB c = b
    · have h69 := c_weigh69 R1 MM1 A e F1 hcb (gX2_weigh (n + 2 * l.length + 1))
      have hup4 : upI h.2 (p + 1) pre.length 0 p 4 = nI (gone (goes b pre)).length := by rw [upI_ne (by omega)]; exact h4
      have hup5 : upI h.2 (p + 1) pre.length 0 p 5 = nI (hb b (goes b pre)) := by rw [upI_ne (by omega)]; exact h5
      have hstart : gX2_weigh (n + 2 * (c :: l).length + 1) 15 [.ref p, .ref s, .int (nI b), .int (nI (stp b (goes b pre))), .int (nI pre.length), uV] [] h = kX2_weigh_69 (gX2_weigh (n + 2 * l.length + 1)) p s (nI b) (nI (stp b (goes b pre))) (nI pre.length) (nI (plc c)) (h.1, upI h.2 (p + 1) pre.length 0) := by
        rw [show n + 2 * (c :: l).length + 1 = ((n + 2 * l.length + 1) + 1) + 1 by simp; omega, zX2_weigh_15]
        have h15 : ∀ x : Int32, gX2_weigh ((n + 2 * l.length + 1) + 1) 69 [.ref p, .ref s, .int (nI b), .int (nI (stp b (goes b pre))), .int (nI pre.length), uV] [.int x] (h.1, upI h.2 (p + 1) pre.length 0) = kX2_weigh_69 (gX2_weigh (n + 2 * l.length + 1)) p s (nI b) (nI (stp b (goes b pre))) (nI pre.length) x (h.1, upI h.2 (p + 1) pre.length 0) := fun x => zX2_weigh_69 _ _ _ _ _ _ _ _ _
        by_cases h16 : cP c = 16
        · simp (maxSteps := 3000000) (disch := omega) only [kX2_weigh_15, r1, r2, r3, r4, r5, r6, r7, R.un, hl2, M0, M1, M2, M3, ↓reduceIte, if_true, if_false, ite_not, not_true_eq_false, not_false_eq_true, ↓qqI_p, ↓qqR_p, ↓qqV_p, ↓qqIx_p, ↓qqRx_p, ↓qqVx_p, qqI_s, qqR_s, qqV_s, qqIx_s, qqRx_s, qqVx_s, qqIx_t, qqVx_t, ↓letH_s, inB_nI, nI_leI, nI_ltI, nI_eq, nI_eq0, nI_eqm, nI_eqn, nI_le0, nI_lt0, nI_0lt, nI_0le, nI_clamp, pk_mul, nI_add, pk_div, pk_sub, rem_n, z_add, add_z, m_cell, kmk, lmk, rmk, b2i_0, b2i_n1, bft, le_t, le_f, lt_t, lt_f, eq_t, eq_f, k1, k2, k3, k4, k5, k6, k7, k8, k9, k10, k11, k12, k13, k15, k16, k20, k24, k30, k60, k64, k99, k100, k200, k255, k256, k512, k2912, k3392, k3393, k3394, k3395, k3396, k3397, k3398, hu2, hu3, q1, q2, hcb, h16, h15]
          rw [k65535]
          unfold plc
          rw [if_pos h16]
        · have hsh := one_shl (k := cP c) (by omega)
          simp (maxSteps := 3000000) (disch := omega) only [kX2_weigh_15, r1, r2, r3, r4, r5, r6, r7, R.un, hl2, M0, M1, M2, M3, ↓reduceIte, if_true, if_false, ite_not, not_true_eq_false, not_false_eq_true, ↓qqI_p, ↓qqR_p, ↓qqV_p, ↓qqIx_p, ↓qqRx_p, ↓qqVx_p, qqI_s, qqR_s, qqV_s, qqIx_s, qqRx_s, qqVx_s, qqIx_t, qqVx_t, ↓letH_s, inB_nI, nI_leI, nI_ltI, nI_eq, nI_eq0, nI_eqm, nI_eqn, nI_le0, nI_lt0, nI_0lt, nI_0le, nI_clamp, pk_mul, nI_add, pk_div, pk_sub, rem_n, z_add, add_z, m_cell, kmk, lmk, rmk, b2i_0, b2i_n1, bft, le_t, le_f, lt_t, lt_f, eq_t, eq_f, k1, k2, k3, k4, k5, k6, k7, k8, k9, k10, k11, k12, k13, k15, k16, k20, k24, k30, k60, k64, k99, k100, k200, k255, k256, k512, k2912, k3392, k3393, k3394, k3395, k3396, k3397, k3398, hu2, hu3, q1, q2, hcb, h16, hsh, h15]
          unfold plc
          rw [if_neg h16]
      rw [hstart, h69]
      have ihk := ih (pre ++ [c]) n
      rw [hgs, stp_snoc, gone_snoc, hb_snoc, len1] at ihk
      have hcbt : (cB c == b) = true := by simpa using hcb
      cases hm : mayG c (goes b pre) with
      | true =>
        rw [if_pos rfl]
        simp only [hcbt, hm, Bool.and_true, Bool.true_and, Bool.not_true, Bool.and_false, Bool.false_eq_true, if_false, if_true, Nat.add_zero, reduceCtorEq, and_false] at ihk
        obtain ⟨h', i1, i2, i3, i4, i5⟩ := ihk (h.1, upI (upI (upI h.2 (p + 1) pre.length 0) (p + 1) pre.length 1) p 4 (nI ((gone (goes b pre)).length + 1))) (R.up (fun a x y => by rw [upI_ne (by omega), upI_ne (by omega), upI_ne (by omega)])) M.up (by
          refine Flc.snoc (fun P q T hP => ?_) ?_
          · have hlt : P.length < pre.length := by rw [← hgl, hP]; simp
            dsimp only
            rw [upI_ne (by omega), upI_at, eq_f (by omega)]
            exact F1 P q T hP
          · dsimp only
            rw [hgl, upI_ne (by omega), upI_at, eq_t rfl]
            rfl) (app1 e) (by dsimp only; rw [upI_at, if_pos rfl]) (by dsimp only; rw [upI_at, if_neg (by decide), upI_ne (by omega), hup5])
        refine ⟨h', ?_, i2, fun a x y => by rw [i3 a x y]; dsimp only; rw [upI_ne x, upI_ne y, upI_ne y], fun j x y => by rw [i4 j x y]; dsimp only; rw [upI_at, if_neg x, upI_ne (by omega), upI_ne (by omega)], i5⟩
        rw [← i1]
        dsimp only
        rw [hup4, nI_1]
      | false =>
        rw [if_neg (by decide)]
        simp only [hcbt, hm, Bool.and_false, Bool.not_false, Bool.and_true, Bool.false_eq_true, if_false, if_true, Nat.add_zero, hcb, and_self, beq_self_eq_true] at ihk
        obtain ⟨h', i1, i2, i3, i4, i5⟩ := ihk (h.1, upI (upI h.2 (p + 1) pre.length 0) p 5 (nI (hb b (goes b pre) + 1))) (R.up (fun a x y => by rw [upI_ne (by omega), upI_ne (by omega)])) M.up (by
          refine Flc.snoc (fun P q T hP => ?_) ?_
          · dsimp only
            rw [upI_ne (by omega)]
            exact F1 P q T hP
          · dsimp only
            rw [hgl, upI_ne (by omega), upI_at, eq_t rfl]
            rfl) (app1 e) (by dsimp only; rw [upI_at, if_neg (by decide), upI_ne (by omega)]; exact h4) (by dsimp only; rw [upI_at, if_pos rfl])
        refine ⟨h', ?_, i2, fun a x y => by rw [i3 a x y]; dsimp only; rw [upI_ne x, upI_ne y], fun j x y => by rw [i4 j x y]; dsimp only; rw [upI_at, if_neg y, upI_ne (by omega)], i5⟩
        rw [← i1]
        dsimp only
        rw [hup5, nI_1]
    · have hcbf : (cB c == b) = false := by simpa using hcb
      have ihk := ih (pre ++ [c]) (n + 1)
      rw [hgs, stp_snoc, gone_snoc, hb_snoc, len1] at ihk
      simp only [hcbf, hcb, Bool.false_and, Bool.false_eq_true, if_false, Nat.add_zero, false_and] at ihk
      obtain ⟨h', i1, i2, i3, i4, i5⟩ := ihk (h.1, upI h.2 (p + 1) pre.length 0) R1 MM1 (by
        refine Flc.snoc F1 ?_
        dsimp only
        rw [hgl, upI_at, eq_t rfl]
        rfl) (app1 e) (by dsimp only; rw [upI_ne (by omega)]; exact h4) (by dsimp only; rw [upI_ne (by omega)]; exact h5)
      refine ⟨h', ?_, i2, fun a x y => by rw [i3 a x y]; dsimp only; rw [upI_ne y], fun j x y => by rw [i4 j x y]; dsimp only; rw [upI_ne (by omega)], i5⟩
      rw [show n + 2 * (c :: l).length + 1 = (n + 1 + 2 * l.length + 1) + 1 by simp; omega, zX2_weigh_15, ← i1]
      simp (maxSteps := 3000000) (disch := omega) only [kX2_weigh_15, r1, r2, r3, r4, R.un, hl2, M0, M1, M2, M3, ↓reduceIte, if_true, if_false, ite_not, not_true_eq_false, not_false_eq_true, ↓qqI_p, ↓qqR_p, ↓qqV_p, ↓qqIx_p, ↓qqRx_p, ↓qqVx_p, qqI_s, qqR_s, qqV_s, qqIx_s, qqRx_s, qqVx_s, qqIx_t, qqVx_t, ↓letH_s, inB_nI, nI_leI, nI_ltI, nI_eq, nI_eq0, nI_eqm, nI_eqn, nI_le0, nI_lt0, nI_0lt, nI_0le, nI_clamp, pk_mul, nI_add, pk_div, pk_sub, rem_n, z_add, add_z, m_cell, kmk, lmk, rmk, b2i_0, b2i_n1, bft, le_t, le_f, lt_t, lt_f, eq_t, eq_f, k1, k2, k3, k4, k5, k6, k7, k8, k9, k10, k11, k12, k13, k15, k16, k20, k24, k30, k60, k64, k99, k100, k200, k255, k256, k512, k2912, k3392, k3393, k3394, k3395, k3396, k3397, k3398, hu2, q1, hcb]
theorem c_weigh {h : Hp} {b : Nat} (hb0 : b < 16) (hps : p + 5 ≤ s ∨ s + 10 ≤ p) (A : Na S) (R : Sta h s S z) (M : PO h p) :
    ∃ h', fX2_weigh p s (nI b) h = some (.inl none, h') ∧ h'.1 = h.1 ∧ (∀ a, a ≠ p → a ≠ p + 1 → h'.2 a = h.2 a) ∧ (∀ j, j ≠ 4 → j ≠ 5 → h'.2 p j = h.2 p j) ∧
      Flc h' p (goes b (sC S)) ∧ h'.2 p 4 = nI (gone (goes b (sC S))).length ∧ h'.2 p 5 = nI (hb b (goes b (sC S))) := by
  have hB := R.bd.1
  obtain ⟨h', i1, i2, i3, i4, i5⟩ := c_weigh_go hb0 hps A (sC S) [] (FF - 2 * (sC S).length - 1) (h.1, upI (upI h.2 p 4 0) p 5 0) (R.up (fun a x y => by rw [upI_ne (by omega), upI_ne (by omega)])) M.up (fun P q T e => by simp [goes] at e) rfl (by dsimp only; rw [upI_at, if_neg (by decide), upI_at, if_pos rfl]; rfl) (by dsimp only; rw [upI_at, if_pos rfl]; rfl)
  refine ⟨h', ?_, i2, fun a x y => by rw [i3 a x y]; dsimp only; rw [upI_ne x, upI_ne x], fun j x y => by rw [i4 j x y]; dsimp only; rw [upI_at, if_neg y, upI_at, if_neg x], i5⟩
  unfold fX2_weigh kX2_weigh_0
  rw [if_pos M.1]
  rw [show FF - 2 * (sC S).length - 1 + 2 * (sC S).length + 1 = FF from by show 1000000 - _ - 1 + _ + 1 = 1000000; omega] at i1
  exact i1
end C7
