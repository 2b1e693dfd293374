/-! ===== the class's readWork, all of it ===== -/
section CW3
variable {n x : Nat} {T : Nat → Nat}
theorem lts_end {p : Nat} (h : n ≤ p) : lts T n p = [] := by
  unfold lts
  rw [show n - p = 0 by omega]
  rfl
theorem hdW_end {p d : Nat} (h : n ≤ p) : hdW T n d p = .inr (1, p) := by
  unfold hdW
  rw [lts_end h]
  rfl
theorem FrW.l {h h' : Hp} {j D w : Nat} {v : Nat × Nat × Nat} (f : FrW h h' x) (A : addd h h' x j w v) (o : ∀ i, i < D → h'.2 (x + 37) i = h.2 (x + 37) i) : FrL h h' x j D :=
  ⟨f.1, fun a q => f.2.1 a (by omega), f.2.2, A.2.1, fun a i q1 q2 => by
    obtain ⟨-, -, a3, a4, a5, a6⟩ := A
    rcases q1 with rfl | rfl | rfl | rfl | rfl
    · rw [a3, if_neg (by omega)]
    · rw [a4, if_neg (by omega)]
    · rw [a5, if_neg (by omega)]
    · rw [a6, if_neg (by omega)]
    · rw [f.2.1 (x + 34) (by omega)], o⟩
theorem lc_all : ∀ f, LCf T n f x := by
  intro f
  induction f with
  | zero => intro D p j k fl h _ _ _ _ _ _ _ h0 _; omega
  | succ f ih =>
    intro D p j k fl h X hl h9 hD hjp hk hn150 hnf hfl
    have hpn := X.2.2.2
    obtain ⟨b1, b2⟩ := bk_le (T := T) hpn
    unfold pFo
    by_cases e0 : ovr T n D (bk T n p) = true
    · rw [if_pos e0]
      exact ⟨h, p, k, fl, rfl, FrL.refl h x j D, X, rfl, ⟨Nat.le_refl _, hk, Nat.le_refl _⟩, hl, h9, fun i v hv => by simp [cof_nil] at hv, by rw [cof_nil]; exact hjp⟩
    · rw [if_neg e0]
      have e0' : ¬ ((D = 0 ∧ n ≤ bk T n p) ∨ (0 < D ∧ bk T n p < n ∧ T (bk T n p) = 93)) := fun q => e0 (decide_eq_true q)
      obtain ⟨fl, rfl⟩ : ∃ g, fl = g + 1 + 1 + 1 := ⟨fl - 3, by omega⟩
      by_cases hend : n ≤ bk T n p
      · -- the text is over, brackets are open
        have hD0 : D ≠ 0 := fun q => e0' (Or.inl ⟨q, hend⟩)
        have ep : pOne T n D (pFo T n f (D + 1)) (bk T n p) = .inr (1, bk T n p) := by unfold pOne; rw [hdW_end hend]
        rw [ep]
        obtain ⟨h4, a1, a2, a3⟩ := c_atEnd X
        obtain ⟨h5, c1, c2, c3⟩ := c_blame a3 (e := (1, bk T n p)) (show (1 : Nat) ≤ 1 ∧ 1 ≤ 3 by decide)
        have c1 : fX3_blame (x + 27) 1 (nI (bk T n p)) h4 = _ := c1
        have n4 : h4.2 (x + 27) 9 = nI D := by rw [a2.2.2 9 (by decide) (by decide) (by decide)]; exact h9
        refine ⟨h5, ?_, a2.e.trans c2.e, a3.1.fr c2, c3, b2⟩
        rw [zX3_readWork_8]
        unfold kX3_readWork_8
        rw [if_pos X.k, X.1.2.1, if_neg (by rw [nI_ltI (by omega) (by omega)]; omega), if_neg (fun q => q X.2.2.1), a1, bI_s, decide_eq_true hend, if_pos (show ¬ b2i true = 0 by decide), zX3_readWork_106]
        unfold kX3_readWork_106
        have k5' : kH h5 (x + 27) = 13 := (kh_eq c2.1 _).trans a3.k
        rw [if_pos a3.k, n4, if_neg (by rw [nI_le0 (by omega)]; exact hD0), a3.1.2.1, show n = bk T n p by omega, c1, bV_s, if_pos k5', c3.2.1]
      · have hlt : bk T n p < n := by omega
        have hb : D = 0 ∨ T (bk T n p) ≠ 93 := by
          by_cases q : D = 0
          · exact Or.inl q
          · exact Or.inr (fun q2 => e0' (Or.inr ⟨by omega, hlt, q2⟩))
        obtain ⟨h4, a1, a2, a3⟩ := c_head (fl := fl + 1 + 1) X h9 hD hk hlt hb
        have l4 : h4.2 (x + 28) 1 = nI j := by rw [a1.2.1 _ (by omega)]; exact hl
        have n4 : h4.2 (x + 27) 9 = nI D := by rw [a1.2.2 9 (by decide) (by decide) (by decide)]; exact h9
        obtain ⟨h5, c1, c2, c3⟩ := c_readStep a2 l4 (by omega) n4 hD
        rw [c1, bV_s] at a3
        have er : ∀ e : Ft, CX h5 x T n ∧ CE h5 x e ∧ e.2 ≤ n → outW h x T n j D p k (fl + 1 + 1 + 1) (.inr e) := fun e E => ⟨h5, a3.trans (c_work_er E.1 E.2.1 (by omega) rfl fl), a1.e.trans c2.e, E⟩
        unfold pOne
        cases e1 : hdW T n D (bk T n p) with
        | inr e =>
          rw [e1] at c3
          exact er e c3
        | inl v =>
          obtain ⟨k1, q1⟩ := v
          rw [e1] at c3
          obtain ⟨g1, g2, g3, g4, -⟩ := hdW_adv b2 e1
          have hs1 : ∀ p, (Sum.inl q1 : Rd) = .inl p → p ≤ n := fun p hp => by injection hp with hp; omega
          simp only at c3 ⊢
          by_cases e11 : k1 = 11
          · rw [if_pos e11] at c3 ⊢
            cases e2 : gS T n 91 (pS T n 0 60 (.inl q1)).2 with
            | inr e =>
              rw [e2] at c3
              exact er e c3
            | inl q2 =>
              rw [e2] at c3
              simp only at c3 ⊢
              obtain ⟨y1, y2, y3, y4⟩ := c3
              obtain ⟨p1, u1, u2, u3⟩ := gS_adv (pS_le hs1) e2
              obtain ⟨p0, v1, v2, v3, -⟩ := pS_adv hs1 u1
              injection v1 with v1
              have hD5 := g4 e11
              have F5 : FrL h h5 x j D := (a1.l j D).trans (c2.l y2 (fun i hi => by rw [y4, if_neg (by omega)])) (Nat.le_refl _) (Nat.le_refl _)
              have W := ih (D + 1) q2 (j + 1) (k + 1) (fl + 1 + 1) h5 y1 y2.1 y3 (by omega) (by omega) (by omega) hn150 (by omega) (by omega)
              cases e3 : pFo T n f (D + 1) q2 with
              | inr e =>
                rw [e3] at W
                obtain ⟨h', w1, w2, w3⟩ := W
                exact ⟨h', a3.trans w1, F5.e.trans w2, w3⟩
              | inl v3 =>
                obtain ⟨F, q3⟩ := v3
                rw [e3] at W
                obtain ⟨h6, q', k', fl', w1, w2, w3, w4, ⟨w5, w6, w7⟩, w8, w9, w10, w11⟩ := W
                simp only at w4 w8 w10 w11 ⊢
                obtain ⟨z1, z2, z3⟩ := pFo_adv f (D + 1) q2 F q3 u3 e3
                obtain ⟨z4, z5⟩ := z3 (by omega)
                obtain ⟨fl', rfl⟩ : ∃ g, fl' = g + 1 := ⟨fl' - 1, by have := w3.2.2.2; omega⟩
                have ho6 : h6.2 (x + 37) D = nI j := by rw [w2.2.2.2.2.2 D (by omega), y4, if_pos rfl]
                obtain ⟨h7, r1, r2, r3, r4, r5, r6, r7, r8⟩ := c_close (fl := fl') (g := j) w3 w9 (by omega) w6 (by rw [w4]; exact z4) (by rw [w4]; exact z5) (j := j + 1 + (cof F).length) (by have := w3.2.2.2; omega) w8 (by omega) ho6
                rw [w4] at r8
                have E7 := (a3.trans w1).trans r1
                have F7 : FrE h h7 x := (F5.e.trans w2.e).trans ⟨r2, fun a q => r3 a (by omega)⟩
                cases e4 : pSig T n 59 (q3 + 1) with
                | inr e =>
                  rw [e4] at r8
                  have r8 : CX h7 x T n ∧ CE h7 x e ∧ e.2 ≤ n := r8
                  obtain ⟨fl', rfl⟩ : ∃ g, fl' = g + 1 + 1 := ⟨fl' - 2, by have := w3.2.2.2; omega⟩
                  exact ⟨h7, E7.trans (c_work_er r8.1 r8.2.1 (by have := w3.2.2.2; omega) rfl fl'), F7, r8⟩
                | inl q4 =>
                  rw [e4] at r8
                  have r8 : CP h7 x T n q4 := r8
                  simp only
                  obtain ⟨s1, s2⟩ := pSig_ok (by omega) e4
                  have q'q : q' ≤ q3 := by rw [← w4]; exact (bk_le (T := T) w3.2.2.2).1
                  obtain ⟨m1, m2, m3, m4, m5, m6⟩ := r5
                  have F67 : FrL h6 h7 x j D := ⟨r2, fun a q => r3 a (by omega), r4, m2, fun a i q1 q2 => by
                    rcases q1 with rfl | rfl | rfl | rfl | rfl
                    · rw [m3, if_neg (by omega)]
                    · rw [m4, if_neg (by omega)]
                    · rw [m5, if_neg (by omega)]
                    · rw [m6, if_neg (by omega)]
                    · rw [r6, if_neg (by omega), if_neg (by omega)], fun i _ => by rw [r3 (x + 37) (by omega)]⟩
                  have FF7 : FrL h h7 x j D := (F5.trans w2 (by omega) (by omega)).trans F67 (Nat.le_refl _) (Nat.le_refl _)
                  have lenC : ((11, (pS T n 0 60 (.inl q1)).1, 0, 0, (cof F).length + 1) :: (cof F ++ [(13, 0, 0, 0, (cof F).length + 1)]) : List Ent).length = (cof F).length + 2 := by rw [List.length_cons, List.length_append]; rfl
                  have W2 := ih D q4 (j + ((cof F).length + 2)) (k' + 1) fl' h7 r8 (by rw [m1]; congr 1; omega) r7 hD (by omega) (by omega) hn150 (by omega) (by omega)
                  rw [← lenC] at W2
                  refine outW.co (C1 := (11, (pS T n 0 60 (.inl q1)).1, 0, 0, (cof F).length + 1) :: (cof F ++ [(13, 0, 0, 0, (cof F).length + 1)])) E7 FF7 (by omega) (by omega) ?_ (fun r => by rw [cof_ag, List.cons_append, List.append_assoc]; rfl) W2
                  obtain ⟨-, -, t3, t4, t5, t6⟩ := y2
                  have w6e : ∀ a, a = x + 29 ∨ a = x + 30 ∨ a = x + 31 ∨ a = x + 32 ∨ a = x + 34 → h6.2 a j = h5.2 a j := fun a ha => w2.2.2.2.2.1 a j ha (by omega)
                  refine LayC.cons ⟨?_, ?_, ?_, ?_, fun _ => ?_, fun q => absurd q (show ¬ (11 : Nat) = 13 by decide)⟩ (LayC.app (w10.cg (fun a i q1 q2 q3 => ?_)) (LayC.cons ⟨?_, ?_, ?_, ?_, fun q => absurd q (show ¬ (13 : Nat) = 11 by decide), fun _ => ?_⟩ (fun i v hv => by simp at hv)))
                  · rw [m3, if_neg (by omega), w6e _ (by omega), t3, if_pos rfl]
                  · rw [m4, if_neg (by omega), w6e _ (by omega), t4, if_pos rfl]
                  · rw [m5, if_neg (by omega), w6e _ (by omega), t5, if_pos rfl]
                  · rw [m6, if_neg (by omega), w6e _ (by omega), t6, if_pos rfl]
                  · rw [r6, if_neg (by omega), if_pos rfl]
                    show nI (j + 1 + (cof F).length) = nI (j + ((cof F).length + 1))
                    congr 1
                    omega
                  · rcases q1 with rfl | rfl | rfl | rfl | rfl
                    · rw [m3, if_neg (by omega)]
                    · rw [m4, if_neg (by omega)]
                    · rw [m5, if_neg (by omega)]
                    · rw [m6, if_neg (by omega)]
                    · rw [r6, if_neg (by omega), if_neg (by omega)]
                  · rw [m3, if_pos rfl]
                  · rw [m4, if_pos rfl]
                  · rw [m5, if_pos rfl]
                  · rw [m6, if_pos rfl]
                  · rw [r6, if_pos rfl]
                    show nI j = nI (j + 1 + (cof F).length - ((cof F).length + 1))
                    congr 1
                    omega
          · rw [if_neg e11] at c3 ⊢
            cases e2 : gS T n 59 (nums T n k1 (.inl q1)).2 with
            | inr e =>
              rw [e2] at c3
              exact er e c3
            | inl q2 =>
              rw [e2] at c3
              simp only at c3 ⊢
              obtain ⟨y1, y2, y3, y4⟩ := c3
              obtain ⟨p1, u1, u2, u3⟩ := gS_adv (fun q hq => by obtain ⟨p0, c1, c2, c3⟩ := nums_adv hs1 hq; exact c3) e2
              obtain ⟨p0, v1, v2, v3⟩ := nums_adv hs1 u1
              injection v1 with v1
              have F5 : FrL h h5 x j D := (a1.l j D).trans (c2.l y2 (fun i _ => by rw [y4])) (Nat.le_refl _) (Nat.le_refl _)
              have W := ih D q2 (j + 1) (k + 1) (fl + 1 + 1) h5 y1 y2.1 y3 hD (by omega) (by omega) hn150 (by omega) (by omega)
              refine outW.co (C1 := [(cop k1, (nums T n k1 (.inl q1)).1.1, (nums T n k1 (.inl q1)).1.2.1, (nums T n k1 (.inl q1)).1.2.2, 0)]) a3 F5 (by omega) (by omega) ?_ (fun r => cof_st (k1, (nums T n k1 (.inl q1)).1) r e11) W
              have hc13 : cop k1 ≠ 13 ∧ cop k1 ≠ 11 := by
                unfold cop
                split
                · omega
                · split <;> omega
              refine LayC.cons ⟨?_, ?_, ?_, ?_, fun q => absurd q hc13.2, fun q => absurd q hc13.1⟩ (fun i v hv => by simp at hv)
              · rw [y2.2.2.1, if_pos rfl]
              · rw [y2.2.2.2.1, if_pos rfl]
              · rw [y2.2.2.2.2.1, if_pos rfl]
              · rw [y2.2.2.2.2.2, if_pos rfl]
end CW3
