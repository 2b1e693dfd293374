/-! ===== a history keeps a state ===== -/
section KE
variable {h : Hp} {x B z s g j : Nat} {bl : Nat → Nat} {S : St}
theorem hO_0 : hO x bl 0 = x + 11 := if_pos rfl
theorem hO_s (g : Nat) : hO x bl (g + 1) = bl (64 + g) + 11 := by
  unfold hO
  rw [if_neg (by omega), show 63 + (g + 1) = 64 + g by omega]
/-- what the history object is -/
theorem BS.ho (b : BS h x B bl) (C : CO h x) (hg : g < 4) (hb : g = 0 ∨ bl (63 + g) ≠ 0) : HO h (hO x bl g) ∧ (∀ j, j < 16 → rH h (hO x bl g + 1) j = bl (16 * g + j)) ∧ hO x bl g + 1 < nH h ∧ (hO x bl g = x + 11 ∨ B ≤ hO x bl g) ∧ (∀ i, i < 64 → bl i ≠ 0 → hO x bl g + 1 < bl i ∨ bl i + 10 ≤ hO x bl g) := by
  obtain ⟨b1, b2, b3, b4, b5, b6, b7, b8⟩ := b
  cases g with
  | zero =>
    rw [hO_0]
    refine ⟨⟨C.his.1.2, C.his.2⟩, fun j hj => by rw [Nat.mul_zero, Nat.zero_add]; exact b5 j hj, by omega, Or.inl rfl, fun i hi q => ?_⟩
    have := (b2 i (by omega) q).1
    omega
  | succ g =>
    have hb : bl (64 + g) ≠ 0 := by
      rcases hb with q | q
      · omega
      · rw [show 63 + (g + 1) = 64 + g by omega] at q; exact q
    rw [hO_s]
    obtain ⟨c1, c2⟩ := b7 g (by omega) hb
    have c3 := b2 (64 + g) (by omega) hb
    rw [bz_i] at c3
    refine ⟨⟨c1.2.2.2.2.1, c1.2.2.2.2.2⟩, c2, by omega, Or.inr (by omega), fun i hi q => ?_⟩
    have := b3 (64 + g) i (by omega) (by omega) (by omega) hb q
    rw [bz_i, bz_s hi] at this
    omega
theorem upB_self (bl : Nat → Nat) (i : Nat) : upB bl i (bl i) = bl := by
  funext k
  unfold upB
  split
  · rename_i e; rw [e]
  · rfl
/-- a block is put in -/
theorem BS.put {h' : Hp} {N : Nat} (b : BS h x B bl) (hg : g < 4) (hb : g = 0 ∨ bl (63 + g) ≠ 0) (hj : j < 16) (h0 : bl (16 * g + j) = 0) (hN : N = nH h) (n1 : nH h' = N + 10) (E : Exe h h' (hO x bl g + 1)) (er : ∀ i, rH h' (hO x bl g + 1) i = if i = j then N else rH h (hO x bl g + 1) i) (O : SO h' N) (C : CO h x) : BS h' x B (upB bl (16 * g + j) N) := by
  obtain ⟨q1, q2, q3, q4, q5⟩ := b.ho C hg hb
  obtain ⟨b1, b2, b3, b4, b5, b6, b7, b8⟩ := b
  have hN0 : N ≠ 0 := by omega
  refine ⟨⟨b1.1, by omega⟩, fun i hi q => ?_, fun i k hi hk hik qi qk => ?_, fun i hi q => ?_, fun k hk => ?_, fun k hk => ?_, fun k hk q => ?_, fun k hk q r hr => ?_⟩
  · by_cases e : i = 16 * g + j
    · rw [e, upB_at, bz_s (by omega)]
      omega
    · rw [upB_ne e] at q ⊢
      have := b2 i hi q
      omega
  · by_cases e : i = 16 * g + j
    · rw [e, upB_at, upB_ne (by omega)]
      rw [upB_ne (by omega)] at qk
      have := b2 k hk qk
      omega
    · by_cases e2 : k = 16 * g + j
      · rw [e2, upB_at, upB_ne e]
        rw [upB_ne e] at qi
        have := b2 i hi qi
        omega
      · rw [upB_ne e, upB_ne e2]
        rw [upB_ne e] at qi
        rw [upB_ne e2] at qk
        exact b3 i k hi hk hik qi qk
  · by_cases e : i = 16 * g + j
    · rw [e, upB_at]
      exact O
    · rw [upB_ne e] at q ⊢
      have c := b2 i (by omega) q
      rw [bz_s hi] at c
      have := q5 i hi q
      exact (b4 i hi q).exe E c.2 (by omega)
  · by_cases eg : g = 0
    · subst eg
      have eo : hO x bl 0 + 1 = x + 12 := by rw [hO_0]
      rw [eo] at er
      rw [er k]
      by_cases e : k = j
      · rw [if_pos e, e, show 16 * 0 + j = j by omega, upB_at]
      · rw [if_neg e, upB_ne (by omega)]
        exact b5 k hk
    · have := q4
      rw [upB_ne (by omega)]
      have eo : x + 12 ≠ hO x bl g + 1 := by
        rcases q4 with w | w
        · unfold hO at w ⊢
          rw [if_neg eg] at w ⊢
          have hb : bl (63 + g) ≠ 0 := by rcases hb with q | q; exact absurd q eg; exact q
          have := (b2 (63 + g) (by omega) hb).1
          omega
        · omega
      rw [E.2.2 (x + 12) (by omega) eo]
      exact b5 k hk
  · rw [upB_ne (by omega), E.2.2 (x + 13) (by omega) (by rcases q4 with w | w <;> omega)]
    exact b6 k hk
  · rw [upB_ne (by omega)] at q ⊢
    obtain ⟨c1, c2⟩ := b7 k hk q
    have c3 := b2 (64 + k) (by omega) q
    rw [bz_i] at c3
    by_cases eg : g = k + 1
    · subst eg
      rw [hO_s] at E er
      have ea : bl (64 + k) + 11 + 1 = bl (64 + k) + 12 := by omega
      rw [ea] at E er
      refine ⟨c1.exe E c3.2 (by omega), fun r hr => ?_⟩
      rw [er r]
      by_cases e : r = j
      · rw [if_pos e, e, upB_at]
      · rw [if_neg e, upB_ne (by omega)]
        exact c2 r hr
    · have eo : hO x bl g + 1 < bl (64 + k) ∨ bl (64 + k) + 13 ≤ hO x bl g + 1 := by
        cases g with
        | zero => rw [hO_0]; omega
        | succ g =>
          have hb : bl (64 + g) ≠ 0 := by
            rcases hb with q | q
            · omega
            · rw [show 63 + (g + 1) = 64 + g by omega] at q; exact q
          have := b3 (64 + g) (64 + k) (by omega) (by omega) (by omega) hb q
          rw [bz_i, bz_i] at this
          rw [hO_s]
          omega
      refine ⟨c1.exe E c3.2 (by omega), fun r hr => ?_⟩
      rw [upB_ne (by omega), E.2.2 _ (by omega) (by omega)]
      exact c2 r hr
  · rw [upB_ne (by omega)] at q
    have := b8 k hk q r hr
    rw [upB_ne ?_]
    · exact this
    · intro e
      have eg : g = k + 1 := by omega
      subst eg
      rcases hb with w | w
      · omega
      · rw [show 63 + (k + 1) = 64 + k by omega] at w
        exact w q
/-- room that the blocks to come have still -/
def Rm (h : Hp) (bl : Nat → Nat) (N Z : Nat) : Prop := nH h + 13 * nul bl 67 ≤ N ∧ zH h + 7000 * nul bl 67 ≤ Z
theorem c_keep {N Z : Nat} (b : BS h x B bl) (C : CO h x) (hg : g < 4) (hb : g = 0 ∨ bl (63 + g) ≠ 0) (hj : j < 16) (R : Sta h s S z) (hs : s + 10 ≤ nH h) (hse : s ≠ hO x bl g + 1) (hsep : bl (16 * g + j) ≠ 0 → s + 10 ≤ bl (16 * g + j) ∨ bl (16 * g + j) + 10 ≤ s) (h64 : (sL S).length ≤ 64) (rm : Rm h bl N Z) :
    ∃ h' v, fX0_keep (hO x bl g) (nI j) s h = some (.inl none, h') ∧ v ≠ 0 ∧ (bl (16 * g + j) ≠ 0 → v = bl (16 * g + j)) ∧ (bl (16 * g + j) = 0 → v = nH h) ∧ BS h' x B (upB bl (16 * g + j) v) ∧ Sta h' v S z ∧ Exe h h' (hO x bl g + 1) ∧ (∀ a, a < nH h → a < v ∨ v + 10 ≤ a → h'.2 a = h.2 a) ∧ Rm h' (upB bl (16 * g + j) v) N Z := by
  obtain ⟨⟨k1, k2, k3, k4⟩, q2, q3, q4, q5⟩ := b.ho C hg hb
  have hin : inB (nI j) 16 = true := inB_nI (by omega) (by decide)
  have hcl : (nI j).toNatClampNeg = j := nI_clamp (by omega)
  by_cases e : bl (16 * g + j) = 0
  · have hn : nH h ≠ 0 := by omega
    obtain ⟨h1, a1, a2, a3⟩ := new_S hn
    have E1 : Ext h h1 := a2.ext
    obtain ⟨s1, s2, s3⟩ := E1.2 _ q3
    obtain ⟨t1, t2, t3⟩ := E1.2 (hO x bl g) (by omega)
    obtain ⟨h2, hh2⟩ : ∃ h2, h2 = sR h1 (hO x bl g + 1) j (nH h) := ⟨_, rfl⟩
    have E2 : Exe h h2 (hO x bl g + 1) := by
      rw [hh2]
      exact ⟨E1.1, fun a ha => ⟨E1.k ha, E1.l ha⟩, fun a ha qa => by
        show upR _ _ _ _ a = _
        rw [upR_ne qa]
        exact (E1.2 a ha).2.2⟩
    have r2 : ∀ i, rH h2 (hO x bl g + 1) i = if i = j then nH h else rH h (hO x bl g + 1) i := fun i => by
      rw [hh2]
      show upR _ _ _ _ _ i = _
      rw [upR_at]
      by_cases ei : i = j
      · rw [if_pos ei, if_pos ei]
      · rw [if_neg ei, if_neg ei]
        exact congrFun s3 i
    have n2 : nH h2 = nH h + 10 := by rw [hh2]; exact a2.1
    have z2 : zH h2 = zH h + 6800 := by rw [hh2]; exact a2.2.1
    have i2 : ∀ a, a < nH h → h2.2 a = h.2 a := fun a ha => by rw [hh2]; exact (a2.2.2.1 a ha).2.2
    have O2 : SO h2 (nH h) := a3.so.cg (fun a _ _ => by rw [hh2]) (fun a _ _ => by rw [hh2]) (by rw [hh2]; show upR _ _ _ _ _ = _; rw [upR_ne (by omega)])
    have R2 : Sta h2 s S z := R.exe E2 hs hse (fun a q1 q2 => i2 a (by omega))
    obtain ⟨h3, d1, d2, d3⟩ := c_copy R2 O2 (by omega) h64
    have b3 : BS h3 x B (upB bl (16 * g + j) (nH h)) := (BS.put (h' := h2) b hg hb hj e rfl n2 E2 r2 O2 C).same d2.1
    have nn := (nul_up (bl := bl) (i := 16 * g + j) (v := nH h) e hn 67).2 (by omega)
    refine ⟨h3, nH h, ?_, hn, fun q => absurd e q, fun _ => rfl, b3, d3, ?_, fun a ha qa => ?_, ?_, ?_⟩
    · unfold fX0_keep kX0_keep_0
      rw [if_pos k1, k2, if_pos k3, k4, if_pos hin, hcl, q2 j hj, if_neg (show ¬ ¬ bl (16 * g + j) = 0 from fun q => q e), letH_s, if_pos hn, a1, bV_s, s1, if_pos k3, a3.so.1, if_pos rfl, s2, k4, if_pos hin, letH_s, ← hh2]
      have u1 : kH h2 (hO x bl g) = 10 := by rw [(E2.2.1 _ (by omega)).1]; exact k1
      have u2 : rH h2 (hO x bl g) 0 = hO x bl g + 1 := by rw [E2.2.2 _ (by omega) (by omega)]; exact k2
      have u3 : kH h2 (hO x bl g + 1) = 5 := by rw [(E2.2.1 _ q3).1]; exact k3
      have u4 : lH h2 (hO x bl g + 1) = 16 := by rw [(E2.2.1 _ q3).2]; exact k4
      rw [if_pos u1, u2, if_pos u3, u4, if_pos hin, r2 j, if_pos rfl, if_pos O2.1, d1, bV_s]
    · have := d2.1
      exact ⟨by rw [nh_eq d2.1]; exact E2.1, fun a ha => ⟨(kh_eq d2.1 a).trans (E2.2.1 a ha).1, (lh_eq d2.1 a).trans (E2.2.1 a ha).2⟩, fun a ha qa => by rw [← E2.2.2 a ha qa]; exact funext (fun k => rh_eq d2.1 a k)⟩
    · rw [d2.2 a (by omega)]
      exact i2 a ha
    · rw [nh_eq d2.1, n2]
      have := rm.1
      omega
    · rw [zh_eq d2.1, z2]
      have := rm.2
      omega
  · obtain ⟨b1, b2, b3, b4, b5, b6, b7, b8⟩ := id b
    have O := b4 (16 * g + j) (by omega) e
    have c := b2 (16 * g + j) (by omega) e
    obtain ⟨h3, d1, d2, d3⟩ := c_copy R O (hsep e) h64
    refine ⟨h3, bl (16 * g + j), ?_, e, fun _ => rfl, fun q => absurd q e, by rw [upB_self]; exact b.same d2.1, d3, (Ext.same d2.1).exe _, fun a ha qa => d2.2 a (by omega), ?_, ?_⟩
    · unfold fX0_keep kX0_keep_0
      rw [if_pos k1, k2, if_pos k3, k4, if_pos hin, hcl, q2 j hj, if_pos (show ¬ bl (16 * g + j) = 0 from e), if_pos O.1, d1, bV_s]
    · rw [upB_self, nh_eq d2.1]
      exact rm.1
    · rw [upB_self, zh_eq d2.1]
      exact rm.2
end KE
