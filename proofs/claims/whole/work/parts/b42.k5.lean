/-! ===== SETTLE: the last three rounds; the bound ===== -/
def lowS (S : St) : Prop := ∀ c ∈ sC S, cB c < 4 ∧ nd0 c
section K5
variable {S : St} {z k : Nat}
theorem low_go (B : Bn S) (W : lowS S) (b : Nat) : ∀ c ∈ held (goes b (sC S)), cB c ≠ b := by
  have key : ∀ (p rest : List Ch), sC S = p ++ rest → ∀ q ∈ goes b p, cB q.1 = b → q.2 = true := by
    intro p
    refine snoc_ind (P := fun p => ∀ rest : List Ch, sC S = p ++ rest → ∀ q ∈ goes b p, cB q.1 = b → q.2 = true) (fun rest _ q hq => (by cases hq)) (fun p x ih rest e => ?_) p
    have e' : sC S = p ++ x :: rest := by rw [e]; simp
    have hx : x ∈ sC S := by rw [e']; simp
    have hps : ∀ c ∈ p, c ∈ sC S := fun c hc => by rw [e']; exact List.mem_append_left _ hc
    intro q hq hqb
    rw [goes_snoc] at hq
    rcases List.mem_append.mp hq with r | r
    · exact ih (x :: rest) e' q r hqb
    · rw [List.mem_singleton] at r
      rw [r] at hqb ⊢
      have hqb : cB x = b := hqb
      have h1 : ∀ e ∈ goes b p, 1 ≤ cI e.1 := fun e he => (B e.1 (hps _ (goes_mem he))).1
      have z0 : okN x (goes b p) 0 = true := okN_t (fun e he => ⟨by omega, by have := h1 e he; omega⟩)
      show (cB x == b && mayG x (goes b p)) = true
      rw [hqb, beq_self_eq_true, Bool.true_and]
      unfold mayG
      rw [cnf_t hqb (ih (x :: rest) e'), Bool.and_true]
      obtain ⟨-, d1, d2, d3, d4⟩ := W x hx
      rw [d1, d2, d3, d4, z0]
      rfl
  intro c hc hcb
  have := key (sC S) [] (by simp) _ (held_mem.mp hc) hcb
  cases this
theorem sL_mk (S : St) (b p v : Nat) (n1 n2 n3 n4 : Int) : sL (mk S b p v n1 n2 n3 n4) = sL S := by unfold mk; split <;> rfl
theorem sL_zer (S : St) (n f : Nat) : ∀ x ∈ sL (zer S n f), x ∈ sL S ∨ x.1 = 0 := by
  intro x hx
  unfold zer at hx
  split at hx
  · exact Or.inl hx
  · have hx : x ∈ sL (mkF S n f 0 0 0) ++ [(0, fd (mm S) n f, mkFI S n f 0)] := hx
    rcases List.mem_append.mp hx with q | q
    · unfold mkF at q
      rw [sL_mk] at q
      exact Or.inl q
    · rw [List.mem_singleton] at q
      rw [q]
      exact Or.inr rfl
theorem sL_setL (S : St) (n v : Nat) : ∀ x ∈ sL (setL S n v), x ∈ sL S ∨ x.1 = 0 := by
  intro x hx
  unfold setL at hx
  split at hx
  · unfold empt at hx
    rcases sL_zer _ _ _ x hx with q | q
    · rcases sL_zer _ _ _ x q with r | r
      · unfold mkF at r
        rw [sL_mk, sL_mk] at r
        exact Or.inl r
      · exact Or.inr r
    · exact Or.inr q
  · unfold mkF at hx
    rw [sL_mk] at hx
    exact Or.inl hx
theorem sL_dol (S : St) (e : La) : (∀ x ∈ sL (dol S e), x ∈ sL S ∨ x.1 = 0) ∧ (e.1 = 0 → sL (dol S e) = sL S) := by
  unfold dol
  by_cases h : e.1 = 0
  · rw [if_pos h, sL_mk]
    exact ⟨fun x hx => Or.inl hx, fun _ => rfl⟩
  · rw [if_neg h]
    refine ⟨fun x hx => ?_, fun q => absurd q h⟩
    unfold less at hx
    split at hx
    · exact Or.inl hx
    · exact sL_setL _ _ _ x hx
theorem sL_dols : ∀ (T : List La) (Y : St), (∀ x ∈ sL (T.foldl dol Y), x ∈ sL Y ∨ x.1 = 0) ∧ ((∀ e ∈ T, e.1 = 0) → sL (T.foldl dol Y) = sL Y) := by
  intro T
  induction T with
  | nil => intro Y; exact ⟨fun x hx => Or.inl hx, fun _ => rfl⟩
  | cons e T ih =>
    intro Y
    obtain ⟨i1, i2⟩ := ih (dol Y e)
    obtain ⟨d1, d2⟩ := sL_dol Y e
    refine ⟨fun x hx => ?_, fun h => ?_⟩
    · rcases i1 x hx with q | q
      · exact d1 x q
      · exact Or.inr q
    · show sL (T.foldl dol (dol Y e)) = _
      rw [i2 (fun e' he' => h e' (List.mem_cons_of_mem _ he')), d2 (h e List.mem_cons_self)]
theorem sL_wrs (L : Lk S) (b : Nat) : (∀ x ∈ sL (wrs S b), x ∈ sL S ∨ x.1 = 0) ∧ ((∀ e ∈ sL S, e.1 = 0) → ∀ x ∈ sL (wrs S b), x ∈ sL S) ∧ (sL S = [] → sM (wrs S b) = sM S ∧ sL (wrs S b) = []) := by
  rcases wrs_ex L b with ⟨-, e⟩ | ⟨-, -, e⟩
  · rw [e]
    exact ⟨fun x hx => Or.inl hx, fun _ x hx => hx, fun h => ⟨rfl, h⟩⟩
  · rw [e]
    obtain ⟨i1, i2⟩ := sL_dols (dueL S b) (wrK S b)
    have hs : ∀ x ∈ sL (wrK S b), x ∈ sL S := fun x hx => (List.mem_filter.mp hx).1
    refine ⟨fun x hx => ?_, fun h x hx => ?_, fun h => ?_⟩
    · rcases i1 x hx with q | q
      · exact Or.inl (hs x q)
      · exact Or.inr q
    · rw [i2 (fun e he => h e (List.mem_filter.mp he).1)] at hx
      exact hs x hx
    · have hd : dueL S b = [] := by unfold dueL; rw [h]; rfl
      rw [hd]
      refine ⟨rfl, ?_⟩
      show (sL S).filter _ = []
      rw [h]
      rfl
/-- pending behind a write, as seen from M: old ones lie in blocks above -/
def Pst (S : St) (M b : Nat) : Prop := ∀ c ∈ sC S, M < cI c ∨ b ≤ cB c
theorem low_wrs (I : Inv S z k) (B : Bn S) (W : lowS S) {M b : Nat} (hM : M ≤ sM S) (P : Pst S M b) : lowS (wrs S b) ∧ Pst (wrs S b) M (b + 1) := by
  have L := inv_lk I
  refine ⟨fun c hc => ?_, fun c hc => ?_⟩
  · rcases wrs_mem L b hc with q | q
    · exact W c q
    · exact ⟨q.2.2.1, q.1⟩
  · rcases wrs_ex L b with ⟨hd, e⟩ | ⟨-, ⟨h1, X, h2, h3⟩, -⟩
    · rw [e] at hc
      rcases P c hc with q | q
      · exact Or.inl q
      · have : cB c ≠ b := fun r => by
          rw [dirt_iff.mpr ⟨c, hc, r⟩] at hd
          cases hd
        exact Or.inr (by omega)
    · rw [h2] at hc
      rcases List.mem_append.mp hc with q | q
      · have hne := low_go B W b c q
        rcases P c ((held_sub b (sC S)).subset q) with r | r
        · exact Or.inl r
        · exact Or.inr (by omega)
      · have := (h3 c q).2.1
        have : sM S < cI c := this
        exact Or.inl (by omega)
theorem low_go2 : ∀ (n b : Nat) (S : St) (M : Nat), Inv S z (k + 240 * n) → Bn S → Nk S → lowS S → M ≤ sM S → Pst S M b →
    lowS (syF S (List.range' b n)) ∧ Pst (syF S (List.range' b n)) M (b + n) ∧ (∀ x ∈ sL (syF S (List.range' b n)), x ∈ sL S ∨ x.1 = 0) ∧ ((∀ e ∈ sL S, e.1 = 0) → ∀ x ∈ sL (syF S (List.range' b n)), x ∈ sL S) ∧ (sL S = [] → sM (syF S (List.range' b n)) = sM S) := by
  intro n
  induction n with
  | zero =>
    intro b S M I B N W hM P
    exact ⟨W, P, fun x hx => Or.inl hx, fun _ x hx => hx, fun _ => rfl⟩
  | succ n ih =>
    intro b S M I B N W hM P
    have L := inv_lk I
    obtain ⟨w1, w2⟩ := low_wrs I B W hM P
    have N1 := nk_wrs N b
    obtain ⟨i1, i2, i3, i4, i5⟩ := ih (b + 1) (wrs S b) M (inv_wrs (I.le (by omega)) b) N1.1 N1 w1 (Nat.le_trans hM (wrs_sM L b)) w2
    obtain ⟨s1, s2, s3⟩ := sL_wrs L b
    rw [List.range'_succ]
    refine ⟨i1, by rw [show b + (n + 1) = b + 1 + n by omega]; exact i2, fun x hx => ?_, fun h x hx => ?_, fun h => ?_⟩
    · rcases i3 x hx with q | q
      · exact s1 x q
      · exact Or.inr q
    · have s2' := s2 h
      exact s2' x (i4 (fun e he => h e (s2' e he)) x hx)
    · obtain ⟨t1, t2⟩ := s3 h
      have := i5 t2
      have e : syF S (b :: List.range' (b + 1) n) = syF (wrs S b) (List.range' (b + 1) n) := rfl
      rw [e, this, t1]
theorem low_round (I : Inv S z (k + 3840)) (N : Nk S) (W : lowS S) : lowS (syF S (rng z)) ∧ (∀ c ∈ sC (syF S (rng z)), sM S < cI c) ∧ (∀ x ∈ sL (syF S (rng z)), x ∈ sL S ∨ x.1 = 0) ∧ ((∀ e ∈ sL S, e.1 = 0) → ∀ x ∈ sL (syF S (rng z)), x ∈ sL S) ∧ (sL S = [] → sM (syF S (rng z)) = sM S) := by
  obtain ⟨hz1, hz2⟩ := I.1
  obtain ⟨h1, h2, h3, h4, h5⟩ := low_go2 (k := k) z 0 S (sM S) (I.le (by omega)) N.1 N W (Nat.le_refl _) (fun c _ => Or.inr (Nat.zero_le _))
  refine ⟨h1, fun c hc => ?_, h3, h4, h5⟩
  rcases h2 c hc with q | q
  · exact q
  · have := (h1 c hc).1
    omega
theorem inv_la (I : Inv S z k) : ∀ e ∈ sL S, ∃ c ∈ sC S, cI c = e.2.2 := I.2.1.2.2.1.1
/-! all rounds together -/
def sett (z : Nat) : Nat → St → Nat × St
  | 0, S => (0, S)
  | n + 1, S => if (sC S).isEmpty = true then (0, S) else (nW S (rng z) + (sett z n (syF S (rng z))).1, (sett z n (syF S (rng z))).2)
theorem sett_s (z n : Nat) (S : St) : sett z (n + 1) S = if (sC S).isEmpty = true then (0, S) else (nW S (rng z) + (sett z n (syF S (rng z))).1, (sett z n (syF S (rng z))).2) := rfl
theorem sett_nil (h : sC S = []) (n : Nat) : sett z n S = (0, S) := by
  cases n with
  | zero => rfl
  | succ n => rw [sett_s, h]; rfl
def Done (z n B : Nat) (S : St) : Prop := sC (sett z n S).2 = [] ∧ (sett z n S).1 ≤ B
theorem done_nil (h : sC S = []) (n B : Nat) : Done z n B S := by
  unfold Done
  rw [sett_nil h]
  exact ⟨h, Nat.zero_le _⟩
theorem done_step {n A B : Nat} (h : nW S (rng z) ≤ A) (d : Done z n B (syF S (rng z))) : Done z (n + 1) (A + B) S := by
  unfold Done at d ⊢
  rw [sett_s]
  by_cases e : (sC S).isEmpty = true
  · rw [if_pos e]
    exact ⟨by simpa using e, Nat.zero_le _⟩
  · rw [if_neg e]
    exact ⟨d.1, by show nW S (rng z) + _ ≤ _; omega⟩
theorem dD_low (W : lowS S) : dD S z = 0 := by
  unfold dD
  rw [List.length_eq_zero_iff, List.filter_eq_nil_iff]
  intro b hb q
  obtain ⟨c, hc, e⟩ := dirt_iff.mp q
  have := (W c hc).1
  rw [List.mem_range'_1] at hb
  omega
theorem done_low (I : Inv S z (k + 3840 * 3)) (N : Nk S) (W : lowS S) : Done z 3 12 S := by
  have hlen : (rng z).length = z := List.length_range'
  obtain ⟨hz1, hz2⟩ := I.1
  have I1 : Inv (syF S (rng z)) z (k + 3840 * 2) := inv_syF _ _ (I.le (by rw [hlen]; omega))
  have I2 : Inv (syF (syF S (rng z)) (rng z)) z (k + 3840) := inv_syF _ _ (I1.le (by rw [hlen]; omega))
  have I3 : Inv (syF (syF (syF S (rng z)) (rng z)) (rng z)) z k := inv_syF _ _ (I2.le (by rw [hlen]; omega))
  have N1 := nk_syF (rng z) _ N
  have N2 := nk_syF (rng z) _ N1
  have N3 := nk_syF (rng z) _ N2
  obtain ⟨a1, a2, a3, a4, a5⟩ := low_round (k := k + 3840 * 2) I N W
  obtain ⟨b1, b2, b3, b4, b5⟩ := low_round (k := k + 3840) I1 N1 a1
  obtain ⟨c1, c2, c3, c4, c5⟩ := low_round (k := k) I2 N2 b1
  have h1 := nW_round (k := k + 3840 * 2) I
  have h2 := nW_round (k := k + 3840) I1
  have h3 := nW_round (k := k) I2
  rw [dD_low W] at h1
  rw [dD_low a1] at h2
  rw [dD_low b1] at h3
  have q1 : ∀ e ∈ sL (syF S (rng z)), e.1 = 0 := fun e he => by
    rcases a3 e he with q | q
    · exfalso
      obtain ⟨c, hc, e1⟩ := inv_la I e q
      obtain ⟨d, hd, e2⟩ := inv_la I1 e he
      have := (N.1 c hc).2.1
      have := a2 d hd
      omega
    · exact q
  have q2 : sL (syF (syF S (rng z)) (rng z)) = [] := by
    refine List.eq_nil_iff_forall_not_mem.mpr (fun e he => ?_)
    have h := b4 q1 e he
    obtain ⟨c, hc, e1⟩ := inv_la I1 e h
    obtain ⟨d, hd, e2⟩ := inv_la I2 e he
    have := (N1.1 c hc).2.1
    have := b2 d hd
    omega
  have q3 : sC (syF (syF (syF S (rng z)) (rng z)) (rng z)) = [] := by
    refine List.eq_nil_iff_forall_not_mem.mpr (fun c hc => ?_)
    have h := c5 q2
    have := c2 c hc
    have := (N3.1 c hc).2.1
    omega
  exact done_step h1 (done_step h2 (done_step h3 (done_nil q3 0 0)))
theorem ee_low (I : Inv S z k) (E : EE S z) (h0 : pp S = 0) : lowS S := fun c hc => by
  have hno : ∀ c ∈ sC S, ¬ pnz c := fun c hc hp => by
    unfold pp at h0
    rw [List.length_eq_zero_iff, List.filter_eq_nil_iff] at h0
    exact h0 c hc (pb_iff.mpr hp)
  have hK := I.2.1.1.2.1 c hc
  rcases hK with q | q | q | q
  · exact ⟨by omega, q.2.2.2.2⟩
  · exact ⟨by have := q.1; unfold isLT at this; omega, q.2.1⟩
  · refine ⟨by have := q.1; unfold isPT at this; omega, ?_⟩
    rcases q.2 with r | r
    · exact r.2
    · exact absurd ⟨q.1, by omega⟩ (hno c hc)
  · obtain ⟨d, hd, d1, d2, w, hw, w1, -⟩ := E.2 (cB c) q.1 q.2.1 c hc rfl
    exact absurd w1 (hno w hw)
def bnd : Nat → Nat
  | 0 => 12
  | p + 1 => 4 + (p + 1) + bnd p
theorem done_ee : ∀ (p : Nat) (S : St), Inv S z (k + 3840 * (p + 3)) → Nk S → EE S z → pp S ≤ p → Done z (p + 3) (bnd p) S := by
  intro p
  induction p with
  | zero => intro S I N E h; exact done_low (k := k) (I.le (by omega)) N (ee_low I E (by omega))
  | succ p ih =>
    intro S I N E h
    have hlen : (rng z).length = z := List.length_range'
    obtain ⟨hz1, hz2⟩ := I.1
    have I1 : Inv (syF S (rng z)) z (k + 3840 * (p + 3)) := inv_syF _ _ (I.le (by rw [hlen]; omega))
    have hw := nW_round (k := k) (I.le (by omega))
    have hd := dD_pp I N E
    have hpp : pp (syF S (rng z)) ≤ p := by
      by_cases h0 : pp S = 0
      · have := pp_syF (k := k + 3840 * (p + 3)) (rng z) S (I.le (by rw [hlen]; omega))
        omega
      · have := pp_round (k := k) (I.le (by omega)) N E h0
        omega
    have := ih (syF S (rng z)) I1 (nk_syF _ _ N) (ee_next (k := k) (I.le (by omega)) N E) hpp
    exact done_step (A := 4 + (p + 1)) (by omega) this
theorem bnd12 : bnd 12 = 138 := rfl
/-- SETTLE ends, by at most 154 writes -/
theorem settles_ends (I : Inv S z (k + 3840 * 16)) (N : Nk S) : Done z 16 154 S := by
  have hlen : (rng z).length = z := List.length_range'
  obtain ⟨hz1, hz2⟩ := I.1
  have I1 : Inv (syF S (rng z)) z (k + 3840 * 15) := inv_syF _ _ (I.le (by rw [hlen]; omega))
  have h1 := done_ee (k := k) 12 (syF S (rng z)) I1 (nk_syF _ _ N) (ee_first (k := k) (I.le (by omega)) N) (pp_12 I1)
  have hw := nW_round (k := k) (I.le (by omega))
  have hd : dD S z ≤ 12 := by
    unfold dD
    have := List.length_filter_le (dirt S) (List.range' 4 (z - 4))
    rw [List.length_range'] at this
    omega
  exact done_step (A := 16) (B := 138) (by omega) h1
theorem sett_more : ∀ (n m : Nat) (S : St), sC (sett z n S).2 = [] → sett z (n + m) S = sett z n S := by
  intro n
  induction n with
  | zero =>
    intro m S h
    have h : sC S = [] := h
    rw [sett_nil h, sett_nil h]
  | succ n ih =>
    intro m S h
    rw [show n + 1 + m = n + m + 1 by omega, sett_s, sett_s]
    rw [sett_s] at h
    by_cases e : (sC S).isEmpty = true
    · rw [if_pos e, if_pos e]
    · rw [if_neg e, if_neg e]
      rw [if_neg e] at h
      rw [ih m _ h]
end K5
