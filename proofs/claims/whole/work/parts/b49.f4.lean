/-! ===== sweeps, both sides ===== -/
/-- LINKS and the map are no more than they were -/
def LEs (S S' : St) : Prop := (∀ n, n < 12 → fd (mm S') n 0 ≤ fd (mm S) n 0) ∧ ∀ x, x < 16 → mm S' x ≤ mm S x
theorem LEs.refl (S : St) : LEs S S := ⟨fun _ _ => Nat.le_refl _, fun _ _ => Nat.le_refl _⟩
theorem LEs.trans {A B C : St} (a : LEs A B) (b : LEs B C) : LEs A C := ⟨fun n hn => Nat.le_trans (b.1 n hn) (a.1 n hn), fun x hx => Nat.le_trans (b.2 x hx) (a.2 x hx)⟩
def mu (S : St) : Nat := sr (fun n => fd (mm S) n 0) 0 12 + sr (mm S) 0 16
theorem sr_mono {f g : Nat → Nat} (c d : Nat) (h : ∀ i, d ≤ i → i < d + c → f i ≤ g i) : sr f d c ≤ sr g d c := by
  induction c generalizing d with
  | zero => exact Nat.le_refl _
  | succ c ih =>
    rw [sr_s, sr_s]
    have h1 := ih (d + 1) (fun i h1 h2 => h i (by omega) (by omega))
    have h2 := h d (Nat.le_refl _) (by omega)
    omega
theorem sr_lt {f g : Nat → Nat} (c d : Nat) (h : ∀ i, d ≤ i → i < d + c → f i ≤ g i) {j : Nat} (hj : d ≤ j ∧ j < d + c) (hs : f j < g j) : sr f d c < sr g d c := by
  induction c generalizing d with
  | zero => omega
  | succ c ih =>
    rw [sr_s, sr_s]
    have h2 := h d (Nat.le_refl _) (by omega)
    by_cases e : j = d
    · have h1 := sr_mono (f := f) (g := g) c (d + 1) (fun i h1 h2 => h i (by omega) (by omega))
      rw [e] at hs
      omega
    · have h1 := ih (d + 1) (fun i h1 h2 => h i (by omega) (by omega)) (by omega)
      omega
theorem mu_le {S S' : St} (l : LEs S S') : mu S' ≤ mu S := by
  have h1 := sr_mono (f := fun n => fd (mm S') n 0) (g := fun n => fd (mm S) n 0) 12 0 (fun i _ h => l.1 i (by omega))
  have h2 := sr_mono (f := mm S') (g := mm S) 16 0 (fun i _ h => l.2 i (by omega))
  unfold mu
  omega
theorem mu_lt1 {S S' : St} (l : LEs S S') {n : Nat} (hn : n < 12) (h : fd (mm S') n 0 < fd (mm S) n 0) : mu S' < mu S := by
  have h1 := sr_lt (f := fun n => fd (mm S') n 0) (g := fun n => fd (mm S) n 0) 12 0 (fun i _ h => l.1 i (by omega)) (j := n) (by omega) h
  have h2 := sr_mono (f := mm S') (g := mm S) 16 0 (fun i _ h => l.2 i (by omega))
  unfold mu
  omega
theorem mu_lt2 {S S' : St} (l : LEs S S') {b : Nat} (hb : b < 16) (h : mm S' b < mm S b) : mu S' < mu S := by
  have h1 := sr_mono (f := fun n => fd (mm S') n 0) (g := fun n => fd (mm S) n 0) 12 0 (fun i _ h => l.1 i (by omega))
  have h2 := sr_lt (f := mm S') (g := mm S) 16 0 (fun i _ h => l.2 i (by omega)) (j := b) (by omega) h
  unfold mu
  omega
section F4
variable {h : Hp} {x m z k : Nat} {S : St}
theorem mu_3556 (B : Bd S) : mu S ≤ 3556 := by
  have h1 := sr_mono (f := fun n => fd (mm S) n 0) (g := fun _ => 127) 12 0 (fun i _ _ => by have := bd_mm B (16 + 4 * i + 0); unfold fd; omega)
  have h2 := sr_mono (f := mm S) (g := fun _ => 127) 16 0 (fun i _ _ => by have := bd_mm B i; omega)
  have h3 : sr (fun _ => 127) 0 12 = 1524 := rfl
  have h4 : sr (fun _ => 127) 0 16 = 2032 := rfl
  unfold mu
  omega
theorem le_map {b : Nat} (hb : b < 16) : LEs S (mk S 0 b 0 0 0 0 0) := by
  refine ⟨fun n hn => ?_, fun x hx => ?_⟩
  · unfold fd
    rw [mm_put hb]
    split
    · exact Nat.zero_le _
    · exact Nat.le_refl _
  · rw [mm_put hb]
    split
    · exact Nat.zero_le _
    · exact Nat.le_refl _
theorem mm_setL16 {n v x : Nat} (hx : x < 16) : mm (setL S n v) x = mm S x := by
  have hz : ∀ (S : St) (f : Nat), f < 4 → mm (zer S n f) x = mm S x := fun S f hf => by
    unfold zer
    split
    · rfl
    · show mm (mkF S n f 0 0 0) x = _
      rw [mm_fld hf, if_neg (by omega)]
  unfold setL empt
  split
  · rw [hz _ 3 (by decide), hz _ 2 (by decide), mm_fld (by decide), if_neg (by omega), mm_fld (by decide), if_neg (by omega)]
  · rw [mm_fld (by decide), if_neg (by omega)]
theorem le_setL {n v : Nat} (hv : v ≤ fd (mm S) n 0) : LEs S (setL S n v) := by
  refine ⟨fun j hj => ?_, fun x hx => ?_⟩
  · rw [fd_setL (by decide)]
    by_cases e : j = n
    · rw [if_pos e, if_pos rfl, e]; exact hv
    · rw [if_neg e]; exact Nat.le_refl _
  · rw [mm_setL16 hx]; exact Nat.le_refl _
theorem le_dol {e : La} (hb : e.2.1 < 16) : LEs S (dol S e) := by
  unfold dol
  split
  · exact le_map hb
  · unfold less
    split
    · exact LEs.refl S
    · exact le_setL (by omega)
theorem le_dols : ∀ (T : List La) (Y : St), (∀ e ∈ T, e.2.1 < 16) → LEs Y (T.foldl dol Y) := by
  intro T
  induction T with
  | nil => intro Y _; exact LEs.refl Y
  | cons e T ih => intro Y h; exact (le_dol (h e List.mem_cons_self)).trans (ih _ (fun e' he' => h e' (List.mem_cons_of_mem _ he')))
theorem le_wrs (B : Bd S) (b : Nat) : LEs S (wrs S b) := by
  unfold wrs
  split
  · rw [wr_wrK]
    have h1 : LEs S (wrK S b) := by
      have : mm (wrK S b) = mm S := funext (fun x => mm_wrK S b x)
      unfold LEs
      rw [this]
      exact ⟨fun _ _ => Nat.le_refl _, fun _ _ => Nat.le_refl _⟩
    exact h1.trans (le_dols _ _ (fun e he => (B.2.2.2.2.2.1 e (List.mem_filter.mp he).1).2.1))
  · exact LEs.refl S
theorem le_syF : ∀ (l : List Nat) (S : St), Inv S z (k + 240 * l.length) → LEs S (syF S l) := by
  intro l
  induction l with
  | nil => intro S _; exact LEs.refl S
  | cons b l ih =>
    intro S I
    rw [List.length_cons] at I
    exact (le_wrs I.2.1.1.1 b).trans (ih (wrs S b) (inv_wrs (I.le (by omega)) b))
theorem le_sett : ∀ (n : Nat) (S : St), Inv S z (k + 3840 * n) → LEs S (sett z n S).2 := by
  intro n
  induction n with
  | zero => intro S _; exact LEs.refl S
  | succ n ih =>
    intro S I
    have hz := I.1
    have hlen : (rng z).length = z := List.length_range'
    rw [sett_s]
    split
    · exact LEs.refl S
    · exact (le_syF (k := k + 3840 * n) (rng z) S (I.le (by rw [hlen]; omega))).trans (ih _ (inv_syF _ _ (I.le (by rw [hlen]; omega))))
theorem inx_sett : ∀ (n : Nat) (S : St), Inx S z (k + 3840 * n) → Inx (sett z n S).2 z k := by
  intro n
  induction n with
  | zero => intro S I; exact I
  | succ n ih =>
    intro S I
    have hz := I.1.1.1
    have hlen : (rng z).length = z := List.length_range'
    rw [sett_s]
    split
    · exact I.le (by omega)
    · exact ih _ (inx_syF (k := k + 3840 * n) (rng z) S (I.le (by rw [hlen]; omega)))
/-- nothing is pending -/
def Still (S : St) : Prop := sC S = [] ∧ sL S = []
theorem still_of (I : Inv S z k) (h : sC S = []) : Still S := by
  refine ⟨h, List.eq_nil_iff_forall_not_mem.mpr (fun e he => ?_)⟩
  obtain ⟨c, hc, -⟩ := inv_la I e he
  rw [h] at hc
  cases hc
theorem still_full (T : Still S) : full S = false := by
  unfold full
  rw [T.1, T.2]
  rfl
theorem swp_lt (hz2 : z ≤ 16) (h : (sSwp S z).1 = true) : LEs S (sSwp S z).2 ∧ mu (sSwp S z).2 < mu S := by
  unfold sSwp at h ⊢
  cases hn : swN S with
  | some n =>
    have h1 := List.find?_some hn
    have h2 := List.mem_of_find?_eq_some hn
    rw [List.mem_range'_1] at h2
    have h1 : nmd (mm S) n + cntL S 1 n < fd (mm S) n 0 := by simpa using h1
    have l : LEs S (setL S n (nmd (mm S) n + cntL S 1 n)) := le_setL (by omega)
    refine ⟨l, mu_lt1 l (n := n) (by omega) ?_⟩
    rw [fd_setL (by decide), if_pos rfl, if_pos rfl]
    exact h1
  | none =>
    rw [hn] at h
    cases hb : swB S z with
    | none =>
      rw [hb] at h
      cases h
    | some b =>
      have h1 := List.find?_some hb
      have h2 := List.mem_of_find?_eq_some hb
      rw [List.mem_range'_1] at h2
      have hb16 : b < 16 := by omega
      have l : LEs S (mk S 0 b 0 0 0 0 0) := le_map hb16
      refine ⟨l, mu_lt2 l hb16 ?_⟩
      rw [mm_put hb16, if_pos (by omega)]
      have h3 : (!(mm S b == 0)) = true := by
        have h1 : (!(mm S b == 0) && ((ptrF (mm S) (lnkN (mm S)) b).isNone && cntL S 0 b == 0)) = true := h1
        rw [Bool.and_eq_true] at h1
        exact h1.1
      have h4 : mm S b ≠ 0 := by simpa using h3
      omega
noncomputable def swp (z : Nat) : Nat → St → Nat
  | 0, _ => 0
  | n + 1, S => if (sSwp S z).1 = true then 1 + swp z n (sett z 16 (sSwp S z).2).2 else 0
theorem swp_s (z n : Nat) (S : St) : swp z (n + 1) S = if (sSwp S z).1 = true then 1 + swp z n (sett z 16 (sSwp S z).2).2 else 0 := rfl
noncomputable def aSweeps (S : St) (z : Nat) : An := .inl (nI (swp z 3557 (sCrs S)))
theorem sDo_10 (T : Still S) : sDo S z 10 0 0 0 = sSwp S z := by
  unfold sDo
  rw [if_neg (by rw [still_full T]; simp), if_neg (by decide), if_neg (by decide), if_neg (by decide), if_neg (by decide), if_neg (by decide), if_neg (by decide), if_neg (by decide), if_neg (by decide), if_neg (by decide), if_neg (by decide)]
theorem ok_10 : okS 10 0 0 0 := by unfold okS; omega
theorem inx_swp (I : Inx S z (k + 65280)) (T : Still S) : Inx (sSwp S z).2 z (k + 61440) := by
  have := inx_step (k := k + 61440) (op := 10) (a := 0) (b := 0) (c := 0) I ok_10
  rw [sDo_10 T] at this
  exact this
theorem swp_next (I : Inx S z (k + 65280)) (T : Still S) : Inx (sett z 16 (sSwp S z).2).2 z k ∧ Still (sett z 16 (sSwp S z).2).2 ∧ ((sSwp S z).1 = true → mu (sett z 16 (sSwp S z).2).2 < mu S) := by
  have I1 := inx_swp I T
  have I2 : Inx (sett z 16 (sSwp S z).2).2 z k := inx_sett 16 _ I1
  have D := (settles_ends (k := k) I1.1.1 I1.2).1
  refine ⟨I2, still_of I2.1.1 D, fun h => ?_⟩
  have h1 := (swp_lt I.1.1.1.2 h).2
  have h2 := mu_le (le_sett (k := k) 16 _ I1.1.1)
  omega
theorem c_swps_go {s : Nat} (hs : s = x + 42) : ∀ (n u f : Nat) (S : St) (h : Hp), u + n ≤ 9999 → n < f → Sta h s S z → CO h x → Inx S z (k + 65280 * n) → Still S → mu S < n →
    ∃ h', gX9_sweeps f 23 [.ref x, .ref s, .int (nI u), .int (nI u)] [] h = some (.inl (some (.int (nI (u + swp z n S)))), h') ∧ Scr h h' x := by
  intro n
  induction n with
  | zero => intro u f S h _ _ _ _ _ _ hmu; omega
  | succ n ih =>
    intro u f S h hu hf R C I T hmu
    obtain ⟨f, rfl⟩ := sc hf
    rw [zX9_sweeps_23, swp_s]
    unfold kX9_sweeps_23
    have I0 : Inx S z (k + 65280 * n + 65280) := I.le (by omega)
    obtain ⟨h1, a1, a2, a3⟩ := c_take (t := x + 20) (k := 10) (a := 0) (b := 0) (c := 0) R C.stp (by omega) ok_10 (inv_RdC (k := k) (I.1.1.le (by omega)) 10 0)
    have a1 : fX6_take (x + 20) s 7 0 0 0 h = _ := a1
    rw [sDo_10 T] at a1 a3
    have C1 := C.eq a2.1
    have s1 : Scr h h1 x := scr_ownP (p := x + 21) (s := s) (by omega) (Or.inr rfl) a2
    obtain ⟨n1, n2, n3⟩ := swp_next (k := k + 65280 * n) I0 T
    rw [if_neg (by rw [show (10000 : Int32) = nI 10000 from rfl, nI_leI (by decide) (by omega)]; omega), if_pos C.k, C.r5, if_pos C.stp.1, a1, bI_s]
    cases hw : (sSwp S z).1 with
    | false =>
      rw [if_neg (show ¬ ¬ b2i false = 0 by decide), if_neg (by decide)]
      exact ⟨h1, rfl, s1⟩
    | true =>
      have I1 := inx_swp (k := k + 65280 * n) I0 T
      obtain ⟨h2, b1, b2, b3⟩ := c_settleAll (p := x + 15) (k := k + 65280 * n) (by omega) a3 C1.pen I1.1.1 I1.2
      have C2 := C1.eq b2.1
      have hlt := n3 hw
      obtain ⟨h3, i1, i2⟩ := ih (u + 1) f (sett z 16 (sSwp S z).2).2 h2 (by omega) (by omega) b3 C2 n1 n2 (by omega)
      refine ⟨h3, ?_, (s1.trans (scr_ownP (p := x + 15) (s := s) (by omega) (Or.inl rfl) b2)).trans i2⟩
      rw [if_pos (show ¬ b2i true = 0 by decide), if_pos rfl, if_pos C1.k, C1.r4, if_pos C1.pen.1, b1, bI_s, nI_1, i1, Nat.add_assoc]
theorem cq_sweeps (Q : CQ h x S z) (I : Inx S z (k + 65280 * 3557)) : ClsA (fX9_sweeps x h) h x (aSweeps S z) := by
  obtain ⟨C, R⟩ := id Q
  obtain ⟨s1, s2, s3⟩ := C.spa
  obtain ⟨t1, t2⟩ := C.spr (i := 0) (by decide)
  obtain ⟨h1, a1, a2, a3⟩ := c_spare Q I.1.1 (i := 0) (by decide)
  have t1 : rH h (x + 14) 0 = x + 42 := t1
  have t2 : SO h (x + 42) := t2
  have a1 : fX5_copyFrom (x + 42) (x + 1) h = some (.inl none, h1) := a1
  have a2 : Own h h1 (x + 42) := a2
  have a3 : Sta h1 (x + 42) S z := a3
  obtain ⟨h2, b1, b2, b3⟩ := c_crash a3
  have C1 := C.eq a2.1
  have C2 := C1.eq b2.1
  have I1 : Inx (sCrs S) z (k + 65280 * 3557) := inx_crs I
  have hmu := mu_3556 I1.1.1.2.1.1.1
  obtain ⟨h3, c1, c2⟩ := c_swps_go (x := x) (k := k) rfl 3557 0 FF (sCrs S) h2 (by decide) (by decide) b3 C2 I1 ⟨rfl, rfl⟩ (by omega)
  unfold fX9_sweeps kX9_sweeps_0
  rw [if_pos C.k, s1, if_pos s2, s3, if_pos (by decide), t1, if_pos t2.1, C.r0, a1, bV_s, if_pos a3.so.1, b1, bV_s]
  rw [Nat.zero_add] at c1
  exact clsA_i c1 (((scr_own (by omega) a2).trans (scr_own (by omega) b2)).trans c2)
theorem m_swps_go (hz1 : 6 ≤ z) (hz2 : z ≤ 16) : ∀ (n u f : Nat) (S : St) (h : Hp), n < f → Row h (m + 119) S → MS h m → h.2 m 11 = nI z → Inx S z (k + 65280 * n) → Still S → mu S < n →
    ∃ h', gX10_sweeps f 26 [.ref m, .int (nI u)] [] h = some (.inl (some (.int (nI (u + swp z n S)))), h') ∧ SxM h h' m (m + 119) := by
  intro n
  induction n with
  | zero => intro u f S h _ _ _ _ _ _ hmu; omega
  | succ n ih =>
    intro u f S h hf R M Z I T hmu
    obtain ⟨f, rfl⟩ := sc hf
    rw [zX10_sweeps_26, swp_s]
    unfold kX10_sweeps_26
    have I0 : Inx S z (k + 65280 * n + 65280) := I.le (by omega)
    have hsl : Sl S 4 2 4 := (inv_Sl (k := k) (I.1.1.le (by omega)) (still_full T)).le (by omega) (by omega) (by omega)
    obtain ⟨h1, a1, a2, a3, a4⟩ := m_sweepsOne R (inv_wfm I.1.1).1 M.k Z hz1 hz2 hsl
    have M1 := M.eq a2
    have s1 : SxM h h1 m (m + 119) := ⟨a2, fun y hy _ _ _ _ => a3 y hy, fun j _ _ _ => by rw [a3 m (by omega)]⟩
    obtain ⟨n1, n2, n3⟩ := swp_next (k := k + 65280 * n) I0 T
    rw [if_pos M.k, M.tri.1, a1, bI_s]
    cases hw : (sSwp S z).1 with
    | false =>
      rw [if_pos (show b2i false = 0 by decide), if_neg (by decide)]
      exact ⟨h1, rfl, s1⟩
    | true =>
      have I1 := inx_swp (k := k + 65280 * n) I0 T
      obtain ⟨h2, b1, b2, b3, -, -⟩ := m_settles (m := m) (r := m + 119) (k := k + 65280 * n) (by omega) a4 M1.mo (by rw [a3 m (by omega)]; exact Z) I1.1.1 I1.2
      have M2 := M1.eq b2.1
      have hlt := n3 hw
      obtain ⟨h3, i1, i2⟩ := ih (u + 1) f (sett z 16 (sSwp S z).2).2 h2 (by omega) b3 M2 (by rw [b2.2.2 11 (by decide) (by decide) (by decide), a3 m (by omega)]; exact Z) n1 n2 (by omega)
      refine ⟨h3, ?_, (s1.trans b2).trans i2⟩
      rw [if_neg (show ¬ b2i true = 0 by decide), if_pos rfl, if_pos M1.k, M1.tri.1, b1, bI_s, nI_1, i1, Nat.add_assoc]
theorem rq_sweeps (Q : RQ h m S z) (I : Inx S z (k + 65280 * 3557)) : RefA (fX10_sweeps m h) h m (aSweeps S z) := by
  obtain ⟨hz1, hz2⟩ := I.1.1.1
  obtain ⟨M0, -, -⟩ := id Q
  obtain ⟨h1, a1, a2, a3, a4⟩ := m_trial Q.th0
  have Q1 := Q.th0.scm a2
  obtain ⟨M1, R1, Z1⟩ := id Q1
  obtain ⟨h2, b1, b2, b3, b4⟩ := m_crashes a3
  have M2 := M1.eq b2
  have I1 : Inx (sCrs S) z (k + 65280 * 3557) := inx_crs I
  have hmu := mu_3556 I1.1.1.2.1.1.1
  obtain ⟨h3, c1, c2⟩ := m_swps_go (m := m) (k := k) hz1 hz2 3557 0 FF (sCrs S) h2 (by decide) b4 M2 (by rw [b3 m (by omega)]; exact Z1) I1 ⟨rfl, rfl⟩ (by omega)
  unfold fX10_sweeps kX10_sweeps_0
  rw [if_pos M0.k, M0.now.1, M0.tri.1, a1, bV_s, if_pos M1.k, M1.tri.1, b1, bI_s]
  rw [Nat.zero_add] at c1
  have s2 : ScM h1 h2 m := ⟨b2, fun y hy => b3 y (by unfold perM at hy; omega), fun j _ => by rw [b3 m (by omega)]⟩
  refine refA_i c1 ((((scm_th0 h m).trans a2).trans s2).trans (scm_sx c2)) ?_
  rw [c2.2.2 0 (by decide) (by decide) (by decide), b3 m (by omega), a4]
  exact th0_0 h m
end F4
