/-! ===== no rings: all steps ===== -/
section R8s
variable {S : St} {z i j k : Nat} {t p : Nat → Int}
theorem nr_grow (hz : z ≤ 16) (I : Iv S z 7 j 7) (N : Nr S t p) {n v : Nat} (hn : n < 12) (hv : v < 128) : Nr (sGrow S z n v).2 t p := by
  unfold sGrow
  cases hb : fBlock (mm S) z with
  | none => exact N
  | some b =>
    obtain ⟨b1, b2, b3⟩ := fBlock_lt hb
    simp only []
    by_cases hc : fd (mm S) n 0 = 0 ∨ (fd (mm S) n 2 ≠ 0 ∧ fd (mm S) n 3 ≠ 0)
    · rw [if_pos hc]; exact N
    · rw [if_neg hc]
      have hf : (if fd (mm S) n 2 = 0 then 2 else 3) = 2 ∨ (if fd (mm S) n 2 = 0 then 2 else 3) = 3 := by split <;> simp
      exact nr_gets hz (i := 4) (j := j) (k := 4) I N hn hf ⟨b1, b2⟩ b3 (by split <;> omega) (fun h => by rw [if_pos h])
theorem nr_put (I : Iv S z 7 j 7) (N : Nr S t p) {n y v : Nat} (hn : n < 12) : Nr (sPut S n y v).2 t p := by
  unfold sPut
  by_cases hc : isK (mm S) n 1 = true ∧ fd (mm S) n (if y < 16 then 2 else 3) ≠ 0
  · rw [if_pos hc]
    have hf : (if y < 16 then 2 else 3) = 2 ∨ (if y < 16 then 2 else 3) = 3 := by split <;> simp
    generalize (if y < 16 then 2 else 3) = f at hc hf
    have hx : pa (16 + 4 * n + f) := by unfold pa; omega
    have hb : 4 ≤ fd (mm S) n f ∧ fd (mm S) n f < z := by rcases mm_pt I.1 hx with q | q; exact absurd q hc.2; exact q
    have ht : mm S (tg (16 + 4 * n + f)) = 1 := by
      have := hc.1
      unfold isK at this
      simp at this
      rw [show tg (16 + 4 * n + f) = 16 + 4 * n + 1 by unfold tg; omega]
      exact this.2
    exact nr_dat I.1 N hb.1 (fun hd => absurd hd (file_nd I.1 hx ht hc.2))
  · rw [if_neg hc]; exact N
theorem nr_cut (I : Iv S z 7 j 7) (N : Nr S t p) {n : Nat} (hn : n < 12) : Nr (sCut S n).2 t p := by
  unfold sCut
  by_cases hc : isK (mm S) n 1 = true ∧ fd (mm S) n (cutF S n) ≠ 0
  · rw [if_pos hc]
    have hf : cutF S n = 2 ∨ cutF S n = 3 := by unfold cutF; split <;> simp
    exact nr_putO (nr_zer I.1 N hn hf) _ _ _
  · rw [if_neg hc]; exact N
theorem nr_drop (I : Iv S z 7 j 7) (N : Nr S t p) {d nm : Nat} (hd : d < 12) : Nr (sDrop S d nm).2 t p := by
  unfold sDrop
  cases hk : isK (mm S) d 2 && isR (mm S) d with
  | false => cases fent (mm S) d nm <;> exact N
  | true =>
    cases hf : fent (mm S) d nm with
    | none => exact N
    | some e =>
      obtain ⟨he2, he3⟩ := fent_mem hf
      have heb := ent_blk I.1 hd he2
      simp only []
      split
      · exact N
      · exact nr_putO (nr_nul I.1 N heb.1 ⟨by omega, by have := ents_even he2; omega⟩) _ _ _
theorem nr_swp (hz1 : 6 ≤ z) (hz : z ≤ 16) (I : Iv S z 7 (j + 2) 7) (N : Nr S t p) : Nr (sSwp S z).2 t p := by
  unfold sSwp
  cases hn : swN S with
  | some n => exact nr_setL hz (i := 3) (j := j) (k := 3) I N (swN_lt hn) (swN_le I.1.1 hn)
  | none =>
    cases hb : swB S z with
    | none => exact N
    | some b =>
      obtain ⟨b1, b2⟩ := swB_lt hb hz1
      exact nr_map I.1 N (by omega) (by decide)
theorem nr_dols (hz : z ≤ 16) : ∀ (T : List La) (Y : St), Iv Y z (i + co1 T) (j + co2 T) (k + co1 T) → WL (mm Y) → (∀ e ∈ T, e.1 = 0 → 4 ≤ e.2.1 ∧ e.2.1 < 16 ∧ ¬ occ Y e.2.1) → (∀ e ∈ T, e.1 = 0 ∨ e.2.1 < 12) → Nr Y t p → Nr (T.foldl dol Y) t p := by
  intro T
  induction T with
  | nil => intro Y _ _ _ _ N; exact N
  | cons e T ih =>
    intro Y I W hfr hk N
    rw [List.foldl_cons]
    have hstep0 := iv_dols hz [e] Y (i := i + co1 T) (j := j + co2 T) (k := k + co1 T) (by
      rw [co1_cons, co2_cons] at I ⊢
      have h1 : co1 [] = 0 := rfl
      have h2 : co2 [] = 0 := rfl
      rw [h1, h2]
      exact I.le (by omega) (by omega) (by omega)) W (fun e' he' => by rw [List.mem_singleton] at he'; subst he'; exact hfr _ List.mem_cons_self) (fun e' he' => by rw [List.mem_singleton] at he'; subst he'; exact hk _ List.mem_cons_self)
    obtain ⟨s1, s2, -⟩ := hstep0
    have s1 : Iv (dol Y e) z (i + co1 T) (j + co2 T) (k + co1 T) := s1
    have s2 : WL (mm (dol Y e)) := s2
    have hocc : ∀ y, y ≠ 0 → occ (dol Y e) y → occ Y y := fun y hy h => by
      unfold dol less at h
      split at h
      · exact occ_mk (Or.inl rfl) h
      · split at h
        · exact h
        · exact occ_setL hy h
    have hN : Nr (dol Y e) t p := by
      rw [co1_cons, co2_cons] at I
      unfold dol
      by_cases h0 : e.1 = 0
      · rw [if_pos h0]
        obtain ⟨f1, f2, f3⟩ := hfr e List.mem_cons_self h0
        exact nr_map I.1 N ⟨f1, f2⟩ (by decide)
      · rw [if_neg h0]
        simp only [h0, if_false] at I
        have hn : e.2.1 < 12 := by rcases hk e List.mem_cons_self with q | q; exact absurd q h0; exact q
        unfold less
        by_cases hl : fd (mm Y) e.2.1 0 = 0
        · rw [if_pos hl]; exact N
        · rw [if_neg hl]
          have hlt : fd (mm Y) e.2.1 0 < 128 := bd_mm I.1.1 _
          exact nr_setL hz (i := i + co1 T) (j := j + co2 T) (k := k + co1 T) (I.le (by omega) (by omega) (by omega)) N hn (by omega)
    exact ih (dol Y e) s1 s2 (fun e' he' h0 => by
      obtain ⟨f1, f2, f3⟩ := hfr e' (List.mem_cons_of_mem _ he') h0
      exact ⟨f1, f2, fun ho => f3 (hocc _ (by omega) ho)⟩) (fun e' he' => hk e' (List.mem_cons_of_mem _ he')) hN
theorem nr_wrs (hz : z ≤ 16) (I : Iv S z i j (k + 240)) (W : WL (mm S)) (N : Nr S t p) (b : Nat) : ∃ t' p', Nr (wrs S b) t' p' := by
  unfold wrs
  cases hd : dirt S b with
  | false => exact ⟨t, p, N⟩
  | true =>
    rw [if_pos rfl, wr_wrK]
    obtain ⟨C, q1, cb, hk, M⟩ := I
    obtain ⟨hd60, cb2⟩ := w_cnt (b := b) C.1 cb
    have I1 : Iv (wrK S b) z (i + co1 (dueL S b)) (j + co2 (dueL S b)) (k + co1 (dueL S b)) := ⟨w_Co C, w_Q1 C.1 q1, cb2, fun e he => hk e (List.mem_filter.mp he).1, w_Mp hz C M⟩
    have W1 : WL (mm (wrK S b)) := by
      have : mm (wrK S b) = mm S := funext (fun x => mm_wrK S b x)
      rw [this]; exact W
    refine ⟨tW S b t, pWr S b p, nr_dols hz (dueL S b) (wrK S b) I1 W1 (fun e he h0 => ?_) (fun e he => hk e (List.mem_filter.mp he).1) (nr_w C N)⟩
    obtain ⟨h1, h2⟩ := w_free (b := b) C.1 C.2.1 C.2.2.2.2.2.1 C.2.2.2.2.2.2.1 C.2.2.2.2.2.2.2.1 C.2.2.2.2.2.2.2.2.2.1 e he h0
    obtain ⟨o1, o2⟩ := q1r_occ C (List.mem_filter.mp he).1 h0
    have := occ_lt C o1 o2
    exact ⟨this.1, by omega, h2⟩
/-- nothing pending: DISK alone -/
theorem nr_nil {S' : St} (N : Nr S t p) (e1 : sD S' = sD S) (e2 : sC S' = []) (e3 : sM S ≤ sM S') : Nr S' t p := by
  obtain ⟨⟨n1, n2⟩, r1, r2, r3, r5⟩ := N
  have hmm : ∀ x, mm S' x = sD S x := fun x => by show vA (sD S') (sC S') x = _; rw [e1, e2]; rfl
  have hl : ∀ (x : Nat) (q : Int), lastI (sC S') x q = q := fun x q => by rw [e2]; rfl
  refine ⟨⟨fun n => by have := n1 n; omega, fun x => by have := n2 x; omega⟩, fun x hx ht hn => ?_, fun x hx ht hn => ?_, fun x hx ht hn => ?_, fun pre c l e => ?_⟩
  · rw [e1] at ht hn
    exact r1 x hx ht hn
  · rw [hmm] at ht hn
    show lastI _ _ _ < lastI _ _ _
    rw [hl, hl]
    exact r1 x hx ht hn
  · rw [e1] at ht hn ⊢
    rw [e2]
    obtain ⟨d1, -, -, -⟩ := r3 x hx ht hn
    refine ⟨fun u hu hne => ?_, fun pre g l e => ?_, fun q hq => ?_, fun pre q l e => ?_⟩
    · rw [e1] at hne ⊢
      obtain ⟨y1, y2, y3⟩ := d1 u hu hne
      refine ⟨y1, fun h => ?_, fun h => ?_⟩
      · unfold fd at h
        rw [hmm] at h
        show _ < lastI _ _ _
        rw [hl]
        exact y3 h
      · rw [e1] at h
        exact y3 h
    · simp at e
    · cases hq
    · simp at e
  · rw [e2] at e
    simp at e
def Inw (S : St) (z k : Nat) : Prop := Inv S z k ∧ ∃ t p, Nr S t p
theorem inw_wrs (I : Inw S z (k + 240)) (b : Nat) : Inw (wrs S b) z k := by
  obtain ⟨I, t, p, N⟩ := I
  exact ⟨inv_wrs I b, nr_wrs I.1.2 I.2.1 I.2.2.1 N b⟩
theorem inw_syF : ∀ (l : List Nat) (S : St), Inw S z (k + 240 * l.length) → Inw (syF S l) z k := by
  intro l
  induction l with
  | nil => intro S I; exact I
  | cons b l ih =>
    intro S I
    rw [List.length_cons] at I
    exact ih (wrs S b) (inw_wrs ⟨I.1.le (by omega), I.2⟩ b)
theorem inw_crs (I : Inw S z k) : Inw (sCrs S) z k := by
  obtain ⟨I, t, p, N⟩ := I
  exact ⟨inv_crs I, t, p, nr_nil N rfl rfl (Nat.le_refl _)⟩
theorem Inw.le {k' : Nat} (I : Inw S z k) (h : k' ≤ k) : Inw S z k' := ⟨I.1.le h, I.2⟩
theorem inw_step {op a b c : Nat} (I : Inw S z (k + 3840)) (ok : okS op a b c) : Inw (sDo S z op a b c).2 z k := by
  refine ⟨inv_step I.1 ok, ?_⟩
  have I0 := I
  obtain ⟨I, t, p, N⟩ := I
  obtain ⟨o1, o2, o3, o4, o5, o6, o7⟩ := ok
  obtain ⟨hz1, hz⟩ := I.1
  unfold sDo
  by_cases hfl : (op < 7 ∨ op = 10) ∧ full S = true
  · rw [if_pos hfl]; exact ⟨t, p, N⟩
  rw [if_neg hfl]
  have hr : (op < 7 ∨ op = 10) → Iv S z 7 2 7 := fun h => (inv_room (k := k + 3833) I (by
    cases hf : full S with
    | false => rfl
    | true => exact absurd ⟨h, hf⟩ hfl)).le (Nat.le_refl _) (Nat.le_refl _) (by omega)
  have hkc : op = 0 ∨ op = 1 ∨ op = 2 ∨ op = 3 ∨ op = 4 ∨ op = 5 ∨ op = 6 ∨ op = 7 ∨ op = 8 ∨ op = 9 ∨ op = 10 := by omega
  rcases hkc with rfl | rfl | rfl | rfl | rfl | rfl | rfl | rfl | rfl | rfl | rfl
  · rw [if_pos rfl]
    exact ⟨t, p, nr_beg1 hz (hr (by decide)) I.2.2.1 N (o2 (by decide))⟩
  · rw [if_neg (by decide), if_pos rfl]
    exact ⟨t, p, nr_beg2 hz (hr (by decide)) I.2.2.1 N (o2 (by decide))⟩
  · rw [if_neg (by decide), if_neg (by decide), if_pos rfl]
    exact ⟨t, p, nr_link hz (hr (by decide)) N (o2 (by decide)) (o5 rfl)⟩
  · rw [if_neg (by decide), if_neg (by decide), if_neg (by decide), if_pos rfl]
    exact ⟨t, p, nr_grow hz (hr (by decide)) N (o2 (by decide)) (o6 rfl)⟩
  · rw [if_neg (by decide), if_neg (by decide), if_neg (by decide), if_neg (by decide), if_pos rfl]
    exact ⟨t, p, nr_put (hr (by decide)) N (o2 (by decide))⟩
  · rw [if_neg (by decide), if_neg (by decide), if_neg (by decide), if_neg (by decide), if_neg (by decide), if_pos rfl]
    exact ⟨t, p, nr_cut (hr (by decide)) N (o2 (by decide))⟩
  · rw [if_neg (by decide), if_neg (by decide), if_neg (by decide), if_neg (by decide), if_neg (by decide), if_neg (by decide), if_pos rfl]
    exact ⟨t, p, nr_drop (hr (by decide)) N (o2 (by decide))⟩
  · rw [if_neg (by decide), if_neg (by decide), if_neg (by decide), if_neg (by decide), if_neg (by decide), if_neg (by decide), if_neg (by decide), if_pos rfl]
    exact (inw_wrs (I0.le (by omega)) a (k := k)).2
  · rw [if_neg (by decide), if_neg (by decide), if_neg (by decide), if_neg (by decide), if_neg (by decide), if_neg (by decide), if_neg (by decide), if_neg (by decide), if_pos rfl]
    exact (inw_syF (k := k) (List.range' 0 z) S (I0.le (by rw [List.length_range']; omega))).2
  · rw [if_neg (by decide), if_neg (by decide), if_neg (by decide), if_neg (by decide), if_neg (by decide), if_neg (by decide), if_neg (by decide), if_neg (by decide), if_neg (by decide), if_pos rfl]
    exact (inw_crs I0).2
  · rw [if_neg (by decide), if_neg (by decide), if_neg (by decide), if_neg (by decide), if_neg (by decide), if_neg (by decide), if_neg (by decide), if_neg (by decide), if_neg (by decide), if_neg (by decide)]
    exact ⟨t, p, nr_swp hz1 hz (j := 0) (hr (by decide)) N⟩
/-! edges of the trees: births grow -/
/-- on DISK -/
theorem edge_d (N : Nr S t p) {x u : Nat} (hx : pa x) (ht : sD S (tg x) = 2) (hn : sD S x ≠ 0) (hu : u < 8) (hne : sD S (16 * sD S x + 2 * u) ≠ 0) : sD S (16 * sD S x + 2 * u + 1) < 12 ∧ (fd (sD S) (sD S (16 * sD S x + 2 * u + 1)) 1 = 2 → t (nx x) < t (sD S (16 * sD S x + 2 * u + 1))) := by
  obtain ⟨-, r1, -, r3, -⟩ := N
  obtain ⟨d1, -⟩ := r3 x hx ht hn
  obtain ⟨y1, -, y3⟩ := d1 u hu hne
  exact ⟨y1, fun h => Int.lt_trans (r1 x hx ht hn) (y3 h)⟩
/-- behind all of Q -/
theorem DE_mm (B : Bd S) {P Q : List Ch} {bb : Nat} {pid : Int} (ePQ : sC S = P ++ Q) (hgood : ∀ c ∈ Q, good bb c) (D : DE S t P Q bb pid) {u : Nat} (hu : u < 8) (hne : mm S (16 * bb + 2 * u) ≠ 0) : mm S (16 * bb + 2 * u + 1) < 12 ∧ (fd (mm S) (mm S (16 * bb + 2 * u + 1)) 1 = 2 → pid < tM S t (mm S (16 * bb + 2 * u + 1))) := by
  obtain ⟨d1, d2, d3, d4⟩ := D
  have hv : ∀ y, mm S y = vA (vA (sD S) P) Q y := fun y => by show vA (sD S) (sC S) y = _; rw [ePQ, vA_app]
  have hpw := B.2.2.2.2.2.2
  rw [ePQ] at hpw
  have hpQ := (List.pairwise_append.mp hpw).2.1
  have hpl : ∀ {c : Ch} {w : Nat}, c ∈ Q → w < 16 → tch c (16 * bb + w) = true → cB c = bb ∧ cP c = w := fun {c w} hc hw ht => by
    obtain ⟨t1, t2⟩ := tch_iff.mp ht
    have hcb : cB c = bb := by omega
    have := (hgood c hc hcb).1
    exact ⟨hcb, by omega⟩
  rcases last_tch (d := vA (sD S) P) (x := 16 * bb + 2 * u) Q with ⟨n1, n2⟩ | ⟨pre, g, l, e, g2, g3, g4⟩
  · have hno : ∀ q ∈ Q, tch q (16 * bb + 2 * u + 1) = false := fun q hq => by
      cases h : tch q (16 * bb + 2 * u + 1) with
      | false => rfl
      | true =>
        obtain ⟨a1, a2⟩ := hpl hq (show 2 * u + 1 < 16 by omega) h
        obtain ⟨g, b1, b2, b3, -⟩ := d3 q hq a1 (by omega)
        have := n1 g b1
        rw [show tch g (16 * bb + 2 * u) = true from tch_iff.mpr ⟨by omega, Or.inr (by omega)⟩] at this
        cases this
    rw [hv, n2] at hne
    rw [hv (16 * bb + 2 * u + 1), vA_no hno]
    obtain ⟨y1, y2, -⟩ := d1 u hu hne
    exact ⟨y1, y2⟩
  · have hgQ : g ∈ Q := by rw [e]; simp
    obtain ⟨a1, a2⟩ := hpl hgQ (show 2 * u < 16 by omega) g2
    have hno : ∀ q ∈ l, tch q (16 * bb + 2 * u + 1) = false := fun q hq => by
      cases h : tch q (16 * bb + 2 * u + 1) with
      | false => rfl
      | true =>
        have hqQ : q ∈ Q := by rw [e]; simp [hq]
        obtain ⟨c1', c2'⟩ := hpl hqQ (show 2 * u + 1 < 16 by omega) h
        obtain ⟨g', b1, b2, b3, b4, b5, b6⟩ := d3 q hqQ c1' (by omega)
        rw [e] at hpQ b1
        have hgq := (List.pairwise_cons.mp (List.pairwise_append.mp hpQ).2.1).1 q hq
        have htg : tch g' (16 * bb + 2 * u) = true := tch_iff.mpr ⟨by omega, Or.inr (by omega)⟩
        rcases List.mem_append.mp b1 with w | w
        · have := (List.pairwise_append.mp hpQ).2.2 g' w g (by simp)
          omega
        · rcases List.mem_cons.mp w with w | w
          · rw [w] at b5; omega
          · have := g4 g' w
            rw [htg] at this
            cases this
    rw [hv, g3] at hne
    obtain ⟨y1, y2, y3, -⟩ := d2 pre g l e a1 (by omega) hne
    have had : ad g + 1 = 16 * bb + 2 * u + 1 := by show 16 * cB g + cP g + 1 = _; omega
    have hval : mm S (16 * bb + 2 * u + 1) = vA (sD S) (P ++ pre) (ad g + 1) := by
      have hng : tch g (16 * bb + 2 * u + 1) = false := by
        cases h : tch g (16 * bb + 2 * u + 1) with
        | false => rfl
        | true =>
          obtain ⟨-, h2⟩ := hpl hgQ (show 2 * u + 1 < 16 by omega) h
          omega
      rw [hv, e, had, vA_app (l := P) (m := pre), show pre ++ g :: l = (pre ++ [g]) ++ l by simp, vA_app, vA_no hno, vA_app, vA_one, hng]
      rfl
    rw [hval]
    exact ⟨y2, fun h => by have := y3 h; omega⟩
/-- in MEMORY -/
theorem edge_m (C : Co S z) (N : Nr S t p) {x u : Nat} (hx : pa x) (ht : mm S (tg x) = 2) (hn : mm S x ≠ 0) (hu : u < 8) (hne : mm S (16 * mm S x + 2 * u) ≠ 0) : mm S (16 * mm S x + 2 * u + 1) < 12 ∧ (fd (mm S) (mm S (16 * mm S x + 2 * u + 1)) 1 = 2 → tM S t (nx x) < pM S p x ∧ pM S p x < tM S t (mm S (16 * mm S x + 2 * u + 1))) := by
  obtain ⟨B, K, A, T, q0, -, -, -, -, -, -, E, -⟩ := C
  obtain ⟨-, r1, r2, r3, r5⟩ := N
  have h2 := r2 x hx ht hn
  rcases last_tch (d := sD S) (x := x) (sC S) with ⟨n1, n2⟩ | ⟨pre, c, l, e, c2, c3, c4⟩
  · have htag : sD S (tg x) = 2 := by
      rcases last_tch (d := sD S) (x := tg x) (sC S) with ⟨k1, k2⟩ | ⟨q1, c, q2, k1, k2, k3, -⟩
      · rw [← k2]; exact ht
      · exfalso
        have hkc := K c (by rw [k1]; simp)
        obtain ⟨t1, t2⟩ := tch_iff.mp k2
        have h16 := hkc.lt16 (by unfold tg pa at *; omega)
        have had : tg x = ad c := (tch_ad h16).mp k2
        have hl : isLT c ∧ cP c % 4 = 1 := by
          unfold isLT
          have : tg x = 16 * cB c + cP c := had
          unfold tg pa at *
          omega
        have hv2 : cV c = 2 := by rw [← k3]; exact ht
        have := T q1 c q2 k1 hl.1 hl.2 (by omega) x hx had
        rw [vA_no (fun c' hc' => n1 c' (by rw [k1]; simp [hc']))] at this
        have hmx : mm S x = sD S x := n2
        rw [hmx] at hn
        exact hn this
    have hmx : mm S x = sD S x := n2
    have hpx : pM S p x = p x := lastI_no n1
    rw [hmx] at hn hne ⊢
    rw [hpx] at h2 ⊢
    obtain ⟨y1, y2⟩ := DE_mm B (P := []) (Q := sC S) rfl (E x hx htag hn).2 (r3 x hx htag hn) hu hne
    exact ⟨y1, fun h => ⟨h2, y2 h⟩⟩
  · have hcS : c ∈ sC S := by rw [e]; simp
    obtain ⟨k1, k2⟩ := pt_of (K c hcS) hx c2
    have hmx : mm S x = cV c := c3
    have hpx : pM S p x = cI c := by
      show lastI (sC S) x (p x) = cI c
      rw [e, show pre ++ c :: l = (pre ++ [c]) ++ l by simp, lastI_app, lastI_no c4, lastI_app, lastI_one, if_pos c2]
    rw [hmx] at hn hne ⊢
    rw [hpx] at h2 ⊢
    obtain ⟨P, Q, e1, e2, -, e4⟩ := r5 pre c l e k1 hn (by rw [← k2]; exact c4) (by rw [← k2]; exact ht)
    obtain ⟨y1, y2⟩ := DE_mm B e1 e2 e4 hu hne
    exact ⟨y1, fun h => ⟨h2, y2 h⟩⟩
/-- all on DISK -/
theorem nr_safe (C : Co S z) (N : Nr S t p) {S' : St} (e1 : sD S' = mm S) (e2 : sC S' = []) : ∀ (c : Int), (sM S : Int) ≤ sM S' + c → Nr S' (fun n => tM S t n - c) (fun x => pM S p x - c) := fun c hc => by
  have hB := C.1
  have N0 := N
  obtain ⟨⟨n1, n2⟩, r1, r2, r3, r5⟩ := N
  have hmm : ∀ x, mm S' x = mm S x := fun x => by show vA (sD S') (sC S') x = _; rw [e1, e2]; rfl
  have hl : ∀ (x : Nat) (q : Int), lastI (sC S') x q = q := fun x q => by rw [e2]; rfl
  have hT : ∀ n, tM S t n ≤ sM S := fun n => lastI_le (fun c hc => (hB.2.2.2.2.1 c hc).2.1) (n1 n)
  have hP : ∀ x, pM S p x ≤ sM S := fun x => lastI_le (fun c hc => (hB.2.2.2.2.1 c hc).2.1) (n2 x)
  refine ⟨⟨fun n => ?_, fun x => ?_⟩, fun x hx ht hn => ?_, fun x hx ht hn => ?_, fun x hx ht hn => ?_, fun pre c l e => ?_⟩
  · have := hT n
    show tM S t n - c ≤ _
    omega
  · have := hP x
    show pM S p x - c ≤ _
    omega
  · rw [e1] at ht hn
    have := r2 x hx ht hn
    show tM S t (nx x) - c < pM S p x - c
    omega
  · rw [hmm] at ht hn
    have := r2 x hx ht hn
    show lastI _ _ _ < lastI _ _ _
    rw [hl, hl]
    show tM S t (nx x) - c < pM S p x - c
    omega
  · rw [e1] at ht hn ⊢
    rw [e2]
    refine ⟨fun u hu hne => ?_, fun pre g l e => ?_, fun q hq => ?_, fun pre q l e => ?_⟩
    · rw [e1] at hne ⊢
      have hne : mm S (16 * mm S x + 2 * u) ≠ 0 := hne
      obtain ⟨y1, y2⟩ := edge_m C N0 hx ht hn hu hne
      refine ⟨y1, fun h => ?_, fun h => ?_⟩
      · unfold fd at h
        rw [hmm] at h
        show _ < lastI _ _ _
        rw [hl]
        have := (y2 h).2
        show pM S p x - c < tM S t (mm S (16 * mm S x + 2 * u + 1)) - c
        omega
      · rw [e1] at h
        have := (y2 h).2
        show pM S p x - c < tM S t (mm S (16 * mm S x + 2 * u + 1)) - c
        omega
    · simp at e
    · cases hq
    · simp at e
  · rw [e2] at e
    simp at e
end R8s
/-- a store that begins, and one that is all on DISK -/
theorem inw_safe {S : St} {z k : Nat} (I : Inw S z k) : Inw (sSafe S) z k := by
  obtain ⟨I, t, p, N⟩ := I
  exact ⟨inv_safe I, _, _, nr_safe I.2.1.1 N rfl rfl 0 (by show (sM S : Int) ≤ sM S + 0; omega)⟩
theorem inw_zero {S : St} {z k : Nat} (I : Inw (sSafe S) z k) (hk : k < 2 ^ 31) : Inw (sZero (sSafe S)) z k := by
  obtain ⟨I, t, p, N⟩ := I
  exact ⟨inv_zero I hk, _, _, nr_safe (S' := sZero (sSafe S)) I.2.1.1 N rfl rfl (sM S) (by show (sM S : Int) ≤ ((0 : Nat) : Int) + sM S; omega)⟩
theorem inw_S0 {z k : Nat} (hz : 6 ≤ z ∧ z ≤ 16) (hk : k < 2 ^ 31) : Inw S0 z k := by
  refine ⟨inv_S0 hz hk, fun _ => -1, fun _ => 0, ⟨fun _ => by show (-1 : Int) ≤ ((0 : Nat) : Int); decide, fun _ => by show (0 : Int) ≤ ((0 : Nat) : Int); decide⟩, fun x _ _ _ => by show (-1 : Int) < 0; decide, fun x _ _ _ => by show (-1 : Int) < 0; decide, fun x hx ht hn => ?_, fun pre c l e => ?_⟩
  · have hx18 : x = 18 := by
      have hn : D0 x ≠ 0 := hn
      unfold D0 at hn
      unfold pa at hx
      have h1 : ¬ x < 5 := by omega
      have h2 : ¬ x = 16 := by omega
      have h3 : ¬ x = 17 := by omega
      rw [if_neg h1, if_neg h2, if_neg h3] at hn
      by_cases h : x = 18
      · exact h
      · rw [if_neg h] at hn; exact absurd rfl hn
    subst hx18
    refine ⟨fun u hu hne => ?_, fun pre g l e => ?_, fun q hq => ?_, fun pre q l e => ?_⟩
    · exfalso
      have hne : D0 (16 * D0 18 + 2 * u) ≠ 0 := hne
      have h18 : D0 18 = 4 := rfl
      rw [h18] at hne
      unfold D0 at hne
      rw [if_neg (by omega), if_neg (by omega), if_neg (by omega), if_neg (by omega)] at hne
      exact hne rfl
    · have e : ([] : List Ch) = pre ++ g :: l := e
      simp at e
    · cases hq
    · have e : ([] : List Ch) = pre ++ q :: l := e
      simp at e
  · have e : ([] : List Ch) = pre ++ c :: l := e
    simp at e
