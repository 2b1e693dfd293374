/-! ===== the invariant: drop, sweep, write, crash ===== -/
theorem co1_eq (l : List La) : co1 l = l.length + 3 * les l := by
  induction l with
  | nil => rfl
  | cons e l ih =>
    rw [co1_cons, ih]
    unfold les
    rw [List.filter_cons, List.length_cons]
    by_cases h : e.1 = 0
    · simp [h]; omega
    · simp [h]; omega
theorem co2_eq (l : List La) : co2 l = 2 * les l := by
  induction l with
  | nil => rfl
  | cons e l ih =>
    rw [co2_cons, ih]
    unfold les
    rw [List.filter_cons]
    by_cases h : e.1 = 0
    · simp [h]
    · simp [h]; omega
theorem part_len {α : Type} (p : α → Bool) (l : List α) : (l.filter p).length + (l.filter (fun e => !p e)).length = l.length := by
  induction l with
  | nil => rfl
  | cons a l ih =>
    rw [List.filter_cons, List.filter_cons, List.length_cons]
    cases h : p a <;> simp [h] <;> omega
theorem part_les (p : La → Bool) (l : List La) : les (l.filter p) + les (l.filter (fun e => !p e)) = les l := by
  unfold les
  rw [List.filter_filter, List.filter_filter]
  have := part_len p (l.filter (fun e => !(e.1 == 0)))
  rw [List.filter_filter, List.filter_filter] at this
  rw [← this]
  congr 2
  · exact List.filter_congr (fun e _ => Bool.and_comm _ _)
  · exact List.filter_congr (fun e _ => Bool.and_comm _ _)
theorem sub_len : ∀ (l m : List Nat), l.Pairwise (fun a b => a ≠ b) → (∀ x ∈ l, x ∈ m) → l.length ≤ m.length := by
  intro l
  induction l with
  | nil => intro m _ _; exact Nat.zero_le _
  | cons a l ih =>
    intro m hp hs
    obtain ⟨h1, h2⟩ := List.pairwise_cons.mp hp
    have ha := hs a List.mem_cons_self
    have := ih (m.erase a) h2 (fun x hx => (List.mem_erase_of_ne (fun q => h1 x hx q.symm)).mpr (hs x (List.mem_cons_of_mem _ hx)))
    rw [List.length_erase_of_mem ha] at this
    have := List.length_pos_of_mem ha
    rw [List.length_cons]
    omega
theorem gh_len (g : List (Ch × Bool)) : (gone g).length + (held g).length = g.length := by
  unfold gone held
  rw [List.length_map, List.length_map]
  exact part_len _ _
section I7
variable {S : St} {z i j k b : Nat}
theorem mm_low {P Q : List Ch} {bb : Nat} (e : sC S = P ++ Q) (hl : low (vA (sD S) P) bb) (hq : ∀ c ∈ Q, good bb c) : low (mm S) bb := fun t ht ht2 => by
  unfold mm
  rw [e, vA_app]
  rcases last_tch (d := vA (sD S) P) (x := 16 * bb + t) Q with ⟨-, h⟩ | ⟨pre, c, post, e1, e2, e3, -⟩
  · rw [h]; exact hl t ht ht2
  · rw [e3]
    exact good_t (hq c (by rw [e1]; simp)) ht ht2 e2
theorem wf_of {B : Nat → Nat} (hz : z ≤ 16) (hp : ∀ x, pa x → B x = 0 ∨ (4 ≤ B x ∧ B x < z)) (W : WL B) (hl : ∀ x, pa x → B (tg x) = 2 → B x ≠ 0 → low B (B x)) : Wf B ∧ Pg B := by
  have hx : ∀ n f, n < 12 → (f = 2 ∨ f = 3) → pa (16 + 4 * n + f) ∧ tg (16 + 4 * n + f) = 16 + 4 * n + 1 := fun n f hn hf => by unfold pa tg; omega
  refine ⟨⟨fun n hn f hf => ?_, W.1, fun n hn ht e he hne => ?_⟩, fun n hn f hf h0 => ?_⟩
  · have := hp _ (hx n f hn hf).1
    unfold fd
    omega
  · have key : ∀ f, f = 2 ∨ f = 3 → e ∈ eb (fd B n f) → B (e + 1) < 12 := fun f hf hm => by
      obtain ⟨w1, t, w2, w3⟩ := eb_mem.mp hm
      obtain ⟨x1, x2⟩ := hx n f hn hf
      have := hl _ x1 (by rw [x2]; exact ht) w1 (2 * t + 1) (by omega) (by omega)
      rw [w3]
      exact this
    rcases List.mem_append.mp he with w | w
    · exact key 2 (Or.inl rfl) w
    · exact key 3 (Or.inr rfl) w
  · have := hp _ (hx n f hn hf).1
    unfold fd at h0 ⊢
    omega
theorem iv_wf (hz : z ≤ 16) (I : Iv S z i j k) (W : WL (mm S)) : Wf (mm S) ∧ Pg (mm S) := wf_of hz (fun x hx => mm_pt I.1 hx) W (fun x hx ht hn => by
  obtain ⟨P, Q, e, h1, h2⟩ := I.1.2.2.2.2.2.2.2.2.2.2.1 x hx ht hn
  exact mm_low e h1 h2)
theorem iv_wfD (hz : z ≤ 16) (I : Iv S z i j k) (W : WL (sD S)) : Wf (sD S) ∧ Pg (sD S) := wf_of hz (fun x hx => I.1.2.2.2.2.1 x hx) W (fun x hx ht hn => (I.1.2.2.2.2.2.2.2.2.2.2.2.1 x hx ht hn).1)
theorem iv_dropE (hz : z ≤ 16) (I : Iv S z (i + 4) (j + 2) (k + 1)) {b p node : Nat} (hb : 4 ≤ b ∧ b < z) (hp : p < 16) (hs : same S b p 0 = false) (hnd : node < 12) : Iv (putO (mk S b p 0 0 0 0 0) 1 node (mkI S b p 0)) z i j k := by
  have I1 : Iv (mk S b p 0 0 0 0 0) z (i + 3) (j + 2) k := p_dat hz (i := i + 3) (j := j + 2) (k := k) I hb (by omega) (by decide) (fun m hm => by simp at hm; subst hm; omega) (fun _ => ⟨rfl, rfl, rfl, rfl⟩) (fun _ => ⟨hp, fun _ => by decide⟩)
  have hmi : mkI S b p 0 = sM S + 1 := by unfold mkI; rw [hs]; rfl
  have cS := I.1.1
  have c1S := I.2.2.1.1
  rw [mk_f hs] at I1 ⊢
  rw [hmi]
  obtain ⟨⟨d1, d2, d3, d4, d5, d6, d7, d8, d9, d10, d11, d12, d13⟩, q1, ⟨c1, c2, c3, c4, c5⟩, hk, M⟩ := I1
  have hbd2 := bd_putO (S := mkR S b p 0 0 0 0 0) d1 (a := 1) (b := node) (c := sM S + 1) ⟨d1.1, by omega, d1.2.2.1⟩ (by decide) (by omega) ⟨by omega, Nat.le_refl _⟩
  refine ⟨⟨hbd2, d2, d3, d4, d5, d6, d7, d8, d9, fun e he h0 => ?_, d11, d12, d13⟩, fun pre c l e h1 h2 => List.mem_append_left _ (q1 pre c l e h1 h2), ⟨fun e he => ?_, ?_, ?_, ?_, c5⟩, fun e he => ?_, M⟩
  · rcases List.mem_append.mp he with w | w
    · exact d10 e w h0
    · rw [List.mem_singleton] at w
      subst w
      cases h0
  · rcases List.mem_append.mp he with w | w
    · exact c1 e w
    · rw [List.mem_singleton] at w
      subst w
      exact ⟨(sM S + 1, b, p, 0, 0, 0, 0, 0), List.mem_append_right _ (by simp), rfl⟩
  · show (sL S ++ [_]).Pairwise _
    refine List.pairwise_append.mpr ⟨c2, List.pairwise_singleton _ _, fun e he e' he' => ?_⟩
    rw [List.mem_singleton] at he'
    subst he'
    obtain ⟨c, hc, h⟩ := c1S e he
    have := (cS.2.2.2.2.1 c hc).2.1
    show e.2.2 ≠ sM S + 1
    omega
  · show (sC S ++ [_]).length + 3 * les (sL S ++ [_]) + i ≤ 153
    have c3 : (sC S ++ [(sM S + 1, b, p, 0, 0, 0, 0, 0)]).length + 3 * les (sL S) + (i + 3) ≤ 153 := c3
    rw [les_snoc, if_neg (show ¬ (1 : Nat) = 0 by decide)]
    omega
  · show (sL S ++ [_]).length + les (sL S ++ [_]) + j ≤ 60
    have c4 : (sL S).length + les (sL S) + (j + 2) ≤ 60 := c4
    rw [len1, les_snoc, if_neg (show ¬ (1 : Nat) = 0 by decide)]
    omega
  · rcases List.mem_append.mp he with w | w
    · exact hk e w
    · rw [List.mem_singleton] at w
      subst w
      exact Or.inr hnd
theorem iv_drop (hz : z ≤ 16) (I : Iv S z 7 (j + 2) 7) (W : WL (mm S)) {d nm : Nat} (hd : d < 12) (hnm : 0 < nm) : Iv (sDrop S d nm).2 z 0 j 0 ∧ WL (mm (sDrop S d nm).2) := by
  have hwf := (iv_wf hz I W).1
  unfold sDrop
  cases hk : isK (mm S) d 2 && isR (mm S) d with
  | false =>
    cases fent (mm S) d nm <;> exact ⟨I.le (by omega) (by omega) (by omega), W⟩
  | true =>
    cases hf : fent (mm S) d nm with
    | none => exact ⟨I.le (by omega) (by omega) (by omega), W⟩
    | some e =>
      obtain ⟨he2, he3⟩ := fent_mem hf
      have heb := ent_blk I.1 hd he2
      have hk1 : isK (mm S) d 2 = true := by rw [Bool.and_eq_true] at hk; exact hk.1
      have hk2 : fd (mm S) d 1 = 2 := by unfold isK at hk1; simp at hk1; exact hk1.2
      have hnd := hwf.2.2 d hd hk2 e he2 (by rw [he3]; omega)
      simp only []
      split
      · exact ⟨I.le (by omega) (by omega) (by omega), W⟩
      · have hs : same S (e / 16) (e % 16) 0 = false := same_ne (by omega) (by rw [show 16 * (e / 16) + e % 16 = e by omega, he3]; omega)
        exact ⟨(iv_dropE hz (i := 3) (j := j) (k := 6) I heb (by omega) hs hnd).le (by omega) (Nat.le_refl _) (by omega), WL.data (S := S) W (Or.inr heb.1) (Or.inr heb.1)⟩
theorem occ_used (C : Co S z) (q1 : Q1 S) {y : Nat} (h : occ S y) (hy : y ≠ 0) : (∃ x, pa x ∧ mm S x = y) ∨ ∃ e ∈ sL S, e.1 = 0 ∧ e.2.1 = y := by
  obtain ⟨B, K, A, -⟩ := C
  have key : ∀ (p0 l0 : List Ch) (x : Nat), pa x → sC S = p0 ++ l0 → vA (sD S) p0 x = y → (∃ x, pa x ∧ mm S x = y) ∨ ∃ e ∈ sL S, e.1 = 0 ∧ e.2.1 = y := fun p0 l0 x hx e hv => by
    rcases first_tch (l := l0) (x := x) with w | ⟨pre, c, post, e1, e2, e3⟩
    · refine Or.inl ⟨x, hx, ?_⟩
      unfold mm
      rw [e, vA_app, vA_no w]
      exact hv
    · right
      have eS : sC S = (p0 ++ pre) ++ c :: post := by rw [e, e1]; simp
      obtain ⟨k1, k2⟩ := pt_of (K c (by rw [eS]; simp)) hx e2
      have hvv : vA (sD S) (p0 ++ pre) (ad c) = y := by rw [← k2, vA_app, vA_no e3]; exact hv
      by_cases hc0 : cV c = 0
      · have := q1 _ c _ eS k1 hc0
        rw [hvv] at this
        exact ⟨_, this, rfl, rfl⟩
      · have := A _ c _ eS k1 hc0
        rw [hvv] at this
        exact absurd this hy
  rcases h with ⟨x, hx, he⟩ | ⟨c, hc, h1, h2⟩
  · exact key [] (sC S) x hx rfl he
  · obtain ⟨p0, l0, e⟩ := List.append_of_mem hc
    refine key (p0 ++ [c]) l0 (ad c) (pa_of h1) (by rw [e]; simp) ?_
    rw [vA_app, vA_one, if_pos ((tch_ad h1.2.2.1).mpr rfl)]
    exact h2
theorem iv_swp (hz1 : 6 ≤ z) (hz : z ≤ 16) (I : Iv S z 7 (j + 2) 7) (W : WL (mm S)) : Iv (sSwp S z).2 z 0 j 0 ∧ WL (mm (sSwp S z).2) := by
  unfold sSwp
  cases hn : swN S with
  | some n =>
    have h12 := swN_lt hn
    have hv := swN_le I.1.1 hn
    have hlt : nmd (mm S) n + cntL S 1 n < fd (mm S) n 0 := by simpa using List.find?_some hn
    exact ⟨(iv_setL hz (i := 3) (j := j) (k := 3) I h12 hv).le (by omega) (Nat.le_refl _) (by omega), W.setL h12 (fun _ => by omega)⟩
  | none =>
    cases hb : swB S z with
    | none => exact ⟨I.le (by omega) (by omega) (by omega), W⟩
    | some b =>
      obtain ⟨b1, b2⟩ := swB_lt hb hz1
      have hp : (!(mm S b == 0) && ((ptrF (mm S) (lnkN (mm S)) b).isNone && cntL S 0 b == 0)) = true := List.find?_some (p := fun b => !(mm S b == 0) && ((ptrF (mm S) (lnkN (mm S)) b).isNone && cntL S 0 b == 0)) hb
      rw [Bool.and_eq_true, Bool.and_eq_true] at hp
      obtain ⟨-, hp2, hp3⟩ := hp
      have hno : ¬ occ S b := fun ho => by
        rcases occ_used I.1 I.2.1 ho (by omega) with ⟨x, hx, hxb⟩ | ⟨e, he, h1, h2⟩
        · -- a node with LINKS points to it
          obtain ⟨n, f, hnf, hn, hf⟩ : ∃ n f, x = 16 + 4 * n + f ∧ n < 12 ∧ (f = 2 ∨ f = 3) := ⟨(x - 16) / 4, x % 4, by unfold pa at hx; omega, by unfold pa at hx; omega, by unfold pa at hx; omega⟩
          have hfd : fd (mm S) n f = b := by unfold fd; rw [← hnf]; exact hxb
          have hl : 0 < fd (mm S) n 0 := by
            rcases Nat.eq_zero_or_pos (fd (mm S) n 0) with q | q
            · obtain ⟨g2, g3⟩ := W.2.2 n hn q
              rcases hf with rfl | rfl <;> omega
            · exact q
          rw [Option.isNone_iff_eq_none] at hp2
          have h6 := List.find?_eq_none.mp hp2 n (List.mem_range'_1.mpr ⟨by omega, by omega⟩)
          have hbit : (lnkN (mm S)).testBit n = true := by unfold lnkN; rw [bitsOf_bit]; simp [hn, hl]
          rcases hf with rfl | rfl
          · simp [hbit, hfd] at h6
          · simp [hbit, hfd] at h6
        · have h3 : e ∈ (sL S).filter (fun e => e.1 == 0 && e.2.1 == b) := List.mem_filter.mpr ⟨he, by simp [h1, h2]⟩
          have h4 := List.length_pos_of_mem h3
          have h5 : cntL S 0 b = 0 := by simpa using hp3
          unfold cntL at h5
          omega
      exact ⟨(p_map hz (i := 6) (j := j + 2) (k := 6) I (by omega) (by decide) (fun _ => hno)).le (by omega) (by omega) (by omega), WL.data W (Or.inl rfl) (Or.inl (by omega))⟩
theorem w_WL (B : Bd S) (K : Kds S z) (A : PA S) (W : WL (mm S)) (D : WL (sD S)) : WL (sD (wrK S b)) := by
  have hsame : ∀ n, n < 12 → (1 + n / 4 ≠ b ∧ ∀ g, g < 4 → fd (sD (wrK S b)) n g = fd (sD S) n g) ∨ (1 + n / 4 = b ∧ fd (sD (wrK S b)) n 0 = fd (mm S) n 0 ∧ fd (sD (wrK S b)) n 1 = fd (mm S) n 1 ∧ (fd (sD (wrK S b)) n 2 = 0 ∨ fd (sD (wrK S b)) n 2 = fd (mm S) n 2) ∧ (fd (sD (wrK S b)) n 3 = 0 ∨ fd (sD (wrK S b)) n 3 = fd (mm S) n 3)) := fun n hn => by
    by_cases h : 1 + n / 4 = b
    · refine Or.inr ⟨h, dsk_lt B K (by omega) (by omega) (by omega), dsk_lt B K (by omega) (by omega) (by omega), ?_, ?_⟩
      · rcases dsk_pt B K A (b := b) (by omega) (x := 16 + 4 * n + 2) (by omega) (by omega) with q | q
        · exact Or.inl q
        · exact Or.inr q.2
      · rcases dsk_pt B K A (b := b) (by omega) (x := 16 + 4 * n + 3) (by omega) (by omega) with q | q
        · exact Or.inl q
        · exact Or.inr q.2
    · exact Or.inl ⟨h, fun g hg => dsk_ne (by omega) _⟩
  refine ⟨fun n hn => ?_, fun n hn => ?_, fun n hn => ?_⟩
  · rcases hsame n hn with ⟨-, h⟩ | ⟨-, h0, h1, -⟩
    · rw [h 0 (by decide), h 1 (by decide)]; exact D.1 n hn
    · rw [h0, h1]; exact W.1 n hn
  · rcases hsame n hn with ⟨-, h⟩ | ⟨-, h0, h1, -⟩
    · rw [h 1 (by decide)]; exact D.2.1 n hn
    · rw [h1]; exact W.2.1 n hn
  · rcases hsame n hn with ⟨-, h⟩ | ⟨-, h0, h1, h2, h3⟩
    · rw [h 0 (by decide), h 2 (by decide), h 3 (by decide)]; exact D.2.2 n hn
    · rw [h0]
      intro q
      obtain ⟨g2, g3⟩ := W.2.2 n hn q
      exact ⟨by rcases h2 with w | w; exact w; rw [w]; exact g2, by rcases h3 with w | w; exact w; rw [w]; exact g3⟩
theorem not_go {c : Ch} (hc : c ∈ sC S) (hb : cB c ≠ b) : c ∈ held (goes b (sC S)) := by
  rw [← goes_fst b (sC S)] at hc
  obtain ⟨q, hq, rfl⟩ := List.mem_map.mp hc
  cases hf : q.2 with
  | false => exact held_mem.mpr (by rw [← hf]; exact hq)
  | true => exact absurd (goes_blk b (sC S) q hq hf) hb
theorem w_Mp (hz : z ≤ 16) (C : Co S z) (M : Mp S) : Mp (wrK S b) := by
  have C0 := C
  obtain ⟨B, K, A, T, q0, qa, qb, qc, q3, -⟩ := C
  have hok : ∀ y, y ≠ 0 → y < 16 → occ S y → mpOk S y → mpOk (wrK S b) y := fun y hy0 hy ho h => by
    by_cases hb : b = 0
    · refine ⟨?_, fun c hc h1 h2 => ?_⟩
      · show vA (sD S) (gone (goes b (sC S))) y ≠ 0
        rw [dsk_lt B K (by omega) (by omega) (Or.inl hb)]
        exact q3 y hy0 ho
      · exact h.2 c ((held_sub b (sC S)).subset hc) h1 h2
    · refine ⟨?_, fun c hc h1 h2 => h.2 c ((held_sub b (sC S)).subset hc) h1 h2⟩
      show vA (sD S) (gone (goes b (sC S))) y ≠ 0
      rw [dsk_ne (by omega)]
      exact h.1
  have hok0 : b = 0 → ∀ y, y ≠ 0 → y < 16 → occ S y → mpOk (wrK S b) y := fun hb y hy0 hy ho => by
    refine ⟨?_, fun c hc h1 h2 => ?_⟩
    · show vA (sD S) (gone (goes b (sC S))) y ≠ 0
      rw [dsk_lt B K (by omega) (by omega) (Or.inl hb)]
      exact q3 y hy0 ho
    · have := held_pt B K (b := b) (by omega) c hc (by omega)
      have := this.1
      omega
  have hlt : ∀ y, occ S y → y ≠ 0 → y < 16 := fun y ho hy => by have := occ_lt C0 ho hy; omega
  refine ⟨fun x hx hn => ?_, fun c hc hp hv => ?_⟩
  · have hn : vA (sD S) (gone (goes b (sC S))) x ≠ 0 := hn
    show mpOk (wrK S b) (vA (sD S) (gone (goes b (sC S))) x)
    rcases dsk_src (b := b) B K hx with h | ⟨c, hc, h1, h2, h3⟩
    · rw [h] at hn ⊢
      have ho : occ S (sD S x) := Or.inl ⟨x, hx, rfl⟩
      exact hok _ hn (hlt _ ho hn) ho (M.1 x hx hn)
    · rw [h3] at hn ⊢
      have hcS := (gone_sub b (sC S)).subset hc
      have ho : occ S (cV c) := Or.inr ⟨c, hcS, h1, rfl⟩
      rcases M.2 c hcS h1 hn with q | ⟨w, hw, w1, w2⟩
      · exact hok _ hn (hlt _ ho hn) ho q
      · exfalso
        obtain ⟨pre, l, e⟩ := List.append_of_mem hcS
        obtain ⟨P1, P2, g1, g2, g3⟩ := go_ok B e hc
        unfold mayG at g3
        simp only [Bool.and_eq_true] at g3
        have hok1 := g3.1.1.1.1
        have hch := B.2.2.2.2.1 c hcS
        have hlt2 : cI w < cI c := by
          have := (hch.2.2.2.2.2 (c1 c) (by simp)).2
          omega
        have hwp : w ∈ pre := by
          have hpw := B.2.2.2.2.2.2
          rw [e] at hw hpw
          rcases List.mem_append.mp hw with q | q
          · exact q
          · rcases List.mem_cons.mp q with q | q
            · rw [q] at hlt2; omega
            · have := (List.pairwise_cons.mp (List.pairwise_append.mp hpw).2.1).1 w q
              omega
        rw [← g2] at hwp
        obtain ⟨q, hq, hq2⟩ := List.mem_map.mp hwp
        have := List.all_eq_true.mp hok1 q hq
        rw [hq2] at this
        simp only [w2, decide_true, Bool.true_and, Bool.not_not, Bool.and_eq_true, beq_iff_eq] at this
        have := h1.1
        omega
  · have hcS := (held_sub b (sC S)).subset hc
    have ho : occ S (cV c) := Or.inr ⟨c, hcS, hp, rfl⟩
    rcases M.2 c hcS hp hv with q | ⟨w, hw, w1, w2⟩
    · exact Or.inl (hok _ hv (hlt _ ho hv) ho q)
    · by_cases hb : b = 0
      · exact Or.inl (hok0 hb _ hv (hlt _ ho hv) ho)
      · exact Or.inr ⟨w, not_go hw (by omega), w1, w2⟩
theorem w_Co (C : Co S z) : Co (wrK S b) z := by
  obtain ⟨B, K, A, T, q0, qa, qb, qc, q3, q1r, e1, e2, e3⟩ := C
  exact ⟨bd_wrK B b, w_Kds K, w_PA B A, w_TA B K T, w_Q0 B K q0, w_Q2a B K qa qb qc, w_Q2b B K qb qc, w_Q2c qc, w_Q3 B K q3, w_Q1r B q1r, w_E1 e1, w_E2 B K A T q0 e2 e3, w_E3 B K e3⟩
theorem w_cnt (B : Bd S) (C : Cb S i j (k + 240)) : (dueL S b).length ≤ 60 ∧ Cb (wrK S b) (i + co1 (dueL S b)) (j + co2 (dueL S b)) (k + co1 (dueL S b)) := by
  obtain ⟨c1, c2, c3, c4, c5⟩ := C
  have hdl : (dueL S b).length ≤ (gone (goes b (sC S))).length := by
    have h1 : ((dueL S b).map (fun e => e.2.2)).Pairwise (fun a b => a ≠ b) := by
      rw [List.pairwise_map]
      exact c2.sublist List.filter_sublist
    have := sub_len _ ((gone (goes b (sC S))).map cI) h1 (fun x hx => by
      obtain ⟨e, he, rfl⟩ := List.mem_map.mp hx
      obtain ⟨c, hc, hc2⟩ := List.any_eq_true.mp (List.mem_filter.mp he).2
      exact List.mem_map.mpr ⟨c, hc, by simpa using hc2⟩)
    rwa [List.length_map, List.length_map] at this
  have hgh := gh_len (goes b (sC S))
  rw [goes_len] at hgh
  have hpl := part_len (isDue (gone (goes b (sC S)))) (sL S)
  have hps := part_les (isDue (gone (goes b (sC S)))) (sL S)
  have hle := les_le (dueL S b)
  have hd60 : (dueL S b).length ≤ 60 := by
    have : (dueL S b).length ≤ (sL S).length := List.length_filter_le _ _
    omega
  have e1 : (dueL S b).length + ((sL S).filter (fun e => !isDue (gone (goes b (sC S))) e)).length = (sL S).length := hpl
  have e2 : les (dueL S b) + les ((sL S).filter (fun e => !isDue (gone (goes b (sC S))) e)) = les (sL S) := hps
  refine ⟨hd60, fun e he => ?_, c2.sublist List.filter_sublist, ?_, ?_, ?_⟩
  · obtain ⟨he1, he2⟩ := List.mem_filter.mp he
    obtain ⟨c, hc, h⟩ := c1 e he1
    refine ⟨c, ?_, h⟩
    show c ∈ held (goes b (sC S))
    have hc' := hc
    rw [← goes_fst b (sC S)] at hc'
    obtain ⟨q, hq, hq2⟩ := List.mem_map.mp hc'
    cases hf : q.2 with
    | false => exact held_mem.mpr (by rw [← hq2, ← hf]; exact hq)
    | true =>
      exfalso
      have : isDue (gone (goes b (sC S))) e = true := List.any_eq_true.mpr ⟨c, gone_mem.mpr (by rw [← hq2, ← hf]; exact hq), by simp [h]⟩
      rw [this] at he2
      cases he2
  · show (held (goes b (sC S))).length + 3 * les ((sL S).filter (fun e => !isDue (gone (goes b (sC S))) e)) + (i + co1 (dueL S b)) ≤ 153
    rw [co1_eq]
    omega
  · show ((sL S).filter (fun e => !isDue (gone (goes b (sC S))) e)).length + les ((sL S).filter (fun e => !isDue (gone (goes b (sC S))) e)) + (j + co2 (dueL S b)) ≤ 60
    rw [co2_eq]
    omega
  · show sM S + (k + co1 (dueL S b)) < 2 ^ 31
    rw [co1_eq]
    omega
theorem occ_fld0 {n f v : Nat} {n1 n2 : Int} (hf : f < 4) (hv : f < 2 ∨ v = 0) {y : Nat} (hy : y ≠ 0) (h : occ (mkF S n f v n1 n2) y) : occ S y := by
  unfold mkF at h
  cases hs : same S (1 + n / 4) (4 * (n % 4) + f) v with
  | true => rw [mk_t hs] at h; exact h
  | false =>
    rw [mk_f hs] at h
    rcases h with h | ⟨c, hc, h1, h2⟩
    · exact Or.inl h
    · rcases List.mem_append.mp hc with w | w
      · exact Or.inr ⟨c, w, h1, h2⟩
      · rw [List.mem_singleton] at w
        subst w
        have q1 : 2 ≤ (4 * (n % 4) + f) % 4 := h1.2.2.2
        have q2 : v = y := h2
        omega
theorem occ_zer {n f : Nat} (hf : f < 4) {y : Nat} (hy : y ≠ 0) (h : occ (zer S n f) y) : occ S y := by
  unfold zer at h
  split at h
  · exact h
  · exact occ_fld0 hf (Or.inr rfl) hy h
theorem occ_setL {n v : Nat} {y : Nat} (hy : y ≠ 0) (h : occ (setL S n v) y) : occ S y := by
  unfold setL at h
  split at h
  · exact occ_fld0 (by decide) (Or.inl (by decide)) hy (occ_fld0 (by decide) (Or.inl (by decide)) hy (occ_zer (by decide) hy (occ_zer (by decide) hy h)))
  · exact occ_fld0 (by decide) (Or.inl (by decide)) hy h
theorem q1r_occ (C : Co S z) {e : La} (he : e ∈ sL S) (h0 : e.1 = 0) : occ S e.2.1 ∧ e.2.1 ≠ 0 := by
  have C0 := C
  obtain ⟨B, K, A, T, q0, qa, qb, qc, q3, q1r, -⟩ := C
  obtain ⟨hz, pre, c, l, h1, h2, h3, h4, h5⟩ := q1r e he h0
  refine ⟨?_, hz⟩
  rw [← h5]
  rcases last_tch (d := sD S) (x := ad c) pre with ⟨-, g⟩ | ⟨p1, c0, p2, g1, g2, g3, -⟩
  · exact Or.inl ⟨ad c, pa_of h2, g.symm⟩
  · have hc0 : c0 ∈ sC S := by rw [h1, g1]; simp
    exact Or.inr ⟨c0, hc0, (pt_of (K c0 hc0) (pa_of h2) g2).1, g3.symm⟩
theorem sD_mk (S : St) (b p v : Nat) (n1 n2 n3 n4 : Int) : sD (mk S b p v n1 n2 n3 n4) = sD S := by unfold mk; split <;> rfl
theorem sD_zer (S : St) (n f : Nat) : sD (zer S n f) = sD S := by
  unfold zer
  split
  · rfl
  · exact sD_mk _ _ _ _ _ _ _ _
theorem sD_setL (S : St) (n v : Nat) : sD (setL S n v) = sD S := by
  unfold setL
  split
  · unfold empt
    rw [sD_zer, sD_zer]
    unfold mkF
    rw [sD_mk, sD_mk]
  · exact sD_mk _ _ _ _ _ _ _ _
theorem sD_dol (S : St) (e : La) : sD (dol S e) = sD S := by
  unfold dol less
  split
  · exact sD_mk _ _ _ _ _ _ _ _
  · split
    · rfl
    · exact sD_setL _ _ _
theorem iv_dols (hz : z ≤ 16) : ∀ (T : List La) (Y : St), Iv Y z (i + co1 T) (j + co2 T) (k + co1 T) → WL (mm Y) → (∀ e ∈ T, e.1 = 0 → 4 ≤ e.2.1 ∧ e.2.1 < 16 ∧ ¬ occ Y e.2.1) → (∀ e ∈ T, e.1 = 0 ∨ e.2.1 < 12) → Iv (T.foldl dol Y) z i j k ∧ WL (mm (T.foldl dol Y)) ∧ sD (T.foldl dol Y) = sD Y := by
  intro T
  induction T with
  | nil => intro Y I W _ _; exact ⟨I, W, rfl⟩
  | cons e T ih =>
    intro Y I W hfr hk
    rw [List.foldl_cons]
    rw [co1_cons, co2_cons] at I
    have hstep : Iv (dol Y e) z (i + co1 T) (j + co2 T) (k + co1 T) ∧ WL (mm (dol Y e)) ∧ ∀ y, y ≠ 0 → occ (dol Y e) y → occ Y y := by
      unfold dol
      by_cases h0 : e.1 = 0
      · rw [if_pos h0]
        simp only [h0, if_true] at I
        obtain ⟨f1, f2, f3⟩ := hfr e List.mem_cons_self h0
        exact ⟨p_map hz (I.le (by omega) (by omega) (by omega)) ⟨f1, f2⟩ (by decide) (fun _ => f3), WL.data W (Or.inl rfl) (Or.inl f2), fun y _ h => occ_mk (Or.inl rfl) h⟩
      · rw [if_neg h0]
        simp only [h0, if_false] at I
        have hn : e.2.1 < 12 := by rcases hk e List.mem_cons_self with q | q; exact absurd q h0; exact q
        unfold less
        by_cases hl : fd (mm Y) e.2.1 0 = 0
        · rw [if_pos hl]
          exact ⟨I.le (by omega) (by omega) (by omega), W, fun y _ h => h⟩
        · rw [if_neg hl]
          have hlt : fd (mm Y) e.2.1 0 < 128 := bd_mm I.1.1 _
          exact ⟨iv_setL hz (I.le (by omega) (by omega) (by omega)) hn (by omega), W.setL hn (fun _ => hl), fun y hy h => occ_setL hy h⟩
    obtain ⟨i1, i2, i3⟩ := ih (dol Y e) hstep.1 hstep.2.1 (fun e' he' h0 => by
      obtain ⟨f1, f2, f3⟩ := hfr e' (List.mem_cons_of_mem _ he') h0
      exact ⟨f1, f2, fun ho => f3 (hstep.2.2 _ (by omega) ho)⟩) (fun e' he' => hk e' (List.mem_cons_of_mem _ he'))
    exact ⟨i1, i2, by rw [i3, sD_dol]⟩
theorem iv_wrs (hz : z ≤ 16) (I : Iv S z i j (k + 240)) (W : WL (mm S)) (D : WL (sD S)) (b : Nat) : Iv (wrs S b) z i j k ∧ WL (mm (wrs S b)) ∧ WL (sD (wrs S b)) := by
  unfold wrs
  cases hd : dirt S b with
  | false => exact ⟨I.le (by omega) (by omega) (by omega), W, D⟩
  | true =>
    rw [if_pos rfl, wr_wrK]
    have I0 := I
    obtain ⟨C, q1, cb, hk, M⟩ := I
    obtain ⟨hd60, cb2⟩ := w_cnt (b := b) C.1 cb
    have I1 : Iv (wrK S b) z (i + co1 (dueL S b)) (j + co2 (dueL S b)) (k + co1 (dueL S b)) := ⟨w_Co C, w_Q1 C.1 q1, cb2, fun e he => hk e (List.mem_filter.mp he).1, w_Mp hz C M⟩
    have W1 : WL (mm (wrK S b)) := by
      have : mm (wrK S b) = mm S := funext (fun x => mm_wrK S b x)
      rw [this]; exact W
    obtain ⟨i1, i2, i3⟩ := iv_dols hz (dueL S b) (wrK S b) I1 W1 (fun e he h0 => by
      obtain ⟨h1, h2⟩ := w_free (b := b) C.1 C.2.1 C.2.2.2.2.2.1 C.2.2.2.2.2.2.1 C.2.2.2.2.2.2.2.1 C.2.2.2.2.2.2.2.2.2.1 e he h0
      obtain ⟨o1, o2⟩ := q1r_occ C (List.mem_filter.mp he).1 h0
      have := occ_lt C o1 o2
      exact ⟨this.1, by omega, h2⟩) (fun e he => hk e (List.mem_filter.mp he).1)
    exact ⟨i1, i2, by rw [i3]; exact w_WL C.1 C.2.1 C.2.2.1 W D⟩
theorem iv_crs (I : Iv S z i j k) (D : WL (sD S)) : Iv (sCrs S) z 153 60 k ∧ WL (mm (sCrs S)) ∧ WL (sD (sCrs S)) := by
  obtain ⟨⟨B, K, A, T, q0, qa, qb, qc, q3, q1r, e1, e2, e3⟩, q1, ⟨c1, c2, c3, c4, c5⟩, hk, M⟩ := I
  have no : ∀ {c : Ch}, c ∈ sC (sCrs S) → False := fun hc => by cases hc
  have nl : ∀ {e : La}, e ∈ sL (sCrs S) → False := fun hc => by cases hc
  have ns : ∀ {pre l : List Ch} {c : Ch}, sC (sCrs S) = pre ++ c :: l → False := fun {pre l c} e => by
    have e : ([] : List Ch) = pre ++ c :: l := e
    simp at e
  obtain ⟨b1, b2, b3, b4, b5, b6, b7⟩ := B
  refine ⟨⟨⟨⟨by show (0 : Nat) ≤ 200; omega, by show (0 : Nat) ≤ 160; omega, b3, b4, fun c hc => (no hc).elim, fun e he => (nl he).elim, List.Pairwise.nil⟩, fun c hc => (no hc).elim, fun pre c l e => (ns e).elim, fun pre c l e => (ns e).elim, q0, qa, fun c hc => (no hc).elim, fun c hc => (no hc).elim, fun y hy ho => ?_, fun e he => (nl he).elim, fun x hx ht hn => ?_, fun x hx ht hn => ?_, fun pre c l e => (ns e).elim⟩, fun pre c l e => (ns e).elim, ⟨fun e he => (nl he).elim, List.Pairwise.nil, ?_, ?_, c5⟩, fun e he => (nl he).elim, fun x hx hn => ?_, fun c hc => (no hc).elim⟩, D, D⟩
  · rcases ho with ⟨x, hx, he⟩ | ⟨c, hc, -⟩
    · have := (M.1 x hx (by have he : sD S x = y := he; rw [he]; exact hy)).1
      have he : sD S x = y := he
      rw [he] at this
      exact this
    · exact (no hc).elim
  · obtain ⟨g1, -⟩ := e2 x hx ht hn
    exact ⟨[], [], rfl, g1, fun c hc => by cases hc⟩
  · obtain ⟨g1, -⟩ := e2 x hx ht hn
    exact ⟨g1, fun c hc => (no hc).elim⟩
  · show 0 + 3 * les [] + 153 ≤ 153
    decide
  · show 0 + les [] + 60 ≤ 60
    decide
  · exact ⟨(M.1 x hx hn).1, fun c hc => (no hc).elim⟩
end I7
