/-! ===== the invariant: entries behind a write ===== -/
theorem low_held {g GP GQ : List (Ch × Bool)} {d : Nat → Nat} {y : Nat} (hap : g.Pairwise apart) (hg : g = GP ++ GQ) (hq : ∀ c ∈ GQ.map Prod.fst, tch c y = true → cV c < 12) (hl : vA d (GP.map Prod.fst) y < 12) : vA (vA d (gone g)) (held GP) y < 12 := by
  subst hg
  obtain ⟨p1, p2, p3⟩ := List.pairwise_append.mp hap
  rw [gone_app]
  rcases last_tch (d := vA d (gone GP)) (x := y) (gone GQ) with ⟨h1, h2⟩ | ⟨pre, c, post, e1, e2, e3, -⟩
  · have : vA (vA d (gone GP ++ gone GQ)) (held GP) y = vA (vA d (gone GP)) (held GP) y := vA_congr (by rw [vA_app, h2]) _
    rw [this, vA_split p1]
    exact hl
  · have hc : c ∈ gone GQ := by rw [e1]; simp
    have hno : ∀ c' ∈ held GP, tch c' y = false := fun c' hc' => by
      cases h : tch c' y with
      | false => rfl
      | true => exact absurd (p3 _ (held_mem.mp hc') _ (gone_mem.mp hc) rfl rfl y h e2) (fun q => q)
    rw [vA_no hno, vA_app, e3]
    exact hq c (List.mem_map.mpr ⟨(c, true), gone_mem.mp hc, rfl⟩) e2
theorem split_goes {S : St} {b : Nat} {P Q : List Ch} (e : sC S = P ++ Q) : ∃ GP GQ, goes b (sC S) = GP ++ GQ ∧ GP.map Prod.fst = P ∧ GQ.map Prod.fst = Q := by
  refine ⟨(goes b (sC S)).take P.length, (goes b (sC S)).drop P.length, (List.take_append_drop _ _).symm, ?_, ?_⟩
  · rw [List.map_take, goes_fst, e, List.take_left]
  · rw [List.map_drop, goes_fst, e, List.drop_left]
theorem good_t {bb : Nat} {c : Ch} (h : good bb c) {j : Nat} (hj : j < 16) (hj2 : j % 2 = 1) (ht : tch c (16 * bb + j) = true) : cV c < 12 := by
  obtain ⟨t1, t2⟩ := tch_iff.mp ht
  obtain ⟨g1, g2⟩ := h (by omega)
  exact g2 (by omega)
theorem low_w {S : St} {b bb : Nat} {P Q : List Ch} (e : sC S = P ++ Q) (hl : low (vA (sD S) P) bb) (hq : ∀ c ∈ Q, good bb c) : ∃ GP GQ, goes b (sC S) = GP ++ GQ ∧ GP.map Prod.fst = P ∧ GQ.map Prod.fst = Q ∧ low (vA (vA (sD S) (gone (goes b (sC S)))) (held GP)) bb ∧ ∀ c ∈ held GQ, good bb c := by
  obtain ⟨GP, GQ, g1, g2, g3⟩ := split_goes (b := b) e
  refine ⟨GP, GQ, g1, g2, g3, fun j hj hj2 => ?_, fun c hc => hq c (by rw [← g3]; exact List.mem_map.mpr ⟨(c, false), held_mem.mp hc, rfl⟩)⟩
  exact low_held (goes_apart b (sC S)) g1 (fun c hc ht => good_t (hq c (by rw [← g3]; exact hc)) hj hj2 ht) (by rw [g2]; exact hl j hj hj2)
theorem vA_ne {S : St} {b : Nat} {P1 : List (Ch × Bool)} {P2 : List (Ch × Bool)} (hg : goes b (sC S) = P1 ++ P2) {x : Nat} (hx : x / 16 ≠ b) : vA (vA (sD S) (gone (goes b (sC S)))) (held P1) x = vA (sD S) (P1.map Prod.fst) x := by
  have hap := goes_apart b (sC S)
  rw [hg] at hap
  rw [← vA_split (List.pairwise_append.mp hap).1]
  refine vA_congr ?_ _
  rw [dsk_ne hx, vA_no (fun c hc => ?_)]
  have h5 : cB c = b := goes_blk b (sC S) (c, true) (by rw [hg]; exact List.mem_append_left _ (gone_mem.mp hc)) rfl
  cases h6 : tch c x
  · rfl
  · have := (tch_iff.mp h6).1
    omega
section I3
variable {S : St} {z b : Nat}
theorem w_TA (B : Bd S) (K : Kds S z) (T : TA S) : TA (wrK S b) := fun pre c l e hl h1 hv x hx ht => by
  have e : held (goes b (sC S)) = pre ++ c :: l := e
  obtain ⟨P1, P2, g1, g2, g3, -⟩ := held_of B e
  by_cases hcb : cB c = b
  · exfalso
    have hh : c ∈ held (goes b (sC S)) := by rw [e]; simp
    have := held_pt B K (b := b) (by have := hl.2.1; omega) c hh hcb
    have := this.2.2.2
    have := hl.2.2.2
    omega
  · have hxb : x / 16 ≠ b := by
      have : tg x = 16 * cB c + cP c := ht
      unfold tg at this
      have := hl.2.2.1
      omega
    show vA (vA (sD S) (gone (goes b (sC S)))) pre x = 0
    rw [← g2, vA_ne g1 hxb]
    exact T _ c _ g3 hl h1 hv x hx ht
theorem w_E1 (E : E1 S) : E1 (wrK S b) := fun x hx ht hn => by
  rw [mm_wrK] at ht hn ⊢
  obtain ⟨P, Q, e, hl, hq⟩ := E x hx ht hn
  obtain ⟨GP, GQ, g1, g2, g3, g4, g5⟩ := low_w (b := b) e hl hq
  refine ⟨held GP, held GQ, ?_, g4, g5⟩
  show held (goes b (sC S)) = _
  rw [g1, held_app]
theorem go_ok (B : Bd S) {pre l : List Ch} {c : Ch} (e : sC S = pre ++ c :: l) (hc : c ∈ gone (goes b (sC S))) : ∃ P1 P2, goes b (sC S) = P1 ++ (c, true) :: P2 ∧ P1.map Prod.fst = pre ∧ mayG c P1 = true := by
  obtain ⟨P1, P2, hg⟩ := List.append_of_mem (gone_mem.mp hc)
  have hf := goes_fst b (sC S)
  rw [hg, List.map_append, List.map_cons] at hf
  have hlen : P1.length = pre.length := by
    have hp := B.2.2.2.2.2.2
    have h1 : (sC S)[P1.length]? = some c := by rw [← hf]; simp
    have h2 : (sC S)[pre.length]? = some c := by rw [e]; simp
    obtain ⟨i1, i2⟩ := List.getElem?_eq_some_iff.mp h1
    obtain ⟨j1, j2⟩ := List.getElem?_eq_some_iff.mp h2
    have hpw := List.pairwise_iff_getElem.mp hp
    rcases Nat.lt_trichotomy P1.length pre.length with w | w | w
    · have := hpw _ _ i1 j1 w; rw [i2, j2] at this; omega
    · exact w
    · have := hpw _ _ j1 i1 w; rw [i2, j2] at this; omega
  have hf2 := hf
  rw [e] at hf2
  obtain ⟨e1, -⟩ := List.append_inj hf2 (by rw [List.length_map]; exact hlen)
  refine ⟨P1, P2, hg, e1, ?_⟩
  have key : ∀ T' : List Ch, ∀ (P : List (Ch × Bool)) (q : Ch × Bool) (T : List (Ch × Bool)), goes b (P.map Prod.fst ++ q.1 :: T') = P ++ q :: T → T.map Prod.fst = T' → q.2 = (cB q.1 == b && mayG q.1 P) := by
    intro T'
    refine snoc_ind (P := fun T' => ∀ (P : List (Ch × Bool)) (q : Ch × Bool) (T : List (Ch × Bool)), goes b (P.map Prod.fst ++ q.1 :: T') = P ++ q :: T → T.map Prod.fst = T' → q.2 = (cB q.1 == b && mayG q.1 P)) ?_ ?_ T'
    · intro P q T h hT
      have hT : T = [] := List.map_eq_nil_iff.mp hT
      subst hT
      rw [show P.map Prod.fst ++ q.1 :: [] = P.map Prod.fst ++ [q.1] from rfl, goes_snoc] at h
      obtain ⟨e1, e2⟩ := List.append_inj' h rfl
      have := List.cons.inj e2
      rw [← this.1, e1]
    · intro T'' y ih P q T h hT
      rcases List.eq_nil_or_concat T with rfl | ⟨T2, w, rfl⟩
      · simp at hT
      · rw [List.concat_eq_append] at h hT
        rw [List.map_append] at hT
        obtain ⟨e1, e2⟩ := List.append_inj' hT rfl
        rw [show P.map Prod.fst ++ q.1 :: (T'' ++ [y]) = (P.map Prod.fst ++ q.1 :: T'') ++ [y] by simp, goes_snoc, show P ++ q :: (T2 ++ [w]) = (P ++ q :: T2) ++ [w] by simp] at h
        obtain ⟨e3, e4⟩ := List.append_inj' h rfl
        exact ih P q T2 e3 e1
  have := key (P2.map Prod.fst) P1 (c, true) P2 (by rw [hf]; exact hg) rfl
  have this : true = (cB c == b && mayG c P1) := this
  cases hm : mayG c P1 with
  | true => rfl
  | false => rw [hm, Bool.and_false] at this; cases this
/-- a pointer of a directory that goes: its block is in order on DISK -/
theorem blk_go (B : Bd S) {pre l : List Ch} {c : Ch} (e : sC S = pre ++ c :: l) (hp : isPT c) (h4 : 4 ≤ cV c) (hc : c ∈ gone (goes b (sC S))) {P Q : List Ch} (ePQ : sC S = P ++ Q) (hB : Blk c P) : ∀ c' ∈ P, cB c' ≠ cV c := by
  obtain ⟨P1, P2, g1, g2, g3⟩ := go_ok B e hc
  unfold mayG at g3
  simp only [Bool.and_eq_true] at g3
  have hok := g3.1.1.1.2
  have hpw := B.2.2.2.2.2.2
  have hin : ∀ w ∈ sC S, cI w < cI c → w ∈ pre := fun w hw hlt => by
    rw [e] at hw hpw
    rcases List.mem_append.mp hw with q | q
    · exact q
    · rcases List.mem_cons.mp q with q | q
      · rw [q] at hlt; omega
      · have := (List.pairwise_cons.mp (List.pairwise_append.mp hpw).2.1).1 w q
        omega
  have hcb : cB c ≤ 3 := hp.2.1
  have hch := B.2.2.2.2.1 c (by rw [e]; simp)
  rcases hB with h | ⟨P0, w, h1, h2, h3, h4'⟩ | ⟨h1, ⟨w, h2, h3⟩, h5⟩
  · exact h
  · exfalso
    have hwS : w ∈ sC S := by rw [ePQ, h1]; simp
    have hlt : cI w < cI c := by
      have := (hch.2.2.2.2.2 (c2 c) (by simp)).2
      omega
    have hwp := hin w hwS hlt
    rw [← g2] at hwp
    obtain ⟨q, hq, hq2⟩ := List.mem_map.mp hwp
    have := List.all_eq_true.mp hok q hq
    rw [hq2] at this
    simp only [h4', decide_true, Bool.true_and, Bool.not_not, Bool.and_eq_true, beq_iff_eq] at this
    omega
  · exfalso
    have hwS : w ∈ sC S := by rw [ePQ]; exact List.mem_append_left _ h2
    have hwp := hin w hwS (h5 w h2)
    rw [← g2] at hwp
    obtain ⟨q, hq, hq2⟩ := List.mem_map.mp hwp
    have := List.all_eq_true.mp hok q hq
    rw [hq2, h1] at this
    simp only [Bool.and_eq_true, Bool.not_eq_true', Bool.and_eq_false_iff, decide_eq_false_iff_not] at this
    omega
theorem low_no {P : List Ch} {bb : Nat} (h : ∀ c' ∈ P, cB c' ≠ bb) (hl : low (vA (sD S) P) bb) : low (sD S) bb := fun j hj hj2 => by
  have := hl j hj hj2
  rwa [vA_no (fun c hc => ?_)] at this
  cases h6 : tch c (16 * bb + j)
  · rfl
  · have h7 := (tch_iff.mp h6).1
    have := h c hc
    omega
theorem w_E2 (B : Bd S) (K : Kds S z) (A : PA S) (T : TA S) (q0 : Q0 S z) (E : E2 S) (F : E3 S) : E2 (wrK S b) := fun x hx ht hn => by
  have ht : vA (sD S) (gone (goes b (sC S))) (tg x) = 2 := ht
  have hn : vA (sD S) (gone (goes b (sC S))) x ≠ 0 := hn
  show low (vA (sD S) (gone (goes b (sC S)))) (vA (sD S) (gone (goes b (sC S))) x) ∧ ∀ c ∈ held (goes b (sC S)), good (vA (sD S) (gone (goes b (sC S))) x) c
  obtain ⟨x1, x2⟩ := pa_blk hx
  have htx : tg x / 16 = x / 16 := by unfold tg pa at *; omega
  -- all in order on DISK before, and so behind
  have fin : ∀ bb, low (sD S) bb → (∀ c ∈ sC S, good bb c) → low (vA (sD S) (gone (goes b (sC S)))) bb ∧ ∀ c ∈ held (goes b (sC S)), good bb c := fun bb h1 h2 => by
    refine ⟨fun j hj hj2 => ?_, fun c hc => h2 c ((held_sub b (sC S)).subset hc)⟩
    have := low_held (d := sD S) (y := 16 * bb + j) (goes_apart b (sC S)) (GP := []) (GQ := goes b (sC S)) rfl (fun c hc htc => good_t (h2 c (by rw [goes_fst] at hc; exact hc)) hj hj2 htc) (h1 j hj hj2)
    exact this
  by_cases hxb : x / 16 = b
  · rw [dsk_lt B K (by omega) (by omega) (by unfold tg pa at *; omega)] at ht
    rcases dsk_pt B K A (b := b) (by omega) hxb hx.2.2 with h0 | ⟨h1, h2⟩
    · exact absurd h0 hn
    rcases last_tch (d := sD S) (x := x) (gone (goes b (sC S))) with ⟨g1, g2⟩ | ⟨p1, c, p2, g1, g2, g3, g4⟩
    · -- nothing touches it
      have hnone : ∀ c ∈ sC S, tch c x = false := fun c hc => by
        rw [← goes_fst b (sC S)] at hc
        obtain ⟨q, hq, rfl⟩ := List.mem_map.mp hc
        cases hf : q.2 with
        | true => exact g1 _ (gone_mem.mpr (by rw [← hf]; exact hq))
        | false => exact h1 _ (held_mem.mpr (by rw [← hf]; exact hq))
      have htag : sD S (tg x) = 2 := by
        rcases last_tch (d := sD S) (x := tg x) (sC S) with ⟨k1, k2⟩ | ⟨q1, c, q2, k1, k2, k3, -⟩
        · rw [← k2]; exact ht
        · exfalso
          have hkc := K c (by rw [k1]; simp)
          obtain ⟨t1, t2⟩ := tch_iff.mp k2
          have h16 := hkc.lt16 (by omega)
          have had : tg x = ad c := (tch_ad h16).mp k2
          have hl : isLT c ∧ cP c % 4 = 1 := by
            unfold isLT
            have : tg x = 16 * cB c + cP c := had
            unfold tg pa at *
            omega
          have hv2 : cV c = 2 := by rw [← k3]; exact ht
          have := T q1 c q2 k1 hl.1 hl.2 (by omega) x hx had
          rw [vA_no (fun c' hc' => hnone c' (by rw [k1]; simp [hc']))] at this
          rw [g2] at hn
          exact hn this
      rw [g2] at hn ⊢
      obtain ⟨a1, a2⟩ := E x hx htag hn
      exact fin _ a1 a2
    · have hcg : c ∈ gone (goes b (sC S)) := by rw [g1]; simp
      have hcS := (gone_sub b (sC S)).subset hcg
      obtain ⟨k1, k2⟩ := pt_of (K c hcS) hx g2
      obtain ⟨pre, l, e⟩ := List.append_of_mem hcS
      have hlast : ∀ c' ∈ l, tch c' (ad c) = false := fun c' hc' => by
        have hc'S : c' ∈ sC S := by rw [e]; simp [hc']
        have hlt : cI c < cI c' := by
          have hpw := B.2.2.2.2.2.2
          rw [e] at hpw
          exact (List.pairwise_cons.mp (List.pairwise_append.mp hpw).2.1).1 c' hc'
        rw [← k2]
        rw [← goes_fst b (sC S)] at hc'S
        obtain ⟨q, hq, rfl⟩ := List.mem_map.mp hc'S
        cases hf : q.2 with
        | false => exact h1 _ (held_mem.mpr (by rw [← hf]; exact hq))
        | true =>
          have hqg : q.1 ∈ gone (goes b (sC S)) := gone_mem.mpr (by rw [← hf]; exact hq)
          rw [g1] at hqg
          have hpg : (gone (goes b (sC S))).Pairwise (fun a b => cI a < cI b) := B.2.2.2.2.2.2.sublist (gone_sub b (sC S))
          rw [g1] at hpg
          rcases List.mem_append.mp hqg with w | w
          · have := (List.pairwise_append.mp hpg).2.2 _ w c (by simp)
            omega
          · rcases List.mem_cons.mp w with w | w
            · rw [w] at hlt; omega
            · exact g4 _ w
      have hv0 : cV c ≠ 0 := by rw [← g3]; exact hn
      obtain ⟨P, Q, e1, e2, e3, e4⟩ := F pre c l e k1 hv0 hlast (by rw [← k2]; exact ht)
      have h4 : 4 ≤ cV c := by
        rcases (K c hcS).pt k1 with q | q
        · exact absurd q.1 hv0
        · exact q.1
      have hno := blk_go (b := b) B e k1 h4 hcg e1 e4
      rw [g3]
      refine fin _ (low_no hno e2) (fun c' hc' => ?_)
      rw [e1] at hc'
      rcases List.mem_append.mp hc' with w | w
      · exact fun q => absurd q (hno c' w)
      · exact e3 c' w
  · rw [dsk_ne (by omega)] at ht
    rw [dsk_ne hxb] at hn ⊢
    obtain ⟨a1, a2⟩ := E x hx ht hn
    exact fin _ a1 a2
theorem w_E3 (B : Bd S) (K : Kds S z) (E : E3 S) : E3 (wrK S b) := fun pre c l e hp hv hlast ht => by
  have e : held (goes b (sC S)) = pre ++ c :: l := e
  rw [mm_wrK] at ht
  have hch : c ∈ held (goes b (sC S)) := by rw [e]; simp
  obtain ⟨P1, P2, g1, g2, g3, -⟩ := held_of B e
  have hl2 : held P2 = l := by
    rw [g1, held_app, held_cons, g2] at e
    have := List.append_cancel_left e
    exact (List.cons.inj this).2
  have hap := goes_apart b (sC S)
  rw [g1] at hap
  have hlast2 : ∀ c' ∈ P2.map Prod.fst, tch c' (ad c) = false := fun c' hc' => by
    obtain ⟨q, hq, rfl⟩ := List.mem_map.mp hc'
    cases hf : q.2 with
    | false => exact hlast _ (by rw [← hl2]; exact held_mem.mpr (by rw [← hf]; exact hq))
    | true =>
      cases h6 : tch q.1 (ad c) with
      | false => rfl
      | true => exact absurd ((List.pairwise_cons.mp (List.pairwise_append.mp hap).2.1).1 q hq rfl hf (ad c) ((tch_ad hp.2.2.1).mpr rfl) h6) (fun w => w)
  obtain ⟨P, Q, e1, e2, e3, e4⟩ := E _ c _ g3 hp hv hlast2 ht
  obtain ⟨GP, GQ, k1, k2, k3, k4, k5⟩ := low_w (b := b) e1 e2 e3
  refine ⟨held GP, held GQ, by show held (goes b (sC S)) = _; rw [k1, held_app], k4, k5, ?_⟩
  have hsub : ∀ c' ∈ held GP, c' ∈ P := fun c' hc' => by rw [← k2]; exact List.mem_map.mpr ⟨(c', false), held_mem.mp hc', rfl⟩
  rcases e4 with h | ⟨P0, w, h1, h2, h3, h4⟩ | ⟨h1, h2, h3⟩
  · exact Or.inl (fun c' hc' => h c' (hsub c' hc'))
  · -- the wipe ends P
    have hGP : ∃ GP0 fw, GP = GP0 ++ [(w, fw)] := by
      rcases List.eq_nil_or_concat GP with rfl | ⟨GP0, q, rfl⟩
      · rw [h1] at k2; simp at k2
      · rw [List.concat_eq_append] at k2 ⊢
        rw [List.map_append, h1] at k2
        obtain ⟨u1, u2⟩ := List.append_inj' k2 rfl
        have : q.1 = w := (List.cons.inj u2).1
        exact ⟨GP0, q.2, by rw [← this]⟩
    obtain ⟨GP0, fw, hGP⟩ := hGP
    cases fw with
    | false =>
      refine Or.inr (Or.inl ⟨held GP0, w, ?_, h2, h3, h4⟩)
      rw [hGP, held_app]
      rfl
    | true =>
      refine Or.inl (fun c' hc' hq => ?_)
      rw [hGP, held_app] at hc'
      have hc0 : c' ∈ held GP0 := by simpa [held] using hc'
      have hap2 := goes_apart b (sC S)
      rw [k1, hGP] at hap2
      have hcP : cP c' ≤ 16 := (B.2.2.2.2.1 c' (by rw [e1]; exact List.mem_append_left _ (hsub c' (by rw [hGP, held_app]; exact List.mem_append_left _ hc0)))).2.2.2.1
      have := (List.pairwise_append.mp (List.pairwise_append.mp hap2).1).2.2 _ (held_mem.mp hc0) (w, true) (by simp) rfl rfl
      by_cases h16 : cP c' = 16
      · exact this (16 * cB c') (tch_iff.mpr ⟨by show cB c' = _; omega, Or.inl h16⟩) (tch_iff.mpr ⟨by show cB w = _; omega, Or.inl h3⟩)
      · exact this (16 * cB c' + cP c') (tch_iff.mpr ⟨by show cB c' = _; omega, Or.inr (by show cP c' = _; omega)⟩) (tch_iff.mpr ⟨by show cB w = _; omega, Or.inl h3⟩)
  · by_cases hex : ∃ e ∈ held GP, cB e = cV c
    · exact Or.inr (Or.inr ⟨h1, hex, fun e' he' => h3 e' (hsub e' he')⟩)
    · exact Or.inl (fun c' hc' hq => hex ⟨c', hc', hq⟩)
end I3
