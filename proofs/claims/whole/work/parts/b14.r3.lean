/-! ===== no rings: directories' blocks behind a write ===== -/
section R3s
variable {S : St} {z b : Nat} {t p : Nat → Int}
theorem DE_w0 (B : Bd S) (K : Kds S z) {bb : Nat} {pid : Int} (h4 : 4 ≤ bb) (hg : ∀ c ∈ sC S, good bb c) (D : DE S t [] (sC S) bb pid) : DE (wrK S b) (tW S b t) [] (sC (wrK S b)) bb pid :=
  DE_w (b := b) B K h4 (P := []) (Q := sC S) rfl hg D (GP := []) (GQ := goes b (sC S)) rfl rfl (goes_fst b (sC S))
theorem pW_ne {x : Nat} (h : ∀ c ∈ gone (goes b (sC S)), tch c x = false) : pWr S b p x = p x := lastI_no h
theorem w_R3 (C : Co S z) (R : R3 S t p) (F : R5 S t) : R3 (wrK S b) (tW S b t) (pWr S b p) := fun x hx ht hn => by
  obtain ⟨B, K, A, T, q0, -, -, -, -, -, -, E, -⟩ := C
  have ht : vA (sD S) (gone (goes b (sC S))) (tg x) = 2 := ht
  have hn : vA (sD S) (gone (goes b (sC S))) x ≠ 0 := hn
  show DE (wrK S b) (tW S b t) [] (sC (wrK S b)) (vA (sD S) (gone (goes b (sC S))) x) (pWr S b p x)
  obtain ⟨x1, x2⟩ := pa_blk hx
  have htx : tg x / 16 = x / 16 := by unfold tg pa at *; omega
  have h4 : ∀ {y : Nat}, pa y → sD S y ≠ 0 → 4 ≤ sD S y := fun {y} hy h => by
    rcases q0 y hy with w | w
    · exact absurd w h
    · exact w.1
  by_cases hxb : x / 16 = b
  · rw [dsk_lt B K (by omega) (by omega) (by unfold tg pa at *; omega)] at ht
    rcases dsk_pt B K A (b := b) (by omega) hxb hx.2.2 with h0 | ⟨h1, h2⟩
    · exact absurd h0 hn
    rcases last_tch (d := sD S) (x := x) (gone (goes b (sC S))) with ⟨g1, g2⟩ | ⟨p1, c, p2, g1, g2, g3, g4⟩
    · have hnone : ∀ c ∈ sC S, tch c x = false := fun c hc => by
        rw [← goes_fst b (sC S)] at hc
        obtain ⟨q, hq, rfl⟩ := List.mem_map.mp hc
        cases hf : q.2 with
        | true => exact g1 _ (gone_mem.mpr (by rw [← hf]; exact hq))
        | false => exact h1 _ (held_mem.mpr (by rw [← hf]; exact hq))
      have htag : sD S (tg x) = 2 := by
        rcases last_tch (d := sD S) (x := tg x) (sC S) with ⟨k1, k2⟩ | ⟨q1, c, q2, k1, k2, k3, -⟩
        · rw [← k2]; exact ht
        · exfalso
          have hkc := K c (by rw [k1]; simp)
          obtain ⟨t1, t2⟩ := tch_iff.mp k2
          have h16 := hkc.lt16 (by omega)
          have had : tg x = ad c := (tch_ad h16).mp k2
          have hl : isLT c ∧ cP c % 4 = 1 := by
            unfold isLT
            have : tg x = 16 * cB c + cP c := had
            unfold tg pa at *
            omega
          have hv2 : cV c = 2 := by rw [← k3]; exact ht
          have := T q1 c q2 k1 hl.1 hl.2 (by omega) x hx had
          rw [vA_no (fun c' hc' => hnone c' (by rw [k1]; simp [hc']))] at this
          rw [g2] at hn
          exact hn this
      rw [g2] at hn ⊢
      rw [pW_ne g1]
      exact DE_w0 B K (h4 hx hn) (E x hx htag hn).2 (R x hx htag hn)
    · have hcg : c ∈ gone (goes b (sC S)) := by rw [g1]; simp
      have hcS := (gone_sub b (sC S)).subset hcg
      obtain ⟨k1, k2⟩ := pt_of (K c hcS) hx g2
      obtain ⟨pre, l, e⟩ := List.append_of_mem hcS
      have hlast : ∀ c' ∈ l, tch c' (ad c) = false := fun c' hc' => by
        have hc'S : c' ∈ sC S := by rw [e]; simp [hc']
        have hlt : cI c < cI c' := by
          have hpw := B.2.2.2.2.2.2
          rw [e] at hpw
          exact (List.pairwise_cons.mp (List.pairwise_append.mp hpw).2.1).1 c' hc'
        rw [← k2]
        rw [← goes_fst b (sC S)] at hc'S
        obtain ⟨q, hq, rfl⟩ := List.mem_map.mp hc'S
        cases hf : q.2 with
        | false => exact h1 _ (held_mem.mpr (by rw [← hf]; exact hq))
        | true =>
          have hqg : q.1 ∈ gone (goes b (sC S)) := gone_mem.mpr (by rw [← hf]; exact hq)
          rw [g1] at hqg
          have hpg : (gone (goes b (sC S))).Pairwise (fun a b => cI a < cI b) := B.2.2.2.2.2.2.sublist (gone_sub b (sC S))
          rw [g1] at hpg
          rcases List.mem_append.mp hqg with w | w
          · have := (List.pairwise_append.mp hpg).2.2 _ w c (by simp)
            omega
          · rcases List.mem_cons.mp w with w | w
            · rw [w] at hlt; omega
            · exact g4 _ w
      have hv0 : cV c ≠ 0 := by rw [← g3]; exact hn
      obtain ⟨P, Q, e1, e3, e4, e5⟩ := F pre c l e k1 hv0 hlast (by rw [← k2]; exact ht)
      have h4c : 4 ≤ cV c := by
        rcases (K c hcS).pt k1 with q | q
        · exact absurd q.1 hv0
        · exact q.1
      have hno := blk_go (b := b) B e k1 h4c hcg e1 e4
      have hpc : pWr S b p x = cI c := by
        unfold pWr
        rw [g1, show p1 ++ c :: p2 = (p1 ++ [c]) ++ p2 by simp, lastI_app, lastI_no g4, lastI_app, lastI_one, if_pos g2]
      rw [g3, hpc]
      refine DE_w0 B K h4c (fun c' hc' => ?_) (DE_nil B e1 e3 hno e5)
      rw [e1] at hc'
      rcases List.mem_append.mp hc' with w | w
      · exact fun q => absurd q (hno c' w)
      · exact e3 c' w
  · rw [dsk_ne (by omega)] at ht
    rw [dsk_ne hxb] at hn ⊢
    rw [pW_ne (fun c hc => by
      have h5 : cB c = b := goes_blk b (sC S) _ (gone_mem.mp hc) rfl
      cases h6 : tch c x
      · rfl
      · have := (tch_iff.mp h6).1
        omega)]
    exact DE_w0 B K (h4 hx hn) (E x hx ht hn).2 (R x hx ht hn)
theorem w_R5 (B : Bd S) (K : Kds S z) (F : R5 S t) : R5 (wrK S b) (tW S b t) := fun pre c l e hp hv hlast ht => by
  have e : held (goes b (sC S)) = pre ++ c :: l := e
  rw [mm_wrK] at ht
  have hch : c ∈ held (goes b (sC S)) := by rw [e]; simp
  obtain ⟨P1, P2, g1, g2, g3, -⟩ := held_of B e
  have hl2 : held P2 = l := by
    rw [g1, held_app, held_cons, g2] at e
    have := List.append_cancel_left e
    exact (List.cons.inj this).2
  have hap := goes_apart b (sC S)
  rw [g1] at hap
  have hlast2 : ∀ c' ∈ P2.map Prod.fst, tch c' (ad c) = false := fun c' hc' => by
    obtain ⟨q, hq, rfl⟩ := List.mem_map.mp hc'
    cases hf : q.2 with
    | false => exact hlast _ (by rw [← hl2]; exact held_mem.mpr (by rw [← hf]; exact hq))
    | true =>
      cases h6 : tch q.1 (ad c) with
      | false => rfl
      | true => exact absurd ((List.pairwise_cons.mp (List.pairwise_append.mp hap).2.1).1 q hq rfl hf (ad c) ((tch_ad hp.2.2.1).mpr rfl) h6) (fun w => w)
  have hcS := (held_sub b (sC S)).subset hch
  have h4 : 4 ≤ cV c := by
    rcases (K c hcS).pt hp with q | q
    · exact absurd q.1 hv
    · exact q.1
  obtain ⟨P, Q, e1, e3, e4, e5⟩ := F _ c _ g3 hp hv hlast2 ht
  obtain ⟨GP, GQ, k1, k2, k3⟩ := split_goes (b := b) e1
  refine ⟨held GP, held GQ, by show held (goes b (sC S)) = _; rw [k1, held_app], fun c' hc' => e3 c' (by rw [← k3]; exact List.mem_map.mpr ⟨(c', false), held_mem.mp hc', rfl⟩), blk_w B e1 k1 k2 e4, DE_w B K h4 e1 e3 e5 k1 k2 k3⟩
theorem nr_w (C : Co S z) (N : Nr S t p) : Nr (wrK S b) (tW S b t) (pWr S b p) := by
  obtain ⟨⟨n1, n2⟩, r1, r2, r3, r5⟩ := N
  have hl : ∀ c ∈ gone (goes b (sC S)), cI c ≤ sM S := fun c hc => (C.1.2.2.2.2.1 c ((gone_sub b (sC S)).subset hc)).2.1
  exact ⟨⟨fun n => lastI_le hl (n1 n), fun x => lastI_le hl (n2 x)⟩, w_R1 C.1 C.2.1 C.2.2.1 r1 r2, w_R2 r2, w_R3 C r3 r5, w_R5 C.1 C.2.1 r5⟩
end R3s
