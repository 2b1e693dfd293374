/-! ===== no rings: changes of data blocks ===== -/
section R6s
variable {S : St} {z i j k : Nat} {t p : Nat → Int}
/-- tags do not feel changes of data -/
theorem tag_data {S S' : St} {X : List Ch} (e1 : sD S' = sD S) (e2 : sC S' = sC S ++ X) (hX : ∀ c ∈ X, 4 ≤ cB c) : ∀ y, y < 12 → ∀ k : Int, k ≤ sM S → (fd (mm S) y 1 = 2 → k < tM S t y) → fd (mm S') y 1 = 2 → k < tM S' t y := fun y hy k _ h1 h2 => by
  have hnt : ∀ c ∈ X, tch c (ta y) = false := fun c hc => by
    cases h : tch c (ta y) with
    | false => rfl
    | true =>
      have h3 := (tch_iff.mp h).1
      have h4 := hX c hc
      unfold ta at h3
      omega
  have hm : fd (mm S') y 1 = fd (mm S) y 1 := by
    show vA (sD S') (sC S') (ta y) = vA (sD S) (sC S) (ta y)
    rw [e1, e2, vA_app, vA_no hnt]
  have ht : tM S' t y = tM S t y := by
    show lastI (sC S') (ta y) _ = lastI (sC S) (ta y) _
    rw [e2, lastI_app, lastI_no hnt]
  rw [ht]
  exact h1 (by rw [← hm]; exact h2)
/-- data of a block that is no directory's -/
theorem nr_dat (C : Co S z) (N : Nr S t p) {b o v : Nat} {n1 n2 n3 n4 : Int} (hb : 4 ≤ b) (hd : ¬ dirB S b) : Nr (mk S b o v n1 n2 n3 n4) t p := by
  cases hs : same S b o v with
  | true => rw [mk_t hs]; exact N
  | false =>
    rw [mk_f hs]
    refine nr_data (X := [(sM S + 1, b, o, v, n1, n2, n3, n4)]) C N rfl rfl (Nat.le_succ _) (fun c hc => by rw [List.mem_singleton] at hc; subst hc; exact hb) (fun c hc hp => ?_) (fun bb h c hc hq => ?_) (fun P Q bb pid e _ h4 hdb hw D => ?_)
    · rw [List.mem_singleton] at hc
      subst hc
      have : b ≤ 3 := hp.2.1
      omega
    · rw [List.mem_singleton] at hc
      subst hc
      have : b = bb := hq
      subst this
      exact absurd h hd
    · refine DE_fr (S' := mkR S b o v n1 n2 n3 n4) C.1 rfl rfl e (hp_le C.1 N hw) (fun c hc => by rw [List.mem_singleton] at hc; subst hc; exact Nat.lt_succ_self (sM S)) (fun c hc hq => ?_) (tag_data rfl rfl (fun c hc => by rw [List.mem_singleton] at hc; subst hc; exact hb)) D
      rw [List.mem_singleton] at hc
      subst hc
      have : b = bb := hq
      subst this
      exact absurd hdb hd
/-- a name goes -/
theorem nr_nul (C : Co S z) (N : Nr S t p) {b o : Nat} (hb : 4 ≤ b) (ho : o < 16 ∧ o % 2 = 0) : Nr (mk S b o 0 0 0 0 0) t p := by
  cases hs : same S b o 0 with
  | true => rw [mk_t hs]; exact N
  | false =>
    rw [mk_f hs]
    have hX : ∀ c ∈ [((sM S + 1, b, o, 0, 0, 0, 0, 0) : Ch)], 4 ≤ cB c := fun c hc => by rw [List.mem_singleton] at hc; subst hc; exact hb
    refine nr_data (X := [(sM S + 1, b, o, 0, 0, 0, 0, 0)]) C N rfl rfl (Nat.le_succ _) hX (fun c hc hp => ?_) (fun bb h c hc hq => ?_) (fun P Q bb pid e _ h4 hdb hw D => ?_)
    · rw [List.mem_singleton] at hc
      subst hc
      have : b ≤ 3 := hp.2.1
      omega
    · rw [List.mem_singleton] at hc
      subst hc
      exact ⟨ho.1, fun _ => (by decide : 0 < 12)⟩
    · refine DE_ext (S' := mkR S b o 0 0 0 0 0) C.1 rfl rfl e (hp_le C.1 N hw) (fun c hc => by rw [List.mem_singleton] at hc; subst hc; exact Nat.lt_succ_self (sM S)) (tag_data rfl rfl hX) (fun pre g l e h1 h2 h3 => ?_) (fun q hq h1 h2 => ?_) (fun pre q l e h1 h2 => ?_) D
      · have hg : g ∈ [((sM S + 1, b, o, 0, 0, 0, 0, 0) : Ch)] := by rw [e]; simp
        rw [List.mem_singleton] at hg
        subst hg
        exact absurd rfl h3
      · rw [List.mem_singleton] at hq
        subst hq
        have : o % 2 = 1 := h2
        omega
      · have hg : q ∈ [((sM S + 1, b, o, 0, 0, 0, 0, 0) : Ch)] := by rw [e]; simp
        rw [List.mem_singleton] at hg
        subst hg
        have : o % 2 = 1 := h2
        omega
theorem lat_last {l : List Ch} {b o : Nat} (hp : l.Pairwise (fun a b => cI a < cI b)) (q : Nat) {g : Ch} (hg : g ∈ l) (h1 : cB g = b) (h2 : cP g = o) : ∃ w ∈ l, cB w = b ∧ cP w = o ∧ cI g ≤ cI w ∧ cI w = l.foldl (fun q c => if cB c = b ∧ cP c = o then cI c else q) q := by
  induction l generalizing q g with
  | nil => cases hg
  | cons c l ih =>
    rw [List.pairwise_cons] at hp
    rw [List.foldl_cons]
    by_cases hex : ∃ g' ∈ l, cB g' = b ∧ cP g' = o
    · obtain ⟨g', k1, k2, k3⟩ := hex
      rcases List.mem_cons.mp hg with w | w
      · obtain ⟨w, w1, w2, w3, w4, w5⟩ := ih hp.2 (if cB c = b ∧ cP c = o then cI c else q) k1 k2 k3
        refine ⟨w, List.mem_cons_of_mem _ w1, w2, w3, ?_, w5⟩
        rename_i hgc
        rw [hgc]
        exact Nat.le_of_lt (hp.1 w w1)
      · obtain ⟨w, w1, w2, w3, w4, w5⟩ := ih hp.2 (if cB c = b ∧ cP c = o then cI c else q) w h1 h2
        exact ⟨w, List.mem_cons_of_mem _ w1, w2, w3, w4, w5⟩
    · have hno : ∀ (m : List Ch) (q : Nat), (∀ c ∈ m, ¬ (cB c = b ∧ cP c = o)) → m.foldl (fun q c => if cB c = b ∧ cP c = o then cI c else q) q = q := by
        intro m
        induction m with
        | nil => exact fun _ _ => rfl
        | cons c m ih2 =>
          intro q hm
          rw [List.foldl_cons, if_neg (hm c List.mem_cons_self)]
          exact ih2 q (fun d hd => hm d (List.mem_cons_of_mem _ hd))
      rw [hno l _ (fun c hc h => hex ⟨c, hc, h⟩)]
      rcases List.mem_cons.mp hg with w | w
      · subst w
        exact ⟨g, List.mem_cons_self, h1, h2, Nat.le_refl _, by rw [if_pos ⟨h1, h2⟩]⟩
      · exact absurd ⟨g, w, h1, h2⟩ hex
/-- a name is made -/
theorem nr_name (C : Co S z) (N : Nr S t p) {e nm node n1 n2 n3 : Nat} (he : 4 ≤ e / 16) (he2 : e % 2 = 0) (h0 : mm S e = 0) (hnm : nm ≠ 0) (hnd : node < 12) (hp : ∀ pid, Whs S p (e / 16) pid → pid < n1) (ht : fd (mm S) node 1 = 2 → n1 < tM S t node) (hw : ∃ w ∈ sC S, cI w = n1 ∧ cB w = 1 + node / 4) : Nr (nameE S e nm node n1 n2 n3) t p := by
  have B := C.1
  rw [nameE_R he2 (by rw [h0]; exact fun h => hnm h.symm)]
  have hb3 : ∀ {c : Ch}, cB c = e / 16 → ¬ isPT c := fun {c} h hq => by have := hq.2.1; omega
  obtain ⟨w, w1, w2, w3⟩ := hw
  cases hs : same S (e / 16) (e % 16 + 1) node with
  | true =>
    have hnode : mm S (e + 1) = node := by
      unfold same at hs
      rw [if_neg (by omega)] at hs
      have := eq_of_beq hs
      rw [show 16 * (e / 16) + (e % 16 + 1) = e + 1 by omega] at this
      exact this
    have hmi : mkI S (e / 16) (e % 16 + 1) node = 0 := by unfold mkI; rw [hs]; rfl
    rw [mk_t hs, hmi]
    generalize hgd : ((sM S + 1, e / 16, e % 16, nm, (n1 : Int), (n2 : Int), (n3 : Int), ((0 : Nat) : Int)) : Ch) = g
    have g1 : cI g = sM S + 1 := by rw [← hgd]
    have g2 : cB g = e / 16 := by rw [← hgd]
    have g3 : cP g = e % 16 := by rw [← hgd]
    have g5 : c1 g = n1 := by rw [← hgd]
    have hS : mkR S (e / 16) (e % 16) nm (n1 : Int) (n2 : Int) (n3 : Int) ((0 : Nat) : Int) = (sD S, sC S ++ [g], sL S, sM S + 1, sW S, sH S, sK S) := by rw [← hgd]; rfl
    rw [hS]
    have hX : ∀ c ∈ [g], 4 ≤ cB c := fun c hc => by rw [List.mem_singleton] at hc; rw [hc, g2]; exact he
    refine nr_data (X := [g]) C N rfl rfl (Nat.le_succ _) hX (fun c hc => by rw [List.mem_singleton] at hc; rw [hc]; exact hb3 g2) (fun bb h c hc hq => ?_) (fun P Q bb pid eq hgd h4 hdb hwh D => ?_)
    · rw [List.mem_singleton] at hc
      rw [hc, g3]
      exact ⟨by omega, fun h => by omega⟩
    · by_cases hbb : bb = e / 16
      · subst hbb
        refine DE_ext (S' := (sD S, sC S ++ [g], sL S, sM S + 1, sW S, sH S, sK S)) B rfl rfl eq (hp_le B N hwh) (fun c hc => by rw [List.mem_singleton] at hc; rw [hc, g1]; exact Nat.lt_succ_self _) (tag_data rfl rfl hX) (fun pre g' l e' h1 h2 h3 => ?_) (fun q hq h1 h2 => ?_) (fun pre q l e' h1 h2 => ?_) D
        · have hpre : pre = [] ∧ g' = g := by
            cases pre with
            | nil => exact ⟨rfl, (List.cons.inj e').1.symm⟩
            | cons a pre =>
              have := (List.cons.inj e').2
              simp at this
          obtain ⟨rfl, rfl⟩ := hpre
          have hval : vA (sD S) (sC S ++ []) (ad g' + 1) = node := by
            rw [List.append_nil]
            have : ad g' + 1 = e + 1 := by show 16 * cB g' + cP g' + 1 = e + 1; omega
            rw [this]
            exact hnode
          rw [hval, g5]
          refine ⟨by have := hp pid hwh; omega, hnd, fun h => ?_, fun _ => ⟨w, List.mem_append_left _ w1, by rw [w2], w3⟩⟩
          exact tag_data (t := t) (S := S) (S' := (sD S, sC S ++ [g'], sL S, sM S + 1, sW S, sH S, sK S)) rfl rfl hX node hnd (n1 : Int) (by have := (B.2.2.2.2.1 w w1).2.1; omega) (fun h => by have := ht h; omega) h
        · rw [List.mem_singleton] at hq
          rw [hq, g3] at h2
          omega
        · have hq : q ∈ [g] := by rw [e']; simp
          rw [List.mem_singleton] at hq
          rw [hq, g3] at h2
          omega
      · exact DE_fr (S' := (sD S, sC S ++ [g], sL S, sM S + 1, sW S, sH S, sK S)) B rfl rfl eq (hp_le B N hwh) (fun c hc => by rw [List.mem_singleton] at hc; rw [hc, g1]; exact Nat.lt_succ_self _) (fun c hc => by rw [List.mem_singleton] at hc; rw [hc, g2]; exact fun h => hbb h.symm) (tag_data rfl rfl hX) D
  | false =>
    have hmi : mkI S (e / 16) (e % 16 + 1) node = sM S + 1 := by unfold mkI; rw [hs]; rfl
    rw [mk_f hs, hmi]
    generalize hqd : ((sM S + 1, e / 16, e % 16 + 1, node, (latest S (e / 16) (e % 16) : Int), 0, 0, 0) : Ch) = q
    generalize hgd : ((sM S + 2, e / 16, e % 16, nm, (n1 : Int), (n2 : Int), (n3 : Int), ((sM S + 1 : Nat) : Int)) : Ch) = g
    have q1 : cI q = sM S + 1 := by rw [← hqd]
    have q2 : cB q = e / 16 := by rw [← hqd]
    have q3 : cP q = e % 16 + 1 := by rw [← hqd]
    have q4 : cV q = node := by rw [← hqd]
    have q5 : c1 q = latest S (e / 16) (e % 16) := by rw [← hqd]
    have g1 : cI g = sM S + 2 := by rw [← hgd]
    have g2 : cB g = e / 16 := by rw [← hgd]
    have g3 : cP g = e % 16 := by rw [← hgd]
    have g5 : c1 g = n1 := by rw [← hgd]
    have g6 : c4 g = ((sM S + 1 : Nat) : Int) := by rw [← hgd]
    have hS : mkR (mkR S (e / 16) (e % 16 + 1) node (latest S (e / 16) (e % 16) : Int) 0 0 0) (e / 16) (e % 16) nm (n1 : Int) (n2 : Int) (n3 : Int) ((sM S + 1 : Nat) : Int) = (sD S, sC S ++ [q, g], sL S, sM S + 2, sW S, sH S, sK S) := by
      rw [← hgd, ← hqd]
      show (sD S, (sC S ++ [_]) ++ [_], sL S, sM S + 1 + 1, sW S, sH S, sK S) = _
      rw [List.append_assoc]
      rfl
    have hS2 : mkR (sD S, sC S ++ [(sM S + 1, e / 16, e % 16 + 1, node, (latest S (e / 16) (e % 16) : Int), 0, 0, 0)], sL S, sM S + 1, sW S, sH S, sK S) (e / 16) (e % 16) nm (n1 : Int) (n2 : Int) (n3 : Int) ((sM S + 1 : Nat) : Int) = (sD S, sC S ++ [q, g], sL S, sM S + 2, sW S, sH S, sK S) := hS
    first | rw [hS] | rw [hS2] | (rw [hqd] at hS2; rw [hS2])
    have hm2 : ∀ {c : Ch}, c ∈ [q, g] → c = q ∨ c = g := fun {c} hc => by simpa using hc
    have hX : ∀ c ∈ [q, g], 4 ≤ cB c := fun c hc => by rcases hm2 hc with h | h <;> rw [h] <;> omega
    have hXi : ∀ c ∈ [q, g], sM S < cI c := fun c hc => by rcases hm2 hc with h | h <;> rw [h] <;> omega
    refine nr_data (X := [q, g]) C N rfl rfl (Nat.le_add_right _ 2) hX (fun c hc => by rcases hm2 hc with h | h <;> rw [h]; exact hb3 q2; exact hb3 g2) (fun bb h c hc hq => ?_) (fun P Q bb pid eq hgo h4 hdb hwh D => ?_)
    · rcases hm2 hc with h | h
      · rw [h, q3, q4]
        exact ⟨by omega, fun _ => hnd⟩
      · rw [h, g3]
        exact ⟨by omega, fun h => by omega⟩
    · by_cases hbb : bb = e / 16
      · subst hbb
        have hsp : ∀ {pre l : List Ch} {c : Ch}, [q, g] = pre ++ c :: l → (pre = [] ∧ c = q) ∨ (pre = [q] ∧ c = g) := fun {pre l c} e' => by
          cases pre with
          | nil => exact Or.inl ⟨rfl, (List.cons.inj e').1.symm⟩
          | cons a pre =>
            obtain ⟨u1, u2⟩ := List.cons.inj e'
            cases pre with
            | nil => exact Or.inr ⟨by rw [u1], (List.cons.inj u2).1.symm⟩
            | cons a' pre =>
              have := (List.cons.inj u2).2
              simp at this
        refine DE_ext (S' := (sD S, sC S ++ [q, g], sL S, sM S + 2, sW S, sH S, sK S)) B rfl rfl eq (hp_le B N hwh) hXi (tag_data rfl rfl hX) (fun pre g' l e' h1 h2 h3 => ?_) (fun q' hq h1 h2 => ?_) (fun pre q' l e' h1 h2 => ?_) D
        · rcases hsp e' with ⟨-, r⟩ | ⟨r1, r2⟩
          · rw [r, q3] at h2
            omega
          · subst r1
            subst r2
            have hval : vA (sD S) (sC S ++ [q]) (ad g' + 1) = node := by
              rw [vA_app, vA_one, if_pos (tch_iff.mpr ⟨by show cB q = (16 * cB g' + cP g' + 1) / 16; omega, Or.inr (by show cP q = (16 * cB g' + cP g' + 1) % 16; omega)⟩)]
              exact q4
            rw [hval, g5]
            refine ⟨by have := hp pid hwh; omega, hnd, fun h => ?_, fun _ => ⟨w, List.mem_append_left _ w1, by rw [w2], w3⟩⟩
            exact tag_data (t := t) (S := S) (S' := (sD S, sC S ++ [q, g'], sL S, sM S + 2, sW S, sH S, sK S)) rfl rfl hX node hnd (n1 : Int) (by have := (B.2.2.2.2.1 w w1).2.1; omega) (fun h => by have := ht h; omega) h
        · rcases hm2 hq with r | r
          · rw [r]
            refine ⟨g, by simp, g2, by omega, by rw [g6, q1], by omega, fun g' hg' hlt => ?_⟩
            rcases hm2 hg' with s | s
            · rw [s] at hlt; omega
            · rw [s]; exact Nat.le_refl _
          · rw [r, g3] at h2
            omega
        · rcases hsp e' with ⟨r1, r2⟩ | ⟨-, r⟩
          · subst r1
            subst r2
            have had : ad q' - 1 = e := by show 16 * cB q' + cP q' - 1 = e; omega
            rw [had, List.append_nil, List.append_nil]
            refine ⟨h0, fun g' hg' htc => ?_⟩
            obtain ⟨t1, t2⟩ := tch_iff.mp htc
            have hgp := (hgo g' hg' (by omega)).1
            have hg'S : g' ∈ sC S := by rw [eq]; exact List.mem_append_right _ hg'
            obtain ⟨v, v1, v2, v3, v4, v5⟩ := lat_last (b := e / 16) (o := e % 16) B.2.2.2.2.2.2 0 hg'S (by omega) (by omega)
            refine ⟨v, ?_, tch_iff.mpr ⟨v2, Or.inr v3⟩, v4, by rw [q5]; exact congrArg _ v5⟩
            rw [eq] at v1
            rcases List.mem_append.mp v1 with x | x
            · exfalso
              have hpw := B.2.2.2.2.2.2
              rw [eq] at hpw
              have := (List.pairwise_append.mp hpw).2.2 v x g' hg'
              omega
            · exact x
          · rw [r, g3] at h2
            omega
      · exact DE_fr (S' := (sD S, sC S ++ [q, g], sL S, sM S + 2, sW S, sH S, sK S)) B rfl rfl eq (hp_le B N hwh) hXi (fun c hc => by rcases hm2 hc with h | h <;> rw [h] <;> omega) (tag_data rfl rfl hX) D
end R6s
