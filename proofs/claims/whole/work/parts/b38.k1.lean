/-! ===== what a change needs: which kinds; a pointer is needed by one name alone ===== -/
def idK (S : St) (i : Int) (P : Ch → Prop) : Prop := ∀ w ∈ sC S, (cI w : Int) = i → P w
def pnz (c : Ch) : Prop := isPT c ∧ cV c ≠ 0
def nkC (S : St) (c : Ch) : Prop :=
  (4 ≤ cB c → idK S (c1 c) (fun w => isLT w ∨ cB w = cB c) ∧ idK S (c2 c) isLT ∧ idK S (c3 c) pnz ∧ idK S (c4 c) (fun w => cB w = cB c)) ∧
  (isPT c → idK S (c1 c) (fun w => cB w = 0) ∧ idK S (c2 c) (fun w => cB w = cV c))
def Bn (S : St) : Prop := ∀ c ∈ sC S, 1 ≤ cI c ∧ cI c ≤ sM S ∧ c1 c < cI c ∧ c2 c < cI c ∧ c3 c < cI c ∧ c4 c < cI c
def Nk (S : St) : Prop := Bn S ∧ (∀ c ∈ sC S, nkC S c) ∧ ∀ a ∈ sC S, ∀ b ∈ sC S, c3 a = c3 b → c3 a ≠ 0 → a = b
/-- nobody needs it in the third place -/
def fr3 (S : St) (i : Int) : Prop := i = 0 ∨ ∀ c ∈ sC S, c3 c ≠ i
section K1
variable {S : St} {z i j k : Nat}
theorem nk_nil (h : sC S = []) : Nk S := by
  refine ⟨fun c hc => ?_, fun c hc => ?_, fun a ha => ?_⟩ <;> rw [h] at * <;> contradiction
theorem sC_mk {b p v : Nat} {n1 n2 n3 n4 : Int} {c : Ch} (h : c ∈ sC (mk S b p v n1 n2 n3 n4)) : c ∈ sC S ∨ (same S b p v = false ∧ c = (sM S + 1, b, p, v, n1, n2, n3, n4)) := by
  unfold mk at h
  split at h
  · exact Or.inl h
  · rename_i q
    rcases List.mem_append.mp h with h | h
    · exact Or.inl h
    · rw [List.mem_singleton] at h
      exact Or.inr ⟨by simpa using q, h⟩
theorem idK_0 (B : Bn S) (P : Ch → Prop) : idK S 0 P := fun w hw e => by have := (B w hw).1; omega
theorem idK_neg (B : Bn S) {x : Int} (hx : x < 0) (P : Ch → Prop) : idK S x P := fun w hw e => by have := (B w hw).1; omega
theorem idK_mk {b p v : Nat} {n1 n2 n3 n4 : Int} {x : Int} {P : Ch → Prop} (hx : x ≤ sM S) (h : idK S x P) : idK (mk S b p v n1 n2 n3 n4) x P := fun w hw e => by
  rcases sC_mk hw with q | ⟨-, q⟩
  · exact h w q e
  · subst q
    exfalso
    have e : ((sM S + 1 : Nat) : Int) = x := e
    omega
theorem idK_new (B : Bn S) {b p v : Nat} {n1 n2 n3 n4 : Int} {P : Ch → Prop} (h : P (sM S + 1, b, p, v, n1, n2, n3, n4)) : idK (mk S b p v n1 n2 n3 n4) (mkI S b p v : Int) P := fun w hw e => by
  rcases sC_mk hw with q | ⟨q1, q⟩
  · have h2 := (B w q)
    unfold mkI at e
    split at e
    · exfalso; omega
    · exfalso; omega
  · subst q; exact h
theorem bn_mk (B : Bn S) {b p v : Nat} {n1 n2 n3 n4 : Int} (h : n1 ≤ sM S ∧ n2 ≤ sM S ∧ n3 ≤ sM S ∧ n4 ≤ sM S) : Bn (mk S b p v n1 n2 n3 n4) := fun c hc => by
  have hs := sM_mk S b p v n1 n2 n3 n4
  rcases sC_mk hc with q | ⟨q1, q⟩
  · have := B c q
    omega
  · subst q
    have : sM (mk S b p v n1 n2 n3 n4) = sM S + 1 := by rw [mk_f q1]; rfl
    rw [this]
    refine ⟨by show 1 ≤ sM S + 1; omega, Nat.le_refl _, ?_, ?_, ?_, ?_⟩
    · show n1 < ((sM S + 1 : Nat) : Int); omega
    · show n2 < ((sM S + 1 : Nat) : Int); omega
    · show n3 < ((sM S + 1 : Nat) : Int); omega
    · show n4 < ((sM S + 1 : Nat) : Int); omega
theorem nk_mk (N : Nk S) {b p v : Nat} {n1 n2 n3 n4 : Int} (h : n1 ≤ sM S ∧ n2 ≤ sM S ∧ n3 ≤ sM S ∧ n4 ≤ sM S)
    (hd : 4 ≤ b → idK S n1 (fun w => isLT w ∨ cB w = b) ∧ idK S n2 isLT ∧ idK S n3 pnz ∧ idK S n4 (fun w => cB w = b))
    (hp : isPT (sM S + 1, b, p, v, n1, n2, n3, n4) → idK S n1 (fun w => cB w = 0) ∧ idK S n2 (fun w => cB w = v)) (h3 : fr3 S n3) : Nk (mk S b p v n1 n2 n3 n4) := by
  obtain ⟨B, A, U⟩ := N
  refine ⟨bn_mk B h, fun c hc => ?_, fun a ha b' hb e hn => ?_⟩
  · rcases sC_mk hc with q | ⟨q1, q⟩
    · obtain ⟨a1, a2⟩ := A c q
      have hB := B c q
      refine ⟨fun h4 => ?_, fun h4 => ?_⟩
      · obtain ⟨e1, e2, e3, e4⟩ := a1 h4
        exact ⟨idK_mk (by omega) e1, idK_mk (by omega) e2, idK_mk (by omega) e3, idK_mk (by omega) e4⟩
      · obtain ⟨e1, e2⟩ := a2 h4
        exact ⟨idK_mk (by omega) e1, idK_mk (by omega) e2⟩
    · subst q
      obtain ⟨g1, g2, g3, g4⟩ := h
      refine ⟨fun h4 => ?_, fun h4 => ?_⟩
      · obtain ⟨e1, e2, e3, e4⟩ := hd h4
        exact ⟨idK_mk g1 e1, idK_mk g2 e2, idK_mk g3 e3, idK_mk g4 e4⟩
      · obtain ⟨e1, e2⟩ := hp h4
        exact ⟨idK_mk g1 e1, idK_mk g2 e2⟩
  · rcases sC_mk ha with q | ⟨q1, q⟩
    · rcases sC_mk hb with r | ⟨r1, r⟩
      · exact U a q b' r e hn
      · subst r
        have e : c3 a = n3 := e
        rcases h3 with h3 | h3
        · rw [h3] at e; exact absurd e hn
        · exact absurd e (h3 a q)
    · rcases sC_mk hb with r | ⟨r1, r⟩
      · subst q
        have e : n3 = c3 b' := e
        have hn : n3 ≠ 0 := hn
        rcases h3 with h3 | h3
        · exact absurd h3 hn
        · exact absurd e.symm (h3 b' r)
      · rw [q, r]
theorem nk0 (N : Nk S) (b p v : Nat) : Nk (mk S b p v 0 0 0 0) :=
  nk_mk N ⟨by omega, by omega, by omega, by omega⟩ (fun _ => ⟨idK_0 N.1 _, idK_0 N.1 _, idK_0 N.1 _, idK_0 N.1 _⟩) (fun _ => ⟨idK_0 N.1 _, idK_0 N.1 _⟩) (Or.inl rfl)
theorem nk_putO (N : Nk S) (a b c : Nat) : Nk (putO S a b c) := N
theorem nk_zer (N : Nk S) (n f : Nat) : Nk (zer S n f) := by
  unfold zer
  split
  · exact N
  · exact nk_putO (nk0 N _ _ _) _ _ _
theorem nk_setL (N : Nk S) (n v : Nat) : Nk (setL S n v) := by
  unfold setL
  split
  · exact nk_zer (nk_zer (nk0 (nk0 N _ _ _) _ _ _) _ _) _ _
  · exact nk0 N _ _ _
theorem nk_dol (N : Nk S) (e : La) : Nk (dol S e) := by
  unfold dol
  split
  · exact nk0 N _ _ _
  · unfold less
    split
    · exact N
    · exact nk_setL N _ _
theorem nk_dols : ∀ (T : List La) (Y : St), Nk Y → Nk (T.foldl dol Y) := by
  intro T
  induction T with
  | nil => intro Y N; exact N
  | cons e T ih => intro Y N; exact ih _ (nk_dol N e)
theorem nk_sub (N : Nk S) {S' : St} (h : ∀ c ∈ sC S', c ∈ sC S) (hm : sM S ≤ sM S') : Nk S' := by
  obtain ⟨B, A, U⟩ := N
  refine ⟨fun c hc => ?_, fun c hc => ?_, fun a ha b hb => U a (h a ha) b (h b hb)⟩
  · have := B c (h c hc)
    omega
  · obtain ⟨a1, a2⟩ := A c (h c hc)
    refine ⟨fun h4 => ?_, fun h4 => ?_⟩
    · obtain ⟨e1, e2, e3, e4⟩ := a1 h4
      exact ⟨fun w hw => e1 w (h w hw), fun w hw => e2 w (h w hw), fun w hw => e3 w (h w hw), fun w hw => e4 w (h w hw)⟩
    · obtain ⟨e1, e2⟩ := a2 h4
      exact ⟨fun w hw => e1 w (h w hw), fun w hw => e2 w (h w hw)⟩
theorem nk_wrK (N : Nk S) (b : Nat) : Nk (wrK S b) := nk_sub N (fun _ hc => (held_sub b (sC S)).subset hc) (Nat.le_refl _)
theorem nk_wrs (N : Nk S) (b : Nat) : Nk (wrs S b) := by
  unfold wrs
  split
  · rw [wr_wrK]; exact nk_dols _ _ (nk_wrK N b)
  · exact N
theorem nk_syF : ∀ (l : List Nat) (S : St), Nk S → Nk (syF S l) := by
  intro l
  induction l with
  | nil => intro S N; exact N
  | cons b l ih => intro S N; exact ih _ (nk_wrs N b)
theorem fr_new (B : Bn S) {b p v : Nat} {n1 n2 n4 : Int} : fr3 (mk S b p v n1 n2 0 n4) (mkI S b p v : Int) := by
  unfold fr3 mkI
  cases hs : same S b p v with
  | true => left; rfl
  | false =>
    right
    rw [if_neg (by decide)]
    intro c hc
    rcases sC_mk hc with q | ⟨-, q⟩
    · have := B c q
      omega
    · subst q
      show (0 : Int) ≠ _
      omega
theorem fr_mk {x : Int} (h : fr3 S x) {b p v : Nat} {n1 n2 n4 : Int} : fr3 (mk S b p v n1 n2 0 n4) x := by
  rcases h with h | h
  · exact Or.inl h
  · by_cases hx : x = 0
    · exact Or.inl hx
    · right
      intro c hc
      rcases sC_mk hc with q | ⟨-, q⟩
      · exact h c q
      · subst q
        exact fun e => hx e.symm
theorem lat_blk (b p : Nat) : ∀ (l : List Ch) (q : Nat) (w : Ch), (∀ c ∈ l, 1 ≤ cI c) → l.Pairwise (fun a b => cI a < cI b) → (q = 0 ∨ ∀ c ∈ l, q < cI c) → w ∈ l → cI w = l.foldl (fun q c => if cB c = b ∧ cP c = p then cI c else q) q → cB w = b := by
  intro l
  induction l with
  | nil => intro q w _ _ _ hw; cases hw
  | cons c l ih =>
    intro q w h1 hp hq hw e
    obtain ⟨p1, p2⟩ := List.pairwise_cons.mp hp
    rw [List.foldl_cons] at e
    have hno : ∀ (l : List Ch) (q : Nat) (m : Nat), m ≤ q → (∀ d ∈ l, m ≤ cI d) → m ≤ l.foldl (fun q c => if cB c = b ∧ cP c = p then cI c else q) q := by
      intro l
      induction l with
      | nil => intro q m h _; exact h
      | cons d l ih2 =>
        intro q m h hl
        rw [List.foldl_cons]
        exact ih2 _ m (by split; exact hl d List.mem_cons_self; exact h) (fun d' hd' => hl d' (List.mem_cons_of_mem _ hd'))
    by_cases hc : cB c = b ∧ cP c = p
    · rw [if_pos hc] at e
      rcases List.mem_cons.mp hw with q2 | q2
      · rw [q2]; exact hc.1
      · exact ih (cI c) w (fun d hd => h1 d (List.mem_cons_of_mem _ hd)) p2 (Or.inr p1) q2 e
    · rw [if_neg hc] at e
      rcases List.mem_cons.mp hw with q2 | q2
      · subst q2
        exfalso
        have key : ∀ (l : List Ch) (q : Nat), (∀ d ∈ l, cI w < cI d) → (q < cI w) → l.foldl (fun q c => if cB c = b ∧ cP c = p then cI c else q) q = q ∨ cI w < l.foldl (fun q c => if cB c = b ∧ cP c = p then cI c else q) q := by
          intro l
          induction l with
          | nil => intro q _ _; exact Or.inl rfl
          | cons d l ih2 =>
            intro q hl hq
            rw [List.foldl_cons]
            by_cases hd : cB d = b ∧ cP d = p
            · rw [if_pos hd]
              right
              exact hno l (cI d) (cI w + 1) (hl d List.mem_cons_self) (fun d' hd' => hl d' (List.mem_cons_of_mem _ hd'))
            · rw [if_neg hd]
              exact ih2 q (fun d' hd' => hl d' (List.mem_cons_of_mem _ hd')) hq
        have hq' : q < cI w := by
          rcases hq with q3 | q3
          · have := h1 w List.mem_cons_self; omega
          · exact q3 w List.mem_cons_self
        rcases key l q p1 hq' with q4 | q4 <;> omega
      · refine ih q w (fun d hd => h1 d (List.mem_cons_of_mem _ hd)) p2 ?_ q2 e
        rcases hq with q3 | q3
        · exact Or.inl q3
        · exact Or.inr (fun d hd => q3 d (List.mem_cons_of_mem _ hd))
theorem idK_latest (B : Bn S) (hp : (sC S).Pairwise (fun a b => cI a < cI b)) (b p : Nat) : idK S (latest S b p : Int) (fun w => cB w = b) := fun w hw e =>
  lat_blk b p (sC S) 0 w (fun c hc => (B c hc).1) hp (Or.inl rfl) hw (by unfold latest at e; omega)
theorem latest_le2 (B : Bn S) (b p : Nat) : latest S b p ≤ sM S := by
  have : ∀ (l : List Ch) (q : Nat), (∀ c ∈ l, cI c ≤ sM S) → q ≤ sM S → l.foldl (fun q c => if cB c = b ∧ cP c = p then cI c else q) q ≤ sM S := by
    intro l
    induction l with
    | nil => intro q _ h; exact h
    | cons c l ih =>
      intro q hl hq
      rw [List.foldl_cons]
      exact ih _ (fun d hd => hl d (List.mem_cons_of_mem _ hd)) (by split; exact hl c List.mem_cons_self; exact hq)
  exact this (sC S) 0 (fun c hc => (B c hc).2.1) (Nat.zero_le _)
theorem pw_mk (B : Bn S) (hp : (sC S).Pairwise (fun a b => cI a < cI b)) (b p v : Nat) (n1 n2 n3 n4 : Int) : (sC (mk S b p v n1 n2 n3 n4)).Pairwise (fun a b => cI a < cI b) := by
  unfold mk
  split
  · exact hp
  · refine List.pairwise_append.mpr ⟨hp, List.pairwise_singleton _ _, fun a ha c hc => ?_⟩
    rw [List.mem_singleton] at hc
    subst hc
    have := (B a ha).2.1
    show cI a < sM S + 1
    omega
theorem nk_name (N : Nk S) (hp : (sC S).Pairwise (fun a b => cI a < cI b)) {e nm node n1 n2 n3 : Nat} (he : 4 ≤ e / 16) (h : n1 ≤ sM S ∧ n2 ≤ sM S ∧ n3 ≤ sM S)
    (g1 : idK S n1 isLT) (g2 : idK S n2 isLT) (g3 : idK S n3 pnz) (g4 : fr3 S n3) : Nk (nameE S e nm node n1 n2 n3) := by
  unfold nameE
  have hl := latest_le2 N.1 (e / 16) (e % 16)
  have N1 : Nk (mk S (e / 16) (e % 16 + 1) node (latest S (e / 16) (e % 16) : Int) 0 0 0) :=
    nk_mk N ⟨by omega, by omega, by omega, by omega⟩ (fun _ => ⟨fun w hw q => Or.inr (idK_latest N.1 hp _ _ w hw q), idK_0 N.1 _, idK_0 N.1 _, idK_0 N.1 _⟩) (fun q => by
      have h2 : e / 16 ≤ 3 := q.2.1
      omega) (Or.inl rfl)
  have hs := sM_mk S (e / 16) (e % 16 + 1) node (latest S (e / 16) (e % 16) : Int) 0 0 0
  have hm := mkI_le S (e / 16) (e % 16 + 1) node (latest S (e / 16) (e % 16) : Int) 0 0 0
  refine nk_mk N1 ⟨by omega, by omega, by omega, by omega⟩ (fun _ => ⟨fun w hw q => Or.inl (idK_mk (by omega) g1 w hw q), idK_mk (by omega) g2, idK_mk (by omega) g3, idK_new N.1 rfl⟩) (fun q => by
      have h2 : e / 16 ≤ 3 := q.2.1
      omega) (fr_mk g4)
theorem nk_gets (N : Nk S) {n b f v : Nat} (hn : n < 12) (hf : f = 2 ∨ f = 3) (hb : 4 ≤ b) : Nk (gets S n b f v) ∧ idK (gets S n b f v) (getsI S n b f v : Int) pnz ∧ fr3 (gets S n b f v) (getsI S n b f v : Int) ∧ getsI S n b f v ≤ sM (gets S n b f v) ∧ sM S ≤ sM (gets S n b f v) := by
  have N1 := nk0 N 0 b 1
  have N2 := nk0 N1 b 16 v
  have m1 := mkI_le S 0 b 1 0 0 0 0
  have m2 := mkI_le (mk S 0 b 1 0 0 0 0) b 16 v 0 0 0 0
  have s1 := sM_mk S 0 b 1 0 0 0 0
  have s2 := sM_mk (mk S 0 b 1 0 0 0 0) b 16 v 0 0 0 0
  have s3 := sM_mk (gets2 S b v) (1 + n / 4) (4 * (n % 4) + f) b (mkI S 0 b 1 : Int) (getsN S b v) 0 0
  have s2' : sM (mk S 0 b 1 0 0 0 0) ≤ sM (gets2 S b v) := s2
  have i1 : idK (gets2 S b v) (mkI S 0 b 1 : Int) (fun w => cB w = 0) := idK_mk (by omega) (idK_new N.1 rfl)
  have i2 : idK (gets2 S b v) (getsN S b v) (fun w => cB w = b) ∧ getsN S b v ≤ sM (gets2 S b v) := by
    unfold getsN
    split
    · exact ⟨idK_neg N2.1 (by omega) _, by omega⟩
    · exact ⟨idK_new N1.1 rfl, by unfold gets2; omega⟩
  refine ⟨?_, ?_, ?_, ?_, ?_⟩
  · exact nk_mk N2 ⟨by show ((mkI S 0 b 1 : Nat) : Int) ≤ (sM (gets2 S b v) : Int); omega, i2.2, by omega, by omega⟩ (fun h4 => by omega) (fun _ => ⟨i1, i2.1⟩) (Or.inl rfl)
  · refine idK_new N2.1 ⟨⟨?_, ?_, ?_, ?_⟩, ?_⟩
    · show 1 ≤ 1 + n / 4; omega
    · show 1 + n / 4 ≤ 3; omega
    · show 4 * (n % 4) + f < 16; omega
    · show 2 ≤ (4 * (n % 4) + f) % 4; omega
    · show b ≠ 0; omega
  · exact fr_new N2.1
  · exact mkI_le _ _ _ _ _ _ _ _
  · show sM S ≤ sM (mkF (gets2 S b v) n f b (mkI S 0 b 1 : Int) (getsN S b v))
    unfold mkF
    omega
theorem lt_is {n f v x : Nat} (hn : n < 12) (hf : f < 2) : isLT (x, 1 + n / 4, 4 * (n % 4) + f, v, 0, 0, 0, 0) := by
  refine ⟨?_, ?_, ?_, ?_⟩
  · show 1 ≤ 1 + n / 4; omega
  · show 1 + n / 4 ≤ 3; omega
  · show 4 * (n % 4) + f < 16; omega
  · show (4 * (n % 4) + f) % 4 < 2; omega
theorem nk_beg1 (I : Iv S z 7 j 7) (N : Nk S) {d nm : Nat} (hd : d < 12) : Nk (sBeg S z d nm 1).2 := by
  rw [sBeg_1]
  cases hE : (if newName S d nm = true then fent (mm S) d 0 else none) with
  | none => exact N
  | some e =>
    have h3 : fent (mm S) d 0 = some e := by split at hE; exact hE; cases hE
    cases h2 : fNode (mm S) with
    | none => exact N
    | some n =>
      obtain ⟨hn, -, -⟩ := fNode_lt h2
      have he := (ent_blk I.1 hd (fent_mem h3).1).1
      show Nk (nameE (mkF (mkF S n 0 1 0 0) n 1 1 0 0) e nm n (mkFI S n 0 1) (mkFI (mkF S n 0 1 0 0) n 1 1) 0)
      have B := I.1.1
      have N1 : Nk (mkF S n 0 1 0 0) := nk0 N _ _ _
      have N2 : Nk (mkF (mkF S n 0 1 0 0) n 1 1 0 0) := nk0 N1 _ _ _
      have m1 : mkFI S n 0 1 ≤ sM (mkF S n 0 1 0 0) := mkI_le _ _ _ _ _ _ _ _
      have m2 : mkFI (mkF S n 0 1 0 0) n 1 1 ≤ sM (mkF (mkF S n 0 1 0 0) n 1 1 0 0) := mkI_le _ _ _ _ _ _ _ _
      have s2 : sM (mkF S n 0 1 0 0) ≤ sM (mkF (mkF S n 0 1 0 0) n 1 1 0 0) := sM_mk _ _ _ _ _ _ _ _
      have pw : (sC (mkF (mkF S n 0 1 0 0) n 1 1 0 0)).Pairwise (fun a b => cI a < cI b) := pw_mk N1.1 (pw_mk N.1 B.2.2.2.2.2.2 _ _ _ _ _ _ _) _ _ _ _ _ _ _
      exact nk_name N2 pw he ⟨by omega, m2, by omega⟩ (idK_mk (by omega) (idK_new N.1 (lt_is hn (by decide)))) (idK_new N1.1 (lt_is hn (by decide))) (idK_0 N2.1 _) (Or.inl rfl)
theorem nk_beg2 (I : Iv S z 7 j 7) (N : Nk S) {d nm : Nat} (hd : d < 12) : Nk (sBeg S z d nm 2).2 := by
  rw [sBeg_2]
  cases hE : (if newName S d nm = true then fent (mm S) d 0 else none) with
  | none => exact N
  | some e =>
    have h3 : fent (mm S) d 0 = some e := by split at hE; exact hE; cases hE
    cases h2 : fNode (mm S) with
    | none => exact N
    | some n =>
      cases h4 : fBlock (mm S) z with
      | none => exact N
      | some b =>
      obtain ⟨hn, -, -⟩ := fNode_lt h2
      have he := (ent_blk I.1 hd (fent_mem h3).1).1
      have hb := (fBlock_lt h4).1
      show Nk (nameE (gets (mkF (mkF S n 0 1 0 0) n 1 2 0 0) n b 2 0) e nm n (mkFI S n 0 1) (mkFI (mkF S n 0 1 0 0) n 1 2) (getsI (mkF (mkF S n 0 1 0 0) n 1 2 0 0) n b 2 0))
      have B := I.1.1
      have N1 : Nk (mkF S n 0 1 0 0) := nk0 N _ _ _
      have N2 : Nk (mkF (mkF S n 0 1 0 0) n 1 2 0 0) := nk0 N1 _ _ _
      have m1 : mkFI S n 0 1 ≤ sM (mkF S n 0 1 0 0) := mkI_le _ _ _ _ _ _ _ _
      have m2 : mkFI (mkF S n 0 1 0 0) n 1 2 ≤ sM (mkF (mkF S n 0 1 0 0) n 1 2 0 0) := mkI_le _ _ _ _ _ _ _ _
      have s2 : sM (mkF S n 0 1 0 0) ≤ sM (mkF (mkF S n 0 1 0 0) n 1 2 0 0) := sM_mk _ _ _ _ _ _ _ _
      have pw : (sC (mkF (mkF S n 0 1 0 0) n 1 2 0 0)).Pairwise (fun a b => cI a < cI b) := pw_mk N1.1 (pw_mk N.1 B.2.2.2.2.2.2 _ _ _ _ _ _ _) _ _ _ _ _ _ _
      obtain ⟨N3, g3, g4, g5, g6⟩ := nk_gets N2 (n := n) (b := b) (f := 2) (v := 0) hn (Or.inl rfl) hb
      have pw2 := pw_mk N2.1 pw 0 b 1 0 0 0 0
      have pw3 := pw_mk (nk0 N2 0 b 1).1 pw2 b 16 0 0 0 0 0
      have pw4 := pw_mk (nk0 (nk0 N2 0 b 1) b 16 0).1 pw3 (1 + n / 4) (4 * (n % 4) + 2) b (mkI (mkF (mkF S n 0 1 0 0) n 1 2 0 0) 0 b 1 : Int) (getsN (mkF (mkF S n 0 1 0 0) n 1 2 0 0) b 0) 0 0
      have hup : ∀ (x : Int) (P : Ch → Prop), x ≤ sM (mkF (mkF S n 0 1 0 0) n 1 2 0 0) → idK (mkF (mkF S n 0 1 0 0) n 1 2 0 0) x P → idK (gets (mkF (mkF S n 0 1 0 0) n 1 2 0 0) n b 2 0) x P := fun x P hx h => by
        have t1 := sM_mk (mkF (mkF S n 0 1 0 0) n 1 2 0 0) 0 b 1 0 0 0 0
        have t2 := sM_mk (mk (mkF (mkF S n 0 1 0 0) n 1 2 0 0) 0 b 1 0 0 0 0) b 16 0 0 0 0 0
        exact idK_mk (show x ≤ (sM (gets2 (mkF (mkF S n 0 1 0 0) n 1 2 0 0) b 0) : Int) by unfold gets2; omega) (idK_mk (by omega) (idK_mk hx h))
      exact nk_name N3 pw4 he ⟨by omega, by omega, g5⟩ (hup _ _ (by omega) (idK_mk (by omega) (idK_new N.1 (lt_is hn (by decide))))) (hup _ _ (by omega) (idK_new N1.1 (lt_is hn (by decide)))) g3 g4
theorem nk_link (I : Iv S z 7 j 7) (N : Nk S) {d nm n : Nat} (hd : d < 12) (hn : n < 12) : Nk (sLink S d nm n).2 := by
  rw [sLink_m]
  cases hE : (if newName S d nm = true then fent (mm S) d 0 else none) with
  | none => exact N
  | some e =>
    have h3 : fent (mm S) d 0 = some e := by split at hE; exact hE; cases hE
    show Nk (if isK (mm S) n 1 = true ∧ fd (mm S) n 0 ≤ 8 then (true, nameE (mkF S n 0 (fd (mm S) n 0 + 1) 0 0) e nm n (mkFI S n 0 (fd (mm S) n 0 + 1)) 0 0) else (false, S)).2
    split
    rotate_left
    · exact N
    have he := (ent_blk I.1 hd (fent_mem h3).1).1
    have B := I.1.1
    have N1 : Nk (mkF S n 0 (fd (mm S) n 0 + 1) 0 0) := nk0 N _ _ _
    have m1 : mkFI S n 0 (fd (mm S) n 0 + 1) ≤ sM (mkF S n 0 (fd (mm S) n 0 + 1) 0 0) := mkI_le _ _ _ _ _ _ _ _
    have pw : (sC (mkF S n 0 (fd (mm S) n 0 + 1) 0 0)).Pairwise (fun a b => cI a < cI b) := pw_mk N.1 B.2.2.2.2.2.2 _ _ _ _ _ _ _
    exact nk_name N1 pw he ⟨m1, by omega, by omega⟩ (idK_new N.1 (lt_is hn (by decide))) (idK_0 N1.1 _) (idK_0 N1.1 _) (Or.inl rfl)
theorem nk_grow (N : Nk S) {n v : Nat} (hn : n < 12) : Nk (sGrow S z n v).2 := by
  unfold sGrow
  split
  · rename_i b h4
    split
    · exact N
    · exact (nk_gets N hn (by split; exact Or.inl rfl; exact Or.inr rfl) (fBlock_lt h4).1).1
  · exact N
end K1
