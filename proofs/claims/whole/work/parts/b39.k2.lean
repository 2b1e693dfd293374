/-! ===== the invariant with what is needed ===== -/
def Inx (S : St) (z k : Nat) : Prop := Inw S z k ∧ Nk S
section K2
variable {S : St} {z i j k : Nat}
theorem Inx.le {k' : Nat} (I : Inx S z k) (h : k' ≤ k) : Inx S z k' := ⟨I.1.le h, I.2⟩
theorem inx_wrs (I : Inx S z (k + 240)) (b : Nat) : Inx (wrs S b) z k := ⟨inw_wrs I.1 b, nk_wrs I.2 b⟩
theorem inx_syF (l : List Nat) (S : St) (I : Inx S z (k + 240 * l.length)) : Inx (syF S l) z k := ⟨inw_syF l S I.1, nk_syF l S I.2⟩
theorem inx_crs (I : Inx S z k) : Inx (sCrs S) z k := ⟨inw_crs I.1, nk_nil rfl⟩
theorem inx_safe (I : Inx S z k) : Inx (sSafe S) z k := ⟨inw_safe I.1, nk_nil rfl⟩
theorem inx_zero (I : Inx (sSafe S) z k) (hk : k < 2 ^ 31) : Inx (sZero (sSafe S)) z k := ⟨inw_zero I.1 hk, nk_nil rfl⟩
theorem inx_S0 (hz : 6 ≤ z ∧ z ≤ 16) (hk : k < 2 ^ 31) : Inx S0 z k := ⟨inw_S0 hz hk, nk_nil rfl⟩
theorem inx_step {op a b c : Nat} (I : Inx S z (k + 3840)) (ok : okS op a b c) : Inx (sDo S z op a b c).2 z k := by
  refine ⟨inw_step I.1 ok, ?_⟩
  have I0 := I
  obtain ⟨⟨I, -⟩, N⟩ := I
  obtain ⟨o1, o2, o3, o4, o5, o6, o7⟩ := ok
  obtain ⟨hz1, hz⟩ := I.1
  unfold sDo
  by_cases hfl : (op < 7 ∨ op = 10) ∧ full S = true
  · rw [if_pos hfl]; exact N
  rw [if_neg hfl]
  have hr : (op < 7 ∨ op = 10) → Iv S z 7 2 7 := fun h => (inv_room (k := k + 3833) I (by
    cases hf : full S with
    | false => rfl
    | true => exact absurd ⟨h, hf⟩ hfl)).le (Nat.le_refl _) (Nat.le_refl _) (by omega)
  have hkc : op = 0 ∨ op = 1 ∨ op = 2 ∨ op = 3 ∨ op = 4 ∨ op = 5 ∨ op = 6 ∨ op = 7 ∨ op = 8 ∨ op = 9 ∨ op = 10 := by omega
  rcases hkc with rfl | rfl | rfl | rfl | rfl | rfl | rfl | rfl | rfl | rfl | rfl
  · rw [if_pos rfl]
    exact nk_beg1 (hr (by decide)) N (o2 (by decide))
  · rw [if_neg (by decide), if_pos rfl]
    exact nk_beg2 (hr (by decide)) N (o2 (by decide))
  · rw [if_neg (by decide), if_neg (by decide), if_pos rfl]
    exact nk_link (hr (by decide)) N (o2 (by decide)) (o5 rfl)
  · rw [if_neg (by decide), if_neg (by decide), if_neg (by decide), if_pos rfl]
    exact nk_grow N (o2 (by decide))
  · rw [if_neg (by decide), if_neg (by decide), if_neg (by decide), if_neg (by decide), if_pos rfl]
    unfold sPut
    generalize (if b < 16 then 2 else 3) = f
    split
    · exact nk0 N _ _ _
    · exact N
  · rw [if_neg (by decide), if_neg (by decide), if_neg (by decide), if_neg (by decide), if_neg (by decide), if_pos rfl]
    unfold sCut
    split
    · exact nk_putO (nk0 N _ _ _) _ _ _
    · exact N
  · rw [if_neg (by decide), if_neg (by decide), if_neg (by decide), if_neg (by decide), if_neg (by decide), if_neg (by decide), if_pos rfl]
    unfold sDrop
    split
    · split
      · exact N
      · exact nk_putO (nk0 N _ _ _) _ _ _
    · exact N
  · rw [if_neg (by decide), if_neg (by decide), if_neg (by decide), if_neg (by decide), if_neg (by decide), if_neg (by decide), if_neg (by decide), if_pos rfl]
    exact nk_wrs N a
  · rw [if_neg (by decide), if_neg (by decide), if_neg (by decide), if_neg (by decide), if_neg (by decide), if_neg (by decide), if_neg (by decide), if_neg (by decide), if_pos rfl]
    exact nk_syF _ S N
  · rw [if_neg (by decide), if_neg (by decide), if_neg (by decide), if_neg (by decide), if_neg (by decide), if_neg (by decide), if_neg (by decide), if_neg (by decide), if_neg (by decide), if_pos rfl]
    exact nk_nil rfl
  · rw [if_neg (by decide), if_neg (by decide), if_neg (by decide), if_neg (by decide), if_neg (by decide), if_neg (by decide), if_neg (by decide), if_neg (by decide), if_neg (by decide), if_neg (by decide)]
    unfold sSwp
    split
    · exact nk_setL N _ _
    · split
      · exact nk0 N _ _ _
      · exact N
/-! what a write adds: changes of the map and of nodes, that need nothing -/
def Ex (Y Y' : St) : Prop := sM Y ≤ sM Y' ∧ ∃ X, sC Y' = sC Y ++ X ∧ ∀ x ∈ X, nd0 x ∧ sM Y < cI x ∧ cB x < 4 ∧ ¬ pnz x
theorem Ex.refl (Y : St) : Ex Y Y := ⟨Nat.le_refl _, [], by simp, fun x hx => (by cases hx)⟩
theorem Ex.trans {Y1 Y2 Y3 : St} (a : Ex Y1 Y2) (b : Ex Y2 Y3) : Ex Y1 Y3 := by
  obtain ⟨a0, X, a1, a2⟩ := a
  obtain ⟨b0, X2, b1, b2⟩ := b
  refine ⟨Nat.le_trans a0 b0, X ++ X2, by rw [b1, a1, List.append_assoc], fun x hx => ?_⟩
  rcases List.mem_append.mp hx with h | h
  · exact a2 x h
  · obtain ⟨q1, q2, q3, q4⟩ := b2 x h
    exact ⟨q1, by omega, q3, q4⟩
theorem ex_mk {b p v : Nat} (hb : b < 4) (hp : isPT (sM S + 1, b, p, v, 0, 0, 0, 0) → v = 0) : Ex S (mk S b p v 0 0 0 0) := by
  cases hs : same S b p v with
  | true => rw [mk_t hs]; exact Ex.refl S
  | false =>
    rw [mk_f hs]
    refine ⟨by show sM S ≤ sM S + 1; omega, _, rfl, fun x hx => ?_⟩
    rw [List.mem_singleton] at hx
    subst hx
    exact ⟨⟨rfl, rfl, rfl, rfl⟩, by show sM S < sM S + 1; omega, hb, fun q => q.2 (hp q.1)⟩
theorem ex_putO (a b c : Nat) : Ex S (putO S a b c) := ⟨Nat.le_refl _, [], by show sC S = _; simp, fun x hx => (by cases hx)⟩
theorem ex_fld {n f v : Nat} (hn : n < 12) (hf : f < 4) (hv : 2 ≤ f → v = 0) : Ex S (mkF S n f v 0 0) := ex_mk (by omega) (fun q => hv (by
  have : 2 ≤ (4 * (n % 4) + f) % 4 := q.2.2.2
  omega))
theorem ex_zer {n f : Nat} (hn : n < 12) (hf : f < 4) : Ex S (zer S n f) := by
  unfold zer
  split
  · exact Ex.refl S
  · exact (ex_fld hn hf (fun _ => rfl)).trans (ex_putO _ _ _)
theorem ex_setL {n v : Nat} (hn : n < 12) : Ex S (setL S n v) := by
  unfold setL
  split
  · exact (ex_fld hn (by decide) (fun h => absurd h (by decide))).trans (((ex_fld hn (by decide) (fun h => absurd h (by decide))).trans (ex_zer hn (by decide))).trans (ex_zer hn (by decide)))
  · exact ex_fld hn (by decide) (fun h => absurd h (by decide))
theorem ex_dol {e : La} (he : e.1 = 0 ∨ e.2.1 < 12) : Ex S (dol S e) := by
  unfold dol
  split
  · exact ex_mk (by decide) (fun q => absurd (show 1 ≤ 0 from q.1) (by decide))
  · unfold less
    split
    · exact Ex.refl S
    · exact ex_setL (by rcases he with q | q; contradiction; exact q)
theorem ex_dols : ∀ (T : List La) (Y : St), (∀ e ∈ T, e.1 = 0 ∨ e.2.1 < 12) → Ex Y (T.foldl dol Y) := by
  intro T
  induction T with
  | nil => intro Y _; exact Ex.refl Y
  | cons e T ih => intro Y h; exact (ex_dol (h e List.mem_cons_self)).trans (ih _ (fun e' he' => h e' (List.mem_cons_of_mem _ he')))
/-- a write: what is held back, and what is added -/
theorem wrs_ex (L : Lk S) (b : Nat) : (dirt S b = false ∧ wrs S b = S) ∨ (dirt S b = true ∧ Ex (wrK S b) (wrs S b) ∧ wrs S b = (dueL S b).foldl dol (wrK S b)) := by
  unfold wrs
  cases hd : dirt S b with
  | false => exact Or.inl ⟨rfl, rfl⟩
  | true =>
    rw [if_pos rfl, wr_wrK]
    exact Or.inr ⟨rfl, ex_dols _ _ (fun e he => L e (List.mem_filter.mp he).1), rfl⟩
theorem dirt_iff {b : Nat} : dirt S b = true ↔ ∃ c ∈ sC S, cB c = b := by
  unfold dirt
  rw [List.any_eq_true]
  simp only [beq_iff_eq]
theorem wrs_mem (L : Lk S) (b : Nat) {c : Ch} (h : c ∈ sC (wrs S b)) : c ∈ sC S ∨ (nd0 c ∧ sM S < cI c ∧ cB c < 4 ∧ ¬ pnz c) := by
  rcases wrs_ex L b with ⟨-, e⟩ | ⟨-, ⟨h1, X, h2, h3⟩, -⟩
  · rw [e] at h; exact Or.inl h
  · rw [h2] at h
    rcases List.mem_append.mp h with h | h
    · exact Or.inl ((held_sub b (sC S)).subset h)
    · exact Or.inr (h3 c h)
theorem wrs_sM (L : Lk S) (b : Nat) : sM S ≤ sM (wrs S b) := by
  rcases wrs_ex L b with ⟨-, e⟩ | ⟨-, ⟨h1, -⟩, -⟩
  · rw [e]; exact Nat.le_refl _
  · exact h1
theorem wrs_stay (L : Lk S) {b : Nat} {c : Ch} (h : c ∈ sC S) (hb : cB c ≠ b) : c ∈ sC (wrs S b) := by
  rcases wrs_ex L b with ⟨-, e⟩ | ⟨-, ⟨h1, X, h2, h3⟩, -⟩
  · rw [e]; exact h
  · rw [h2]
    exact List.mem_append_left _ (not_go h hb)
theorem wrs_dirt (L : Lk S) {b b' : Nat} (hb : 4 ≤ b) (h : dirt (wrs S b') b = true) : dirt S b = true := by
  obtain ⟨c, hc, e⟩ := dirt_iff.mp h
  rcases wrs_mem L b' hc with q | q
  · exact dirt_iff.mpr ⟨c, q, e⟩
  · omega
/-- nobody needs what is pending of the map, of LINKS or TAGS of a block -/
def Fb (b : Nat) (S : St) : Prop := ∀ c ∈ sC S, ∀ w ∈ sC S, (cI w : Int) ∈ [c1 c, c2 c, c3 c, c4 c] → cB w = b → ¬ (cB w = 0 ∨ isLT w)
theorem fb_wrs (L : Lk S) (B : Bn S) {b : Nat} (h : Fb b S) (b' : Nat) : Fb b (wrs S b') := fun c hc w hw hn hb => by
  rcases wrs_mem L b' hc with q | ⟨⟨d1, d2, d3, d4⟩, q⟩
  · rcases wrs_mem L b' hw with q2 | q2
    · exact h c q w q2 hn hb
    · exfalso
      have := B c q
      simp only [List.mem_cons, List.not_mem_nil, or_false] at hn
      omega
  · exfalso
    have h1 : 1 ≤ cI w := by
      rcases wrs_mem L b' hw with q2 | q2
      · exact (B w q2).1
      · omega
    simp only [List.mem_cons, List.not_mem_nil, or_false] at hn
    omega
theorem fb_new (I : Inv S z k) (B : Bn S) {b : Nat} (hb4 : b < 4) : Fb b (wrs S b) := fun c hc w hw hn hb => by
  have L : Lk S := I.2.1.2.2.2.1
  have Bd1 : Bd S := I.2.1.1.1
  have K := I.2.1.1.2.1
  rcases wrs_ex L b with ⟨hd, e⟩ | ⟨-, ⟨h1, X, h2, h3⟩, -⟩
  · rw [e] at hw
    rw [dirt_iff.mpr ⟨w, hw, hb⟩] at hd
    cases hd
  · rw [h2] at hc hw
    have hB : ∀ c ∈ sC (wrK S b), c ∈ sC S := fun c hc => (held_sub b (sC S)).subset hc
    rcases List.mem_append.mp hw with q | q
    · have := held_pt Bd1 K hb4 w q hb
      unfold isPT at this
      unfold isLT
      omega
    · exfalso
      have hw1 := (h3 w q).2.1
      have hw1 : sM S < cI w := hw1
      rcases List.mem_append.mp hc with r | r
      · have := B c (hB c r)
        simp only [List.mem_cons, List.not_mem_nil, or_false] at hn
        omega
      · obtain ⟨⟨d1, d2, d3, d4⟩, -⟩ := h3 c r
        simp only [List.mem_cons, List.not_mem_nil, or_false] at hn
        omega
end K2
