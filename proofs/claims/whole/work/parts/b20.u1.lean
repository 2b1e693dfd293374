/-! ===== under and deep: the class ===== -/
def nmB (B : Nat → Nat) (b k : Nat) : Option Nat := if b = 0 then none else if B (16 * b + k % 8 * 2) = 0 then none else some (B (16 * b + (k % 8 * 2 + 1)))
def nmA (B : Nat → Nat) (d k : Nat) : Option Nat := if isK B d 2 = true then nmB B (fd B d (if k < 8 then 2 else 3)) k else none
def onN {α : Type} (G : α → Nat → α) (a : α) (o : Option Nat) : α := match o with | none => a | some y => G a y
def undF (B : Nat → Nat) (F : Nat → Int32) (a : Int32) (e : Nat) : Int32 := if B e = 0 then a else a + (1 + F (B (e + 1)))
def und (B : Nat → Nat) : Nat → Nat → Int32
  | 0, _ => 0
  | f + 1, n => if isK B n 2 = true then (ents B n).foldl (undF B (und B f)) 0 else 0
theorem und_s (B : Nat → Nat) (f n : Nat) : und B (f + 1) n = if isK B n 2 = true then (ents B n).foldl (undF B (und B f)) 0 else 0 := rfl
def mxI (a b : Int32) : Int32 := if a < b then b else a
def depF (B : Nat → Nat) (F : Nat → Int32) (a : Int32) (e : Nat) : Int32 := if B e = 0 then a else mxI a (F (B (e + 1)))
def dep (B : Nat → Nat) : Nat → Nat → Int32
  | 0, n => if isK B n 2 = true then 1 else 0
  | f + 1, n => if isK B n 2 = true then 1 + (ents B n).foldl (depF B (dep B f)) 0 else 0
theorem dep_0 (B : Nat → Nat) (n : Nat) : dep B 0 n = if isK B n 2 = true then 1 else 0 := rfl
theorem dep_s (B : Nat → Nat) (f n : Nat) : dep B (f + 1) n = if isK B n 2 = true then 1 + (ents B n).foldl (depF B (dep B f)) 0 else 0 := rfl
theorem foldl_cg {α β : Type} {f g : α → β → α} : ∀ (l : List β) (a : α), (∀ x ∈ l, ∀ a, f a x = g a x) → l.foldl f a = l.foldl g a := by
  intro l
  induction l with
  | nil => intro a _; rfl
  | cons x l ih =>
    intro a h
    rw [List.foldl_cons, List.foldl_cons, h x List.mem_cons_self]
    exact ih _ (fun y hy => h y (List.mem_cons_of_mem _ hy))
/-- sixteen places, and the entries that there are -/
theorem fold16 {α : Type} (B : Nat → Nat) (d : Nat) (hk : isK B d 2 = true) (G : α → Nat → α) (a : α) : (List.range' 0 16).foldl (fun a k => onN G a (nmA B d k)) a = (ents B d).foldl (fun a e => if B e = 0 then a else G a (B (e + 1))) a := by
  have key : ∀ (b o : Nat) (a : α), o % 8 = 0 → (List.range' o 8).foldl (fun a k => onN G a (nmB B b k)) a = (eb b).foldl (fun a e => if B e = 0 then a else G a (B (e + 1))) a := fun b o a ho => by
    by_cases hb : b = 0
    · subst hb
      rw [eb_0, List.foldl_nil]
      have : ∀ (l : List Nat) (a : α), l.foldl (fun a k => onN G a (nmB B 0 k)) a = a := by
        intro l
        induction l with
        | nil => intro a; rfl
        | cons x l ih => intro a; rw [List.foldl_cons]; exact ih a
      exact this _ a
    · unfold eb
      rw [if_neg hb, List.range'_eq_map_range, List.foldl_map, List.foldl_map]
      refine foldl_cg _ _ (fun j hj a => ?_)
      have hj := List.mem_range.mp hj
      unfold nmB
      rw [if_neg hb, show (o + j) % 8 = j by omega, show 16 * b + j * 2 = 16 * b + 2 * j by omega, show 16 * b + (j * 2 + 1) = 16 * b + 2 * j + 1 by omega]
      by_cases h0 : B (16 * b + 2 * j) = 0
      · rw [if_pos h0, if_pos h0]; rfl
      · rw [if_neg h0, if_neg h0]; rfl
  unfold ents
  rw [List.foldl_append, ← key (fd B d 2) 0 a rfl, ← key (fd B d 3) 8 _ rfl, show List.range' 0 16 = List.range' 0 8 ++ List.range' 8 8 from rfl, List.foldl_append]
  have h1 : ∀ a, (List.range' 0 8).foldl (fun a k => onN G a (nmA B d k)) a = (List.range' 0 8).foldl (fun a k => onN G a (nmB B (fd B d 2) k)) a := fun a => foldl_cg _ _ (fun k hk2 a => by
    have := List.mem_range'_1.mp hk2
    unfold nmA
    rw [if_pos hk, if_pos (by omega)])
  have h2 : ∀ a, (List.range' 8 8).foldl (fun a k => onN G a (nmA B d k)) a = (List.range' 8 8).foldl (fun a k => onN G a (nmB B (fd B d 3) k)) a := fun a => foldl_cg _ _ (fun k hk2 a => by
    have := List.mem_range'_1.mp hk2
    unfold nmA
    rw [if_pos hk, if_neg (by omega)])
  rw [h1, h2]
theorem fold16_no {α : Type} (B : Nat → Nat) (d : Nat) (hk : isK B d 2 = false) (G : α → Nat → α) (a : α) : (List.range' 0 16).foldl (fun a k => onN G a (nmA B d k)) a = a := by
  have : ∀ (l : List Nat) (a : α), l.foldl (fun a k => onN G a (nmA B d k)) a = a := by
    intro l
    induction l with
    | nil => intro a; rfl
    | cons x l ih =>
      intro a
      rw [List.foldl_cons]
      have h0 : nmA B d x = none := by unfold nmA; rw [if_neg (by rw [hk]; decide)]
      rw [h0]
      exact ih a
  exact this _ a
/-- what is named is a node -/
theorem nmA_lt {B : Nat → Nat} (W : Wf B) {d k y : Nat} (hd : d < 12) (hk : k < 16) (h : nmA B d k = some y) : y < 12 ∧ isK B d 2 = true ∧ ∃ e ∈ ents B d, B e ≠ 0 ∧ B (e + 1) = y := by
  unfold nmA at h
  split at h
  · next hk2 =>
    have ht : fd B d 1 = 2 := by unfold isK at hk2; simp at hk2; exact hk2.2
    have hff : (if k < 8 then 2 else 3) = 2 ∨ (if k < 8 then 2 else 3) = 3 := by split <;> simp
    generalize (if k < 8 then 2 else 3) = f at h hff
    unfold nmB at h
    by_cases h0 : fd B d f = 0
    · rw [if_pos h0] at h; cases h
    rw [if_neg h0] at h
    by_cases h1 : B (16 * fd B d f + k % 8 * 2) = 0
    · rw [if_pos h1] at h; cases h
    rw [if_neg h1] at h
    have he : 16 * fd B d f + k % 8 * 2 ∈ ents B d := by
      unfold ents
      rcases hff with q | q
      · subst q
        exact List.mem_append_left _ (eb_mem.mpr ⟨h0, k % 8, by omega, by omega⟩)
      · subst q
        exact List.mem_append_right _ (eb_mem.mpr ⟨h0, k % 8, by omega, by omega⟩)
    have hy : B (16 * fd B d f + k % 8 * 2 + 1) = y := by
      rw [Nat.add_assoc]
      exact Option.some.inj h
    have := W.2.2 d hd ht _ he h1
    rw [hy] at this
    exact ⟨this, hk2, _, he, h1, hy⟩
  · cases h
section U1
variable {h : Hp} {s w : Nat} {B : Nat → Nat}
theorem t_namedAt (R : CB h s w B) (P : Pb B) {d k : Nat} (hd : d < 12) (hk : k < 16) : fX8_namedAt s (nI w) (nI d) (nI k) h = some (.inl (some (.int (oI (nmA B d k)))), h) := by
  have h1 := c_isDirectory R hd
  have n2 : fX5_nodeField s (nI w) (nI d) (nI 2) h = some (.inl (some (.int (nI (fd B d 2)))), h) := c_nodeField R (n := d) (f := 2) hd (by decide)
  have n3 : fX5_nodeField s (nI w) (nI d) (nI 3) h = some (.inl (some (.int (nI (fd B d 3)))), h) := c_nodeField R (n := d) (f := 3) hd (by decide)
  have p2 := P d hd 2 (Or.inl rfl)
  have p3 := P d hd 3 (Or.inr rfl)
  have a2 := c_at R (b := fd B d 2) (p := k % 8 * 2) p2 (by omega)
  have b2 := c_at R (b := fd B d 2) (p := k % 8 * 2 + 1) p2 (by omega)
  have a3 := c_at R (b := fd B d 3) (p := k % 8 * 2) p3 (by omega)
  have b3 := c_at R (b := fd B d 3) (p := k % 8 * 2 + 1) p3 (by omega)
  have g2 : B (16 * fd B d 2 + k % 8 * 2) < 128 := R.2.2.2 _
  have g3 : B (16 * fd B d 3 + k % 8 * 2) < 128 := R.2.2.2 _
  unfold fX8_namedAt nmA nmB
  cases hk2 : isK B d 2 with
  | false =>
    rw [hk2] at h1
    unfold kX8_namedAt_0
    rw [if_pos R.1.1, h1, bI_s, if_neg (by decide)]
    rfl
  | true =>
    rw [hk2] at h1
    unfold kX8_namedAt_0
    rw [if_pos R.1.1, h1, bI_s, if_pos (by decide), if_pos rfl]
    by_cases hk8 : k < 8
    · simp only [if_pos hk8]
      simp (maxSteps := 3000000) (disch := omega) only [R.1.1, n2, a2, b2, ↓reduceIte, if_true, if_false, ite_not, not_true_eq_false, not_false_eq_true, ↓qqI_p, ↓qqR_p, ↓qqV_p, ↓qqIx_p, ↓qqRx_p, ↓qqVx_p, qqI_s, qqR_s, qqV_s, qqIx_s, qqRx_s, qqVx_s, qqIx_t, qqVx_t, ↓letH_s, inB_nI, nI_leI, nI_ltI, nI_eq, nI_eq0, nI_eqm, nI_eqn, nI_le0, nI_lt0, nI_0lt, nI_0le, nI_clamp, pk_mul, nI_add, pk_div, pk_sub, rem_n, z_add, add_z, m_cell, kmk, lmk, rmk, b2i_0, b2i_n1, bft, le_t, le_f, lt_t, lt_f, eq_t, eq_f, k1, k2, k3, k4, k5, k6, k7, k8, k9, k10, k11, k12, k13, k15, k16, k20, k24, k30, k60, k64, k99, k100, k200, k255, k256, k512, k2912, k3392, k3393, k3394, k3395, k3396, k3397, k3398]
      by_cases e0 : fd B d 2 = 0
      · simp [e0, oI] <;> rfl
      · by_cases e1 : B (16 * fd B d 2 + k % 8 * 2) = 0
        · simp [e0, e1, oI] <;> rfl
        · simp [e0, e1, oI] <;> rfl
    · simp only [if_neg hk8]
      simp (maxSteps := 3000000) (disch := omega) only [R.1.1, n3, a3, b3, ↓reduceIte, if_true, if_false, ite_not, not_true_eq_false, not_false_eq_true, ↓qqI_p, ↓qqR_p, ↓qqV_p, ↓qqIx_p, ↓qqRx_p, ↓qqVx_p, qqI_s, qqR_s, qqV_s, qqIx_s, qqRx_s, qqVx_s, qqIx_t, qqVx_t, ↓letH_s, inB_nI, nI_leI, nI_ltI, nI_eq, nI_eq0, nI_eqm, nI_eqn, nI_le0, nI_lt0, nI_0lt, nI_0le, nI_clamp, pk_mul, nI_add, pk_div, pk_sub, rem_n, z_add, add_z, m_cell, kmk, lmk, rmk, b2i_0, b2i_n1, bft, le_t, le_f, lt_t, lt_f, eq_t, eq_f, k1, k2, k3, k4, k5, k6, k7, k8, k9, k10, k11, k12, k13, k15, k16, k20, k24, k30, k60, k64, k99, k100, k200, k255, k256, k512, k2912, k3392, k3393, k3394, k3395, k3396, k3397, k3398]
      by_cases e0 : fd B d 3 = 0
      · simp [e0, oI] <;> rfl
      · by_cases e1 : B (16 * fd B d 3 + k % 8 * 2) = 0
        · simp [e0, e1, oI] <;> rfl
        · simp [e0, e1, oI] <;> rfl
end U1
