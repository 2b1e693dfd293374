/-! ===== the class's questions of one side ===== -/
def ebs (b j k : Nat) : List Nat := (List.range' j k).map (fun j => 16 * b + 2 * j)
theorem ebs_cons (b j k : Nat) : ebs b j (k + 1) = (16 * b + 2 * j) :: ebs b (j + 1) k := by
  unfold ebs
  rw [List.range'_succ, List.map_cons]
theorem eb_ebs {b : Nat} (hb : b ≠ 0) : eb b = ebs b 0 8 := by
  unfold eb ebs
  rw [if_neg hb, List.range_eq_range']
theorem eb_0 : eb 0 = [] := rfl
section T1
variable {h : Hp} {s w : Nat} {B : Nat → Nat}
theorem c_atN (R : CB h s w B) {b j : Nat} (hb : b < 16) (hj : j < 8) : fX5_at s (nI w) (nI b) (nI (2 * j)) h = some (.inl (some (.int (nI (B (16 * b + 2 * j))))), h) := c_at R hb (by omega)
theorem c_atM (R : CB h s w B) {b j : Nat} (hb : b < 16) (hj : j < 8) : fX5_at s (nI w) (nI b) (nI (2 * j + 1)) h = some (.inl (some (.int (nI (B (16 * b + 2 * j + 1))))), h) := c_at R hb (p := 2 * j + 1) (by omega)
def half (x : Option Nat) : Option Nat := x.map (fun e => e / 2)
theorem t_ent1 (R : CB h s w B) {b nm : Nat} (hb : b < 16) (hb0 : b ≠ 0) (hnm : nm < 2 ^ 31) {x2 x4 : Int32} : ∀ (k j n : Nat), j + k = 8 →
    gX8_entryNamed (n + k + 1) 33 [.ref s, .int (nI w), .int x2, .int (nI nm), .int x4, .int (nI b), .int (nI j)] [] h = match (ebs b j k).find? (fun e => B e == nm) with
      | some e => some (.inl (some (.int (nI (e / 2)))), h)
      | none => gX8_entryNamed n 14 [.ref s, .int (nI w), .int x2, .int (nI nm), .int (x4 + 1), uV, uV] [] h := by
  have hs := R.1.1
  intro k
  induction k with
  | zero =>
    intro j n hj
    rw [Nat.add_zero, zX8_entryNamed_33]
    have : j = 8 := by omega
    subst this
    unfold kX8_entryNamed_33
    rw [if_neg (by rw [nI_eq0 (by omega)]; exact hb0), if_pos (by decide)]
    rfl
  | succ k ih =>
    intro j n hj
    have ih := ih (j + 1) n (by omega)
    have ha := c_atN R hb (j := j) (by omega)
    have hB : B (16 * b + 2 * j) < 128 := R.2.2.2 _
    rw [show n + (k + 1) + 1 = (n + k + 1) + 1 by omega, zX8_entryNamed_33, ebs_cons, List.find?_cons]
    unfold kX8_entryNamed_33
    rw [if_neg (by rw [nI_eq0 (by omega)]; exact hb0), if_neg (by rw [k8, nI_leI (by decide) (by omega)]; omega), if_pos hs, k2, pk_mul, ha, bI_s, nI_1]
    by_cases e : B (16 * b + 2 * j) = nm
    · have e' : (B (16 * b + 2 * j) == nm) = true := by simpa using e
      rw [if_neg (by rw [nI_eq (by omega) (by omega)]; simp [e]), e', k8, pk_mul, nI_add]
      simp only []
      rw [show (16 * b + 2 * j) / 2 = b * 8 + j by omega]
    · have e' : (B (16 * b + 2 * j) == nm) = false := by simpa using e
      rw [if_pos (by rw [nI_eq (by omega) (by omega)]; exact e), e', ih]
theorem t_ent0 {b nm : Nat} (hb0 : b = 0) {x2 x4 : Int32} (n : Nat) :
    gX8_entryNamed (n + 1) 33 [.ref s, .int (nI w), .int x2, .int (nI nm), .int x4, .int (nI b), .int 0] [] h = gX8_entryNamed n 14 [.ref s, .int (nI w), .int x2, .int (nI nm), .int (x4 + 1), uV, uV] [] h := by
  subst hb0
  rw [zX8_entryNamed_33]
  unfold kX8_entryNamed_33
  rw [if_pos nI_0]
theorem t_entF (R : CB h s w B) (P : Pb B) {d nm f : Nat} (hd : d < 12) (hf : f = 2 ∨ f = 3) (hnm : nm < 2 ^ 31) (n : Nat) :
    gX8_entryNamed (n + 10) 14 [.ref s, .int (nI w), .int (nI d), .int (nI nm), .int (nI f), uV, uV] [] h = match (eb (fd B d f)).find? (fun e => B e == nm) with
      | some e => some (.inl (some (.int (nI (e / 2)))), h)
      | none => if fd B d f = 0 then gX8_entryNamed (n + 8) 14 [.ref s, .int (nI w), .int (nI d), .int (nI nm), .int (nI (f + 1)), uV, uV] [] h else gX8_entryNamed n 14 [.ref s, .int (nI w), .int (nI d), .int (nI nm), .int (nI (f + 1)), uV, uV] [] h := by
  have hb := P d hd f hf
  have hnf := c_nodeField R hd (f := f) (by omega)
  rw [show n + 10 = (n + 9) + 1 from rfl, zX8_entryNamed_14]
  unfold kX8_entryNamed_14
  rw [if_neg (by rw [k3, nI_ltI (by decide) (by omega)]; omega), if_pos R.1.1, hnf, bI_s]
  by_cases e : fd B d f = 0
  · rw [show n + 9 = (n + 8) + 1 from rfl, t_ent0 e, e, eb_0, if_pos rfl, nI_1]
    rfl
  · have := t_ent1 R hb e hnm (x2 := nI d) (x4 := nI f) 8 0 n rfl
    rw [eb_ebs e, if_neg e, ← nI_1]
    exact this
theorem find_app {α : Type} {p : α → Bool} {l m : List α} : (l ++ m).find? p = match l.find? p with | some e => some e | none => m.find? p := by
  rw [List.find?_append]
  cases l.find? p <;> rfl
theorem t_entryNamed (R : CB h s w B) (P : Pb B) {d nm : Nat} (hd : d < 12) (hnm : nm < 2 ^ 31) : fX8_entryNamed s (nI w) (nI d) (nI nm) h = some (.inl (some (.int (if isK B d 2 = true then oI (half (fent B d nm)) else -1))), h) := by
  have h1 := c_isDirectory R hd
  unfold fX8_entryNamed kX8_entryNamed_0
  rw [if_pos R.1.1, h1, bI_s]
  cases hk : isK B d 2 with
  | false => rw [if_neg (by decide)]; rfl
  | true =>
    rw [if_pos (by decide), if_pos rfl]
    have f2 := fun n => t_entF R P hd (f := 2) (Or.inl rfl) hnm n
    have f3 := fun n => t_entF R P hd (f := 3) (Or.inr rfl) hnm n
    have fe : ∀ n, gX8_entryNamed (n + 1) 14 [.ref s, .int (nI w), .int (nI d), .int (nI nm), .int (nI (3 + 1)), uV, uV] [] h = some (.inl (some (.int (-1))), h) := fun n => by
      rw [zX8_entryNamed_14]
      unfold kX8_entryNamed_14
      rw [if_pos (by decide)]
    unfold fent ents
    rw [find_app]
    have h0 := f2 999990
    refine Eq.trans h0 ?_
    cases e2 : (eb (fd B d 2)).find? (fun e => B e == nm) with
    | some e => rfl
    | none =>
      simp only []
      have hgo : ∀ n, gX8_entryNamed (n + 11) 14 [.ref s, .int (nI w), .int (nI d), .int (nI nm), .int (nI (2 + 1)), uV, uV] [] h = some (.inl (some (.int (oI (half ((eb (fd B d 3)).find? (fun e => B e == nm)))))), h) := fun n => by
        rw [show n + 11 = (n + 1) + 10 from rfl, f3 (n + 1)]
        cases e3 : (eb (fd B d 3)).find? (fun e => B e == nm) with
        | some e => rfl
        | none =>
          simp only []
          split
          · exact fe _
          · exact fe _
      split
      · exact hgo _
      · exact hgo _
theorem t_nodeOf (R : CB h s w B) {e : Nat} (he : e + 1 < 256) (he2 : e % 2 = 0) : fX8_nodeOfEntry s (nI w) (nI (e / 2)) h = some (.inl (some (.int (nI (B (e + 1))))), h) := by
  have := c_at R (b := e / 2 / 8) (p := e / 2 % 8 * 2 + 1) (by omega) (by omega)
  rw [show 16 * (e / 2 / 8) + (e / 2 % 8 * 2 + 1) = e + 1 by omega] at this
  unfold fX8_nodeOfEntry
  simp (maxSteps := 3000000) (disch := omega) only [kX8_nodeOfEntry_0, R.1.1, ↓reduceIte, if_true, if_false, ite_not, not_true_eq_false, not_false_eq_true, ↓qqI_p, ↓qqR_p, ↓qqV_p, ↓qqIx_p, ↓qqRx_p, ↓qqVx_p, qqI_s, qqR_s, qqV_s, qqIx_s, qqRx_s, qqVx_s, qqIx_t, qqVx_t, ↓letH_s, inB_nI, nI_leI, nI_ltI, nI_eq, nI_eq0, nI_eqm, nI_eqn, nI_le0, nI_lt0, nI_0lt, nI_0le, nI_clamp, pk_mul, nI_add, pk_div, pk_sub, rem_n, z_add, add_z, m_cell, kmk, lmk, rmk, b2i_0, b2i_n1, bft, le_t, le_f, lt_t, lt_f, eq_t, eq_f, k1, k2, k3, k4, k5, k6, k7, k8, k9, k10, k11, k12, k13, k15, k16, k20, k24, k30, k60, k64, k99, k100, k200, k255, k256, k512, k2912, k3392, k3393, k3394, k3395, k3396, k3397, k3398, this]
theorem t_nn1 (R : CB h s w B) {b : Nat} (hb : b < 16) (hb0 : b ≠ 0) (hN : ∀ e ∈ eb b, B e ≠ 0 → B (e + 1) < 12) {x2 x4 : Int32} : ∀ (k j n a : Nat), j + k = 8 → a < 2 ^ 12 →
    gX8_namedNodes (n + k + 1) 33 [.ref s, .int (nI w), .int x2, .int (nI a), .int x4, .int (nI b), .int (nI j)] [] h = gX8_namedNodes n 5 [.ref s, .int (nI w), .int x2, .int (nI (orK B a (ebs b j k))), .int (x4 + 1), uV, uV] [] h := by
  have hs := R.1.1
  intro k
  induction k with
  | zero =>
    intro j n a hj ha
    rw [Nat.add_zero, zX8_namedNodes_33]
    have : j = 8 := by omega
    subst this
    unfold kX8_namedNodes_33
    rw [if_neg (by rw [nI_eq0 (by omega)]; exact hb0), if_pos (by decide)]
    rfl
  | succ k ih =>
    intro j n a hj ha
    have ha1 := c_atN R hb (j := j) (by omega)
    have ha2 := c_atM R hb (j := j) (by omega)
    have hB : B (16 * b + 2 * j) < 128 := R.2.2.2 _
    rw [show n + (k + 1) + 1 = (n + k + 1) + 1 by omega, zX8_namedNodes_33, ebs_cons]
    unfold kX8_namedNodes_33
    rw [if_neg (by rw [nI_eq0 (by omega)]; exact hb0), if_neg (by rw [k8, nI_leI (by decide) (by omega)]; omega), if_pos hs, k2, pk_mul, ha1, bI_s, nI_1]
    have horK : orK B a ((16 * b + 2 * j) :: ebs b (j + 1) k) = orK B (if B (16 * b + 2 * j) = 0 then a else a ||| 2 ^ B (16 * b + 2 * j + 1)) (ebs b (j + 1) k) := rfl
    rw [horK]
    by_cases e : B (16 * b + 2 * j) = 0
    · rw [if_pos (by rw [nI_eq0 (by omega)]; exact e), if_pos e, ih (j + 1) n a (by omega) ha]
    · have hlt := hN (16 * b + 2 * j) (eb_mem.mpr ⟨hb0, j, by omega, rfl⟩) e
      have hp : 2 ^ B (16 * b + 2 * j + 1) < 2 ^ 12 := Nat.pow_lt_pow_right (by decide) hlt
      rw [if_neg (by rw [nI_eq0 (by omega)]; exact e), if_neg e, if_pos hs, nI_1, ha2, bI_s, k1, one_shl (by omega), or_nI31 (by omega) (by omega), ih (j + 1) n _ (by omega) (Nat.or_lt_two_pow ha hp)]
      rfl
theorem t_nnF (R : CB h s w B) (P : Pb B) {d f : Nat} (hd : d < 12) (hk : isK B d 2 = true) (hN : ∀ e ∈ ents B d, B e ≠ 0 → B (e + 1) < 12) (hf : f = 2 ∨ f = 3) {a : Nat} (ha : a < 2 ^ 12) (n : Nat) :
    ∃ n', n ≤ n' ∧ gX8_namedNodes (n + 10) 5 [.ref s, .int (nI w), .int (nI d), .int (nI a), .int (nI f), uV, uV] [] h = gX8_namedNodes n' 5 [.ref s, .int (nI w), .int (nI d), .int (nI (orK B a (eb (fd B d f)))), .int (nI (f + 1)), uV, uV] [] h := by
  have hb := P d hd f hf
  have hnf := c_nodeField R hd (f := f) (by omega)
  have h1 := c_isDirectory R hd
  rw [hk] at h1
  rw [show n + 10 = (n + 9) + 1 from rfl, zX8_namedNodes_5]
  unfold kX8_namedNodes_5
  rw [if_pos R.1.1, h1, bI_s, if_neg (by decide), if_neg (by rw [k3, nI_ltI (by decide) (by omega)]; omega), if_pos R.1.1, hnf, bI_s]
  by_cases e : fd B d f = 0
  · refine ⟨n + 8, by omega, ?_⟩
    rw [e, eb_0, show n + 9 = (n + 8) + 1 from rfl, zX8_namedNodes_33]
    unfold kX8_namedNodes_33
    rw [if_pos nI_0, nI_1]
    rfl
  · refine ⟨n, Nat.le_refl _, ?_⟩
    have hN2 : ∀ e ∈ eb (fd B d f), B e ≠ 0 → B (e + 1) < 12 := fun e he => hN e (by
      unfold ents
      rcases hf with rfl | rfl
      · exact List.mem_append_left _ he
      · exact List.mem_append_right _ he)
    have := t_nn1 R hb e hN2 (x2 := nI d) (x4 := nI f) 8 0 n a rfl ha
    rw [eb_ebs e, ← nI_1]
    exact this
theorem t_namedNodes (R : CB h s w B) (P : Pb B) {d : Nat} (hd : d < 12) (hN : isK B d 2 = true → ∀ e ∈ ents B d, B e ≠ 0 → B (e + 1) < 12) : fX8_namedNodes s (nI w) (nI d) h = some (.inl (some (.int (nI (if isK B d 2 = true then orK B 0 (ents B d) else 0)))), h) := by
  have h1 := c_isDirectory R hd
  unfold fX8_namedNodes kX8_namedNodes_0
  cases hk : isK B d 2 with
  | false =>
    rw [hk] at h1
    rw [show FF = 999999 + 1 from rfl, zX8_namedNodes_5]
    unfold kX8_namedNodes_5
    rw [if_pos R.1.1, h1, bI_s, if_pos (by decide)]
    rfl
  | true =>
    rw [hk] at h1
    have hN := hN hk
    rw [if_pos rfl]
    obtain ⟨n1, l1, g1⟩ := t_nnF R P hd hk hN (f := 2) (Or.inl rfl) (a := 0) (by decide) 999990
    refine Eq.trans g1 ?_
    have ho1 : orK B 0 (eb (fd B d 2)) < 2 ^ 12 := orK_lt (fun e he => hN e (List.mem_append_left _ he)) (by decide)
    obtain ⟨n2, l2, g2⟩ := t_nnF R P hd hk hN (f := 3) (Or.inr rfl) ho1 (n1 - 10)
    rw [show n1 - 10 + 10 = n1 by omega] at g2
    refine Eq.trans g2 ?_
    rw [show n2 = (n2 - 1) + 1 by omega, zX8_namedNodes_5]
    unfold kX8_namedNodes_5
    rw [if_pos R.1.1, h1, bI_s, if_neg (by decide), if_pos (by decide)]
    unfold ents orK
    rw [List.foldl_append]
end T1
