/-! ===== the class: needs of the change made last ===== -/
def mkR (S : St) (b p v : Nat) (n1 n2 n3 n4 : Int) : St := (sD S, sC S ++ [(sM S + 1, b, p, v, n1, n2, n3, n4)], sL S, sM S + 1, sW S, sH S, sK S)
theorem mk_f {S : St} {b p v : Nat} {n1 n2 n3 n4 : Int} (h : same S b p v = false) : mk S b p v n1 n2 n3 n4 = mkR S b p v n1 n2 n3 n4 := by
  unfold mk
  rw [h]
  rfl
theorem mk_t {S : St} {b p v : Nat} {n1 n2 n3 n4 : Int} (h : same S b p v = true) : mk S b p v n1 n2 n3 n4 = S := by
  unfold mk
  rw [h]
  rfl
/-- a place among the changes, and the number that stands there -/
def IxId (S : St) (o : Option Nat) (i : Nat) : Prop := (o = none ∧ i = 0) ∨ ∃ j x, o = some j ∧ (sC S)[j]? = some x ∧ cI x = i
theorem IxId.lt {S : St} {o : Option Nat} {i j : Nat} (h : IxId S o i) (e : o = some j) : j < (sC S).length := by
  rcases h with ⟨h1, -⟩ | ⟨k, x, h1, h2, -⟩
  · rw [h1] at e; cases e
  · rw [h1] at e
    cases e
    exact (List.getElem?_eq_some_iff.mp h2).1
theorem IxId.app {S : St} {o : Option Nat} {i : Nat} {S' : St} {l : List Ch} (h : IxId S o i) (e : sC S' = sC S ++ l) : IxId S' o i := by
  rcases h with h1 | ⟨j, x, h1, h2, h3⟩
  · exact Or.inl h1
  · exact Or.inr ⟨j, x, h1, by rw [e, List.getElem?_append_left (List.getElem?_eq_some_iff.mp h2).1]; exact h2, h3⟩
theorem ix_mk {S : St} {o : Option Nat} {i : Nat} {b p v : Nat} {n1 n2 n3 n4 : Int} (h : IxId S o i) : IxId (mk S b p v n1 n2 n3 n4) o i := by
  cases e : same S b p v with
  | true => rw [mk_t e]; exact h
  | false => rw [mk_f e]; exact h.app rfl
theorem ix_made (S : St) (b p v : Nat) (n1 n2 n3 n4 : Int) : IxId (mk S b p v n1 n2 n3 n4) (pIx S b p v) (mkI S b p v) := by
  unfold pIx mkI
  cases e : same S b p v with
  | true => exact Or.inl ⟨rfl, rfl⟩
  | false =>
    rw [mk_f e]
    refine Or.inr ⟨(sC S).length, (sM S + 1, b, p, v, n1, n2, n3, n4), rfl, ?_, rfl⟩
    show (sC S ++ [_])[(sC S).length]? = _
    simp
theorem ix_lat (S : St) (b p : Nat) : IxId S (lasIx (sC S) b p) (latest S b p) := by
  have h := las_lat b p (sC S)
  unfold latest
  rw [h]
  cases hl : lasIx (sC S) b p with
  | none => exact Or.inl ⟨rfl, rfl⟩
  | some j =>
    have hj := lasIx_lt _ hl
    refine Or.inr ⟨j, (sC S)[j], rfl, List.getElem?_eq_getElem hj, ?_⟩
    simp only [List.getElem?_eq_getElem hj, Option.map_some, Option.getD_some]
theorem prs_ins {pre : List Ch} {c c' : Ch} {l1 l2 : List Int} {n : Int} (e1 : [c1 c, c2 c, c3 c, c4 c] = l1 ++ 0 :: l2) (e2 : [c1 c', c2 c', c3 c', c4 c'] = l1 ++ n :: l2) (h0 : ∀ e ∈ pre, 1 ≤ cI e) (hn : pre.any (fun e => (cI e : Int) == n) = true) : (prs pre c').Perm (n :: prs pre c) := by
  unfold prs
  have hz : pre.any (fun e => (cI e : Int) == 0) = false := any_id (fun e he => by have := h0 e he; omega)
  rw [e1, e2, List.filter_append, List.filter_append, List.filter_cons, List.filter_cons, hn, hz]
  exact List.perm_middle
section C12
variable {h : Hp} {s z : Nat} {S : St}
theorem c_needO {b p v : Nat} {n1 n2 n3 n4 m1 m2 m3 m4 : Int} (R : Sta h s (mkR S b p v n1 n2 n3 n4) z) {o : Option Nat} {i : Nat} (hI : IxId S o i) {l1 l2 : List Int} (e1 : [n1, n2, n3, n4] = l1 ++ 0 :: l2) (e2 : [m1, m2, m3, m4] = l1 ++ (i : Int) :: l2) (ha : (if m2 < 0 then some m2.natAbs else none) = (if n2 < 0 then some n2.natAbs else none)) (hp : 0 ≤ m1 ∧ 0 ≤ m3 ∧ 0 ≤ m4) :
    RsC (fX5_need s (nI (sC S).length) (oI o) h) none h s (mkR S b p v m1 m2 m3 m4) z := by
  have hB := R.bd
  have hlen : (sC (mkR S b p v n1 n2 n3 n4)).length = (sC S).length + 1 := len1 _ _
  rcases hI with ⟨h1, h2⟩ | ⟨j, x, h1, h2, h3⟩
  · subst h1 h2
    have he : [m1, m2, m3, m4] = [n1, n2, n3, n4] := by rw [e1, e2]; rfl
    obtain ⟨q1, q2⟩ := List.cons.inj he
    obtain ⟨q3, q4⟩ := List.cons.inj q2
    obtain ⟨q5, q6⟩ := List.cons.inj q4
    obtain ⟨q7, -⟩ := List.cons.inj q6
    subst q1 q3 q5 q7
    have := c_needN (x := 0) R (some (sC S).length) (fun q hq => by cases hq; have := hB.1; omega)
    exact ⟨h, this, Own.refl _ _, R⟩
  · subst h1
    have hx : x ∈ sC S := List.mem_of_getElem? h2
    have hxb : chB (sM S + 1) x := hB.2.2.2.2.1 x (List.mem_append_left _ hx)
    have hxM : cI x ≤ sM S := by
      have hpw := hB.2.2.2.2.2.2
      have := (List.pairwise_append.mp hpw).2.2 x hx (sM S + 1, b, p, v, n1, n2, n3, n4) (by simp)
      have this : cI x < sM S + 1 := this
      omega
    have hpre : ∀ e ∈ sC S, 1 ≤ cI e := fun e he => (hB.2.2.2.2.1 e (List.mem_append_left _ he)).1
    have hany : (sC S).any (fun e => (cI e : Int) == (i : Int)) = true := List.any_eq_true.mpr ⟨x, hx, by simp [h3]⟩
    have hperm := prs_ins (pre := sC S) (c := (sM S + 1, b, p, v, n1, n2, n3, n4)) (c' := (sM S + 1, b, p, v, m1, m2, m3, m4)) e1 e2 hpre hany
    have hnb : ∀ n ∈ [n1, n2, n3, n4], -16 < n ∧ n < ((sM S + 1 : Nat) : Int) := fun n hn => (hB.2.2.2.2.1 (sM S + 1, b, p, v, n1, n2, n3, n4) (by show _ ∈ sC S ++ [_]; simp)).2.2.2.2.2 n hn
    have hne := c_need (S := mkR S b p v n1 n2 n3 n4) R (pre := sC S) (l := []) (c := (sM S + 1, b, p, v, n1, n2, n3, n4)) (c' := (sM S + 1, b, p, v, m1, m2, m3, m4)) (x := x) rfl rfl h2 (by
      have := hperm.length_eq
      have h4 := prs_le (sC S) (sM S + 1, b, p, v, m1, m2, m3, m4)
      rw [List.length_cons] at this
      omega) (by rw [h3]; exact hperm) ha hp (fun n hn => by
        have hn : n ∈ [m1, m2, m3, m4] := hn
        rw [e2] at hn
        rcases List.mem_append.mp hn with w | w
        · exact hnb n (by rw [e1]; exact List.mem_append_left _ w)
        · rcases List.mem_cons.mp w with w | w
          · subst w
            show -16 < (i : Int) ∧ (i : Int) < ((sM S + 1 : Nat) : Int)
            omega
          · exact hnb n (by rw [e1]; exact List.mem_append_right _ (List.mem_cons_of_mem _ w)))
    exact hne
theorem c_needOn {o : Option Nat} : fX5_need s (oI none) (oI o) h = some (.inl none, h) := rfl
theorem c_putF (R : Sta h s S z) (sl : Sl S 1 0 1) {n f v : Nat} (hn : n < 12) (hf : f < 4) (hv : v < 128) : RsC (fX5_putField s (nI n) (nI f) (nI v) h) (some (.int (oI (pIx S (1 + n / 4) (4 * (n % 4) + f) v)))) h s (mkF S n f v 0 0) z := by
  unfold fX5_putField kX5_putField_0
  rw [if_pos R.so.1, blk_n hn, plc_n hn, nI_add]
  exact rsc_bI (c_putR R sl (b := 1 + n / 4) (p := 4 * (n % 4) + f) (v := v) (by omega) (by omega) hv) (fun h1 O1 R1 => ⟨h1, rfl, Own.refl _ _, R1⟩)
theorem same_ne {b p v : Nat} (hp : p < 16) (h : mm S (16 * b + p) ≠ v) : same S b p v = false := by
  unfold same
  rw [if_neg (by omega)]
  simpa using h
theorem same_neF {n f v : Nat} (hf : f < 4) (h : fd (mm S) n f ≠ v) : same S (1 + n / 4) (4 * (n % 4) + f) v = false := by
  refine same_ne (by omega) ?_
  rw [show 16 * (1 + n / 4) + (4 * (n % 4) + f) = 16 + 4 * n + f by omega]
  exact h
theorem mm_mkne {b p v : Nat} {n1 n2 n3 n4 : Int} {x : Nat} (h : x / 16 ≠ b ∨ (p ≠ 16 ∧ x % 16 ≠ p)) : mm (mk S b p v n1 n2 n3 n4) x = mm S x := by
  rw [mm_mk]
  split
  · rfl
  · rw [if_neg]
    intro w
    obtain ⟨w1, w2⟩ := tch_iff.mp w
    have w1 : b = x / 16 := w1
    have w2 : p = 16 ∨ p = x % 16 := w2
    omega
theorem c_nameEntry {t : Nat} (R : Sta h s S z) (sl : Sl S 2 0 2) {e nm node : Nat} (he : e + 1 < 256) (he2 : e % 2 = 0) (hnm : nm < 128) (hnd : node < 128) (hne : mm S e ≠ nm) :
    RsC (fX6_nameEntry t s (nI (e / 2)) (nI node) (nI nm) h) (some (.int (nI (sC (mk S (e / 16) (e % 16 + 1) node (latest S (e / 16) (e % 16) : Int) 0 0 0)).length))) h s (nameE S e nm node 0 0 0) z := by
  have hd8 : nI (e / 2) / 8 = nI (e / 16) := by rw [k8, pk_div (by omega) (by decide) (by decide), Nat.div_div_eq_div_mul]
  have hm8 : (nI (e / 2) - nI (e / 16) * 8) * 2 = nI (e % 16) := by rw [k8, k2, pk_mul, pk_sub (by omega), pk_mul]; congr 1; omega
  unfold fX6_nameEntry kX6_nameEntry_0
  have hlo := c_latestOf R (b := e / 16) (p := e % 16) (by omega) (by omega)
  rw [if_pos R.so.1, hd8, hm8, hlo, bI_s, if_pos R.so.1, nI_1]
  have hput := c_putR R (sl.le (by omega) (by omega) (by omega)) (b := e / 16) (p := e % 16 + 1) (v := node) (by omega) (by omega) hnd
  refine rsc_bI hput (fun h1 O1 R1 => ?_)
  rw [if_pos R1.so.1]
  have hstep : RsC (fX5_need s (oI (pIx S (e / 16) (e % 16 + 1) node)) (oI (lasIx (sC S) (e / 16) (e % 16))) h1) none h1 s (mk S (e / 16) (e % 16 + 1) node (latest S (e / 16) (e % 16) : Int) 0 0 0) z := by
    cases hs : same S (e / 16) (e % 16 + 1) node with
    | true =>
      rw [mk_t hs] at R1 ⊢
      have : pIx S (e / 16) (e % 16 + 1) node = none := by unfold pIx; rw [hs]; rfl
      rw [this]
      exact ⟨h1, rfl, Own.refl _ _, R1⟩
    | false =>
      rw [mk_f hs] at R1 ⊢
      have : pIx S (e / 16) (e % 16 + 1) node = some (sC S).length := by unfold pIx; rw [hs]; rfl
      rw [this]
      exact c_needO R1 (ix_lat S _ _) (l1 := []) rfl rfl rfl ⟨by omega, Int.le_refl 0, Int.le_refl 0⟩
  refine rsc_bV hstep (fun h2 O2 R2 => ?_)
  rw [if_pos R2.so.1]
  have sl2 : Sl (mk S (e / 16) (e % 16 + 1) node (latest S (e / 16) (e % 16) : Int) 0 0 0) 1 0 1 := sl_mk sl
  have hput2 := c_putR R2 sl2 (b := e / 16) (p := e % 16) (v := nm) (by omega) (by omega) hnm
  have hmm : mm (mk S (e / 16) (e % 16 + 1) node (latest S (e / 16) (e % 16) : Int) 0 0 0) (16 * (e / 16) + e % 16) ≠ nm := by
    rw [mm_mkne (Or.inr ⟨by omega, by omega⟩), show 16 * (e / 16) + e % 16 = e by omega]
    exact hne
  have hs2 := same_ne (by omega) hmm
  have hpi : pIx (mk S (e / 16) (e % 16 + 1) node (latest S (e / 16) (e % 16) : Int) 0 0 0) (e / 16) (e % 16) nm = some (sC (mk S (e / 16) (e % 16 + 1) node (latest S (e / 16) (e % 16) : Int) 0 0 0)).length := by unfold pIx; rw [hs2]; rfl
  rw [hpi, mk_f hs2] at hput2
  refine rsc_bI hput2 (fun h3 O3 R3 => ?_)
  rw [if_pos R3.so.1]
  have hn2 := c_needO R3 (ix_made S (e / 16) (e % 16 + 1) node (latest S (e / 16) (e % 16) : Int) 0 0 0) (l1 := [0, 0, 0]) (l2 := []) (m1 := 0) (m2 := 0) (m3 := 0) rfl rfl rfl ⟨Int.le_refl 0, Int.le_refl 0, by omega⟩
  refine rsc_bV hn2 (fun h4 O4 R4 => ⟨h4, rfl, Own.refl _ _, ?_⟩)
  unfold nameE
  rw [mk_f hs2]
  exact R4
theorem c_giveBlock {t : Nat} (R : Sta h s S z) (sl : Sl S 3 0 3) {n b f v : Nat} (hn : n < 12) (hb : b < 16) (hb4 : 4 ≤ b) (hf : f < 4) (hv : v < 128) (hne : fd (mm S) n f ≠ b) :
    RsC (fX6_giveBlock t s (nI n) (nI f) (nI b) (nI v) h) (some (.int (nI (sC (gets2 S b v)).length))) h s (gets S n b f v) z := by
  unfold fX6_giveBlock kX6_giveBlock_0
  rw [if_pos R.so.1]
  have hput : RsC (fX5_put s 0 (nI b) 1 h) _ h s _ z := c_putR R (sl.le (by omega) (by omega) (by omega)) (b := 0) (p := b) (v := 1) (by decide) (by omega) (by decide)
  refine rsc_bI hput (fun h1 O1 R1 => ?_)
  rw [if_pos R1.so.1]
  have sl1 : Sl (mk S 0 b 1 0 0 0 0) 2 0 2 := sl_mk sl
  have hput2 : RsC (fX5_put s (nI b) 16 (nI v) h1) _ h1 s _ z := c_putR R1 (sl1.le (by omega) (by omega) (by omega)) (b := b) (p := 16) (v := v) hb (by decide) hv
  refine rsc_bI hput2 (fun h2 O2 R2 => ?_)
  rw [if_pos R2.so.1]
  have sl2 : Sl (gets2 S b v) 1 0 1 := sl_mk sl1
  have hput3 := c_putF R2 sl2 hn hf (v := b) (by omega)
  have hmm : fd (mm (gets2 S b v)) n f ≠ b := by
    unfold fd gets2
    rw [mm_mkne (Or.inl (by omega)), mm_mkne (Or.inl (by omega))]
    exact hne
  have hs3 := same_neF hf hmm
  have hpi : pIx (gets2 S b v) (1 + n / 4) (4 * (n % 4) + f) b = some (sC (gets2 S b v)).length := by unfold pIx; rw [hs3]; rfl
  have hmkF : ∀ n1 n2, mkF (gets2 S b v) n f b n1 n2 = mkR (gets2 S b v) (1 + n / 4) (4 * (n % 4) + f) b n1 n2 0 0 := fun n1 n2 => mk_f hs3
  have hput3 : RsC (fX5_putField s (nI n) (nI f) (nI b) h2) (some (.int (nI (sC (gets2 S b v)).length))) h2 s (mkR (gets2 S b v) (1 + n / 4) (4 * (n % 4) + f) b 0 0 0 0) z := by
    have := hput3
    unfold gets2 at this hpi hmkF ⊢
    rw [hpi, hmkF] at this
    exact this
  refine rsc_bI hput3 (fun h3 O3 R3 => ?_)
  rw [if_pos R3.so.1]
  have hI1 : IxId (gets2 S b v) (pIx S 0 b 1) (mkI S 0 b 1) := ix_mk (ix_made S 0 b 1 0 0 0 0)
  have hn1 := c_needO R3 hI1 (l1 := []) (m2 := 0) (m3 := 0) (m4 := 0) rfl rfl rfl ⟨by omega, Int.le_refl 0, Int.le_refl 0⟩
  refine rsc_bV hn1 (fun h4 O4 R4 => ?_)
  have hI2 : IxId (gets2 S b v) (pIx (mk S 0 b 1 0 0 0 0) b 16 v) (mkI (mk S 0 b 1 0 0 0 0) b 16 v) := ix_made _ b 16 v 0 0 0 0
  unfold gets
  rw [hmkF]
  cases hs2 : same (mk S 0 b 1 0 0 0 0) b 16 v with
  | false =>
    have hp2 : pIx (mk S 0 b 1 0 0 0 0) b 16 v = some (sC (mk S 0 b 1 0 0 0 0)).length := by unfold pIx; rw [hs2]; rfl
    have hmi : mkI (mk S 0 b 1 0 0 0 0) b 16 v = sM (mk S 0 b 1 0 0 0 0) + 1 := by unfold mkI; rw [hs2]; rfl
    have hgn : getsN S b v = ((mkI (mk S 0 b 1 0 0 0 0) b 16 v : Nat) : Int) := by unfold getsN; rw [if_neg (by rw [hmi]; omega)]
    have hl1 := R1.bd.1
    rw [if_pos (by rw [hp2, oI_s, nI_eqm (by omega)]; exact id), if_pos R4.so.1]
    have hn2 := c_needO R4 hI2 (l1 := [(mkI S 0 b 1 : Int)]) (m1 := (mkI S 0 b 1 : Int)) (m3 := 0) (m4 := 0) rfl rfl (by rw [if_neg (by omega), if_neg (by omega)]) ⟨by omega, Int.le_refl 0, Int.le_refl 0⟩
    refine rsc_bV hn2 (fun h5 O5 R5 => ⟨h5, rfl, Own.refl _ _, ?_⟩)
    rw [hgn]
    exact R5
  | true =>
    have hp2 : pIx (mk S 0 b 1 0 0 0 0) b 16 v = none := by unfold pIx; rw [hs2]; rfl
    have hmi : mkI (mk S 0 b 1 0 0 0 0) b 16 v = 0 := by unfold mkI; rw [hs2]; rfl
    have hgn : getsN S b v = -(b : Int) := by unfold getsN; rw [if_pos hmi]
    rw [if_neg (by rw [hp2]; decide), if_pos R4.so.1]
    have hlt : ∀ n' ∈ [(mkI S 0 b 1 : Int), 0, 0, 0], -16 < n' ∧ n' < ((sM (gets2 S b v) + 1 : Nat) : Int) := fun n' hn' => (R4.bd.2.2.2.2.1 (sM (gets2 S b v) + 1, 1 + n / 4, 4 * (n % 4) + f, b, (mkI S 0 b 1 : Int), 0, 0, 0) (by show _ ∈ sC (gets2 S b v) ++ [_]; simp)).2.2.2.2.2 n' hn'
    have hall := c_needAll (S := mkR (gets2 S b v) (1 + n / 4) (4 * (n % 4) + f) b (mkI S 0 b 1 : Int) 0 0 0) R4 (pre := sC (gets2 S b v)) (l := []) (c := (sM (gets2 S b v) + 1, 1 + n / 4, 4 * (n % 4) + f, b, (mkI S 0 b 1 : Int), 0, 0, 0)) (c' := (sM (gets2 S b v) + 1, 1 + n / 4, 4 * (n % 4) + f, b, (mkI S 0 b 1 : Int), -(b : Int), 0, 0)) rfl rfl hb (by unfold allB; rw [if_pos (by show -(b : Int) < 0; omega)]; show some (-(b : Int)).natAbs = some b; rw [Int.natAbs_neg]; rfl) (by
      unfold prs
      have hpre : ∀ e ∈ sC (gets2 S b v), 1 ≤ cI e := fun e he => (R4.bd.2.2.2.2.1 e (List.mem_append_left _ he)).1
      have hz : (sC (gets2 S b v)).any (fun e => (cI e : Int) == 0) = false := any_id (fun e he => by have := hpre e he; omega)
      have hbz : (sC (gets2 S b v)).any (fun e => (cI e : Int) == -(b : Int)) = false := any_id (fun e he => by have := hpre e he; omega)
      simp only [List.filter_cons, hz, hbz, Bool.false_eq_true, if_false]) ⟨by show (0 : Int) ≤ (mkI S 0 b 1 : Int); omega, Int.le_refl 0, Int.le_refl 0⟩ (fun n' hn' => by
        have hn' : n' ∈ [(mkI S 0 b 1 : Int), -(b : Int), 0, 0] := hn'
        simp only [List.mem_cons, List.not_mem_nil, or_false] at hn'
        show -16 < n' ∧ n' < ((sM (gets2 S b v) + 1 : Nat) : Int)
        rcases hn' with w | w | w | w
        · exact hlt n' (by rw [w]; simp)
        · omega
        · omega
        · omega)
    refine rsc_bV hall (fun h5 O5 R5 => ⟨h5, rfl, Own.refl _ _, ?_⟩)
    rw [hgn]
    exact R5
end C12
