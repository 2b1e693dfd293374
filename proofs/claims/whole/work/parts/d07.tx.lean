/-! ===== texts: what is read, and the reference's reading of it ===== -/
def blk (T : Nat → Nat) (n : Nat) : Nat → Nat → Nat
  | 0, p => p
  | c + 1, p => if p < n ∧ T p = 32 then blk T n c (p + 1) else p
def bk (T : Nat → Nat) (n p : Nat) : Nat := blk T n (n - p) p
def dgB (T : Nat → Nat) (n p : Nat) : Bool := decide (p < n ∧ 48 ≤ T p ∧ T p ≤ 57)
def smB (T : Nat → Nat) (n p : Nat) : Bool := decide (p < n ∧ 97 ≤ T p ∧ T p ≤ 122)
/-- digits from p on: the number, and where they end -/
def dgs (T : Nat → Nat) (n : Nat) : Nat → Nat → Nat → Nat × Nat
  | 0, p, v => (v, p)
  | c + 1, p, v => if dgB T n p = true then dgs T n c (p + 1) (10 * v + (T p - 48)) else (v, p)
/-- small letters from p on -/
def ltr (T : Nat → Nat) (n : Nat) : Nat → Nat → List Nat
  | 0, _ => []
  | c + 1, p => if smB T n p = true then T p :: ltr T n c (p + 1) else []
def lts (T : Nat → Nat) (n p : Nat) : List Nat := ltr T n (n - p) p
abbrev Ft : Type := Nat × Nat
def pNum (T : Nat → Nat) (n lo hi p : Nat) : (Nat × Nat) ⊕ Ft :=
  if dgB T n (bk T n p) = true then (if lo ≤ (dgs T n (n - bk T n p) (bk T n p) 0).1 ∧ (dgs T n (n - bk T n p) (bk T n p) 0).1 ≤ hi then .inl (dgs T n (n - bk T n p) (bk T n p) 0) else .inr (2, bk T n p)) else .inr (1, bk T n p)
def pSig (T : Nat → Nat) (n s p : Nat) : Nat ⊕ Ft := if bk T n p < n ∧ T (bk T n p) = s then .inl (bk T n p + 1) else .inr (1, bk T n p)
section TX
variable {T : Nat → Nat} {n : Nat}
theorem blk_le : ∀ (c p : Nat), p ≤ n → p ≤ blk T n c p ∧ blk T n c p ≤ n := by
  intro c
  induction c with
  | zero => intro p hp; exact ⟨Nat.le_refl _, hp⟩
  | succ c ih =>
    intro p hp
    unfold blk
    split
    · have := ih (p + 1) (by omega); omega
    · omega
theorem bk_le {p : Nat} (hp : p ≤ n) : p ≤ bk T n p ∧ bk T n p ≤ n := blk_le _ p hp
theorem blk_st : ∀ (c p : Nat), n - p ≤ c → ¬ (blk T n c p < n ∧ T (blk T n c p) = 32) := by
  intro c
  induction c with
  | zero => intro p hp h; unfold blk at h; omega
  | succ c ih =>
    intro p hp
    unfold blk
    split
    · exact ih (p + 1) (by omega)
    · assumption
theorem blk_eq {p : Nat} (h : ¬ (p < n ∧ T p = 32)) (c : Nat) : blk T n c p = p := by
  cases c with
  | zero => rfl
  | succ c => unfold blk; rw [if_neg h]
theorem bk_bk (p : Nat) : bk T n (bk T n p) = bk T n p := blk_eq (blk_st _ p (Nat.le_refl _)) _
theorem bk_no {p : Nat} (h : ¬ (p < n ∧ T p = 32)) : bk T n p = p := blk_eq h _
theorem dgs_le : ∀ (c p v : Nat), p ≤ n → p ≤ (dgs T n c p v).2 ∧ (dgs T n c p v).2 ≤ n := by
  intro c
  induction c with
  | zero => intro p v hp; exact ⟨Nat.le_refl _, hp⟩
  | succ c ih =>
    intro p v hp
    unfold dgs
    split
    · have hd : dgB T n p = true := by assumption
      have := of_decide_eq_true hd
      have := ih (p + 1) (10 * v + (T p - 48)) (by omega)
      omega
    · exact ⟨Nat.le_refl _, hp⟩
theorem dgs_v : ∀ (c p v : Nat), v ≤ (dgs T n c p v).1 := by
  intro c
  induction c with
  | zero => intro p v; exact Nat.le_refl _
  | succ c ih =>
    intro p v
    unfold dgs
    split
    · have := ih (p + 1) (10 * v + (T p - 48)); omega
    · exact Nat.le_refl _
theorem pNum_ok {lo hi p v q : Nat} (hp : p ≤ n) (h : pNum T n lo hi p = .inl (v, q)) : (lo ≤ v ∧ v ≤ hi) ∧ p < q ∧ q ≤ n := by
  unfold pNum at h
  obtain ⟨b1, b2⟩ := bk_le (T := T) hp
  split at h
  · rename_i hd
    have hdd := of_decide_eq_true hd
    split at h
    · rename_i hv
      injection h with h
      rw [h] at hv
      have h1 : n - bk T n p = (n - (bk T n p + 1)) + 1 := by omega
      rw [h1] at h
      unfold dgs at h
      rw [if_pos hd] at h
      have := dgs_le (T := T) (n := n) (n - (bk T n p + 1)) (bk T n p + 1) (10 * 0 + (T (bk T n p) - 48)) (by omega)
      rw [h] at this
      exact ⟨hv, by show p < q; have : bk T n p + 1 ≤ q := this.1; omega, this.2⟩
    · cases h
  · cases h
theorem pNum_er {lo hi p : Nat} {e : Ft} (hp : p ≤ n) (h : pNum T n lo hi p = .inr e) : (e.1 = 1 ∨ e.1 = 2) ∧ e.2 ≤ n := by
  unfold pNum at h
  obtain ⟨b1, b2⟩ := bk_le (T := T) hp
  split at h
  · split at h
    · cases h
    · injection h with h; rw [← h]; exact ⟨Or.inr rfl, b2⟩
  · injection h with h; rw [← h]; exact ⟨Or.inl rfl, b2⟩
theorem pSig_ok {s p q : Nat} (hp : p ≤ n) (h : pSig T n s p = .inl q) : p < q ∧ q ≤ n := by
  unfold pSig at h
  obtain ⟨b1, b2⟩ := bk_le (T := T) hp
  split at h
  · injection h with h; omega
  · cases h
theorem pSig_er {s p : Nat} {e : Ft} (hp : p ≤ n) (h : pSig T n s p = .inr e) : e.1 = 1 ∧ e.2 ≤ n := by
  unfold pSig at h
  obtain ⟨b1, b2⟩ := bk_le (T := T) hp
  split at h
  · cases h
  · injection h with h; rw [← h]; exact ⟨rfl, b2⟩
theorem ltr_len : ∀ (c p : Nat), p ≤ n → p + (ltr T n c p).length ≤ n := by
  intro c
  induction c with
  | zero => intro p hp; exact hp
  | succ c ih =>
    intro p hp
    unfold ltr
    split
    · rename_i hd
      have := of_decide_eq_true hd
      have := ih (p + 1) (by omega)
      rw [List.length_cons]
      omega
    · exact hp
theorem ltr_sm : ∀ (c p : Nat), ∀ v ∈ ltr T n c p, 97 ≤ v ∧ v ≤ 122 := by
  intro c
  induction c with
  | zero => intro p v hv; cases hv
  | succ c ih =>
    intro p v hv
    unfold ltr at hv
    split at hv
    · rename_i hd
      have := of_decide_eq_true hd
      rcases List.mem_cons.mp hv with rfl | hv
      · omega
      · exact ih _ v hv
    · cases hv
/-- a word as a number, by 27s -/
def cod (v : Nat) (l : List Nat) : Nat := l.foldl (fun v d => 27 * v + (d - 96)) v
theorem cod_snoc (v : Nat) (l : List Nat) (d : Nat) : cod v (l ++ [d]) = 27 * cod v l + (d - 96) := by
  unfold cod
  rw [List.foldl_append]
  rfl
theorem cod_inj : ∀ (a b : List Nat), (∀ v ∈ a, 97 ≤ v ∧ v ≤ 122) → (∀ v ∈ b, 97 ≤ v ∧ v ≤ 122) → cod 0 a = cod 0 b → a = b := by
  intro a
  induction ha : a.length generalizing a with
  | zero =>
    intro b h1 h2 h
    have : a = [] := List.eq_nil_of_length_eq_zero ha
    subst this
    rcases List.eq_nil_or_concat b with rfl | ⟨b', d, rfl⟩
    · rfl
    · rw [List.concat_eq_append, cod_snoc] at h
      have := h2 d (by simp)
      have h0 : cod 0 [] = 0 := rfl
      omega
  | succ k ih =>
    intro b h1 h2 h
    rcases List.eq_nil_or_concat a with rfl | ⟨a', c, rfl⟩
    · cases ha
    · rw [List.concat_eq_append] at *
      rw [cod_snoc] at h
      have hc := h1 c (by simp)
      rcases List.eq_nil_or_concat b with rfl | ⟨b', d, rfl⟩
      · have h0 : cod 0 [] = 0 := rfl
        omega
      · rw [List.concat_eq_append] at *
        rw [cod_snoc] at h
        have hd := h2 d (by simp)
        rw [List.length_append, List.length_singleton] at ha
        have := ih a' (by omega) b' (fun v hv => h1 v (by simp [hv])) (fun v hv => h2 v (by simp [hv])) (by omega)
        rw [this, show c = d by omega]
end TX
/-! the words, in the class's order -/
def Wd : List (List Nat) := [[109, 97, 107, 101], [100, 105, 114], [108, 105, 110, 107], [103, 114, 111, 119], [112, 117, 116], [99, 117, 116], [100, 114, 111, 112], [115, 119, 101, 101, 112], [119, 114, 105, 116, 101], [115, 121, 110, 99], [99, 114, 97, 115, 104], [97, 103, 97, 105, 110], [115, 105, 122, 101]]
/-- the class's number of a word -/
def kwd (l : List Nat) : Option Nat := (List.range 13).find? (fun w => decide (l = Wd.getD w []))
/-- the reference's number of it -/
def rop (w : Nat) : Nat := if w = 7 then 10 else if 8 ≤ w ∧ w ≤ 10 then w - 1 else w
def kwr (l : List Nat) : Int32 := match kwd l with
  | none => -1
  | some w => if w = 12 then -1 else nI (rop w)
/-- the reference reads at p, and nothing was wrong yet -/
def RX (h : Hp) (m : Nat) (T : Nat → Nat) (n : Nat) : Prop := MS h m ∧ h.2 m 2 = nI n ∧ n ≤ 600 ∧ (∀ i, i < n → h.2 (m + 1) i = nI (T i)) ∧ ∀ i, i < n → T i < 256
def RP (h : Hp) (m : Nat) (T : Nat → Nat) (n p : Nat) : Prop := RX h m T n ∧ h.2 m 4 = nI p ∧ h.2 m 5 = 0 ∧ p ≤ n
/-- it was wrong -/
def RE (h : Hp) (m : Nat) (e : Ft) : Prop := (1 ≤ e.1 ∧ e.1 ≤ 3) ∧ h.2 m 5 = nI e.1 ∧ h.2 m 6 = nI e.2 ∧ ∃ p, p ≤ 600 ∧ h.2 m 4 = nI p
def Frx (h h' : Hp) (m : Nat) : Prop := h'.1 = h.1 ∧ (∀ a, a ≠ m → h'.2 a = h.2 a) ∧ ∀ j, j ≠ 4 → j ≠ 5 → j ≠ 6 → h'.2 m j = h.2 m j
theorem Frx.refl (h : Hp) (m : Nat) : Frx h h m := ⟨rfl, fun _ _ => rfl, fun _ _ _ _ => rfl⟩
theorem Frx.trans {h h1 h2 : Hp} {m : Nat} (a : Frx h h1 m) (b : Frx h1 h2 m) : Frx h h2 m := ⟨b.1.trans a.1, fun y q => by rw [b.2.1 y q, a.2.1 y q], fun j q1 q2 q3 => by rw [b.2.2 j q1 q2 q3, a.2.2 j q1 q2 q3]⟩
section TX2
variable {h h' : Hp} {m n p : Nat} {T : Nat → Nat}
theorem RX.fr (X : RX h m T n) (f : Frx h h' m) : RX h' m T n := ⟨X.1.eq f.1, (f.2.2 2 (by decide) (by decide) (by decide)).trans X.2.1, X.2.2.1, fun i hi => by rw [f.2.1 (m + 1) (by omega)]; exact X.2.2.2.1 i hi, X.2.2.2.2⟩
theorem fr_4 (h : Hp) (m : Nat) (v : Int32) : Frx h (h.1, upI h.2 m 4 v) m := ⟨rfl, fun a q => upI_ne q, fun j q _ _ => by show upI _ _ _ _ m j = _; rw [upI_at, if_neg q]⟩
theorem fr_56 (h : Hp) (m : Nat) (v w : Int32) : Frx h (h.1, upI (upI h.2 m 5 v) m 6 w) m := ⟨rfl, fun a q => by show upI _ _ _ _ a = _; rw [upI_ne q, upI_ne q], fun j _ q1 q2 => by show upI _ _ _ _ m j = _; rw [upI_at, if_neg q2, upI_at, if_neg q1]⟩
theorem RP.to (X : RP h m T n p) {q : Nat} (hq : q ≤ n) : RP (h.1, upI h.2 m 4 (nI q)) m T n q := ⟨X.1.fr (fr_4 h m _), by show upI _ _ _ _ m 4 = _; rw [upI_at, if_pos rfl], by show upI _ _ _ _ m 5 = _; rw [upI_at, if_neg (by decide)]; exact X.2.2.1, hq⟩
theorem RP.k (X : RP h m T n p) : kH h m = 18 := X.1.1.k
def byN (T : Nat → Nat) (n p : Nat) : Int32 := if p < n then nI (T p) else -1
theorem m_byteAt (X : RX h m T n) {p : Nat} (hp : p < 2 ^ 31) : fX10_byteAt m (nI p) h = some (.inl (some (.int (byN T n p))), h) := by
  obtain ⟨M, x2, x3, x4, x5⟩ := X
  obtain ⟨f1, f2, f3⟩ := M.fed
  unfold fX10_byteAt kX10_byteAt_0 byN
  rw [if_pos M.k, x2]
  by_cases e : p < n
  · rw [if_pos (by rw [nI_ltI hp (by omega)]; exact e), if_pos e, f1, if_pos f2, f3, if_pos (inB_nI (by omega) (by decide)), nI_clamp (by omega), x4 p e]
  · rw [if_neg (by rw [nI_ltI hp (by omega)]; exact e), if_neg e]
theorem m_isDigit (X : RX h m T n) (p : Nat) (g : Hp) : fX10_isDigit (byN T n p) g = some (.inl (some (.int (b2i (dgB T n p)))), g) := by
  unfold fX10_isDigit kX10_isDigit_0 byN dgB
  by_cases e : p < n
  · have := X.2.2.2.2 p e
    rw [if_pos e]
    by_cases e1 : T p < 48
    · rw [if_pos (by rw [show (48 : Int32) = nI 48 from rfl, nI_ltI (by omega) (by decide)]; exact e1), decide_eq_false (by omega)]
      rfl
    · rw [if_neg (by rw [show (48 : Int32) = nI 48 from rfl, nI_ltI (by omega) (by decide)]; exact e1)]
      by_cases e2 : 57 < T p
      · rw [if_pos (by rw [show (57 : Int32) = nI 57 from rfl, nI_ltI (by decide) (by omega)]; exact e2), decide_eq_false (by omega)]
        rfl
      · rw [if_neg (by rw [show (57 : Int32) = nI 57 from rfl, nI_ltI (by decide) (by omega)]; exact e2), decide_eq_true (by omega)]
        rfl
  · rw [if_neg e, if_pos (by decide), decide_eq_false (by omega)]
    rfl
theorem m_isSmall (X : RX h m T n) (p : Nat) (g : Hp) : fX10_isSmall (byN T n p) g = some (.inl (some (.int (b2i (smB T n p)))), g) := by
  unfold fX10_isSmall kX10_isSmall_0 byN smB
  by_cases e : p < n
  · have := X.2.2.2.2 p e
    rw [if_pos e]
    by_cases e1 : T p < 97
    · rw [if_pos (by rw [show (97 : Int32) = nI 97 from rfl, nI_ltI (by omega) (by decide)]; exact e1), decide_eq_false (by omega)]
      rfl
    · rw [if_neg (by rw [show (97 : Int32) = nI 97 from rfl, nI_ltI (by omega) (by decide)]; exact e1)]
      by_cases e2 : 122 < T p
      · rw [if_pos (by rw [show (122 : Int32) = nI 122 from rfl, nI_ltI (by decide) (by omega)]; exact e2), decide_eq_false (by omega)]
        rfl
      · rw [if_neg (by rw [show (122 : Int32) = nI 122 from rfl, nI_ltI (by decide) (by omega)]; exact e2), decide_eq_true (by omega)]
        rfl
  · rw [if_neg e, if_pos (by decide), decide_eq_false (by omega)]
    rfl
theorem byN_eq (X : RX h m T n) (p : Nat) {s : Nat} (hs : s < 256) : byN T n p = nI s ↔ (p < n ∧ T p = s) := by
  unfold byN
  by_cases e : p < n
  · have := X.2.2.2.2 p e
    rw [if_pos e, nI_eq (by omega) (by omega)]
    exact ⟨fun q => ⟨e, q⟩, fun q => q.2⟩
  · rw [if_neg e]
    constructor
    · intro q
      have := (nI_eqm (a := s) (by omega)).mp q.symm
      exact this.elim
    · intro q
      exact absurd q.1 e
theorem m_blanks_go : ∀ (c p f : Nat) (h : Hp), n - p ≤ c → c < f → RP h m T n p → ∃ h', gX10_blanks f 0 [.ref m] [] h = some (.inl none, h') ∧ Frx h h' m ∧ RP h' m T n (blk T n c p) := by
  intro c
  induction c with
  | zero =>
    intro p f h hp hf X
    obtain ⟨f, rfl⟩ := sc hf
    have hpn := X.2.2.2
    have := X.1.2.2.1
    refine ⟨h, ?_, Frx.refl h m, X⟩
    rw [zX10_blanks_0]
    unfold kX10_blanks_0
    rw [if_pos X.k, X.2.1, m_byteAt X.1 (by omega), bI_s, if_pos (show ¬ byN T n p = 32 from fun q => by
      have := (byN_eq X.1 p (s := 32) (by decide)).mp q
      omega)]
  | succ c ih =>
    intro p f h hp hf X
    obtain ⟨f, rfl⟩ := sc hf
    have hpn := X.2.2.2
    have := X.1.2.2.1
    rw [zX10_blanks_0]
    unfold kX10_blanks_0
    rw [if_pos X.k, X.2.1, m_byteAt X.1 (by omega), bI_s]
    unfold blk
    by_cases e : p < n ∧ T p = 32
    · obtain ⟨h', i1, i2, i3⟩ := ih (p + 1) f _ (by omega) (by omega) (X.to (q := p + 1) (by omega))
      refine ⟨h', ?_, (fr_4 h m _).trans i2, by rw [if_pos e]; exact i3⟩
      rw [← i1, if_neg (fun q => q ((byN_eq X.1 p (s := 32) (by decide)).mpr e)), if_pos X.k, X.2.1, nI_1]
    · refine ⟨h, ?_, Frx.refl h m, by rw [if_neg e]; exact X⟩
      rw [if_pos (show ¬ byN T n p = 32 from fun q => e ((byN_eq X.1 p (s := 32) (by decide)).mp q))]
theorem m_blanks (X : RP h m T n p) : ∃ h', fX10_blanks m h = some (.inl none, h') ∧ Frx h h' m ∧ RP h' m T n (bk T n p) := by
  have := X.1.2.2.1
  exact m_blanks_go (n - p) p FF h (Nat.le_refl _) (by show _ < 1000000; omega) X
theorem m_wrong (X : RP h m T n p) {e : Ft} (he : 1 ≤ e.1 ∧ e.1 ≤ 3) : ∃ h', fX10_wrong m (nI e.1) (nI e.2) h = some (.inl none, h') ∧ Frx h h' m ∧ RE h' m e ∧ h'.2 m 4 = nI p := by
  have e4 : (h.1, upI (upI h.2 m 5 (nI e.1)) m 6 (nI e.2)).2 m 4 = nI p := by
    show upI _ _ _ _ m 4 = _
    rw [upI_at, if_neg (by decide), upI_at, if_neg (by decide)]
    exact X.2.1
  refine ⟨_, ?_, fr_56 h m (nI e.1) (nI e.2), ⟨he, ?_, ?_, p, Nat.le_trans X.2.2.2 X.1.2.2.1, e4⟩, e4⟩
  · unfold fX10_wrong kX10_wrong_0
    rw [if_pos X.k, X.2.2.1, if_neg (fun q => q rfl)]
  · show upI _ _ _ _ m 5 = _
    rw [upI_at, if_neg (by decide), upI_at, if_pos rfl]
  · show upI _ _ _ _ m 6 = _
    rw [upI_at, if_pos rfl]
theorem RE.nz {e : Ft} (E : RE h m e) : ¬ h.2 m 5 = 0 := by
  rw [E.2.1, nI_eq0 (by have := E.1; omega)]
  have := E.1
  omega
theorem RE.wrong {e : Ft} (E : RE h m e) (hk : kH h m = 18) (a b : Int32) : fX10_wrong m a b h = some (.inl none, h) := by
  unfold fX10_wrong kX10_wrong_0
  rw [if_pos hk, if_pos E.nz]
theorem RE.number {e : Ft} (E : RE h m e) (hk : kH h m = 18) (a b : Int32) : fX10_number m a b h = some (.inl (some (.int 0)), h) := by
  unfold fX10_number kX10_number_0
  rw [if_pos hk, if_neg E.nz]
theorem RE.sign {e : Ft} (E : RE h m e) (hk : kH h m = 18) (a : Int32) : fX10_sign m a h = some (.inl none, h) := by
  unfold fX10_sign kX10_sign_0
  rw [if_pos hk, if_neg E.nz]
theorem m_blk_go : ∀ (c p f : Nat) (h : Hp), n - p ≤ c → c < f → RX h m T n → h.2 m 4 = nI p → p ≤ 600 → ∃ h' p', gX10_blanks f 0 [.ref m] [] h = some (.inl none, h') ∧ Frx h h' m ∧ (∀ j, j ≠ 4 → h'.2 m j = h.2 m j) ∧ h'.2 m 4 = nI p' ∧ p' ≤ 600 := by
  intro c
  induction c with
  | zero =>
    intro p f h hp hf X e4 h6
    obtain ⟨f, rfl⟩ := sc hf
    refine ⟨h, p, ?_, Frx.refl h m, fun _ _ => rfl, e4, h6⟩
    rw [zX10_blanks_0]
    unfold kX10_blanks_0
    rw [if_pos X.1.k, e4, m_byteAt X (by omega), bI_s, if_pos (show ¬ byN T n p = 32 from fun q => by
      have := (byN_eq X p (s := 32) (by decide)).mp q
      omega)]
  | succ c ih =>
    intro p f h hp hf X e4 h6
    obtain ⟨f, rfl⟩ := sc hf
    have hn := X.2.2.1
    rw [zX10_blanks_0]
    unfold kX10_blanks_0
    rw [if_pos X.1.k, e4, m_byteAt X (by omega), bI_s]
    by_cases e : p < n ∧ T p = 32
    · obtain ⟨h', p', i1, i2, i3, i4, i5⟩ := ih (p + 1) f (h.1, upI h.2 m 4 (nI (p + 1))) (by omega) (by omega) (X.fr (fr_4 h m _)) (by show upI _ _ _ _ m 4 = _; rw [upI_at, if_pos rfl]) (by omega)
      refine ⟨h', p', ?_, (fr_4 h m _).trans i2, fun j q => by rw [i3 j q]; show upI _ _ _ _ m j = _; rw [upI_at, if_neg q], i4, i5⟩
      rw [← i1, if_neg (fun q => q ((byN_eq X p (s := 32) (by decide)).mpr e)), if_pos X.1.k, e4, nI_1]
    · refine ⟨h, p, ?_, Frx.refl h m, fun _ _ => rfl, e4, h6⟩
      rw [if_pos (show ¬ byN T n p = 32 from fun q => e ((byN_eq X p (s := 32) (by decide)).mp q))]
theorem RE.blanks {e : Ft} (E : RE h m e) (X : RX h m T n) : ∃ h', fX10_blanks m h = some (.inl none, h') ∧ Frx h h' m ∧ RE h' m e := by
  obtain ⟨e1, e2, e3, p, e4, e5⟩ := E
  have hn := X.2.2.1
  obtain ⟨h', p', i1, i2, i3, i4, i5⟩ := m_blk_go (n - p) p FF h (Nat.le_refl _) (by show _ < 1000000; omega) X e5 e4
  exact ⟨h', i1, i2, e1, by rw [i3 5 (by decide)]; exact e2, by rw [i3 6 (by decide)]; exact e3, p', i5, i4⟩
theorem m_sign (X : RP h m T n p) {s : Nat} (hs : s < 256) : ∃ h', fX10_sign m (nI s) h = some (.inl none, h') ∧ Frx h h' m ∧ match pSig T n s p with
    | .inl q => RP h' m T n q
    | .inr e => RE h' m e := by
  obtain ⟨h1, a1, a2, a3⟩ := m_blanks X
  have hn := X.1.2.2.1
  obtain ⟨b1, b2⟩ := bk_le (T := T) X.2.2.2
  unfold fX10_sign kX10_sign_0 pSig
  rw [if_pos X.k, if_pos X.2.2.1, a1, bV_s, if_pos a3.k, a3.2.1, m_byteAt a3.1 (by omega), bI_s]
  by_cases e : bk T n p < n ∧ T (bk T n p) = s
  · rw [if_neg (fun q => q ((byN_eq a3.1 _ hs).mpr e)), if_pos a3.k, if_pos e, a3.2.1, nI_1]
    exact ⟨_, rfl, a2.trans (fr_4 h1 m _), a3.to (by omega)⟩
  · obtain ⟨h2, c1, c2, c3, c4⟩ := m_wrong (e := (1, bk T n p)) a3 (show (1 : Nat) ≤ 1 ∧ 1 ≤ 3 by decide)
    have c1 : fX10_wrong m 1 (nI (bk T n p)) h1 = _ := c1
    rw [if_pos (show ¬ byN T n (bk T n p) = nI s from fun q => e ((byN_eq a3.1 _ hs).mp q)), if_pos a3.k, a3.2.1, c1, bV_s, if_neg e]
    exact ⟨h2, rfl, a2.trans c2, c3⟩
end TX2
