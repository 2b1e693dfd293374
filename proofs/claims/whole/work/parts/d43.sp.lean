/-! ===== a STORE is read: what is read, and the class ===== -/
/-- the word of a clause -/
def hdS (T : Nat → Nat) (n c q : Nat) : (Nat × Nat) ⊕ Ft := match kwd (lts T n q) with
  | none => .inr (1, q)
  | some w => if 4 < w ∧ w ≠ 12 then .inr (1, q) else if c = 60 then .inr (3, q) else .inl (w, q + (lts T n q).length)
def clB (T : Nat → Nat) (n : Nat) (v : Nat × Fo) (w q : Nat) : ((Nat × Fo) × Nat) ⊕ Ft := if w = 12 then (match gS T n 59 (pS T n 6 16 (.inl q)).2 with
      | .inr e => .inr e
      | .inl q2 => .inl (((pS T n 6 16 (.inl q)).1, v.2), q2))
    else (match gS T n 59 (nums T n w (.inl q)).2 with
      | .inr e => .inr e
      | .inl q2 => .inl ((v.1, v.2 ++ [(w, (nums T n w (.inl q)).1.1, (nums T n w (.inl q)).1.2.1, (nums T n w (.inl q)).1.2.2, 0)]), q2))
def clS (T : Nat → Nat) (n c : Nat) (v : Nat × Fo) (q : Nat) : ((Nat × Fo) × Nat) ⊕ Ft := match hdS T n c q with
  | .inr e => .inr e
  | .inl (w, q1) => clB T n v w q1
def stP (T : Nat → Nat) (n : Nat) : Nat → Nat → Nat × Fo → Nat → (Nat × Fo) ⊕ Ft
  | 0, _, _, p => .inr (1, p)
  | f + 1, c, v, p => if n ≤ bk T n p then .inl v else match clS T n c v (bk T n p) with
    | .inr e => .inr e
    | .inl (v', q) => stP T n f (c + 1) v' q
section SP
variable {h h' : Hp} {x n : Nat} {T : Nat → Nat}
theorem hdS_ok {c q w q1 : Nat} (hq : q ≤ n) (e : hdS T n c q = .inl (w, q1)) : kwd (lts T n q) = some w ∧ (w ≤ 4 ∨ w = 12) ∧ c ≠ 60 ∧ q1 = q + (lts T n q).length ∧ q + 3 ≤ q1 ∧ q1 ≤ n := by
  unfold hdS at e
  have hl : q + (lts T n q).length ≤ n := ltr_len (n - q) q hq
  cases e1 : kwd (lts T n q) with
  | none => rw [e1] at e; cases e
  | some w' =>
    rw [e1] at e
    simp only at e
    split at e
    · cases e
    · split at e
      · cases e
      · rename_i w1 w2
        injection e with e
        injection e with e2 e3
        obtain ⟨k1, k2⟩ := kwd_lt e1
        have k3 : 3 ≤ (Wd.getD w' []).length := (wd_len ⟨w', k1⟩).1
        rw [← k2] at k3
        rw [← e2]
        exact ⟨rfl, by omega, w2, e3.symm, by omega, by omega⟩
theorem hdS_er {c q : Nat} {e : Ft} (h : hdS T n c q = .inr e) : e.2 = q ∧ 1 ≤ e.1 ∧ e.1 ≤ 3 := by
  unfold hdS at h
  cases e1 : kwd (lts T n q) with
  | none => rw [e1] at h; injection h with h; subst h; exact ⟨rfl, by show 1 ≤ _; omega, by show _ ≤ 3; omega⟩
  | some w' =>
    rw [e1] at h
    simp only at h
    split at h
    · injection h with h; subst h; exact ⟨rfl, by show 1 ≤ _; omega, by show _ ≤ 3; omega⟩
    · split at h
      · injection h with h; subst h; exact ⟨rfl, by show 1 ≤ _; omega, by show _ ≤ 3; omega⟩
      · cases h
def okF (v : Nat × Fo) : Prop := (6 ≤ v.1 ∧ v.1 ≤ 16) ∧ ∀ u ∈ v.2, okS u.1 u.2.1 u.2.2.1 u.2.2.2.1 ∧ u.1 ≤ 4 ∧ u.2.2.2.2 = 0
theorem clB_ok {v v' : Nat × Fo} {w q q' c : Nat} (hq : q ≤ n) (hw : w ≤ 4 ∨ w = 12) (e : clB T n v w q = .inl (v', q')) (O : okF v) (hc : v.2.length ≤ c) : q < q' ∧ q' ≤ n ∧ okF v' ∧ v'.2.length ≤ c + 1 := by
  unfold clB at e
  have hs1 : ∀ p, (Sum.inl q : Rd) = .inl p → p ≤ n := fun p hp => by injection hp with hp; omega
  by_cases e12 : w = 12
  · rw [if_pos e12] at e
    cases e2 : gS T n 59 (pS T n 6 16 (.inl q)).2 with
    | inr er => rw [e2] at e; cases e
    | inl q2 =>
      rw [e2] at e
      simp only at e
      injection e with e
      injection e with e3 e4
      obtain ⟨p1, b1, b2, b3⟩ := gS_adv (pS_le hs1) e2
      obtain ⟨p0, c1, c2, c3, c4, c5⟩ := pS_adv hs1 b1
      injection c1 with c1
      rw [← e3, ← e4]
      exact ⟨by omega, b3, ⟨⟨c4, c5⟩, O.2⟩, by show v.2.length ≤ c + 1; omega⟩
  · rw [if_neg e12] at e
    cases e2 : gS T n 59 (nums T n w (.inl q)).2 with
    | inr er => rw [e2] at e; cases e
    | inl q2 =>
      rw [e2] at e
      simp only at e
      injection e with e
      injection e with e3 e4
      obtain ⟨p1, b1, b2, b3⟩ := gS_adv (fun q hq => by obtain ⟨p0, c1, c2, c3⟩ := nums_adv hs1 hq; exact c3) e2
      obtain ⟨p0, c1, c2, c3⟩ := nums_adv hs1 b1
      injection c1 with c1
      rw [← e3, ← e4]
      refine ⟨by omega, b3, ⟨O.1, fun u hu => ?_⟩, ?_⟩
      · have hu : u ∈ v.2 ++ [(w, (nums T n w (.inl q)).1.1, (nums T n w (.inl q)).1.2.1, (nums T n w (.inl q)).1.2.2, 0)] := hu
        rw [List.mem_append, List.mem_singleton] at hu
        rcases hu with hu | hu
        · exact O.2 u hu
        · rw [hu]
          exact ⟨nums_ok hs1 (by omega) b1, by show w ≤ 4; omega, rfl⟩
      · show (v.2 ++ _).length ≤ c + 1
        rw [List.length_append, List.length_singleton]
        omega
theorem clS_ok {v v' : Nat × Fo} {q q' c : Nat} (hq : q ≤ n) (e : clS T n c v q = .inl (v', q')) (O : okF v) (hc : v.2.length ≤ c) : q < q' ∧ q' ≤ n ∧ okF v' ∧ v'.2.length ≤ c + 1 ∧ c ≠ 60 := by
  unfold clS at e
  cases e1 : hdS T n c q with
  | inr er => rw [e1] at e; cases e
  | inl u =>
    obtain ⟨w, q1⟩ := u
    rw [e1] at e
    obtain ⟨a1, a2, a3, a4, a5, a6⟩ := hdS_ok hq e1
    obtain ⟨b1, b2, b3, b4⟩ := clB_ok a6 a2 e O hc
    exact ⟨by omega, b2, b3, b4, a3⟩
theorem stP_ok : ∀ (f c : Nat) (v : Nat × Fo) (p : Nat) (v' : Nat × Fo), p ≤ n → stP T n f c v p = .inl v' → okF v → v.2.length ≤ c → c ≤ 60 → okF v' ∧ v'.2.length ≤ 60 := by
  intro f
  induction f with
  | zero => intro c v p v' _ h; cases h
  | succ f ih =>
    intro c v p v' hp h O hc h60
    obtain ⟨b1, b2⟩ := bk_le (T := T) hp
    unfold stP at h
    by_cases e0 : n ≤ bk T n p
    · rw [if_pos e0] at h
      injection h with h
      rw [← h]
      exact ⟨O, by omega⟩
    · rw [if_neg e0] at h
      cases e1 : clS T n c v (bk T n p) with
      | inr er => rw [e1] at h; cases h
      | inl u =>
        obtain ⟨v1, q1⟩ := u
        rw [e1] at h
        obtain ⟨a1, a2, a3, a4, a5⟩ := clS_ok b2 e1 O hc
        exact ih (c + 1) v1 q1 v' a2 h a3 a4 (by omega)
/-- the class's script of a STORE -/
def SLc (h : Hp) (x : Nat) (v : Nat × Fo) : Prop := h.2 (x + 28) 0 = nI v.1 ∧ h.2 (x + 28) 1 = nI v.2.length ∧ ∀ i u, v.2[i]? = some u → h.2 (x + 29) i = nI u.1 ∧ h.2 (x + 30) i = nI u.2.1 ∧ h.2 (x + 31) i = nI u.2.2.1 ∧ h.2 (x + 32) i = nI u.2.2.2.1
theorem SLc.cg {v : Nat × Fo} (A : SLc h x v) (f : ∀ a, x + 28 ≤ a → a ≤ x + 32 → h'.2 a = h.2 a) : SLc h' x v := by
  obtain ⟨a1, a2, a3⟩ := A
  refine ⟨by rw [f _ (by omega) (by omega)]; exact a1, by rw [f _ (by omega) (by omega)]; exact a2, fun i u hu => ?_⟩
  rw [f (x + 29) (by omega) (by omega), f (x + 30) (by omega) (by omega), f (x + 31) (by omega) (by omega), f (x + 32) (by omega) (by omega)]
  exact a3 i u hu
theorem FrS.e {h h' : Hp} {x : Nat} (f : FrS h h' x) : FrE h h' x := ⟨f.1, fun a q => f.2.1 a (by omega)⟩
theorem c_nums_er {e : Ft} {j : Nat} {l : List Nat} (X : CX h x T n) (E : CE h x e) (he : e.2 ≤ n) (hj : j < 64) (hl : h.2 (x + 28) 1 = nI j) : ∃ h', fX3_readNumbers (x + 27) (oI (kwd l)) h = some (.inl none, h') ∧ FrS h h' x ∧ CSt h' x T n (.inr e) := by
  cases e1 : kwd l with
  | none => exact c_nums_m1 X E he hj hl
  | some w =>
    obtain ⟨k1, k2⟩ := kwd_lt e1
    have S : CSt h x T n (.inr e) := ⟨X, E, he⟩
    by_cases e12 : w = 12
    · subst e12
      obtain ⟨h', a1, a2, a3, -⟩ := c_size S
      exact ⟨h', a1, a2, a3⟩
    · obtain ⟨h', a1, a2, a3, -⟩ := c_nums S (w := w) (by omega) hj hl
      have en : ∀ k, (nums T n k (.inr e)).2 = .inr e := fun k => by
        unfold nums
        split
        · split <;> rfl
        · split
          · rfl
          · split
            · rfl
            · split
              · rfl
              · split
                · rfl
                · split <;> rfl
      rw [en] at a3
      exact ⟨h', a1, a2, a3⟩
/-- numbers and sign, then on -/
def stTl (rec : Nat → List Value → List Value → Hp → RS) (r0 : Nat) (z12 x3 : Int32) (h11 : Hp) : RS := (bV (fX3_readNumbers r0 z12 h11) fun h16 => (if kH h16 r0 = 13 then (bV (fX3_readSign r0 59 h16) fun h19 => (rec 8 [.ref r0, uV, uV, .int (x3 + 1), uV, uV] [] h19)) else none))
theorem c_st_er8 {e : Ft} (X : CX h x T n) (E : CE h x e) (k : Int32) (f : Nat) : gX3_readStore (f + 1) 8 [.ref (x + 27), uV, uV, .int k, uV, uV] [] h = some (.inl (some (.int (nI e.1))), h) := by
  rw [zX3_readStore_8]
  unfold kX3_readStore_8
  rw [if_pos X.k, E.2.1, if_pos (show ¬ nI e.1 = 0 by rw [nI_eq0 (by have := E.1; omega)]; have := E.1; omega)]
theorem c_stT_er {e : Ft} {j f : Nat} {l : List Nat} {k : Int32} (X : CX h x T n) (E : CE h x e) (he : e.2 ≤ n) (hj : j < 64) (hl : h.2 (x + 28) 1 = nI j) : ∃ h', stTl (gX3_readStore (f + 1)) (x + 27) (oI (kwd l)) k h = some (.inl (some (.int (nI e.1))), h') ∧ FrE h h' x ∧ CX h' x T n ∧ CE h' x e ∧ e.2 ≤ n := by
  obtain ⟨h1, a1, a2, a3⟩ := c_nums_er (l := l) X E he hj hl
  obtain ⟨b1, b2, b3⟩ : CX h1 x T n ∧ CE h1 x e ∧ e.2 ≤ n := a3
  refine ⟨h1, ?_, a2.e, b1, b2, b3⟩
  unfold stTl
  rw [a1, bV_s, if_pos b1.k, b2.sign b1.k, bV_s, c_st_er8 b1 b2]
theorem c_st_go : ∀ (f p c fl : Nat) (v : Nat × Fo) (h : Hp), CP h x T n p → SLc h x v → okF v → v.2.length ≤ c → c ≤ 60 → n - p < f → n + 3 ≤ fl + p →
    ∃ h', gX3_readStore fl 8 [.ref (x + 27), uV, uV, .int (nI c), uV, uV] [] h = some (.inl (some (.int (match stP T n f c v p with
      | .inl _ => 0
      | .inr e => nI e.1))), h') ∧ FrE h h' x ∧ CX h' x T n ∧ (match stP T n f c v p with
      | .inl l => h'.2 (x + 27) 4 = 0 ∧ SLc h' x l
      | .inr e => CE h' x e ∧ e.2 ≤ n) := by
  intro f
  induction f with
  | zero => intro p c fl v h _ _ _ _ _ h0 _; omega
  | succ f ih =>
    intro p c fl v h X A O hc h60 hf hfl
    have hn := X.1.2.2.1
    have hp := X.2.2.2
    obtain ⟨b1, b2⟩ := bk_le (T := T) hp
    obtain ⟨fl, rfl⟩ : ∃ g, fl = g + 1 := ⟨fl - 1, by omega⟩
    obtain ⟨h3, a1, a2, a3⟩ := c_atEnd X
    unfold stP
    rw [zX3_readStore_8]
    unfold kX3_readStore_8
    rw [if_pos X.k, if_neg (show ¬ ¬ h.2 (x + 27) 4 = 0 from fun q => q X.2.2.1), a1, bI_s]
    have A3 : SLc h3 x v := A.cg (fun a q1 q2 => a2.2.1 a (by omega))
    by_cases e0 : n ≤ bk T n p
    · rw [decide_eq_true e0, if_pos (show ¬ b2i true = 0 by decide), if_pos a3.k, a3.2.2.1, if_pos e0]
      exact ⟨h3, rfl, a2.e, a3.1, a3.2.2.1, A3⟩
    · rw [decide_eq_false e0, if_neg (show ¬ ¬ b2i false = 0 from fun q => q rfl), if_neg (show ¬ (60 : Int32) < nI c by rw [k60, nI_ltI (by decide) (by omega)]; omega), if_pos a3.k, if_neg e0]
      obtain ⟨q, hq⟩ : ∃ q, q = bk T n p := ⟨_, rfl⟩
      rw [← hq] at a3 e0 b1 b2 ⊢
      obtain ⟨g, rfl⟩ : ∃ g, fl = g + 1 := ⟨fl - 1, by omega⟩
      obtain ⟨h11, c1, c2, c3⟩ := c_word a3
      have A11 : SLc h11 x v := A3.cg (fun a q1 q2 => c2.2.1 a (by omega))
      have s7 : h3.2 (x + 27) 7 = nI q := a3.2.1
      have X11 : CX h11 x T n := a3.1.fr c2
      rw [c1, bI_s, s7]
      -- a fault is there: it goes through
      have bad : ∀ h22 e, FrC h11 h22 x → CE h22 x e → e.2 ≤ n → clS T n c v q = .inr e → ∀ Y, Y = stTl (gX3_readStore (g + 1)) (x + 27) (oI (kwd (lts T n q))) (nI c) h22 → ∃ h', Y = some (.inl (some (.int (match (match clS T n c v q with
            | .inr e => (.inr e : (Nat × Fo) ⊕ Ft)
            | .inl (v', q) => stP T n f (c + 1) v' q) with
          | .inl _ => 0
          | .inr e => nI e.1))), h') ∧ FrE h h' x ∧ CX h' x T n ∧ (match (match clS T n c v q with
            | .inr e => (.inr e : (Nat × Fo) ⊕ Ft)
            | .inl (v', q) => stP T n f (c + 1) v' q) with
          | .inl l => h'.2 (x + 27) 4 = 0 ∧ SLc h' x l
          | .inr e => CE h' x e ∧ e.2 ≤ n) := by
        intro h22 e f22 E he ec Y hY
        rw [ec, hY]
        obtain ⟨h', t1, t2, t3, t4, t5⟩ := c_stT_er (l := lts T n q) (k := nI c) (f := g) (X11.fr f22) E he (show v.2.length < 64 by omega) (by rw [f22.2.1 (x + 28) (by omega)]; exact A11.2.1)
        exact ⟨h', t1, ((a2.trans c2).trans f22).e.trans t2, t3, t4, t5⟩
      cases ew : kwd (lts T n q) with
      | none =>
        rw [ew] at c3
        have c3 : CE h11 x (1, q) := c3
        have ec : clS T n c v q = .inr (1, q) := by unfold clS hdS; rw [ew]
        rw [oI_n, if_pos (by decide)]
        by_cases e60 : c = 60
        · rw [if_neg (show ¬ ¬ nI c = 60 from fun q => q (by rw [e60]; rfl)), if_pos X11.k, c3.blame X11.k, bV_s, if_pos X11.k]
          exact bad h11 (1, q) (FrC.refl h11 x) c3 b2 ec _ (by rw [ew, oI_n]; rfl)
        · rw [if_pos (show ¬ nI c = 60 by rw [k60, nI_eq (by omega) (by decide)]; exact e60), if_pos X11.k]
          exact bad h11 (1, q) (FrC.refl h11 x) c3 b2 ec _ (by rw [ew, oI_n]; rfl)
      | some w =>
        rw [ew] at c3
        have c3 : CP h11 x T n (q + (lts T n q).length) := c3
        obtain ⟨k1, k2⟩ := kwd_lt ew
        rw [oI_s]
        by_cases w5 : 4 < w ∧ w ≠ 12
        · have ec : clS T n c v q = .inr (1, q) := by unfold clS hdS; rw [ew]; simp only; rw [if_pos w5]
          obtain ⟨h22, g1, g2, g3⟩ := c_blame c3 (e := (1, q)) (show 1 ≤ 1 ∧ 1 ≤ 3 by decide)
          have g1 : fX3_blame (x + 27) 1 (nI q) h11 = _ := g1
          rw [if_neg (show ¬ nI w ≤ 4 by rw [k4, nI_leI (by omega) (by decide)]; omega), if_neg (show ¬ nI w = 12 by rw [k12, nI_eq (by omega) (by decide)]; omega), if_pos X11.k, g1, bV_s, if_pos (X11.fr g2).k]
          exact bad h22 (1, q) g2 g3 b2 ec _ (by rw [ew, oI_s]; rfl)
        · by_cases e60 : c = 60
          · have ec : clS T n c v q = .inr (3, q) := by unfold clS hdS; rw [ew]; simp only; rw [if_neg w5, if_pos e60]
            obtain ⟨h22, g1, g2, g3⟩ := c_blame c3 (e := (3, q)) (show 1 ≤ 3 ∧ 3 ≤ 3 by decide)
            have g1 : fX3_blame (x + 27) 3 (nI q) h11 = _ := g1
            have n60 : ¬ ¬ nI c = 60 := fun q => q (by rw [e60]; rfl)
            by_cases w4 : w ≤ 4
            · rw [if_pos (show nI w ≤ 4 by rw [k4, nI_leI (by omega) (by decide)]; exact w4), if_neg n60, if_pos X11.k, g1, bV_s, if_pos (X11.fr g2).k]
              exact bad h22 (3, q) g2 g3 b2 ec _ (by rw [ew, oI_s]; rfl)
            · rw [if_neg (show ¬ nI w ≤ 4 by rw [k4, nI_leI (by omega) (by decide)]; exact w4), if_pos (show nI w = 12 by rw [k12, nI_eq (by omega) (by decide)]; omega), if_neg n60, if_pos X11.k, g1, bV_s, if_pos (X11.fr g2).k]
              exact bad h22 (3, q) g2 g3 b2 ec _ (by rw [ew, oI_s]; rfl)
          · have hd : hdS T n c q = .inl (w, q + (lts T n q).length) := by unfold hdS; rw [ew]; simp only; rw [if_neg w5, if_neg e60]
            have ec : clS T n c v q = clB T n v w (q + (lts T n q).length) := by unfold clS; rw [hd]
            have n60 : ¬ nI c = 60 := by rw [k60, nI_eq (by omega) (by decide)]; exact e60
            obtain ⟨d1, d2, d3, d4, d5, d6⟩ := hdS_ok b2 hd
            obtain ⟨q1, hq1⟩ : ∃ q1, q1 = q + (lts T n q).length := ⟨_, rfl⟩
            rw [← hq1] at c3 ec d5 d6
            have S11 : CSt h11 x T n (.inl q1) := c3
            have good : ∃ h', stTl (gX3_readStore (g + 1)) (x + 27) (nI w) (nI c) h11 = some (.inl (some (.int (match (match clS T n c v q with
                | .inr e => (.inr e : (Nat × Fo) ⊕ Ft)
                | .inl (v', q) => stP T n f (c + 1) v' q) with
              | .inl _ => 0
              | .inr e => nI e.1))), h') ∧ FrE h h' x ∧ CX h' x T n ∧ (match (match clS T n c v q with
                | .inr e => (.inr e : (Nat × Fo) ⊕ Ft)
                | .inl (v', q) => stP T n f (c + 1) v' q) with
              | .inl l => h'.2 (x + 27) 4 = 0 ∧ SLc h' x l
              | .inr e => CE h' x e ∧ e.2 ≤ n) := by
              rw [ec]
              unfold stTl
              by_cases e12 : w = 12
              · subst e12
                obtain ⟨h16, g1, g2, g3, g4, g5, g6⟩ := c_size S11
                obtain ⟨h19, i1, i2, i3⟩ := cs_sign g3 (c := 59) (Or.inr (Or.inl rfl))
                have i1 : fX3_readSign (x + 27) 59 h16 = _ := i1
                rw [g1, bV_s, if_pos g3.cx.k, i1, bV_s, nI_1]
                have ek : clB T n v 12 q1 = (match gS T n 59 (pS T n 6 16 (.inl q1)).2 with
                  | .inr e => .inr e
                  | .inl q2 => .inl (((pS T n 6 16 (.inl q1)).1, v.2), q2)) := by unfold clB; rw [if_pos rfl]
                cases e4 : gS T n 59 (pS T n 6 16 (.inl q1)).2 with
                | inr er =>
                  rw [e4] at i3 ek
                  obtain ⟨f1, f2, f3⟩ : CX h19 x T n ∧ CE h19 x er ∧ er.2 ≤ n := i3
                  rw [ek]
                  exact ⟨h19, c_st_er8 f1 f2 _ g, (((a2.trans c2).e.trans g2.e).trans i2.e), f1, f2, f3⟩
                | inl q2 =>
                  rw [e4] at i3 ek
                  have i3 : CP h19 x T n q2 := i3
                  rw [ek]
                  obtain ⟨r1, r2, r3, r4⟩ := clB_ok d6 (Or.inr rfl) ek O hc
                  have A19 : SLc h19 x ((pS T n 6 16 (.inl q1)).1, v.2) := by
                    obtain ⟨y1, y2, y3⟩ := A11
                    have o28 : h19.2 (x + 28) = h16.2 (x + 28) := i2.2.1 _ (by omega)
                    refine ⟨by rw [o28]; exact g4, by rw [o28, g5]; exact y2, fun i u hu => ?_⟩
                    rw [i2.2.1 (x + 29) (by omega), i2.2.1 (x + 30) (by omega), i2.2.1 (x + 31) (by omega), i2.2.1 (x + 32) (by omega), g6 (x + 29) (by omega), g6 (x + 30) (by omega), g6 (x + 31) (by omega), g6 (x + 32) (by omega)]
                    exact y3 i u hu
                  obtain ⟨h', t1, t2, t3, t4⟩ := ih q2 (c + 1) (g + 1) _ h19 i3 A19 r3 r4 (by omega) (by omega) (by omega)
                  exact ⟨h', t1, (((a2.trans c2).e.trans g2.e).trans i2.e).trans t2, t3, t4⟩
              · have w4 : w ≤ 4 := by omega
                have rw4 : rop w = w := by unfold rop; rw [if_neg (by omega), if_neg (by omega)]
                obtain ⟨h16, g1, g2, g3, g4⟩ := c_nums S11 (w := w) (j := v.2.length) (by omega) (by omega) A11.2.1
                rw [rw4] at g3 g4
                obtain ⟨h19, i1, i2, i3⟩ := cs_sign g3 (c := 59) (Or.inr (Or.inl rfl))
                have i1 : fX3_readSign (x + 27) 59 h16 = _ := i1
                rw [g1, bV_s, if_pos g3.cx.k, i1, bV_s, nI_1]
                have ek : clB T n v w q1 = (match gS T n 59 (nums T n w (.inl q1)).2 with
                  | .inr e => .inr e
                  | .inl q2 => .inl ((v.1, v.2 ++ [(w, (nums T n w (.inl q1)).1.1, (nums T n w (.inl q1)).1.2.1, (nums T n w (.inl q1)).1.2.2, 0)]), q2)) := by unfold clB; rw [if_neg e12]
                cases e4 : gS T n 59 (nums T n w (.inl q1)).2 with
                | inr er =>
                  rw [e4] at i3 ek
                  obtain ⟨f1, f2, f3⟩ : CX h19 x T n ∧ CE h19 x er ∧ er.2 ≤ n := i3
                  rw [ek]
                  exact ⟨h19, c_st_er8 f1 f2 _ g, (((a2.trans c2).e.trans g2.e).trans i2.e), f1, f2, f3⟩
                | inl q2 =>
                  rw [e4] at i3 ek
                  have i3 : CP h19 x T n q2 := i3
                  rw [ek]
                  obtain ⟨r1, r2, r3, r4⟩ := clB_ok d6 (Or.inl w4) ek O hc
                  obtain ⟨m1, m2, m3, m4, m5, m6⟩ := g4
                  have A19 : SLc h19 x (v.1, v.2 ++ [(w, (nums T n w (.inl q1)).1.1, (nums T n w (.inl q1)).1.2.1, (nums T n w (.inl q1)).1.2.2, 0)]) := by
                    obtain ⟨y1, y2, y3⟩ := A11
                    have o28 : h19.2 (x + 28) = h16.2 (x + 28) := i2.2.1 _ (by omega)
                    refine ⟨by rw [o28, m2]; exact y1, by rw [o28, m1]; show _ = nI (v.2 ++ _).length; rw [List.length_append, List.length_singleton], fun i u hu => ?_⟩
                    rw [i2.2.1 (x + 29) (by omega), i2.2.1 (x + 30) (by omega), i2.2.1 (x + 31) (by omega), i2.2.1 (x + 32) (by omega), m3 i, m4 i, m5 i, m6 i]
                    have hu : (v.2 ++ [(w, (nums T n w (.inl q1)).1.1, (nums T n w (.inl q1)).1.2.1, (nums T n w (.inl q1)).1.2.2, 0)])[i]? = some u := hu
                    by_cases ei : i = v.2.length
                    · rw [ei, List.getElem?_append_right (Nat.le_refl _), Nat.sub_self] at hu
                      injection hu with hu
                      rw [if_pos ei, if_pos ei, if_pos ei, if_pos ei, ← hu]
                      exact ⟨rfl, rfl, rfl, rfl⟩
                    · have hk : i < (v.2 ++ [(w, (nums T n w (.inl q1)).1.1, (nums T n w (.inl q1)).1.2.1, (nums T n w (.inl q1)).1.2.2, 0)]).length := (List.getElem?_eq_some_iff.mp hu).1
                      rw [List.length_append, List.length_singleton] at hk
                      rw [List.getElem?_append_left (by omega)] at hu
                      rw [if_neg ei, if_neg ei, if_neg ei, if_neg ei]
                      exact y3 i u hu
                  obtain ⟨h', t1, t2, t3, t4⟩ := ih q2 (c + 1) (g + 1) _ h19 i3 A19 r3 r4 (by omega) (by omega) (by omega)
                  exact ⟨h', t1, (((a2.trans c2).e.trans g2.e).trans i2.e).trans t2, t3, t4⟩
            obtain ⟨h', t1, t2, t3, t4⟩ := good
            unfold stTl at t1
            by_cases w4 : w ≤ 4
            · rw [if_pos (show nI w ≤ 4 by rw [k4, nI_leI (by omega) (by decide)]; exact w4), if_pos n60, if_pos X11.k]
              exact ⟨h', t1, t2, t3, t4⟩
            · rw [if_neg (show ¬ nI w ≤ 4 by rw [k4, nI_leI (by omega) (by decide)]; exact w4), if_pos (show nI w = 12 by rw [k12, nI_eq (by omega) (by decide)]; omega), if_pos n60, if_pos X11.k]
              exact ⟨h', t1, t2, t3, t4⟩
theorem c_readStore (C : CO h x) (hn : n ≤ 600) (ht : ∀ i, i < n → h.2 (x + 26) i = cby (T i)) (hT : ∀ i, i < n → T i < 256) : ∃ h', fX3_readStore (x + 27) (x + 26) (nI n) h = some (.inl (some (.int (match stP T n (n + 1) 0 (16, []) 0 with
      | .inl _ => 0
      | .inr e => nI e.1))), h') ∧ FrE h h' x ∧ CX h' x T n ∧ (match stP T n (n + 1) 0 (16, []) 0 with
      | .inl l => h'.2 (x + 27) 4 = 0 ∧ SLc h' x l
      | .inr e => CE h' x e ∧ e.2 ≤ n) := by
  obtain ⟨h1, a1, a2, a3, a4, a5, a6⟩ := c_beginR C hn ht hT
  obtain ⟨h', c1, c2, c3, c4⟩ := c_st_go (T := T) (n := n) (x := x) (n + 1) 0 0 FF (16, []) h1 a3 ⟨a5, a4, fun i u hu => by simp at hu⟩ ⟨by decide, by simp⟩ (Nat.le_refl _) (by decide) (by omega) (show n + 3 ≤ 1000000 + 0 by omega)
  refine ⟨h', ?_, a2.trans c2, c3, c4⟩
  unfold fX3_readStore kX3_readStore_0
  rw [if_pos C.rdr.1, a1, bV_s]
  exact c1
end SP
