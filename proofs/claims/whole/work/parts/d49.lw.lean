/-! ===== the law: what holds between two calls, and questions ===== -/
def upF (rf : Nat → Int32) (i : Nat) : Nat → Int32 := fun j => if j = i then rf j + 1 else rf j
def IwA (S : St) (z : Nat) (hi : List St) (im : List (St × List St)) (k : Nat) : Prop := Inx S z k ∧ (∀ P ∈ hi, Inx P z k) ∧ ∀ v ∈ im, Inx v.1 z k ∧ ∀ P ∈ v.2, Inx P z k
theorem IwA.le {S : St} {z k k' : Nat} {hi : List St} {im : List (St × List St)} (A : IwA S z hi im k) (h : k' ≤ k) : IwA S z hi im k' := ⟨A.1.le h, fun P hP => (A.2.1 P hP).le h, fun v hv => ⟨(A.2.2 v hv).1.le h, fun P hP => ((A.2.2 v hv).2 P hP).le h⟩⟩
def bud (c : Nat) : Nat := 768000 * c + 232200960
def Ls (o B : Nat) (h : Hp) (L : Nat) (xs : Nat → Int32) : Prop := kH h o = 4 ∧ lH h o = 1 ∧ lH h 1 = L ∧ h.2 1 = xs ∧ B ≤ nH h
/-- all that is there, but for the world's values -/
def LX (x m B : Nat) (h : Hp) (c : Nat) (bl : Nat → Nat) (S : St) (z : Nat) (T : Nat → Nat) (n : Nat) (ls : List (Nat × Nat)) (fp rs : Int32) (rf : Nat → Int32) (hi : List St) (im : List (St × List St)) : Prop := CW h x B bl S z T n ls fp rs rf hi im ∧ RW h m S z T n ls fp rs rf hi im ∧ IwA S z hi im (bud c) ∧ Rm h bl (20000 - 6 * c) (2000000 - 100 * c)
def LW (x m o B : Nat) (h : Hp) (L : Nat) (xs : Nat → Int32) (c : Nat) : Prop := Ls o B h L xs ∧ ∃ bl S z T n ls fp rs rf hi im, LX x m B h c bl S z T n ls fp rs rf hi im
section LAW
variable {h h' h2 : Hp} {x m o B L c z n : Nat} {xs : Nat → Int32} {bl bl' : Nat → Nat} {S S' : St} {T T' : Nat → Nat} {ls ls' : List (Nat × Nat)} {fp rs fp' rs' : Int32} {rf rf' : Nat → Int32} {hi hi' : List St} {im im' : List (St × List St)}
theorem CW.low (P : x = 8 ∧ m = 100 ∧ o = 252 ∧ B = 253) (A : CW h x B bl S z T n ls fp rs rf hi im) (e : h'.1 = h.1) (f : ∀ a, a < m ∨ B ≤ a → h'.2 a = h.2 a) : CW h' x B bl S z T n ls fp rs rf hi im := A.re e (Sta.eqs e (fun a w1 w2 => f a (by omega)) A.1.2) (A.2.1.cg (f _ (by omega)) (f _ (by omega)) (f _ (by omega)) (f _ (by omega))) (fun a w => f a (by omega)) (by rw [f x (by omega)])
theorem CW.thr (P : x = 8 ∧ m = 100 ∧ o = 252 ∧ B = 253) (A : CW h x B bl S z T n ls fp rs rf hi im) {i : Nat} (hi4 : i < 4) : CW (thr h x i) x B bl S z T n ls fp rs (upF rf i) hi im := by
  have b1 := A.2.2.1.1
  have A1 : CW (h.1, upI h.2 (x + 41) i (h.2 (x + 41) i + 1)) x B bl S z T n ls fp rs (upF rf i) hi im := by
    obtain ⟨p1, ⟨⟨p2, p3⟩, p4⟩, ⟨p5, p6⟩, p7⟩ := A.2.1
    have en : ∀ a, a ≠ x + 41 → (h.1, upI h.2 (x + 41) i (h.2 (x + 41) i + 1)).2 a = h.2 a := fun a w => upI_ne w
    refine A.re rfl (A.1.2.up (fun a w1 w2 => upI_ne (by omega))) ⟨⟨by rw [en x (by omega)]; exact p1.1, p1.2.1, fun j hj => by rw [en _ (by omega)]; exact p1.2.2.1 j hj, p1.2.2.2⟩, ⟨⟨p2, fun p hp => by rw [en _ (by omega)]; exact p3 p hp⟩, by rw [en x (by omega)]; exact p4⟩, ⟨by rw [en x (by omega)]; exact p5, by rw [en x (by omega)]; exact p6⟩, fun j hj => ?_⟩ (fun a w => en a (by omega)) (by rw [en x (by omega)])
    show upI _ _ _ _ (x + 41) j = _
    rw [upI_at]
    unfold upF
    by_cases w : j = i
    · rw [if_pos w, if_pos w, w, p7 i hi4]
    · rw [if_neg w, if_neg w]; exact p7 j hj
  exact A1.ext (ext_nw _ _ _ _) (fun a ha _ => nw_2 _ _ _ _ ha)
theorem kc_thr (P : x = 8 ∧ m = 100 ∧ o = 252 ∧ B = 253) (hn : B ≤ nH h) (i : Nat) : KC h (thr h x i) x o := by
  refine ⟨by show nH h ≤ nH h + 1; omega, fun a ha => ?_, fun a ha q1 q2 => ?_⟩
  · exact ⟨(ext_nw (h.1, _) 30 0 _).k ha, (ext_nw (h.1, _) 30 0 _).l ha⟩
  · refine ⟨((ext_nw (h.1, _) 30 0 _).2 a ha).2.2, ?_⟩
    show (nwH (h.1, upI h.2 (x + 41) i (h.2 (x + 41) i + 1)) 30 0 (if i = 2 then 8 else 6)).2 a = _
    exact (nw_2 (h.1, upI h.2 (x + 41) i (h.2 (x + 41) i + 1)) _ _ _ (show a < nH (h.1, upI h.2 (x + 41) i (h.2 (x + 41) i + 1)) from ha)).trans (upI_ne (by omega))
theorem RW.bd (P : x = 8 ∧ m = 100 ∧ o = 252 ∧ B = 253) (A : RW h m S z T n ls fp rs rf hi im) {i : Nat} (hi4 : i < 4) (w : Int32) : RW (bdM h m i w) m S z T n ls fp rs (upF rf i) hi im ∧ Gm h (bdM h m i w) m ∧ (bdM h m i w).2 m 0 = w := by
  have en : ∀ a, a ≠ m → a ≠ m + 2 → (bdM h m i w).2 a = h.2 a := fun a q1 q2 => by show upI _ _ _ _ a = _; rw [upI_ne q2, upI_ne q1, upI_ne q1]
  have ej : ∀ j, j ≠ 0 → (bdM h m i w).2 m j = h.2 m j := fun j q => by show upI _ _ _ _ m j = _; rw [upI_ne (by omega), upI_at, if_neg q, upI_at, if_neg q]
  obtain ⟨⟨M, R, Z⟩, ⟨⟨a1, a2, a3, a4⟩, a5, ⟨a6, a7⟩, a8⟩, ⟨b1, b2, b3⟩, c1, c2, c3⟩ := A
  refine ⟨⟨⟨M.eq rfl, Row.eq (h := h) rfl (en (m + 118) (by omega) (by omega)) R, by rw [ej 11 (by decide)]; exact Z⟩, ⟨⟨by rw [ej 1 (by decide)]; exact a1, a2, fun j hj => by rw [en (m + 1) (by omega) (by omega)]; exact a3 j hj, a4⟩, a5.cg (ej 13 (by decide)) (fun a q1 q2 => en a (by omega) (by omega)), ⟨by rw [ej 3 (by decide)]; exact a6, by rw [ej 15 (by decide)]; exact a7⟩, fun j hj => ?_⟩, ⟨by rw [ej 14 (by decide)]; exact b1, b2, fun j S' hS => ?_⟩, by rw [ej 16 (by decide)]; exact c1, c2, fun g v hv => ?_⟩, ⟨rfl, fun a q => en a (by omega) (by omega)⟩, ?_⟩
  · show upI _ _ _ _ (m + 2) j = _
    rw [upI_at]
    unfold upF
    by_cases e : j = i
    · rw [if_pos e, if_pos e, e, a8 i hi4]
    · rw [if_neg e, if_neg e, upI_ne (by omega), upI_ne (by omega)]; exact a8 j hj
  · have hk : j < hi.length := (List.getElem?_eq_some_iff.mp hS).1
    exact Row.eq (h := h) rfl (en (m + 121 + j) (by omega) (by omega)) (b3 j S' hS)
  · have hk : g < im.length := (List.getElem?_eq_some_iff.mp hv).1
    rw [en (m + 138 + g) (by omega) (by omega)]
    exact c3 g v hv
  · show upI _ _ _ _ m 0 = _
    rw [upI_ne (by omega), upI_at, if_pos rfl]
theorem Ls.kc (P : x = 8 ∧ m = 100 ∧ o = 252 ∧ B = 253) (A : Ls o B h L xs) (K : KC h h' x o) : Ls o B h' L xs := by
  obtain ⟨a1, a2, a3, a4, a5⟩ := A
  obtain ⟨k1, k2, k3⟩ := K
  exact ⟨(k2 o (by omega)).1.trans a1, (k2 o (by omega)).2.trans a2, (k2 1 (by omega)).2.trans a3, (k3 1 (by omega) (by omega) (by omega)).2.trans a4, by omega⟩
theorem Ls.gm (P : x = 8 ∧ m = 100 ∧ o = 252 ∧ B = 253) (A : Ls o B h L xs) (G : Gm h h' m) : Ls o B h' L xs := by
  obtain ⟨a1, a2, a3, a4, a5⟩ := A
  exact ⟨by rw [kh_eq G.1]; exact a1, by rw [lh_eq G.1]; exact a2, by rw [lh_eq G.1]; exact a3, by rw [G.2 1 (by omega)]; exact a4, by rw [nh_eq G.1]; exact a5⟩
theorem Ls.out (P : x = 8 ∧ m = 100 ∧ o = 252 ∧ B = 253) (A : Ls o B h L xs) (v : Int32) : Ls o B (h.1, upI h.2 o 0 v) L xs := by
  obtain ⟨a1, a2, a3, a4, a5⟩ := A
  exact ⟨a1, a2, a3, (upI_ne (by omega)).trans a4, a5⟩
theorem kc_out (P : x = 8 ∧ m = 100 ∧ o = 252 ∧ B = 253) (h : Hp) (v : Int32) : KC h (h.1, upI h.2 o 0 v) x o := KC.of rfl (fun a q1 q2 => upI_ne (by omega))
theorem KC.lo (P : x = 8 ∧ m = 100 ∧ o = 252 ∧ B = 253) (K : KC h h' x B) : KC h h' x o := ⟨K.1, K.2.1, fun a ha q1 q2 => K.2.2 a ha (by omega) q2⟩
/-- a call: the class's part, the reference's part, put together -/
theorem LX.fin (P : x = 8 ∧ m = 100 ∧ o = 252 ∧ B = 253) (hc : Ls o B h L xs) (K : KC h h2 x o) (G : Gm h2 h' m) (C : CW h2 x B bl' S' z T' n ls' fp' rs' rf' hi' im') (R : RW h' m S' z T' n ls' fp' rs' rf' hi' im') (I : IwA S' z hi' im' (bud c)) (rm : Rm h2 bl' (20000 - 6 * c) (2000000 - 100 * c)) : LW x m o B h' L xs c := by
  refine ⟨(hc.kc P K).gm P G, bl', S', z, T', n, ls', fp', rs', rf', hi', im', C.low P G.1 (fun a w => G.2 a (by omega)), R, I, by rw [nh_eq G.1]; exact rm.1, by rw [zh_eq G.1]; exact rm.2⟩
theorem Rm.le {N Z N' Z' : Nat} (A : Rm h bl N Z) (h1 : N ≤ N') (h2 : Z ≤ Z') : Rm h bl N' Z' := ⟨Nat.le_trans A.1 h1, Nat.le_trans A.2 h2⟩
/-- the class behind a question that was answered -/
theorem CW.gr (P : x = 8 ∧ m = 100 ∧ o = 252 ∧ B = 253) (A : CW h x B bl S z T n ls fp rs rf hi im) (G : Gr h h' x) (hn : B ≤ nH h) : CW h' x B bl S z T n ls fp rs rf hi im ∧ KC h h' x o := ⟨A.ext G.1 G.2.2, KC.ext G.1 (fun a ha q1 q2 => by
  by_cases w : a < x + 92
  · exact G.2.2 a ha (by unfold pers; omega)
  · exact G.2.2 a ha (by unfold pers; omega))⟩
/-- exceptions: which number the law gives them -/
def mp1 (e : String) : String → Option Int32 := fun E => if E = e then some 1 else none
def mp2 (e f : String) : String → Option Int32 := fun E => if E = e then some 1 else if E = f then some 2 else none
def okA (mp : String → Option Int32) (a : An) : Prop := match a with
  | .inl _ => True
  | .inr (E, i, w) => mp E = some w ∧ w ≠ 0 ∧ i < 4
def wrp (o : Nat) (mp : String → Option Int32) (r : RS) : RS := bC r (fun z2 h1 => (if kH h1 o = 4 then (if inB 0 (lH h1 o) = true then (some (.inl (some (.int 0)), (h1.1, (upI h1.2 o 0 z2)))) else none) else none)) (fun E hE => match mp E with
  | some w => some (.inl (some (.int w)), hE)
  | none => none)
/-- a wrapped question, both sides -/
theorem qstep (P : x = 8 ∧ m = 100 ∧ o = 252 ∧ B = 253) {mp : String → Option Int32} {rc : RS} {rr : Hp → RS} {a : An} (hl : Ls o B h L xs) (X : LX x m B h (c + 1) bl S z T n ls fp rs rf hi im) (hc : ClsG rc h x a) (hr : ∀ g, RW g m S z T n ls fp rs rf hi im → RefA (rr g) g m a) (ok : okA mp a) (h512 : c + 1 ≤ 512) :
    ∃ h2 h6 cd v, wrp o mp rc = some (.inl (some (.int cd)), h2) ∧ Ls o B h2 L xs ∧ kH h2 m = 18 ∧ rr h2 = some (.inl (some (.int v)), h6) ∧ kH h6 m = 18 ∧ h6.2 m 0 = cd ∧ (cd = 0 → h6.2 o 0 = v) ∧ LW x m o B h6 L xs c := by
  obtain ⟨A, R, I, rm⟩ := X
  have hn := hl.2.2.2.2
  have bl1 : bud c ≤ bud (c + 1) := by unfold bud; omega
  cases a with
  | inl v =>
    obtain ⟨h1, e1, G1⟩ := hc
    obtain ⟨A1, K1⟩ := A.gr P G1 hn
    have l1 := hl.kc P K1
    have K2 := K1.trans (kc_out P h1 v)
    have A2 : CW (h1.1, upI h1.2 o 0 v) x B bl S z T n ls fp rs rf hi im := A1.low P rfl (fun a w => upI_ne (by omega))
    have R2 := R.kc K2 (by omega) (by omega) (by omega)
    obtain ⟨h6, e6, s6, t6⟩ := hr _ R2
    have R6 := R2.scm s6
    have G6 : Gm (h1.1, upI h1.2 o 0 v) h6 m := ⟨s6.1, fun a w => s6.2.1 a (by unfold perM; omega)⟩
    have rm2 : Rm (h1.1, upI h1.2 o 0 v) bl (20000 - 6 * c) (2000000 - 100 * c) := by
      obtain ⟨g1, g2, g3⟩ := G1.2.1
      have r1 := rm.1
      have r2 := rm.2
      exact ⟨by show nH h1 + _ ≤ _; omega, by show zH h1 + _ ≤ _; omega⟩
    refine ⟨_, h6, 0, v, ?_, l1.out P v, R2.1.1.k, e6, R6.1.1.k, t6, fun _ => ?_, LX.fin P hl K2 G6 A2 R6 (I.le bl1) rm2⟩
    · unfold wrp
      rw [e1]
      show (if kH h1 o = 4 then _ else none) = _
      rw [if_pos l1.1, l1.2.1, if_pos (show inB 0 1 = true by decide)]
    · rw [G6.2 o (by omega)]
      show upI _ _ _ _ o 0 = _
      rw [upI_at, if_pos rfl]
  | inr u =>
    obtain ⟨E, i, w⟩ := u
    obtain ⟨o1, o2, o3⟩ : mp E = some w ∧ w ≠ 0 ∧ i < 4 := ok
    have e1 : rc = some (.inr E, thr h x i) := hc
    have A2 := A.thr P o3
    have K2 := kc_thr P hn i
    have R2 := R.kc K2 (by omega) (by omega) (by omega)
    have e6 : rr (thr h x i) = some (.inl (some (.int 0)), bdM (thr h x i) m i w) := hr _ R2
    obtain ⟨R6, G6, t6⟩ := R2.bd P o3 w
    have rm2 : Rm (thr h x i) bl (20000 - 6 * c) (2000000 - 100 * c) := by
      have r1 := rm.1
      have r2 := rm.2
      have s : zH (thr h x i) ≤ zH h + 8 := by
        show zH h + (if i = 2 then 8 else 6) ≤ _
        split <;> omega
      exact ⟨by show nH h + 1 + _ ≤ _; omega, by omega⟩
    refine ⟨_, _, w, 0, ?_, hl.kc P K2, R2.1.1.k, e6, R6.1.1.k, t6, fun q => absurd q o2, LX.fin P hl K2 G6 A2 R6 (I.le bl1) rm2⟩
    unfold wrp
    rw [e1]
    show (match mp E with | some w => (some (.inl (some (.int w)), thr h x i) : RS) | none => none) = _
    rw [o1]
/-- a question without exceptions -/
theorem qstep0 (P : x = 8 ∧ m = 100 ∧ o = 252 ∧ B = 253) {rc : RS} {rr : Hp → RS} {v : Int32} (hl : Ls o B h L xs) (X : LX x m B h (c + 1) bl S z T n ls fp rs rf hi im) (hc : ClsG rc h x (.inl v)) (hr : ∀ g, RW g m S z T n ls fp rs rf hi im → RefA (rr g) g m (.inl v)) (h512 : c + 1 ≤ 512) :
    ∃ h2 h6 v, rc = some (.inl (some (.int v)), h2) ∧ Ls o B h2 L xs ∧ kH h2 m = 18 ∧ rr h2 = some (.inl (some (.int v)), h6) ∧ LW x m o B h6 L xs c := by
  obtain ⟨A, R, I, rm⟩ := X
  have hn := hl.2.2.2.2
  have bl1 : bud c ≤ bud (c + 1) := by unfold bud; omega
  obtain ⟨h1, e1, G1⟩ := hc
  obtain ⟨A1, K1⟩ := A.gr P G1 hn
  have R2 := R.kc K1 (by omega) (by omega) (by omega)
  obtain ⟨h6, e6, s6, t6⟩ := hr _ R2
  have R6 := R2.scm s6
  have G6 : Gm h1 h6 m := ⟨s6.1, fun a w => s6.2.1 a (by unfold perM; omega)⟩
  have rm2 : Rm h1 bl (20000 - 6 * c) (2000000 - 100 * c) := by
    obtain ⟨g1, g2, g3⟩ := G1.2.1
    have r1 := rm.1
    have r2 := rm.2
    exact ⟨by omega, by omega⟩
  exact ⟨h1, h6, v, e1, hl.kc P K1, R2.1.1.k, e6, LX.fin P hl K1 G6 A1 R6 (I.le bl1) rm2⟩
end LAW
