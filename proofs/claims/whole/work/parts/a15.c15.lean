/-! ===== the class sweeps, crashes, syncs ===== -/
theorem nmd_isK {B : Nat → Nat} (W : Wf B) {n : Nat} (hn : n < 12) : isK B n 2 = true ↔ fd B n 1 = 2 := by
  unfold isK
  constructor
  · intro h; simp at h; exact h.2
  · intro h
    have : fd B n 0 ≠ 0 := fun q => by have := (W.2.1 _ hn).mp q; omega
    simp [h]
    omega
section C15
variable {h : Hp} {s t p z : Nat} {S : St}
theorem c_linksDue (R : Sta h s S z) (W : Wf (mm S)) (hk : Lk S) (h64 : (sL S).length ≤ 64) {n : Nat} (hn : n < 12) : fX6_linksDue t s (nI (rbits (mm S))) (nI n) h = some (.inl (some (.int (nI (nmd (mm S) n + cntL S 1 n)))), h) := by
  have hrl := rbits_lt (mm S)
  have hc : cntL S 1 n ≤ 64 := Nat.le_trans (List.length_filter_le _ _) h64
  have go : ∀ (c d q a : Nat), d + c = 12 → c < q → gX6_linksDue q 10 [uV, .ref s, .int (nI (rbits (mm S))), .int (nI n), .int (nI a), .int (nI d)] [] h = some (.inl (some (.int (nI (a + nmdS (mm S) n (List.range' d c))))), h) := by
    intro c
    induction c with
    | zero =>
      intro d q a hd hq
      obtain ⟨q, rfl⟩ := sc hq
      rw [zX6_linksDue_10]
      unfold kX6_linksDue_10
      rw [if_pos (by rw [k12, nI_leI (by decide) (by omega)]; omega)]
      rfl
    | succ c ih =>
      intro d q a hd hq
      obtain ⟨q, rfl⟩ := sc hq
      have hrb := rbits_bit (mm S) (n := d) (by omega)
      have htn : fX8_timesNamed s 0 (nI d) (nI n) h = _ := t_timesNamed R.cb0 W.1 (d := d) (t := n) (by omega) (by omega)
      have hsum : nmdS (mm S) n (List.range' d (c + 1)) = (if isR (mm S) d = true ∧ fd (mm S) d 1 = 2 then cntE (mm S) d n else 0) + nmdS (mm S) n (List.range' (d + 1) c) := by
        unfold nmdS
        rw [List.range'_succ, List.map_cons, List.sum_cons]
      rw [zX6_linksDue_10, hsum]
      unfold kX6_linksDue_10
      rw [if_neg (by rw [k12, nI_leI (by decide) (by omega)]; omega), nI_1]
      cases hr : isR (mm S) d with
      | false =>
        rw [hr] at hrb
        rw [if_pos ((bit0 (by omega) (by omega)).mpr hrb), ih (d + 1) q a (by omega) (by omega), if_neg (fun w => by cases w.1), Nat.zero_add]
      | true =>
        rw [hr] at hrb
        rw [if_neg (by rw [bit0 (by omega) (by omega), hrb]; decide), htn, bI_s, nI_add, ih (d + 1) q _ (by omega) (by omega)]
        have hiff := nmd_isK W (n := d) (by omega)
        by_cases e : fd (mm S) d 1 = 2
        · rw [if_pos (hiff.mpr e), if_pos ⟨rfl, e⟩, Nat.add_assoc]
        · rw [if_neg (fun w => e (hiff.mp w)), if_neg (fun w => e w.2), Nat.add_zero, Nat.zero_add]
  have hcp : fX5_countPutOff s (nI n) h = some (.inl (some (.int (nI (cntL S 1 n)))), h) := c_countPutOff R hk h64 (w := 1) (k := n) (by decide) (by omega)
  unfold fX6_linksDue kX6_linksDue_0
  rw [if_pos R.so.1, hcp, bI_s]
  have := go 12 0 FF (cntL S 1 n) rfl (by decide)
  rw [Nat.add_comm] at this
  exact this
theorem c_firstFound (R : Sta h s S z) (T : kH h t = 16) (W : Wf (mm S)) (hk : Lk S) (h64 : (sL S).length ≤ 64) : fX6_firstFound t s h = some (.inl (some (.int (oI (swAt S z)))), h) := by
  obtain ⟨hz1, hz2⟩ := R.2.2.1
  have hrl := rbits_lt (mm S)
  have hll := lnkN_lt (mm S)
  have hpl := ptd_lt W.1 (lnkN (mm S)) (n := 12) (Nat.le_refl _)
  have gob : ∀ (c b q : Nat), b + c = z → c < q → gX6_firstFound q 62 [uV, .ref s, uV, .int (nI (ptd (mm S) (lnkN (mm S)) 12)), .int (nI b)] [] h = some (.inl (some (.int (oI (((List.range' b c).find? (fun b => !(mm S b == 0) && ((ptrF (mm S) (lnkN (mm S)) b).isNone && cntL S 0 b == 0))).map (fun b => 100 + b))))), h) := by
    intro c
    induction c with
    | zero =>
      intro b q hb hq
      obtain ⟨q, rfl⟩ := sc hq
      rw [zX6_firstFound_62]
      unfold kX6_firstFound_62
      rw [if_pos R.so.1, R.sz, if_pos (by rw [nI_leI (by omega) (by omega)]; omega)]
      rfl
    | succ c ih =>
      intro b q hb hq
      obtain ⟨q, rfl⟩ := sc hq
      have ih := ih (b + 1) q (by omega) (by omega)
      have h0 : fX5_at s 0 0 (nI b) h = some (.inl (some (.int (nI (mm S b)))), h) := by
        have := c_at R.cb0 (b := 0) (p := b) (by decide) (by omega)
        rw [Nat.mul_zero, Nat.zero_add] at this
        exact this
      have g0 : mm S b < 128 := bd_mm R.bd _
      have hc : cntL S 0 b ≤ 64 := Nat.le_trans (List.length_filter_le _ _) h64
      have hcp : fX5_countPutOff s (100 + nI b) h = some (.inl (some (.int (nI (cntL S 0 b)))), h) := by
        have := c_countPutOff R hk h64 (w := 0) (k := b) (by decide) (by omega)
        rw [k100, nI_add]
        exact this
      have hpt := ptd_ptr (mm S) (lnkN (mm S)) b
      rw [zX6_firstFound_62, List.range'_succ, List.find?_cons]
      unfold kX6_firstFound_62
      rw [if_pos R.so.1, R.sz, if_neg (by rw [nI_leI (by omega) (by omega)]; omega), h0, bI_s, nI_1]
      by_cases e0 : mm S b = 0
      · rw [if_pos (by rw [nI_eq0 (by omega)]; exact e0)]
        have : (!(mm S b == 0) && ((ptrF (mm S) (lnkN (mm S)) b).isNone && cntL S 0 b == 0)) = false := by simp [e0]
        rw [this]
        exact ih
      · have e0' : (mm S b == 0) = false := by simpa using e0
        rw [if_neg (by rw [nI_eq0 (by omega)]; exact e0), e0']
        cases hp : (ptrF (mm S) (lnkN (mm S)) b).isNone with
        | false =>
          rw [hp] at hpt
          rw [if_pos (by rw [bit0 (by omega) (by omega), hpt]; decide)]
          exact ih
        | true =>
          rw [hp] at hpt
          rw [if_neg (by rw [bit0 (by omega) (by omega), hpt]; decide), if_pos R.so.1, hcp, bI_s]
          by_cases e1 : cntL S 0 b = 0
          · rw [if_neg (by rw [nI_eq0 (by omega)]; simp [e1]), e1, k100, nI_add]
            rfl
          · have e1' : (cntL S 0 b == 0) = false := by simpa using e1
            rw [if_pos (by rw [nI_eq0 (by omega)]; exact e1), e1']
            exact ih
  have gon : ∀ (c n q : Nat), n + c = 12 → 30 + c < q → gX6_firstFound q 8 [.ref t, .ref s, .int (nI (rbits (mm S))), .int (nI n), uV] [] h = some (.inl (some (.int (oI (match (List.range' n c).find? (fun n => decide (nmd (mm S) n + cntL S 1 n < fd (mm S) n 0)) with | some n => some n | none => (swB S z).map (fun b => 100 + b))))), h) := by
    intro c
    induction c with
    | zero =>
      intro n q hn hq
      obtain ⟨q, rfl⟩ := sc hq
      have hl : fX8_linkedNodes s 0 h = _ := t_linked R.cb0
      have hp : fX8_pointedBlocks s 0 (nI (lnkN (mm S))) h = _ := t_pointed R.cb0 W.1 hll
      rw [zX6_firstFound_8]
      unfold kX6_firstFound_8
      rw [if_pos (by rw [k12, nI_leI (by decide) (by omega)]; omega), hl, bI_s, hp, bI_s]
      exact gob (z - 4) 4 q (by omega) (by omega)
    | succ c ih =>
      intro n q hn hq
      obtain ⟨q, rfl⟩ := sc hq
      have ih := ih (n + 1) q (by omega) (by omega)
      have h0 : fX5_nodeField s 0 (nI n) 0 h = some (.inl (some (.int (nI (fd (mm S) n 0)))), h) := c_nodeField R.cb0 (n := n) (f := 0) (by omega) (by decide)
      have g0 : fd (mm S) n 0 < 128 := bd_mm R.bd _
      have hc : cntL S 1 n ≤ 64 := Nat.le_trans (List.length_filter_le _ _) h64
      have hm : nmd (mm S) n ≤ 16 * 12 := by have := nmdS_le (mm S) n (List.range' 0 12); rwa [List.length_range'] at this
      rw [zX6_firstFound_8, List.range'_succ, List.find?_cons]
      unfold kX6_firstFound_8
      rw [if_neg (by rw [k12, nI_leI (by decide) (by omega)]; omega), if_pos R.so.1, h0, bI_s, nI_1]
      by_cases e0 : fd (mm S) n 0 = 0
      · rw [if_pos (by rw [nI_le0 (by omega)]; exact e0)]
        have : decide (nmd (mm S) n + cntL S 1 n < fd (mm S) n 0) = false := decide_eq_false (by omega)
        rw [this]
        exact ih
      · rw [if_neg (by rw [nI_le0 (by omega)]; exact e0), if_pos T, c_linksDue R W hk h64 (by omega), bI_s]
        by_cases e1 : nmd (mm S) n + cntL S 1 n < fd (mm S) n 0
        · rw [if_neg (by rw [nI_leI (by omega) (by omega)]; omega), decide_eq_true e1]
          rfl
        · rw [if_pos (by rw [nI_leI (by omega) (by omega)]; omega), decide_eq_false e1]
          exact ih
  unfold fX6_firstFound kX6_firstFound_0
  have hr : fX8_reachedNodes s 0 h = _ := t_reached R.cb0 W
  rw [hr, bI_s]
  exact gon 11 1 FF rfl (by decide)
theorem swN_lt {n : Nat} (hn : swN S = some n) : n < 12 := by
  have := List.mem_of_find?_eq_some hn
  have := List.mem_range'_1.mp this
  omega
theorem swB_lt {b : Nat} (hb : swB S z = some b) (hz : 6 ≤ z) : 4 ≤ b ∧ b < z := by
  have := List.mem_of_find?_eq_some hb
  have := List.mem_range'_1.mp this
  omega
theorem swN_le (B : Bd S) {n : Nat} (hn : swN S = some n) : nmd (mm S) n + cntL S 1 n < 128 := by
  have := List.find?_some hn
  have h1 : nmd (mm S) n + cntL S 1 n < fd (mm S) n 0 := by simpa using this
  have h2 : fd (mm S) n 0 < 128 := bd_mm B _
  omega
theorem c_sweepOne (R : Sta h s S z) (T : kH h t = 16) (W : Wf (mm S)) (hk : Lk S) (sl : Sc S 4 2 4) : RsC (fX6_sweepOne t s h) (some (.int (b2i (sSwp S z).1))) h s (sSwp S z).2 z := by
  obtain ⟨hz1, hz2⟩ := R.2.2.1
  have h64 : (sL S).length ≤ 64 := by have := sl.2; omega
  unfold fX6_sweepOne kX6_sweepOne_0 sSwp
  rw [if_pos T, c_firstFound R T W hk h64, bI_s]
  unfold swAt
  cases hn : swN S with
  | some n =>
    have h12 := swN_lt hn
    have hv := swN_le R.bd hn
    simp only []
    rw [if_pos (by rw [oI_s, nI_eqm (by omega)]; exact id), if_pos (by rw [oI_s, k100, nI_ltI (by omega) (by decide)]; omega)]
    have hr : fX8_reachedNodes s 0 h = _ := t_reached R.cb0 W
    rw [hr, bI_s, if_pos T, oI_s, c_linksDue R W hk h64 h12, bI_s, if_pos R.so.1]
    exact rsc_bV (c_setLinks R W.1 h12 hv (i := 0) (j := 0) (k := 0) sl) (fun h1 O1 R1 => rsc_1 R1)
  | none =>
    cases hb : swB S z with
    | none => simp only [Option.map_none]; rw [if_neg (by show ¬ ¬ (-1 : Int32) = -1; simp)]; exact rsc_0 R
    | some b =>
      obtain ⟨b1, b2⟩ := swB_lt hb hz1
      simp only [Option.map_some]
      rw [if_pos (by rw [oI_s, nI_eqm (by omega)]; exact id), if_neg (by rw [oI_s, k100, nI_ltI (by omega) (by decide)]; omega), if_pos R.so.1, oI_s, k100, pk_sub (by omega), Nat.add_sub_cancel_left]
      have hput : RsC (fX5_put s 0 (nI b) 0 h) _ h s _ z := c_putR R (sl.1.le (by omega) (by omega) (by omega)) (b := 0) (p := b) (v := 0) (by decide) (by omega) (by decide)
      exact rsc_bI hput (fun h1 O1 R1 => rsc_1 R1)
theorem c_crash (R : Sta h s S z) : RsC (fX5_crash s h) none h s (sCrs S) z := by
  obtain ⟨r1, ⟨r2, r3, r4⟩, -⟩ := id R.so
  obtain ⟨t1, t2, t3, t4, t5, t6, t7, t8, t9, t10, t11⟩ := R.2.1
  refine ⟨(h.1, upI (upI (upI (cpI h.2 (s + 1) (s + 1) 256 0 256) s 2 0) s 9 0) s 14 (sK S + 1)), ?_, ⟨rfl, fun a ha => by dsimp only; rw [upI_ne (by omega), upI_ne (by omega), upI_ne (by omega), cpI_ne (by omega)]⟩, SO.eq (h := h) rfl R.so, ?_, R.2.2.1, ?_⟩
  · unfold fX5_crash kX5_crash_0
    rw [if_pos r1, r2, if_pos r3, r4, if_pos (by decide), if_pos (by decide), letH_s, upI_at, if_neg (by decide), upI_at, if_neg (by decide), cpI_ne (by omega), t8]
  · dsimp only
    refine ⟨?_, fun x hx => ?_, fun x hx => ?_, ?_, ?_, ?_, ?_, ?_, ?_, fun pre c l e => (by have e : ([] : List Ch) = pre ++ c :: l := e; simp at e), fun pre c l e => (by have e : ([] : List La) = pre ++ c :: l := e; simp at e)⟩
    · rw [upI_at, if_neg (by decide), upI_at, if_neg (by decide), upI_at, if_neg (by decide), cpI_ne (by omega)]; exact t1
    · rw [upI_ne (by omega), upI_ne (by omega), upI_ne (by omega), cpI_at, if_pos (by omega), Nat.sub_zero]
      exact t3 x hx
    · rw [upI_ne (by omega), upI_ne (by omega), upI_ne (by omega), cpI_at, if_neg (by omega)]
      exact t3 x hx
    · rw [upI_at, if_neg (by decide), upI_at, if_neg (by decide), upI_at, if_pos rfl]; rfl
    · rw [upI_at, if_neg (by decide), upI_at, if_pos rfl]; rfl
    · rw [upI_at, if_neg (by decide), upI_at, if_neg (by decide), upI_at, if_neg (by decide), cpI_ne (by omega)]; exact t6
    · rw [upI_at, if_neg (by decide), upI_at, if_neg (by decide), upI_at, if_neg (by decide), cpI_ne (by omega)]; exact t7
    · rw [upI_at, if_pos rfl]; rfl
    · rw [upI_at, if_neg (by decide), upI_at, if_neg (by decide), upI_at, if_neg (by decide), cpI_ne (by omega)]; exact t9
  · obtain ⟨b1, b2, b3, b4, b5, b6, b7⟩ := R.bd
    exact ⟨by show (0 : Nat) ≤ 200; omega, by show (0 : Nat) ≤ 160; omega, b3, b4, fun c hc => (by cases hc), fun e he => (by cases he), List.Pairwise.nil⟩
/-- a State's class may write a block -/
def Wc (S : St) (z b : Nat) : Prop := Na S ∧ Zb S z ∧ Pt S ∧ Lk S ∧ (sL S).length ≤ 64 ∧ (dirt S b = true → Sc (wrK S b) (co1 (dueL S b)) (co2 (dueL S b)) (co1 (dueL S b)))
def Wcs : St → Nat → List Nat → Prop
  | _, _, [] => True
  | S, z, b :: l => Wc S z b ∧ Wcs (wrs S b) z l
def nW : St → List Nat → Nat
  | _, [] => 0
  | S, b :: l => (if dirt S b then 1 else 0) + nW (wrs S b) l
theorem c_write (hps : p + 5 ≤ s ∨ s + 10 ≤ p) {b : Nat} (hb : b < 16) (R : Sta h s S z) (M : PO h p) (C : Wc S z b) : ∃ h', fX2_writeBlock p s (nI b) h = some (.inl (some (.int (b2i (dirt S b)))), h') ∧ OwnP h h' p s ∧ Sta h' s (wrs S b) z := by
  obtain ⟨c1, c2, c3, c4, c5, c6⟩ := C
  exact c_writeBlock hb hps c1 c2 R M c3 c4 c5 c6
theorem c_sync_go (hps : p + 5 ≤ s ∨ s + 10 ≤ p) : ∀ (c b q a : Nat) (S : St) (h : Hp), b + c = z → c < q → Sta h s S z → PO h p → Wcs S z (List.range' b c) →
    ∃ h', gX2_syncAll q 4 [.ref p, .ref s, .int (nI a), .int (nI b)] [] h = some (.inl (some (.int (nI (a + nW S (List.range' b c))))), h') ∧ OwnP h h' p s ∧ Sta h' s (syF S (List.range' b c)) z := by
  intro c
  induction c with
  | zero =>
    intro b q a S h hb hq R M C
    obtain ⟨q, rfl⟩ := sc hq
    obtain ⟨hz1, hz2⟩ := R.2.2.1
    refine ⟨h, ?_, OwnP.refl h, R⟩
    rw [zX2_syncAll_4]
    unfold kX2_syncAll_4
    rw [if_pos R.so.1, R.sz, if_pos (by rw [nI_leI (by omega) (by omega)]; omega)]
    rfl
  | succ c ih =>
    intro b q a S h hb hq R M C
    obtain ⟨q, rfl⟩ := sc hq
    obtain ⟨hz1, hz2⟩ := R.2.2.1
    rw [List.range'_succ] at C ⊢
    obtain ⟨C1, C2⟩ := C
    obtain ⟨h1, a1, a2, a3⟩ := c_write hps (b := b) (by omega) R M C1
    obtain ⟨h2, i1, i2, i3⟩ := ih (b + 1) q (a + if dirt S b then 1 else 0) (wrs S b) h1 (by omega) (by omega) a3 (M.eq a2.1) C2
    refine ⟨h2, ?_, a2.trans i2, i3⟩
    rw [zX2_syncAll_4]
    unfold kX2_syncAll_4
    rw [if_pos R.so.1, R.sz, if_neg (by rw [nI_leI (by omega) (by omega)]; omega), if_pos M.1, a1, bI_s, nI_1, nI_1]
    have hn : nW S (b :: List.range' (b + 1) c) = (if dirt S b then 1 else 0) + nW (wrs S b) (List.range' (b + 1) c) := rfl
    rw [hn, ← Nat.add_assoc, ← i1]
    cases dirt S b with
    | true => rw [if_neg (show ¬ b2i true = 0 by decide)]; rfl
    | false => rw [if_pos (show b2i false = 0 from rfl)]; rfl
theorem c_sync (hps : p + 5 ≤ s ∨ s + 10 ≤ p) (R : Sta h s S z) (M : PO h p) (C : Wcs S z (List.range' 0 z)) : ∃ h', fX2_syncAll p s h = some (.inl (some (.int (nI (nW S (List.range' 0 z))))), h') ∧ OwnP h h' p s ∧ Sta h' s (syF S (List.range' 0 z)) z := by
  obtain ⟨hz1, hz2⟩ := R.2.2.1
  have := c_sync_go (z := z) hps z 0 FF 0 S h (by omega) (by show _ < 1000000; omega) R M C
  rw [Nat.zero_add] at this
  exact this
theorem anyW_nW : ∀ (l : List Nat) (S : St), anyW S l = decide (0 < nW S l) := by
  intro l
  induction l with
  | nil => intro S; rfl
  | cons b l ih =>
    intro S
    have h1 : anyW S (b :: l) = (dirt S b || anyW (wrs S b) l) := rfl
    have h2 : nW S (b :: l) = (if dirt S b then 1 else 0) + nW (wrs S b) l := rfl
    rw [h1, h2, ih]
    cases dirt S b with
    | true =>
      rw [Bool.true_or]
      symm
      rw [decide_eq_true_eq]
      simp
      omega
    | false => simp
theorem nW_le : ∀ (l : List Nat) (S : St), nW S l ≤ l.length := by
  intro l
  induction l with
  | nil => intro S; exact Nat.le_refl _
  | cons b l ih =>
    intro S
    have h2 : nW S (b :: l) = (if dirt S b then 1 else 0) + nW (wrs S b) l := rfl
    have := ih (wrs S b)
    rw [h2, List.length_cons]
    split <;> omega
end C15
