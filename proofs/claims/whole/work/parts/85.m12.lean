/-! ===== the reference writes ===== -/
/-- no mark among what is put off -/
def Lu (S : St) : Prop := ∀ e ∈ sL S, e.2.2 ≤ sM S
theorem lu_mk {S : St} (L : Lu S) {b p v : Nat} {n1 n2 n3 n4 : Int} : Lu (mk S b p v n1 n2 n3 n4) := by
  unfold mk
  split
  · exact L
  · intro e he
    have := L e he
    show e.2.2 ≤ sM S + 1
    omega
theorem lu_putO {S : St} (L : Lu S) {a b c : Nat} (hc : c ≤ sM S) : Lu (putO S a b c) := by
  intro e he
  rcases List.mem_append.mp he with q | q
  · exact L e q
  · rw [List.mem_singleton] at q
    subst q
    exact hc
theorem mkI_le (S : St) (b p v : Nat) (n1 n2 n3 n4 : Int) : mkI S b p v ≤ sM (mk S b p v n1 n2 n3 n4) := by
  unfold mkI mk
  split
  · omega
  · exact Nat.le_refl _
theorem lu_zer {S : St} (L : Lu S) {n f : Nat} : Lu (zer S n f) := by
  unfold zer
  split
  · exact L
  · exact lu_putO (lu_mk L) (mkI_le _ _ _ _ _ _ _ _)
theorem lu_setL {S : St} (L : Lu S) {n k : Nat} : Lu (setL S n k) := by
  unfold setL empt
  split
  · exact lu_zer (lu_zer (lu_mk (lu_mk L)))
  · exact lu_mk L
theorem lu_dol {S : St} (L : Lu S) {e : La} : Lu (dol S e) := by
  unfold dol less
  split
  · exact lu_mk L
  · split
    · exact L
    · exact lu_setL L
theorem lu_dols {S : St} (L : Lu S) (l : List La) : Lu (l.foldl dol S) := by
  induction l generalizing S with
  | nil => exact L
  | cons e l ih => exact ih (lu_dol L)
theorem row_later {A A' : Nat → Int32} {S : St} {L : List La} (R : RowA A S) (h1 : ∀ x, x < 2912 ∨ 3392 ≤ x → x ≠ 3393 → A' x = A x) (h2 : A' 3393 = nI L.length) (h3 : ∀ pre e l, L = pre ++ e :: l → LaAt A' pre.length e) (hl : (sC S).length ≤ 200) : RowA A' (sD S, sC S, L, sM S, sW S, sH S, sK S) := by
  obtain ⟨r1, r2, r3, r4, r5, r6, r7, r8, r9, r10⟩ := R
  refine ⟨fun x q => ?_, fun x q => ?_, ?_, h2, ?_, ?_, ?_, ?_, fun pre c l e => ?_, fun pre e l q => h3 pre e l q⟩
  · rw [h1 _ (by omega) (by omega)]; exact r1 x q
  · rw [h1 _ (by omega) (by omega)]; exact r2 x q
  · rw [h1 _ (by omega) (by omega)]; exact r3
  · rw [h1 _ (by omega) (by omega)]; exact r5
  · rw [h1 _ (by omega) (by omega)]; exact r6
  · rw [h1 _ (by omega) (by omega)]; exact r7
  · rw [h1 _ (by omega) (by omega)]; exact r8
  · have hq : (sC S).length = pre.length + 1 + l.length := by rw [show sC S = pre ++ c :: l from e]; simp; omega
    exact (r9 pre c l e).mv (fun i hi => h1 _ (by omega) (by omega))
theorem filt_split {α : Type} {p : α → Bool} {L pre l : List α} {e : α} (h : L.filter p = pre ++ e :: l) : ∃ P1 P2, L = P1 ++ e :: P2 ∧ P1.filter p = pre ∧ p e = true := by
  induction L generalizing pre with
  | nil => simp at h
  | cons x L ih =>
    rw [List.filter_cons] at h
    by_cases hx : p x = true
    · rw [if_pos hx] at h
      cases pre with
      | nil =>
        rw [List.nil_append] at h
        cases h
        exact ⟨[], L, rfl, rfl, hx⟩
      | cons y pre =>
        rw [List.cons_append] at h
        obtain ⟨h1, h2⟩ := List.cons.inj h
        obtain ⟨P1, P2, q1, q2, q3⟩ := ih h2
        exact ⟨x :: P1, P2, by rw [q1]; rfl, by rw [List.filter_cons, if_pos hx, q2, h1], q3⟩
    · rw [if_neg hx] at h
      obtain ⟨P1, P2, q1, q2, q3⟩ := ih h
      exact ⟨x :: P1, P2, by rw [q1]; rfl, by rw [List.filter_cons, if_neg hx, q2], q3⟩
theorem held_split {g : List (Ch × Bool)} {pre l : List Ch} {c : Ch} (h : held g = pre ++ c :: l) : ∃ P1 P2, g = P1 ++ (c, false) :: P2 ∧ held P1 = pre := by
  unfold held at h
  obtain ⟨l1, l2, e1, e2, e3⟩ := List.map_eq_append_iff.mp h
  obtain ⟨q, l3, e4, e5, e6⟩ := List.map_eq_cons_iff.mp e3
  subst e4
  obtain ⟨P1, P2, f1, f2, f3⟩ := filt_split e1
  refine ⟨P1, P2, ?_, by unfold held; rw [f2, e2]⟩
  have : q = (c, false) := by
    obtain ⟨a, f⟩ := q
    have e5 : a = c := e5
    have f3 : (!f) = true := f3
    rw [e5]
    cases f
    · rfl
    · cases f3
  rw [← this]
  exact f1
theorem was_eq {g P1 P2 : List (Ch × Bool)} {c : Ch} {x : Nat} (hp : g.Pairwise apart) (e : g = P1 ++ (c, false) :: P2) (hx : tch c x = true) (d : Nat → Nat) : vA (vA d (gone g)) (held P1) x = vA d (P1.map Prod.fst) x := by
  subst e
  obtain ⟨p1, p2, p3⟩ := List.pairwise_append.mp hp
  rw [← vA_split p1]
  refine vA_congr ?_ _
  rw [gone_app, gone_cons, vA_app]
  refine vA_no (fun c' hc' => ?_)
  have h1 := (List.pairwise_cons.mp p2).1 _ (gone_mem.mp hc') rfl rfl x hx
  cases h2 : tch c' x
  · rfl
  · exact absurd h2 (fun q => h1 q)
theorem held_sub (b : Nat) (l : List Ch) : (held (goes b l)).Sublist l := by
  have h1 : (held (goes b l)).Sublist ((goes b l).map Prod.fst) := List.Sublist.map _ List.filter_sublist
  rwa [goes_fst] at h1
theorem gone_sub (b : Nat) (l : List Ch) : (gone (goes b l)).Sublist l := by
  have h1 : (gone (goes b l)).Sublist ((goes b l).map Prod.fst) := List.Sublist.map _ List.filter_sublist
  rwa [goes_fst] at h1
theorem hb_held (b : Nat) (g : List (Ch × Bool)) : ((held g).filter (fun c => cB c == b)).length = hb b g := by
  unfold held hb
  rw [List.filter_map, List.length_map, List.filter_filter]
  rfl
/-- a state behind a write, ahead of what was put off -/
def wr0 (S : St) (b : Nat) : St := (vA (sD S) (gone (goes b (sC S))), held (goes b (sC S)), sL S, sM S, sW S + 1, sH S + nI (hb b (goes b (sC S))), sK S)
theorem mm_wr0 (S : St) (b x : Nat) : mm (wr0 S b) x = mm S x := by
  show vA (vA (sD S) (gone (goes b (sC S)))) (held (goes b (sC S))) x = _
  rw [vA_split (goes_apart b (sC S)), goes_fst]
  rfl
def noL (S : St) : St := (sD S, sC S, [], sM S, sW S, sH S, sK S)
theorem wr_eq (S : St) (b : Nat) : wr S b = pW ((sL S).filter (fun e => !isDue (gone (goes b (sC S))) e)) (((sL S).filter (isDue (gone (goes b (sC S))))).foldl dol (noL (wr0 S b))) := by
  rw [← pW_dols]
  unfold wr
  rw [hb_held]
  congr 1
  show _ = (_, _, (sL S).filter _ ++ [], _, _, _, _)
  rw [List.append_nil]
  rfl
theorem bd_wr0 {S : St} (B : Bd S) (b : Nat) : Bd (wr0 S b) := by
  obtain ⟨b1, b2, b3, b4, b5, b6, b7⟩ := B
  have hs := held_sub b (sC S)
  refine ⟨Nat.le_trans hs.length_le b1, b2, b3, fun x => vA_lt b4 (fun c hc => (b5 c ((gone_sub b (sC S)).subset hc)).2.2.2.2.1) x, fun c hc => b5 c (hs.subset hc), b6, b7.sublist hs⟩
section M12
variable {h : Hp} {r m : Nat} {S : St}
theorem m_doesLater {G : List Ch} (hG : G.length ≤ 200) (hI : ∀ c ∈ G, cI c < 2 ^ 31) (hm : r ≠ m ∧ r ≠ m + 149) (R : Row h r S) (M : MO h m) (g : Gn h m G) (P : Pt S) (L : Lu S) (hk : ∀ e ∈ sL S, e.1 = 0 ∨ e.2.1 < 12)
    (sl : Sl S (co1 ((sL S).filter (isDue G))) (co2 ((sL S).filter (isDue G))) (co1 ((sL S).filter (isDue G)))) :
    Res (fX10_doesLater m r h) none h r (pW ((sL S).filter (fun e => !isDue G e)) (((sL S).filter (isDue G)).foldl dol (noL S))) := by
  have hS : pW ([] ++ sL S) (noL S) = S := by
    show (sD S, sC S, (([] : List La) ++ sL S) ++ [], sM S, sW S, sH S, sK S) = S
    rw [List.append_nil, List.nil_append]
  have b3 := R.bd.2.2.1
  have b2 := R.bd.2.1
  obtain ⟨h1, a1, a2, a3, a4⟩ := m_late_go (r := r) (m := m) hG hI hm (sL S) [] (999999 - (sL S).length) (noL S) h (by rw [hS]; exact R) M g P (fun e he => ⟨by have := L e he; omega, hk e he⟩) (by rw [hS]; exact sl)
  obtain ⟨Y, hY⟩ : ∃ Y, Y = ((sL S).filter (isDue G)).foldl dol (noL S) := ⟨_, rfl⟩
  rw [← hY] at a4 ⊢
  have hLY : Lu Y := by rw [hY]; exact lu_dols (fun e he => by cases (show e ∈ ([] : List La) from he)) _
  have hB4 := a4.bd
  have hM4 : sM Y < 2 ^ 31 := hB4.2.2.1
  obtain ⟨LL, hLL⟩ : ∃ LL, LL = ([] ++ (sL S).map (mkIf G)) ++ sL Y := ⟨_, rfl⟩
  have hsLL : sL (pW ([] ++ (sL S).map (mkIf G)) Y) = LL := hLL.symm
  have hfil : LL.filter unm = (sL S).filter (fun e => !isDue G e) ++ sL Y := by
    rw [hLL, List.nil_append, List.filter_append]
    congr 1
    · rw [List.filter_map]
      have h5 : (unm ∘ mkIf G) = fun e => unm (mkIf G e) := rfl
      rw [h5]
      have h6 : (sL S).filter (fun e => unm (mkIf G e)) = (sL S).filter (fun e => !isDue G e) := List.filter_congr (fun e he => by
        unfold mkIf
        cases hd : isDue G e
        · have := L e he
          simp [unm]; omega
        · rfl)
      rw [h6]
      conv => rhs; rw [← List.map_id ((sL S).filter (fun e => !isDue G e))]
      refine List.map_congr_left (fun e he => ?_)
      have := (List.mem_filter.mp he).2
      unfold mkIf
      rw [show isDue G e = false by simpa using this]
      rfl
    · refine List.filter_eq_self.mpr (fun e he => ?_)
      have := hLY e he
      simp [unm]; omega
  obtain ⟨R1, R2, R3, R4⟩ := id a4
  obtain ⟨h2, c1, c2, c3, c4, c5, c6⟩ := m_comp_go (r := r) (A0 := h1.2 r) (L := LL) (by rw [← hsLL]; exact hB4.2.1) (by rw [← hsLL]; exact a4.put) (fun pre e l q => a4.lat (by rw [hsLL]; exact q)) (fun e he => until_m1 hM4 (by rw [← hsLL] at he; exact (hB4.2.2.2.2.2.1 e he).2.2.2)) LL [] (999999 - (sL S).length) h1 rfl (by
    have : LL.length ≤ 160 := by rw [← hsLL]; exact hB4.2.1
    omega) R1 R2 (fun _ _ => rfl) (fun _ _ _ => rfl) (fun P1 e P2 q => by simp at q)
  refine ⟨h2, ?_, c2.trans a2, fun a ha => by rw [c3 a ha, a3 a ha], (kh_eq c2 r).trans R1, (lh_eq c2 r).trans R2, ?_, ?_⟩
  · unfold fX10_doesLater kX10_doesLater_0
    rw [if_pos R.k, R.l, if_pos (by decide), R.put, show FF = 999999 - (sL S).length + (sL S).length + 1 from by show 1000000 = _; omega]
    have e0 : ([] : List La).length + (sL S).length = (sL S).length := by simp
    rw [e0] at a1
    exact a1.trans c1
  · have := row_later (L := LL.filter unm) R3 c4 c5 (fun pre e l q => by
      obtain ⟨P1, P2, f1, f2, f3⟩ := filt_split q
      rw [← f2]
      exact c6 P1 e P2 f1 f3) hB4.1
    rw [hfil] at this
    exact this
  · obtain ⟨z1, z2, z3, z4, z5, z6, z7⟩ := R4
    refine ⟨z1, ?_, z3, z4, z5, fun e he => ?_, z7⟩
    · show ((sL S).filter (fun e => !isDue G e) ++ sL Y).length ≤ 160
      rw [← hfil]
      have h7 : LL.length ≤ 160 := by rw [← hsLL]; exact z2
      exact Nat.le_trans (List.length_filter_le _ _) h7
    · have he : e ∈ (sL S).filter (fun e => !isDue G e) ++ sL Y := he
      rw [← hfil] at he
      exact z6 e (by rw [hsLL]; exact (List.mem_filter.mp he).1)
theorem m_wdisk {b : Nat} (hb : b < 16) (hr : r ≠ m + 148) : ∀ (t i n : Nat) (h : Hp), i + t = 16 → kH h r = 1 → lH h r = 3398 → MO h m →
    ∃ h', gX10_writes (n + t + 1) 35 [.ref m, .ref r, .int (nI b), .int (nI i)] [] h = gX10_writes (n + 1) 35 [.ref m, .ref r, .int (nI b), .int (nI 16)] [] h' ∧ h'.1 = h.1 ∧ (∀ a, a ≠ r → h'.2 a = h.2 a) ∧
      (∀ x, h'.2 r x = if 256 + 16 * b + i ≤ x ∧ x < 256 + 16 * b + 16 then h.2 (m + 148) (x - (256 + 16 * b)) else h.2 r x) := by
  intro t
  induction t with
  | zero =>
    intro i n h hi hK hL M
    exact ⟨h, by rw [show i = 16 by omega], rfl, fun _ _ => rfl, fun x => by rw [if_neg (by omega)]⟩
  | succ t ih =>
    intro i n h hi hK hL M
    obtain ⟨M0, -, ⟨M1, M2, M3⟩, -⟩ := id M
    obtain ⟨h', i1, i2, i3, i4⟩ := ih (i + 1) n (h.1, upI h.2 r (256 + 16 * b + i) (h.2 (m + 148) i)) (by omega) hK hL M.up
    refine ⟨h', ?_, i2, fun a ha => by rw [i3 a ha]; exact upI_ne ha, fun x => ?_⟩
    · rw [show n + (t + 1) + 1 = (n + t + 1) + 1 by omega, zX10_writes_35, ← i1]
      simp (maxSteps := 3000000) (disch := omega) only [kX10_writes_35, hK, hL, M0, M1, M2, M3, ↓reduceIte, if_true, if_false, ite_not, not_true_eq_false, not_false_eq_true, ↓qqI_p, ↓qqR_p, ↓qqV_p, ↓qqIx_p, ↓qqRx_p, ↓qqVx_p, qqI_s, qqR_s, qqV_s, qqIx_s, qqRx_s, qqVx_s, qqIx_t, qqVx_t, ↓letH_s, inB_nI, nI_leI, nI_ltI, nI_eq, nI_eq0, nI_eqm, nI_eqn, nI_le0, nI_lt0, nI_0lt, nI_0le, nI_clamp, pk_mul, nI_add, pk_div, pk_sub, rem_n, z_add, add_z, m_cell, kmk, lmk, rmk, b2i_0, b2i_n1, bft, le_t, le_f, lt_t, lt_f, eq_t, eq_f, k1, k2, k3, k4, k5, k6, k7, k8, k9, k10, k11, k12, k13, k15, k16, k20, k24, k30, k60, k64, k99, k100, k200, k255, k256, k512, k2912, k3392, k3393, k3394, k3395, k3396, k3397, k3398]
    · rw [i4]
      dsimp only
      rw [upI_at, upI_ne hr.symm]
      by_cases q : x = 256 + 16 * b + i
      · rw [if_neg (by omega), if_pos q, if_pos (by omega), q, show 256 + 16 * b + i - (256 + 16 * b) = i by omega]
      · rw [if_neg (c := x = 256 + 16 * b + i) q]
        by_cases q2 : 256 + 16 * b + (i + 1) ≤ x ∧ x < 256 + 16 * b + 16
        · rw [if_pos q2, if_pos (by omega)]
        · rw [if_neg q2, if_neg (by omega)]
theorem m_writes {b : Nat} (hb0 : b < 16) (hr : r ≠ m ∧ r ≠ m + 147 ∧ r ≠ m + 148 ∧ r ≠ m + 149) (R : Row h r S) (M : MO h m) (P : Pt S) (L : Lu S) (hk : ∀ e ∈ sL S, e.1 = 0 ∨ e.2.1 < 12)
    (sl : dirt S b = true → Sl (wr0 S b) (co1 ((sL S).filter (isDue (gone (goes b (sC S)))))) (co2 ((sL S).filter (isDue (gone (goes b (sC S)))))) (co1 ((sL S).filter (isDue (gone (goes b (sC S))))))) :
    ∃ h', fX10_writes m r (nI b) h = some (.inl (some (.int (b2i (dirt S b)))), h') ∧ h'.1 = h.1 ∧ (∀ a, a ≠ r → a ≠ m → a ≠ m + 147 → a ≠ m + 148 → a ≠ m + 149 → h'.2 a = h.2 a) ∧ (∀ j, j ≠ 30 → h'.2 m j = h.2 m j) ∧ Row h' r (wrs S b) := by
  unfold fX10_writes kX10_writes_0
  rw [m_isDirty R (by omega), bI_s]
  unfold wrs
  cases hd : dirt S b with
  | false =>
    refine ⟨h, ?_, rfl, fun _ _ _ _ _ _ => rfl, fun _ _ => rfl, R⟩
    rw [if_neg (by decide)]
    rfl
  | true =>
    have sl := sl hd
    rw [if_pos (by decide)]
    obtain ⟨h1, a1, a2, a3, a4, a5⟩ := m_copiesBlock (m := m) hb0 ⟨hr.1, hr.2.1, hr.2.2.1⟩ R M
    have R1 : Row h1 r S := R.eq a2 (a3 r hr.2.1 hr.2.2.1)
    have M1 := M.eq a2
    have hB := R.bd
    have s7 : h.2 r 3396 = sH S := R.2.2.1.2.2.2.2.2.2.1
    have s6 : h1.2 r 3395 = sW S := R1.2.2.1.2.2.2.2.2.1
    obtain ⟨h2, b1, b2, b3, b4⟩ := m_wdisk (r := r) (m := m) hb0 hr.2.2.1 16 0 999983 (h1.1, upI (upI h1.2 r 3396 (sH S + nI (hb b (goes b (sC S))))) r 3395 (sW S + 1)) rfl R1.k R1.l M1.up
    dsimp only at b2 b3 b4
    simp only [upI_ne hr.2.2.1.symm] at b4
    have K2 : kH h2 r = 1 := (kh_eq b2 r).trans R1.k
    have L2 : lH h2 r = 3398 := (lh_eq b2 r).trans R1.l
    have M2 : MO h2 m := M1.eq b2
    have hx2 : ∀ x, ¬ (256 + 16 * b ≤ x ∧ x < 256 + 16 * b + 16) → x ≠ 3395 → x ≠ 3396 → h2.2 r x = h1.2 r x := fun x q1 q2 q3 => by
      rw [b4, if_neg (by omega), upI_at, if_neg q2, upI_at, if_neg q3]
    have C2 : Cells (h2.2 r) S := ⟨by rw [hx2 _ (by omega) (by omega) (by omega)]; exact R1.many, fun pre c l e => by
      have hl := (R1.ch e).2
      exact (R1.cel e).mv (fun i hi => hx2 _ (by omega) (by omega) (by omega))⟩
    have F2 : Fl h2 m (goes b (sC S)) := fun P' q T e => by
      rw [b3 _ hr.2.1.symm, upI_ne hr.2.1.symm, upI_ne hr.2.1.symm]
      exact a4 P' q T e
    obtain ⟨h3, c1, c2, c3, c4, c5, c6, c7, c8⟩ := m_leavesOut_go (r := r) (m := m) (b := b) ⟨hr.1, hr.2.1, hr.2.2.2⟩ C2 hB (goes b (sC S)) [] FF (h2.1, upI h2.2 m 30 0) (by simp) (by rw [goes_len]; have := hB.1; show _ < 1000000; omega) K2 L2 M2.up (fun P' q T e => by dsimp only; rw [upI_ne (by omega)]; exact F2 P' q T e)
      ⟨by dsimp only; rw [upI_at, if_pos rfl]; rfl, fun Q c Z e => by simp [gone] at e⟩ (by dsimp only; rw [upI_ne hr.1]; exact C2.1) (fun x _ _ => by dsimp only; rw [upI_ne hr.1]) (fun P1 q P2 e => by simp at e)
    dsimp only at c2 c3 c4 c6
    simp only [upI_ne hr.1] at c6
    have K3 : kH h3 r = 1 := (kh_eq c2 r).trans K2
    have L3 : lH h3 r = 3398 := (lh_eq c2 r).trans L2
    have R3 : Row h3 r (wr0 S b) := by
      obtain ⟨r1, r2, r3, r4, r5, r6, r7, r8, r9, r10⟩ := R1.2.2.1
      refine ⟨K3, L3, ⟨fun x q => ?_, fun x q => ?_, c7, ?_, ?_, ?_, ?_, ?_, fun pre c l e => ?_, fun pre e l q => ?_⟩, bd_wr0 hB b⟩
      · rw [c6 x (by omega) (by omega), hx2 x (by omega) (by omega) (by omega), mm_wr0]
        exact r1 x q
      · rw [c6 _ (by omega) (by omega), b4]
        show _ = nI (vA (sD S) (gone (goes b (sC S))) x)
        by_cases q1 : 256 + 16 * b + 0 ≤ 256 + x ∧ 256 + x < 256 + 16 * b + 16
        · rw [if_pos q1, a5 _ (by omega), show 16 * b + (256 + x - (256 + 16 * b)) = x by omega]
        · rw [if_neg q1, upI_at, if_neg (by omega), upI_at, if_neg (by omega), r2 x q]
          congr 1
          refine (vA_no (fun c hc => ?_)).symm
          have h5 := goes_blk b (sC S) _ (gone_mem.mp hc) rfl
          cases h6 : tch c x
          · rfl
          · have := (tch_iff.mp h6).1
            have h5 : cB c = b := h5
            omega
      · rw [c6 _ (by omega) (by omega), hx2 _ (by omega) (by omega) (by omega)]; exact r4
      · rw [c6 _ (by omega) (by omega), hx2 _ (by omega) (by omega) (by omega)]; exact r5
      · rw [c6 _ (by omega) (by omega), b4, if_neg (by omega), upI_at, if_pos rfl]; rfl
      · rw [c6 _ (by omega) (by omega), b4, if_neg (by omega), upI_at, if_neg (by omega), upI_at, if_pos rfl]; rfl
      · rw [c6 _ (by omega) (by omega), hx2 _ (by omega) (by omega) (by omega)]; exact r8
      · obtain ⟨P1, P2, e1, e2⟩ := held_split e
        have hc := c8 P1 (c, false) P2 e1 rfl
        rw [e2] at hc
        have hmem : c ∈ sC S := (held_sub b (sC S)).subset (by rw [show held (goes b (sC S)) = pre ++ c :: l from e]; simp)
        have hcb := hB.2.2.2.2.1 c hmem
        refine hc.w hcb.2.2.1 hcb.2.2.2.1 (fun x hx => ?_)
        rw [← e2]
        exact was_eq (goes_apart b (sC S)) e1 hx (sD S)
      · obtain ⟨q0, q1, q2⟩ := r10 pre e l q
        have hl : (sL S).length = pre.length + 1 + l.length := by rw [show sL S = pre ++ e :: l from q]; simp; omega
        have hl2 := hB.2.1
        refine ⟨?_, ?_, ?_⟩
        · rw [c6 _ (by omega) (by omega), hx2 _ (by omega) (by omega) (by omega)]; exact q0
        · rw [c6 _ (by omega) (by omega), hx2 _ (by omega) (by omega) (by omega)]; exact q1
        · rw [c6 _ (by omega) (by omega), hx2 _ (by omega) (by omega) (by omega)]; exact q2
    obtain ⟨h4, d1, d2, d3, d4⟩ := m_doesLater (G := gone (goes b (sC S))) (Nat.le_trans (gone_sub b (sC S)).length_le hB.1) (fun c hc => by
      have := hB.2.2.2.2.1 c ((gone_sub b (sC S)).subset hc)
      have h9 := hB.2.2.1
      have := this.2.1
      omega) ⟨hr.1, hr.2.2.2⟩ R3 ((M2.up).eq c2) c5 (fun n hn f hf => by have := P n hn f hf; unfold fd at this ⊢; rw [mm_wr0]; exact this) L hk sl
    refine ⟨h4, ?_, d2.trans (c2.trans (b2.trans a2)), fun a z1 z2 z3 z4 z5 => ?_, fun j hj => ?_, ?_⟩
    · rw [if_pos R.k, R.l, if_pos (by decide), if_pos M.1, a1, bI_s, if_pos R1.k, R1.l, if_pos (by decide), if_pos (by decide), s7, upI_at, if_neg (by decide), s6]
      refine b1.trans ?_
      rw [zX10_writes_35]
      unfold kX10_writes_35
      rw [if_pos (by decide), if_pos M2.1]
      unfold fX10_leavesOut kX10_leavesOut_0
      rw [if_pos M2.1]
      have c1' : gX10_leavesOut FF 9 [.ref m, .ref r, .int 0, .int 0, uV] [] (h2.1, upI h2.2 m 30 0) = some (.inl none, h3) := c1
      rw [c1', bV_s, if_pos ((kh_eq c2 m).trans M2.1), d1, bV_s]
      rfl
    · rw [d3 a z1, c3 a z1 z2 z5, upI_ne z2, b3 a z1, upI_ne z1, upI_ne z1, a3 a z3 z4]
    · rw [d3 m hr.1.symm, c4 j hj, upI_at, if_neg hj, b3 m hr.1.symm, upI_ne hr.1.symm, upI_ne hr.1.symm, a3 m (by omega) (by omega)]
    · rw [if_pos rfl, wr_eq]
      exact d4
end M12
