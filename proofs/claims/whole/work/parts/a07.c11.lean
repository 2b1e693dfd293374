/-! ===== the class writes a block, whole ===== -/
def wrK (S : St) (b : Nat) : St := (vA (sD S) (gone (goes b (sC S))), held (goes b (sC S)), (sL S).filter (fun e => !isDue (gone (goes b (sC S))) e), sM S, sW S + 1, sH S + nI (hb b (goes b (sC S))), sK S)
def dueL (S : St) (b : Nat) : List La := (sL S).filter (isDue (gone (goes b (sC S))))
theorem wr_wrK (S : St) (b : Nat) : wr S b = (dueL S b).foldl dol (wrK S b) := by
  unfold wr wrK dueL
  rw [hb_held]
theorem mm_wrK (S : St) (b x : Nat) : mm (wrK S b) x = mm S x := mm_wr0 S b x
theorem bd_wrK {S : St} (B : Bd S) (b : Nat) : Bd (wrK S b) := by
  obtain ⟨b1, b2, b3, b4, b5, b6, b7⟩ := bd_wr0 B b
  refine ⟨b1, Nat.le_trans (List.length_filter_le _ _) b2, b3, b4, b5, fun e he => b6 e (List.mem_filter.mp he).1, b7⟩
theorem go_sum (b : Nat) (l : List Ch) : (gone (goes b l)).length + hb b (goes b l) = (l.filter (fun c => cB c == b)).length := by
  refine snoc_ind (P := fun l => (gone (goes b l)).length + hb b (goes b l) = (l.filter (fun c => cB c == b)).length) rfl (fun l c ih => ?_) l
  rw [goes_snoc, gone_snoc, hb_snoc, List.filter_append, List.length_append, ← ih]
  cases h1 : (cB c == b) with
  | false => simp [h1]
  | true =>
    cases h2 : mayG c (goes b l) with
    | true => simp [h1]; omega
    | false => simp [h1]; omega
theorem dirt_sum (S : St) (b : Nat) : dirt S b = decide ((gone (goes b (sC S))).length + hb b (goes b (sC S)) ≠ 0) := by
  rw [go_sum]
  unfold dirt
  cases h : (sC S).any (fun c => cB c == b) with
  | true =>
    obtain ⟨c, hc, hc2⟩ := List.any_eq_true.mp h
    have : c ∈ (sC S).filter (fun c => cB c == b) := List.mem_filter.mpr ⟨hc, hc2⟩
    have := List.length_pos_of_mem this
    symm
    rw [decide_eq_true_eq]
    omega
  | false =>
    have h2 : (sC S).filter (fun c => cB c == b) = [] := by
      rw [List.filter_eq_nil_iff]
      intro c hc
      have := List.any_eq_false.mp h c hc
      exact this
    rw [h2]
    rfl
section C11
variable {s p z : Nat} {S : St}
/-- all that is changed lies below the size -/
def Zb (S : St) (z : Nat) : Prop := ∀ c ∈ sC S, cB c < z
theorem c_writeBlock {h : Hp} {b : Nat} (hb0 : b < 16) (hps : p + 5 ≤ s ∨ s + 10 ≤ p) (A : Na S) (Z : Zb S z) (R : Sta h s S z) (M : PO h p) (PT : Pt S) (hk : Lk S) (h64 : (sL S).length ≤ 64) (hsl : dirt S b = true → Sc (wrK S b) (co1 (dueL S b)) (co2 (dueL S b)) (co1 (dueL S b))) :
    ∃ h', fX2_writeBlock p s (nI b) h = some (.inl (some (.int (b2i (dirt S b)))), h') ∧ OwnP h h' p s ∧ Sta h' s (wrs S b) z := by
  have hB := R.bd
  have hB1 := hB.1
  obtain ⟨hz1, hz2⟩ := R.2.2.1
  unfold fX2_writeBlock kX2_writeBlock_0
  rw [if_neg (by rw [nI_lt0 (by omega)]; exact id), if_pos R.so.1, R.sz]
  by_cases hbz : z ≤ b
  · have hd : dirt S b = false := by
      unfold dirt
      rw [List.any_eq_false]
      intro c hc
      have := Z c hc
      simp
      omega
    refine ⟨h, ?_, OwnP.refl h, ?_⟩
    · rw [if_pos (by rw [nI_leI (by omega) (by omega)]; exact hbz), hd]
      rfl
    · unfold wrs
      rw [hd]
      exact R
  rw [if_neg (by rw [nI_leI (by omega) (by omega)]; exact hbz), R.un]
  by_cases hu : (sC S).length = 0
  · have hd : dirt S b = false := by
      rw [List.length_eq_zero_iff] at hu
      unfold dirt
      rw [hu]
      rfl
    refine ⟨h, ?_, OwnP.refl h, ?_⟩
    · rw [if_neg (by rw [nI_eq0 (by omega)]; simp [hu]), hd]
      rfl
    · unfold wrs
      rw [hd]
      exact R
  rw [if_pos (by rw [nI_eq0 (by omega)]; exact hu), if_pos M.1]
  obtain ⟨h5, a1, a2, a3, a4, a5, a6, a7, a8⟩ := c_draft hb0 hps A R M
  have R5 : Sta h5 s S z := R.eqs a2 (fun a x y => a3 a (by omega) (by omega) (by omega))
  have M5 := M.eq a2
  have O5 : OwnP h h5 p s := ⟨a2, fun a x y => a3 a (by omega) (by omega) (by omega)⟩
  obtain ⟨M0, -, -, ⟨M7, M8, M9⟩, -⟩ := id M5
  obtain ⟨r1, ⟨r2, r3, r4⟩, -⟩ := id R5.so
  have hgl := goes_len b (sC S)
  have hle := hb_le b (goes b (sC S))
  have hgo := gone_le (goes b (sC S))
  rw [a1, bV_s, if_pos M0, a6, a7, nI_add]
  have hds := dirt_sum S b
  by_cases hn : (gone (goes b (sC S))).length + hb b (goes b (sC S)) = 0
  · have hd : dirt S b = false := by rw [hds, hn]; rfl
    refine ⟨h5, ?_, O5, ?_⟩
    · rw [if_neg (by rw [nI_eq0 (by omega)]; simp [hn]), hd]
      rfl
    · unfold wrs
      rw [hd]
      exact R5
  have hd : dirt S b = true := by rw [hds]; exact decide_eq_true hn
  have hsl := hsl hd
  rw [if_pos (by rw [nI_eq0 (by omega)]; exact hn), if_pos r1, M7, if_pos M8, r2, if_pos r3, k256, k16, pk_mul, nI_add, if_pos (by rw [nI_lt0 (by omega)]; exact id), if_pos (by rw [M9]; decide), nI_clamp (by omega), if_pos (by rw [r4]; omega), letH_s]
  have hw : cpI h5.2 (p + 3) (s + 1) 0 (256 + b * 16) 16 s 12 = sW S := by rw [cpI_ne (by omega)]; exact R5.2.1.2.2.2.2.2.1
  rw [hw]
  generalize hI : upI (cpI h5.2 (p + 3) (s + 1) 0 (256 + b * 16) 16) s 12 (sW S + 1) = I
  have hI13 : I s 13 = sH S := by rw [← hI, upI_at, if_neg (by decide), cpI_ne (by omega)]; exact R5.2.1.2.2.2.2.2.2.1
  have hIp : I p = h5.2 p := by rw [← hI, upI_ne (by omega), cpI_ne (by omega)]
  have hI5 : I p 5 = nI (hb b (goes b (sC S))) := by rw [hIp]; exact a7
  rw [hI13, hI5]
  generalize hJ : upI I s 13 (sH S + nI (hb b (goes b (sC S)))) = J
  have hJo : ∀ a, a ≠ s → a ≠ s + 1 → J a = h5.2 a := fun a x y => by rw [← hJ, upI_ne x, ← hI, upI_ne x, cpI_ne y]
  have hJs : ∀ j, j ≠ 12 → j ≠ 13 → J s j = h5.2 s j := fun j x y => by rw [← hJ, upI_at, if_neg y, ← hI, upI_at, if_neg x, cpI_ne (by omega)]
  have hJ12 : J s 12 = sW S + 1 := by rw [← hJ, upI_at, if_neg (by decide), ← hI, upI_at, if_pos rfl]
  have hJ13 : J s 13 = sH S + nI (hb b (goes b (sC S))) := by rw [← hJ, upI_at, if_pos rfl]
  have hJ1 : ∀ y, J (s + 1) y = if 256 + 16 * b ≤ y ∧ y < 256 + 16 * b + 16 then nI (vA (sD S) (gone (goes b (sC S))) (y - 256)) else h5.2 (s + 1) y := fun y => by
    rw [← hJ, upI_ne (by omega), ← hI, upI_ne (by omega), cpI_at]
    by_cases q : 256 + 16 * b ≤ y ∧ y < 256 + 16 * b + 16
    · rw [if_pos (by omega), if_pos q, a8 _ (by omega), show 16 * b + (0 + (y - (256 + b * 16))) = y - 256 by omega]
    · rw [if_neg (by omega), if_neg q]
  have hdisk : ∀ x, x < 256 → J (s + 1) (256 + x) = nI (vA (sD S) (gone (goes b (sC S))) x) := fun x hx => by
    rw [hJ1]
    by_cases q : 256 + 16 * b ≤ 256 + x ∧ 256 + x < 256 + 16 * b + 16
    · rw [if_pos q, show 256 + x - 256 = x by omega]
    · rw [if_neg q, R5.dsk hx]
      congr 1
      refine (vA_no (fun c hc => ?_)).symm
      have h5 := goes_blk b (sC S) _ (gone_mem.mp hc) rfl
      cases h6 : tch c x
      · rfl
      · have := (tch_iff.mp h6).1
        have h5 : cB c = b := h5
        omega
  have hmem : ∀ x, x < 256 → J (s + 1) x = nI (mm S x) := fun x hx => by
    rw [hJ1, if_neg (by omega)]
    exact R5.mem hx
  clear hI hJ
  have hJ4 : J p 4 = nI (gone (goes b (sC S))).length := by rw [hJo _ (by omega) (by omega)]; exact a6
  rw [hJ4]
  have OJ : OwnP h (h5.1, J) p s := ⟨a2, fun a x y => by dsimp only; rw [hJo _ (by omega) (by omega)]; exact O5.2 a x y⟩
  have SOJ : SO (h5.1, J) s := SO.up R5.so
  have POJ : PO (h5.1, J) p := PO.up M5
  obtain ⟨t1, t2, t3, t4, t5, t6, t7, t8, t9, t10, t11⟩ := R5.2.1
  unfold wrs
  rw [hd, if_pos rfl, wr_wrK]
  by_cases hg0 : (gone (goes b (sC S))).length = 0
  · have hgn : gone (goes b (sC S)) = [] := List.length_eq_zero_iff.mp hg0
    have hhl : held (goes b (sC S)) = sC S := by rw [gone_nil hgn, goes_fst]
    have hdn : dueL S b = [] := by
      unfold dueL
      rw [hgn, List.filter_eq_nil_iff]
      intro e _
      simp [isDue]
    have hkn : (sL S).filter (fun e => !isDue (gone (goes b (sC S))) e) = sL S := by
      rw [hgn, List.filter_eq_self]
      intro e _
      rfl
    refine ⟨(h5.1, J), ?_, OJ, SOJ, ?_, R.2.2.1, ?_⟩
    · rw [if_pos (by rw [nI_le0 (by omega)]; exact hg0)]
      rfl
    · rw [hdn]
      have hwk : wrK S b = (sD S, sC S, sL S, sM S, sW S + 1, sH S + nI (hb b (goes b (sC S))), sK S) := by unfold wrK; rw [hhl, hkn, hgn]; rfl
      show StaI J s (wrK S b) z
      rw [hwk]
      refine ⟨by rw [hJs _ (by decide) (by decide)]; exact t1, hmem, fun x hx => by rw [hdisk x hx, hgn]; rfl, by rw [hJs _ (by decide) (by decide)]; exact t4, by rw [hJs _ (by decide) (by decide)]; exact t5, hJ12, hJ13, by rw [hJs _ (by decide) (by decide)]; exact t8, by rw [hJs _ (by decide) (by decide)]; exact t9, fun pre c l q => ?_, fun pre c l q => ?_⟩
      · refine (t10 pre c l q).mv ?_ ?_ ?_ (fun i hi => ?_) (fun i hi => ?_) ?_ <;> rw [hJo _ (by omega) (by omega)]
      · obtain ⟨w1, P', c', T', w2, w3, w4⟩ := t11 pre c l q
        exact ⟨by rw [hJo _ (by omega) (by omega)]; exact w1, P', c', T', w2, w3, by rw [hJo _ (by omega) (by omega)]; exact w4⟩
    · rw [hdn]
      exact bd_wrK hB b
  rw [if_neg (by rw [nI_le0 (by omega)]; exact hg0)]
  have F5 : Flc (h5.1, J) p (goes b (sC S)) := fun P' q' T' e' => by dsimp only; rw [hJo _ (by omega) (by omega)]; exact a5 P' q' T' e'
  obtain ⟨h6, b1, b2, b3, b4, b5, b6, b7⟩ := c_close_go (b := b) hps t10 hB (goes b (sC S)) [] FF (h5.1, J) (by simp) (by rw [hgl]; show _ < 1000000; omega) SOJ POJ F5 (by dsimp only; rw [hJs _ (by decide) (by decide)]; exact t4) (fun j hj => by simp at hj) (fun y _ => by dsimp only; rw [hJo _ (by omega) (by omega), hJo _ (by omega) (by omega), hJo _ (by omega) (by omega), hJo _ (by omega) (by omega)]; exact ⟨rfl, rfl, rfl, rfl⟩) (fun y _ => by dsimp only; rw [hJo _ (by omega) (by omega)]) (fun y _ => by dsimp only; rw [hJo _ (by omega) (by omega)]) (fun P1 q P2 w => by simp at w)
  have b1' : fX2_closeRanks p s (h5.1, J) = some (.inl none, h6) := b1
  dsimp only at b2 b3 b4
  have SO6 : SO h6 s := SO.eq b2 R5.so
  have PO6 : PO h6 p := PO.eq b2 M5
  rw [b1', bV_s, if_pos PO6.1]
  obtain ⟨h7, d1, d2, d3, d4, d5, d6, d7⟩ := c_take_go (b := b) hps t11 hB h64 (sL S) [] FF h6 rfl (by show _ < 1000000; omega) SO6 PO6 (by rw [b4 _ (by decide), hJs _ (by decide) (by decide)]; exact t5) b6 (fun y _ => by rw [b3 _ (by omega) (by omega) (by omega), b3 _ (by omega) (by omega) (by omega), hJo _ (by omega) (by omega), hJo _ (by omega) (by omega)]; exact ⟨rfl, rfl⟩) (fun pre e l w => by simp at w) (fun pre e l w => by simp at w)
  have d1' : fX2_takeDue p s h6 = some (.inl (some (.int (nI (dueL S b).length))), h7) := d1
  rw [d1', bI_s]
  have SO7 : SO h7 s := SO.eq d2 SO6
  have PO7 : PO h7 p := PO.eq d2 PO6
  have R7 : Sta h7 s (wrK S b) z := by
    refine ⟨SO7, ⟨?_, fun x hx => ?_, fun x hx => ?_, ?_, d5, ?_, ?_, ?_, ?_, fun pre c l q => ?_, d6⟩, R.2.2.1, bd_wrK hB b⟩
    · rw [d4 _ (by decide), b4 _ (by decide), hJs _ (by decide) (by decide)]; exact t1
    · rw [d3 _ (by omega) (by omega) (by omega) (by omega), b3 _ (by omega) (by omega) (by omega), hmem x hx, mm_wrK]
    · rw [d3 _ (by omega) (by omega) (by omega) (by omega), b3 _ (by omega) (by omega) (by omega), hdisk x hx]
      rfl
    · rw [d4 _ (by decide)]; exact b5
    · rw [d4 _ (by decide), b4 _ (by decide)]; exact hJ12
    · rw [d4 _ (by decide), b4 _ (by decide)]; exact hJ13
    · rw [d4 _ (by decide), b4 _ (by decide), hJs _ (by decide) (by decide)]; exact t8
    · rw [d4 _ (by decide), b4 _ (by decide), hJs _ (by decide) (by decide)]; exact t9
    · obtain ⟨P1, P2, e1, e2⟩ := held_split q
      obtain ⟨x1, x2, x3, x4, ⟨f, x5, x6, x7⟩, x8, x9⟩ := b7 P1 (c, false) P2 e1 rfl
      rw [e2] at x1 x2 x3 x4 x5 x6 x7 x8
      refine ⟨?_, ?_, ?_, fun i hi hpp => ?_, ⟨f, fun i hi => ?_, x6, x7⟩, ?_, x9⟩
      · rw [d3 _ (by omega) (by omega) (by omega) (by omega)]; exact x1
      · rw [d3 _ (by omega) (by omega) (by omega) (by omega)]; exact x2
      · rw [d3 _ (by omega) (by omega) (by omega) (by omega)]; exact x3
      · rw [d3 _ (by omega) (by omega) (by omega) (by omega), x4 i hi hpp]
        show _ = nI (vA (vA (sD S) (gone (goes b (sC S)))) pre (16 * cB c + i))
        rw [← e2, was_eq (goes_apart b (sC S)) e1 (tch_iff.mpr ⟨by show cB c = _; omega, by show cP c = 16 ∨ cP c = _; omega⟩)]
      · rw [d3 _ (by omega) (by omega) (by omega) (by omega)]; exact x5 i hi
      · rw [d3 _ (by omega) (by omega) (by omega) (by omega)]; exact x8
  have hdl : (dueL S b).length ≤ 64 := Nat.le_trans (List.length_filter_le _ _) h64
  have PTK : Pt (wrK S b) := fun n hn f hf => by have := PT n hn f hf; unfold fd at this ⊢; rw [mm_wrK]; exact this
  obtain ⟨h8, e1, e2, e3, -⟩ := c_dols hps (D := dueL S b) (fun e he => by
    have he2 := (List.mem_filter.mp he).1
    obtain ⟨g0, g1, -⟩ := hB.2.2.2.2.2.1 e he2
    exact ⟨g0, g1, hk e he2⟩) hdl (dueL S b) [] FF (wrK S b) h7 rfl (by show _ < 1000000; omega) R7 PO7 PTK d7 hsl
  have O67 : OwnP h h7 p s := OJ.trans (OwnP.trans (h1 := h6) ⟨b2, fun a x y => b3 a (by omega) (by omega) (by omega)⟩ ⟨d2, fun a x y => d3 a (by omega) (by omega) (by omega) (by omega)⟩)
  exact ⟨h8, e1, O67.trans e2.toP, e3⟩
end C11
