/-! ===== the law: wrappers; every question as a call (by gen_d51.py) ===== -/
def mp3 (e f g : String) : String → Option Int32 := fun E => if E = e then some 1 else if E = f then some 2 else if E = g then some 3 else none
theorem okA_IA {mp : String → Option Int32} {w : Int32} (h : mp xIA = some w) (hw : w ≠ 0) : okA mp (IA w) := ⟨h, hw, by decide⟩
theorem okA_IO {mp : String → Option Int32} {w : Int32} (h : mp xIO = some w) (hw : w ≠ 0) : okA mp (IO3 w) := ⟨h, hw, by decide⟩
theorem okA_NS {mp : String → Option Int32} {w : Int32} (h : mp xNS = some w) (hw : w ≠ 0) : okA mp (NS0 w) := ⟨h, hw, by decide⟩
theorem okA_NP {mp : String → Option Int32} {w : Int32} (h : mp xNP = some w) (hw : w ≠ 0) : okA mp (NP2 w) := ⟨h, hw, by decide⟩
section WRQ
variable {h h' : Hp} {x m o B L c z n i f : Nat} {xs : Nat → Int32} {bl : Nat → Nat} {S : St} {T : Nat → Nat} {ls : List (Nat × Nat)} {fp rs : Int32} {rf : Nat → Int32} {hi : List St} {im : List (St × List St)}
theorem w_store (hk : kH h x = 19) (a1 : Int32) : fL_store x a1 o h = wrp o (mp1 xIA) (fX9_store x a1 h) := by
  unfold fL_store kL_store_0 wrp
  rw [if_pos hk]
  congr 1
  funext E hE
  unfold mp1
  by_cases e0 : E = xIA
  · rw [if_pos e0, if_pos e0]
    rfl
  · rw [if_neg e0, if_neg e0]
theorem w_work (hk : kH h x = 19) (a1 : Int32) : fL_work x a1 o h = wrp o (mp1 xIA) (fX9_work x a1 h) := by
  unfold fL_work kL_work_0 wrp
  rw [if_pos hk]
  congr 1
  funext E hE
  unfold mp1
  by_cases e0 : E = xIA
  · rw [if_pos e0, if_pos e0]
    rfl
  · rw [if_neg e0, if_neg e0]
theorem w_book (hk : kH h x = 19) (a1 : Int32) : fL_book x a1 o h = wrp o (mp1 xIA) (fX9_book x a1 h) := by
  unfold fL_book kL_book_0 wrp
  rw [if_pos hk]
  congr 1
  funext E hE
  unfold mp1
  by_cases e0 : E = xIA
  · rw [if_pos e0, if_pos e0]
    rfl
  · rw [if_neg e0, if_neg e0]
theorem w_told (hk : kH h x = 19) (a1 : Int32) : fL_told x a1 o h = wrp o (mp1 xIA) (fX9_told x a1 h) := by
  unfold fL_told kL_told_0 wrp
  rw [if_pos hk]
  congr 1
  funext E hE
  unfold mp1
  by_cases e0 : E = xIA
  · rw [if_pos e0, if_pos e0]
    rfl
  · rw [if_neg e0, if_neg e0]
theorem w_peek (hk : kH h x = 19) (a1 a2 a3 : Int32) : fL_peek x a1 a2 a3 o h = wrp o (mp2 xIA xIO) (fX9_peek x a1 a2 a3 h) := by
  unfold fL_peek kL_peek_0 wrp
  rw [if_pos hk]
  congr 1
  funext E hE
  unfold mp2
  by_cases e0 : E = xIA
  · rw [if_pos e0, if_pos e0]
    rfl
  · rw [if_neg e0, if_neg e0]
    by_cases e1 : E = xIO
    · rw [if_pos e1, if_pos e1]
      rfl
    · rw [if_neg e1, if_neg e1]
theorem w_node (hk : kH h x = 19) (a1 a2 a3 : Int32) : fL_node x a1 a2 a3 o h = wrp o (mp2 xNS xIA) (fX9_node x a1 a2 a3 h) := by
  unfold fL_node kL_node_0 wrp
  rw [if_pos hk]
  congr 1
  funext E hE
  unfold mp2
  by_cases e0 : E = xNS
  · rw [if_pos e0, if_pos e0]
    rfl
  · rw [if_neg e0, if_neg e0]
    by_cases e1 : E = xIA
    · rw [if_pos e1, if_pos e1]
      rfl
    · rw [if_neg e1, if_neg e1]
theorem w_find (hk : kH h x = 19) (a1 a2 a3 : Int32) : fL_find x a1 a2 a3 o h = wrp o (mp2 xNS xIA) (fX9_find x a1 a2 a3 h) := by
  unfold fL_find kL_find_0 wrp
  rw [if_pos hk]
  congr 1
  funext E hE
  unfold mp2
  by_cases e0 : E = xNS
  · rw [if_pos e0, if_pos e0]
    rfl
  · rw [if_neg e0, if_neg e0]
    by_cases e1 : E = xIA
    · rw [if_pos e1, if_pos e1]
      rfl
    · rw [if_neg e1, if_neg e1]
theorem w_used (hk : kH h x = 19) (a1 : Int32) : fL_used x a1 o h = wrp o (mp1 xIA) (fX9_used x a1 h) := by
  unfold fL_used kL_used_0 wrp
  rw [if_pos hk]
  congr 1
  funext E hE
  unfold mp1
  by_cases e0 : E = xIA
  · rw [if_pos e0, if_pos e0]
    rfl
  · rw [if_neg e0, if_neg e0]
theorem w_leaks (hk : kH h x = 19) (a1 : Int32) : fL_leaks x a1 o h = wrp o (mp1 xIA) (fX9_leaks x a1 h) := by
  unfold fL_leaks kL_leaks_0 wrp
  rw [if_pos hk]
  congr 1
  funext E hE
  unfold mp1
  by_cases e0 : E = xIA
  · rw [if_pos e0, if_pos e0]
    rfl
  · rw [if_neg e0, if_neg e0]
theorem w_lost (hk : kH h x = 19) (a1 : Int32) : fL_lost x a1 o h = wrp o (mp1 xIA) (fX9_lost x a1 h) := by
  unfold fL_lost kL_lost_0 wrp
  rw [if_pos hk]
  congr 1
  funext E hE
  unfold mp1
  by_cases e0 : E = xIA
  · rw [if_pos e0, if_pos e0]
    rfl
  · rw [if_neg e0, if_neg e0]
theorem w_broken (hk : kH h x = 19) (a1 : Int32) : fL_broken x a1 o h = wrp o (mp1 xIA) (fX9_broken x a1 h) := by
  unfold fL_broken kL_broken_0 wrp
  rw [if_pos hk]
  congr 1
  funext E hE
  unfold mp1
  by_cases e0 : E = xIA
  · rw [if_pos e0, if_pos e0]
    rfl
  · rw [if_neg e0, if_neg e0]
theorem w_under (hk : kH h x = 19) (a1 a2 : Int32) : fL_under x a1 a2 o h = wrp o (mp2 xNS xIA) (fX9_under x a1 a2 h) := by
  unfold fL_under kL_under_0 wrp
  rw [if_pos hk]
  congr 1
  funext E hE
  unfold mp2
  by_cases e0 : E = xNS
  · rw [if_pos e0, if_pos e0]
    rfl
  · rw [if_neg e0, if_neg e0]
    by_cases e1 : E = xIA
    · rw [if_pos e1, if_pos e1]
      rfl
    · rw [if_neg e1, if_neg e1]
theorem w_deep (hk : kH h x = 19) (a1 a2 : Int32) : fL_deep x a1 a2 o h = wrp o (mp2 xNS xIA) (fX9_deep x a1 a2 h) := by
  unfold fL_deep kL_deep_0 wrp
  rw [if_pos hk]
  congr 1
  funext E hE
  unfold mp2
  by_cases e0 : E = xNS
  · rw [if_pos e0, if_pos e0]
    rfl
  · rw [if_neg e0, if_neg e0]
    by_cases e1 : E = xIA
    · rw [if_pos e1, if_pos e1]
      rfl
    · rw [if_neg e1, if_neg e1]
theorem w_change (hk : kH h x = 19) (a1 a2 : Int32) : fL_change x a1 a2 o h = wrp o (mp3 xIA xNP xIO) (fX9_change x a1 a2 h) := by
  unfold fL_change kL_change_0 wrp
  rw [if_pos hk]
  congr 1
  funext E hE
  unfold mp3
  by_cases e0 : E = xIA
  · rw [if_pos e0, if_pos e0]
    rfl
  · rw [if_neg e0, if_neg e0]
    by_cases e1 : E = xNP
    · rw [if_pos e1, if_pos e1]
      rfl
    · rw [if_neg e1, if_neg e1]
      by_cases e2 : E = xIO
      · rw [if_pos e2, if_pos e2]
        rfl
      · rw [if_neg e2, if_neg e2]
theorem w_held (hk : kH h x = 19) (a1 : Int32) : fL_held x a1 o h = wrp o (mp1 xIO) (fX9_held x a1 h) := by
  unfold fL_held kL_held_0 wrp
  rw [if_pos hk]
  congr 1
  funext E hE
  unfold mp1
  by_cases e0 : E = xIO
  · rw [if_pos e0, if_pos e0]
    rfl
  · rw [if_neg e0, if_neg e0]
theorem w_copy (hk : kH h x = 19) (a1 a2 : Int32) : fL_copy x a1 a2 o h = wrp o (mp1 xIO) (fX9_copy x a1 a2 h) := by
  unfold fL_copy kL_copy_0 wrp
  rw [if_pos hk]
  congr 1
  funext E hE
  unfold mp1
  by_cases e0 : E = xIO
  · rw [if_pos e0, if_pos e0]
    rfl
  · rw [if_neg e0, if_neg e0]
theorem w_waits (hk : kH h x = 19) (a1 : Int32) : fL_waits x a1 o h = wrp o (mp1 xIO) (fX9_waits x a1 h) := by
  unfold fL_waits kL_waits_0 wrp
  rw [if_pos hk]
  congr 1
  funext E hE
  unfold mp1
  by_cases e0 : E = xIO
  · rw [if_pos e0, if_pos e0]
    rfl
  · rw [if_neg e0, if_neg e0]
theorem w_spill (hk : kH h x = 19) (a1 : Int32) : fL_spill x a1 o h = wrp o (mp1 xIA) (fX9_spill x a1 h) := by
  unfold fL_spill kL_spill_0 wrp
  rw [if_pos hk]
  congr 1
  funext E hE
  unfold mp1
  by_cases e0 : E = xIA
  · rw [if_pos e0, if_pos e0]
    rfl
  · rw [if_neg e0, if_neg e0]
theorem w_look (hk : kH h x = 19) (a1 : Int32) : fL_look x a1 o h = wrp o (mp1 xIA) (fX9_look x a1 h) := by
  unfold fL_look kL_look_0 wrp
  rw [if_pos hk]
  congr 1
  funext E hE
  unfold mp1
  by_cases e0 : E = xIA
  · rw [if_pos e0, if_pos e0]
    rfl
  · rw [if_neg e0, if_neg e0]
theorem w_room (hk : kH h x = 19) (a1 : Int32) : fL_room x a1 o h = wrp o (mp1 xNS) (fX9_room x a1 h) := by
  unfold fL_room kL_room_0 wrp
  rw [if_pos hk]
  congr 1
  funext E hE
  unfold mp1
  by_cases e0 : E = xNS
  · rw [if_pos e0, if_pos e0]
    rfl
  · rw [if_neg e0, if_neg e0]
theorem w_owner (hk : kH h x = 19) (a1 a2 : Int32) : fL_owner x a1 a2 o h = wrp o (mp2 xIA xIO) (fX9_owner x a1 a2 h) := by
  unfold fL_owner kL_owner_0 wrp
  rw [if_pos hk]
  congr 1
  funext E hE
  unfold mp2
  by_cases e0 : E = xIA
  · rw [if_pos e0, if_pos e0]
    rfl
  · rw [if_neg e0, if_neg e0]
    by_cases e1 : E = xIO
    · rw [if_pos e1, if_pos e1]
      rfl
    · rw [if_neg e1, if_neg e1]
theorem w_unlike (hk : kH h x = 19) (a1 : Int32) : fL_unlike x a1 o h = wrp o (mp1 xIO) (fX9_unlike x a1 h) := by
  unfold fL_unlike kL_unlike_0 wrp
  rw [if_pos hk]
  congr 1
  funext E hE
  unfold mp1
  by_cases e0 : E = xIO
  · rw [if_pos e0, if_pos e0]
    rfl
  · rw [if_neg e0, if_neg e0]
theorem w_storm (hk : kH h x = 19) (a1 a2 a3 a4 : Int32) : fL_storm x a1 a2 a3 a4 o h = wrp o (mp1 xIA) (fX9_storm x a1 a2 a3 a4 h) := by
  unfold fL_storm kL_storm_0 wrp
  rw [if_pos hk]
  congr 1
  funext E hE
  unfold mp1
  by_cases e0 : E = xIA
  · rw [if_pos e0, if_pos e0]
    rfl
  · rw [if_neg e0, if_neg e0]
theorem w_span (hk : kH h x = 19) (a1 a2 a3 a4 a5 a6 : Int32) : fL_span x a1 a2 a3 a4 a5 a6 o h = wrp o (mp2 xNS xIA) (fX9_span x a1 a2 a3 a4 a5 a6 h) := by
  unfold fL_span kL_span_0 wrp
  rw [if_pos hk]
  congr 1
  funext E hE
  unfold mp2
  by_cases e0 : E = xNS
  · rw [if_pos e0, if_pos e0]
    rfl
  · rw [if_neg e0, if_neg e0]
    by_cases e1 : E = xIA
    · rw [if_pos e1, if_pos e1]
      rfl
    · rw [if_neg e1, if_neg e1]
theorem a_fault (P : x = 8 ∧ m = 100 ∧ o = 252 ∧ B = 253) (hl : Ls o B h L xs) (X : LX x m B h (c + 1) bl S z T n ls fp rs rf hi im) (h512 : c + 1 ≤ 512) : ∃ h2 h6 v, fX9_fault x h = some (.inl (some (.int v)), h2) ∧ Ls o B h2 L xs ∧ kH h2 m = 18 ∧ fX10_fault m h2 = some (.inl (some (.int v)), h6) ∧ LW x m o B h6 L xs c := by
  have C0 := cq_fault X.1.1.1
  rw [X.1.2.1.2.2.1.1] at C0
  exact qstep0 P (rr := fun g => fX10_fault m g) hl X C0.g (fun g Rg => by
    have R0 := rq_fault Rg.1
    rw [Rg.2.1.2.2.1.1] at R0
    exact R0) h512
theorem ok_told (a1 : Int32) : okA (mp1 xIA) (aTold S z (nI ls.length) rs a1) := by
  unfold aTold
  repeat' split
  all_goals first
    | exact trivial
    | exact okA_IA (by decide) (by decide)
    | exact okA_IO (by decide) (by decide)
    | exact okA_NS (by decide) (by decide)
    | exact okA_NP (by decide) (by decide)
theorem a_told (P : x = 8 ∧ m = 100 ∧ o = 252 ∧ B = 253) (hl : Ls o B h L xs) (X : LX x m B h (c + 1) bl S z T n ls fp rs rf hi im) (h512 : c + 1 ≤ 512) (a1 : Int32) : ∃ h2 h6 cd v, wrp o (mp1 xIA) (fX9_told x a1 h) = some (.inl (some (.int cd)), h2) ∧ Ls o B h2 L xs ∧ kH h2 m = 18 ∧ fX10_told m a1 h2 = some (.inl (some (.int v)), h6) ∧ kH h6 m = 18 ∧ h6.2 m 0 = cd ∧ (cd = 0 → h6.2 o 0 = v) ∧ LW x m o B h6 L xs c := by
  have hz := X.1.1.2.2.2.1
  have I := X.2.2.1.1
  have Iv := I.1.1
  have C0 := cq_told X.1.1 Iv a1
  rw [X.1.2.1.2.1.2, X.1.2.1.2.2.1.2] at C0
  exact qstep P (rr := fun g => fX10_told m a1 g) hl X C0.g (fun g Rg => by
    have R0 := rq_told Rg.1 hz.2 a1
    rw [Rg.2.1.2.1.2.1, Rg.2.1.2.2.1.2] at R0
    exact R0) (ok_told a1) h512
theorem ok_peek (a1 a2 a3 : Int32) : okA (mp2 xIA xIO) (aPeek S z a1 a2 a3) := by
  unfold aPeek
  repeat' split
  all_goals first
    | exact trivial
    | exact okA_IA (by decide) (by decide)
    | exact okA_IO (by decide) (by decide)
    | exact okA_NS (by decide) (by decide)
    | exact okA_NP (by decide) (by decide)
theorem a_peek (P : x = 8 ∧ m = 100 ∧ o = 252 ∧ B = 253) (hl : Ls o B h L xs) (X : LX x m B h (c + 1) bl S z T n ls fp rs rf hi im) (h512 : c + 1 ≤ 512) (a1 a2 a3 : Int32) : ∃ h2 h6 cd v, wrp o (mp2 xIA xIO) (fX9_peek x a1 a2 a3 h) = some (.inl (some (.int cd)), h2) ∧ Ls o B h2 L xs ∧ kH h2 m = 18 ∧ fX10_peek m a1 a2 a3 h2 = some (.inl (some (.int v)), h6) ∧ kH h6 m = 18 ∧ h6.2 m 0 = cd ∧ (cd = 0 → h6.2 o 0 = v) ∧ LW x m o B h6 L xs c := by
  have hz := X.1.1.2.2.2.1
  have I := X.2.2.1.1
  exact qstep P (rr := fun g => fX10_peek m a1 a2 a3 g) hl X (cq_peek X.1.1 a1 a2 a3).g (fun g Rg => rq_peek Rg.1 hz.1 hz.2 a1 a2 a3) (ok_peek a1 a2 a3) h512
theorem ok_node (a1 a2 a3 : Int32) : okA (mp2 xNS xIA) (aNode S a1 a2 a3) := by
  unfold aNode
  repeat' split
  all_goals first
    | exact trivial
    | exact okA_IA (by decide) (by decide)
    | exact okA_IO (by decide) (by decide)
    | exact okA_NS (by decide) (by decide)
    | exact okA_NP (by decide) (by decide)
theorem a_node (P : x = 8 ∧ m = 100 ∧ o = 252 ∧ B = 253) (hl : Ls o B h L xs) (X : LX x m B h (c + 1) bl S z T n ls fp rs rf hi im) (h512 : c + 1 ≤ 512) (a1 a2 a3 : Int32) : ∃ h2 h6 cd v, wrp o (mp2 xNS xIA) (fX9_node x a1 a2 a3 h) = some (.inl (some (.int cd)), h2) ∧ Ls o B h2 L xs ∧ kH h2 m = 18 ∧ fX10_node m a1 a2 a3 h2 = some (.inl (some (.int v)), h6) ∧ kH h6 m = 18 ∧ h6.2 m 0 = cd ∧ (cd = 0 → h6.2 o 0 = v) ∧ LW x m o B h6 L xs c := by
  have hz := X.1.1.2.2.2.1
  have I := X.2.2.1.1
  have Iv := I.1.1
  exact qstep P (rr := fun g => fX10_node m a1 a2 a3 g) hl X (cq_node X.1.1 Iv a1 a2 a3).g (fun g Rg => rq_node Rg.1 Iv a1 a2 a3) (ok_node a1 a2 a3) h512
theorem ok_find (a1 a2 a3 : Int32) : okA (mp2 xNS xIA) (aFind S a1 a2 a3) := by
  unfold aFind
  repeat' split
  all_goals first
    | exact trivial
    | exact okA_IA (by decide) (by decide)
    | exact okA_IO (by decide) (by decide)
    | exact okA_NS (by decide) (by decide)
    | exact okA_NP (by decide) (by decide)
theorem a_find (P : x = 8 ∧ m = 100 ∧ o = 252 ∧ B = 253) (hl : Ls o B h L xs) (X : LX x m B h (c + 1) bl S z T n ls fp rs rf hi im) (h512 : c + 1 ≤ 512) (a1 a2 a3 : Int32) : ∃ h2 h6 cd v, wrp o (mp2 xNS xIA) (fX9_find x a1 a2 a3 h) = some (.inl (some (.int cd)), h2) ∧ Ls o B h2 L xs ∧ kH h2 m = 18 ∧ fX10_find m a1 a2 a3 h2 = some (.inl (some (.int v)), h6) ∧ kH h6 m = 18 ∧ h6.2 m 0 = cd ∧ (cd = 0 → h6.2 o 0 = v) ∧ LW x m o B h6 L xs c := by
  have hz := X.1.1.2.2.2.1
  have I := X.2.2.1.1
  have Iv := I.1.1
  exact qstep P (rr := fun g => fX10_find m a1 a2 a3 g) hl X (cq_find X.1.1 Iv a1 a2 a3).g (fun g Rg => rq_find Rg.1 Iv a1 a2 a3) (ok_find a1 a2 a3) h512
theorem ok_used (a1 : Int32) : okA (mp1 xIA) (aUsed S z a1) := by
  unfold aUsed
  repeat' split
  all_goals first
    | exact trivial
    | exact okA_IA (by decide) (by decide)
    | exact okA_IO (by decide) (by decide)
    | exact okA_NS (by decide) (by decide)
    | exact okA_NP (by decide) (by decide)
theorem a_used (P : x = 8 ∧ m = 100 ∧ o = 252 ∧ B = 253) (hl : Ls o B h L xs) (X : LX x m B h (c + 1) bl S z T n ls fp rs rf hi im) (h512 : c + 1 ≤ 512) (a1 : Int32) : ∃ h2 h6 cd v, wrp o (mp1 xIA) (fX9_used x a1 h) = some (.inl (some (.int cd)), h2) ∧ Ls o B h2 L xs ∧ kH h2 m = 18 ∧ fX10_used m a1 h2 = some (.inl (some (.int v)), h6) ∧ kH h6 m = 18 ∧ h6.2 m 0 = cd ∧ (cd = 0 → h6.2 o 0 = v) ∧ LW x m o B h6 L xs c := by
  have hz := X.1.1.2.2.2.1
  have I := X.2.2.1.1
  exact qstep P (rr := fun g => fX10_used m a1 g) hl X (cq_used X.1.1 a1).g (fun g Rg => rq_used Rg.1 hz.2 a1) (ok_used a1) h512
theorem ok_leaks (a1 : Int32) : okA (mp1 xIA) (aLeaks S z a1) := by
  unfold aLeaks
  repeat' split
  all_goals first
    | exact trivial
    | exact okA_IA (by decide) (by decide)
    | exact okA_IO (by decide) (by decide)
    | exact okA_NS (by decide) (by decide)
    | exact okA_NP (by decide) (by decide)
theorem a_leaks (P : x = 8 ∧ m = 100 ∧ o = 252 ∧ B = 253) (hl : Ls o B h L xs) (X : LX x m B h (c + 1) bl S z T n ls fp rs rf hi im) (h512 : c + 1 ≤ 512) (a1 : Int32) : ∃ h2 h6 cd v, wrp o (mp1 xIA) (fX9_leaks x a1 h) = some (.inl (some (.int cd)), h2) ∧ Ls o B h2 L xs ∧ kH h2 m = 18 ∧ fX10_leaks m a1 h2 = some (.inl (some (.int v)), h6) ∧ kH h6 m = 18 ∧ h6.2 m 0 = cd ∧ (cd = 0 → h6.2 o 0 = v) ∧ LW x m o B h6 L xs c := by
  have hz := X.1.1.2.2.2.1
  have I := X.2.2.1.1
  have Iv := I.1.1
  exact qstep P (rr := fun g => fX10_leaks m a1 g) hl X (cq_leaks X.1.1 Iv a1).g (fun g Rg => rq_leaks Rg.1 Iv a1) (ok_leaks a1) h512
theorem ok_lost (a1 : Int32) : okA (mp1 xIA) (aLost S a1) := by
  unfold aLost
  repeat' split
  all_goals first
    | exact trivial
    | exact okA_IA (by decide) (by decide)
    | exact okA_IO (by decide) (by decide)
    | exact okA_NS (by decide) (by decide)
    | exact okA_NP (by decide) (by decide)
theorem a_lost (P : x = 8 ∧ m = 100 ∧ o = 252 ∧ B = 253) (hl : Ls o B h L xs) (X : LX x m B h (c + 1) bl S z T n ls fp rs rf hi im) (h512 : c + 1 ≤ 512) (a1 : Int32) : ∃ h2 h6 cd v, wrp o (mp1 xIA) (fX9_lost x a1 h) = some (.inl (some (.int cd)), h2) ∧ Ls o B h2 L xs ∧ kH h2 m = 18 ∧ fX10_lost m a1 h2 = some (.inl (some (.int v)), h6) ∧ kH h6 m = 18 ∧ h6.2 m 0 = cd ∧ (cd = 0 → h6.2 o 0 = v) ∧ LW x m o B h6 L xs c := by
  have hz := X.1.1.2.2.2.1
  have I := X.2.2.1.1
  have Iv := I.1.1
  exact qstep P (rr := fun g => fX10_lost m a1 g) hl X (cq_lost X.1.1 Iv a1).g (fun g Rg => rq_lost Rg.1 Iv a1) (ok_lost a1) h512
theorem ok_broken (a1 : Int32) : okA (mp1 xIA) (aBroken S a1) := by
  unfold aBroken
  repeat' split
  all_goals first
    | exact trivial
    | exact okA_IA (by decide) (by decide)
    | exact okA_IO (by decide) (by decide)
    | exact okA_NS (by decide) (by decide)
    | exact okA_NP (by decide) (by decide)
theorem a_broken (P : x = 8 ∧ m = 100 ∧ o = 252 ∧ B = 253) (hl : Ls o B h L xs) (X : LX x m B h (c + 1) bl S z T n ls fp rs rf hi im) (h512 : c + 1 ≤ 512) (a1 : Int32) : ∃ h2 h6 cd v, wrp o (mp1 xIA) (fX9_broken x a1 h) = some (.inl (some (.int cd)), h2) ∧ Ls o B h2 L xs ∧ kH h2 m = 18 ∧ fX10_broken m a1 h2 = some (.inl (some (.int v)), h6) ∧ kH h6 m = 18 ∧ h6.2 m 0 = cd ∧ (cd = 0 → h6.2 o 0 = v) ∧ LW x m o B h6 L xs c := by
  have hz := X.1.1.2.2.2.1
  have I := X.2.2.1.1
  have Iv := I.1.1
  exact qstep P (rr := fun g => fX10_broken m a1 g) hl X (cq_broken X.1.1 Iv a1).g (fun g Rg => rq_broken Rg.1 Iv a1) (ok_broken a1) h512
theorem ok_under (a1 a2 : Int32) : okA (mp2 xNS xIA) (aUnder S a1 a2) := by
  unfold aUnder
  repeat' split
  all_goals first
    | exact trivial
    | exact okA_IA (by decide) (by decide)
    | exact okA_IO (by decide) (by decide)
    | exact okA_NS (by decide) (by decide)
    | exact okA_NP (by decide) (by decide)
theorem a_under (P : x = 8 ∧ m = 100 ∧ o = 252 ∧ B = 253) (hl : Ls o B h L xs) (X : LX x m B h (c + 1) bl S z T n ls fp rs rf hi im) (h512 : c + 1 ≤ 512) (a1 a2 : Int32) : ∃ h2 h6 cd v, wrp o (mp2 xNS xIA) (fX9_under x a1 a2 h) = some (.inl (some (.int cd)), h2) ∧ Ls o B h2 L xs ∧ kH h2 m = 18 ∧ fX10_under m a1 a2 h2 = some (.inl (some (.int v)), h6) ∧ kH h6 m = 18 ∧ h6.2 m 0 = cd ∧ (cd = 0 → h6.2 o 0 = v) ∧ LW x m o B h6 L xs c := by
  have hz := X.1.1.2.2.2.1
  have I := X.2.2.1.1
  have Iv := I.1.1
  exact qstep P (rr := fun g => fX10_under m a1 a2 g) hl X (cq_under X.1.1 I.1 a1 a2).g (fun g Rg => rq_under Rg.1 I.1 a1 a2) (ok_under a1 a2) h512
theorem ok_deep (a1 a2 : Int32) : okA (mp2 xNS xIA) (aDeep S a1 a2) := by
  unfold aDeep
  repeat' split
  all_goals first
    | exact trivial
    | exact okA_IA (by decide) (by decide)
    | exact okA_IO (by decide) (by decide)
    | exact okA_NS (by decide) (by decide)
    | exact okA_NP (by decide) (by decide)
theorem a_deep (P : x = 8 ∧ m = 100 ∧ o = 252 ∧ B = 253) (hl : Ls o B h L xs) (X : LX x m B h (c + 1) bl S z T n ls fp rs rf hi im) (h512 : c + 1 ≤ 512) (a1 a2 : Int32) : ∃ h2 h6 cd v, wrp o (mp2 xNS xIA) (fX9_deep x a1 a2 h) = some (.inl (some (.int cd)), h2) ∧ Ls o B h2 L xs ∧ kH h2 m = 18 ∧ fX10_deep m a1 a2 h2 = some (.inl (some (.int v)), h6) ∧ kH h6 m = 18 ∧ h6.2 m 0 = cd ∧ (cd = 0 → h6.2 o 0 = v) ∧ LW x m o B h6 L xs c := by
  have hz := X.1.1.2.2.2.1
  have I := X.2.2.1.1
  have Iv := I.1.1
  exact qstep P (rr := fun g => fX10_deep m a1 a2 g) hl X (cq_deep X.1.1 I.1 a1 a2).g (fun g Rg => rq_deep Rg.1 I.1 a1 a2) (ok_deep a1 a2) h512
theorem ok_change (a1 a2 : Int32) : okA (mp3 xIA xNP xIO) (aChange S a1 a2) := by
  unfold aChange
  repeat' split
  all_goals first
    | exact trivial
    | exact okA_IA (by decide) (by decide)
    | exact okA_IO (by decide) (by decide)
    | exact okA_NS (by decide) (by decide)
    | exact okA_NP (by decide) (by decide)
theorem a_change (P : x = 8 ∧ m = 100 ∧ o = 252 ∧ B = 253) (hl : Ls o B h L xs) (X : LX x m B h (c + 1) bl S z T n ls fp rs rf hi im) (h512 : c + 1 ≤ 512) (a1 a2 : Int32) : ∃ h2 h6 cd v, wrp o (mp3 xIA xNP xIO) (fX9_change x a1 a2 h) = some (.inl (some (.int cd)), h2) ∧ Ls o B h2 L xs ∧ kH h2 m = 18 ∧ fX10_change m a1 a2 h2 = some (.inl (some (.int v)), h6) ∧ kH h6 m = 18 ∧ h6.2 m 0 = cd ∧ (cd = 0 → h6.2 o 0 = v) ∧ LW x m o B h6 L xs c := by
  have hz := X.1.1.2.2.2.1
  have I := X.2.2.1.1
  have Iv := I.1.1
  exact qstep P (rr := fun g => fX10_change m a1 a2 g) hl X (cq_change X.1.1 Iv a1 a2).g (fun g Rg => rq_change Rg.1 Iv a1 a2) (ok_change a1 a2) h512
theorem ok_held (a1 : Int32) : okA (mp1 xIO) (aHeld S z a1) := by
  unfold aHeld
  repeat' split
  all_goals first
    | exact trivial
    | exact okA_IA (by decide) (by decide)
    | exact okA_IO (by decide) (by decide)
    | exact okA_NS (by decide) (by decide)
    | exact okA_NP (by decide) (by decide)
theorem a_held (P : x = 8 ∧ m = 100 ∧ o = 252 ∧ B = 253) (hl : Ls o B h L xs) (X : LX x m B h (c + 1) bl S z T n ls fp rs rf hi im) (h512 : c + 1 ≤ 512) (a1 : Int32) : ∃ h2 h6 cd v, wrp o (mp1 xIO) (fX9_held x a1 h) = some (.inl (some (.int cd)), h2) ∧ Ls o B h2 L xs ∧ kH h2 m = 18 ∧ fX10_held m a1 h2 = some (.inl (some (.int v)), h6) ∧ kH h6 m = 18 ∧ h6.2 m 0 = cd ∧ (cd = 0 → h6.2 o 0 = v) ∧ LW x m o B h6 L xs c := by
  have hz := X.1.1.2.2.2.1
  have I := X.2.2.1.1
  have Iv := I.1.1
  exact qstep P (rr := fun g => fX10_held m a1 g) hl X (cq_held X.1.1 Iv a1).g (fun g Rg => rq_held Rg.1 hz.1 hz.2 a1) (ok_held a1) h512
theorem ok_copy (a1 a2 : Int32) : okA (mp1 xIO) (aCopy S z a1 a2) := by
  unfold aCopy
  repeat' split
  all_goals first
    | exact trivial
    | exact okA_IA (by decide) (by decide)
    | exact okA_IO (by decide) (by decide)
    | exact okA_NS (by decide) (by decide)
    | exact okA_NP (by decide) (by decide)
theorem a_copy (P : x = 8 ∧ m = 100 ∧ o = 252 ∧ B = 253) (hl : Ls o B h L xs) (X : LX x m B h (c + 1) bl S z T n ls fp rs rf hi im) (h512 : c + 1 ≤ 512) (a1 a2 : Int32) : ∃ h2 h6 cd v, wrp o (mp1 xIO) (fX9_copy x a1 a2 h) = some (.inl (some (.int cd)), h2) ∧ Ls o B h2 L xs ∧ kH h2 m = 18 ∧ fX10_copy m a1 a2 h2 = some (.inl (some (.int v)), h6) ∧ kH h6 m = 18 ∧ h6.2 m 0 = cd ∧ (cd = 0 → h6.2 o 0 = v) ∧ LW x m o B h6 L xs c := by
  have hz := X.1.1.2.2.2.1
  have I := X.2.2.1.1
  have Iv := I.1.1
  exact qstep P (rr := fun g => fX10_copy m a1 a2 g) hl X (cq_copy X.1.1 Iv a1 a2).g (fun g Rg => rq_copy Rg.1 hz.1 hz.2 a1 a2) (ok_copy a1 a2) h512
theorem ok_waits (a1 : Int32) : okA (mp1 xIO) (aWaits S z a1) := by
  unfold aWaits
  repeat' split
  all_goals first
    | exact trivial
    | exact okA_IA (by decide) (by decide)
    | exact okA_IO (by decide) (by decide)
    | exact okA_NS (by decide) (by decide)
    | exact okA_NP (by decide) (by decide)
theorem a_waits (P : x = 8 ∧ m = 100 ∧ o = 252 ∧ B = 253) (hl : Ls o B h L xs) (X : LX x m B h (c + 1) bl S z T n ls fp rs rf hi im) (h512 : c + 1 ≤ 512) (a1 : Int32) : ∃ h2 h6 cd v, wrp o (mp1 xIO) (fX9_waits x a1 h) = some (.inl (some (.int cd)), h2) ∧ Ls o B h2 L xs ∧ kH h2 m = 18 ∧ fX10_waits m a1 h2 = some (.inl (some (.int v)), h6) ∧ kH h6 m = 18 ∧ h6.2 m 0 = cd ∧ (cd = 0 → h6.2 o 0 = v) ∧ LW x m o B h6 L xs c := by
  have hz := X.1.1.2.2.2.1
  have I := X.2.2.1.1
  have Iv := I.1.1
  exact qstep P (rr := fun g => fX10_waits m a1 g) hl X (cq_waits X.1.1 a1).g (fun g Rg => rq_waits Rg.1 Iv a1) (ok_waits a1) h512
theorem a_rings (P : x = 8 ∧ m = 100 ∧ o = 252 ∧ B = 253) (hl : Ls o B h L xs) (X : LX x m B h (c + 1) bl S z T n ls fp rs rf hi im) (h512 : c + 1 ≤ 512) : ∃ h2 h6 v, fX9_rings x h = some (.inl (some (.int v)), h2) ∧ Ls o B h2 L xs ∧ kH h2 m = 18 ∧ fX10_rings m h2 = some (.inl (some (.int v)), h6) ∧ LW x m o B h6 L xs c := by
  have hz := X.1.1.2.2.2.1
  have I := X.2.2.1.1
  have Iv := I.1.1
  exact qstep0 P (rr := fun g => fX10_rings m g) hl X (cq_rings X.1.1 ).g (fun g Rg => rq_rings Rg.1 Iv) h512
theorem a_settle (P : x = 8 ∧ m = 100 ∧ o = 252 ∧ B = 253) (hl : Ls o B h L xs) (X : LX x m B h (c + 1) bl S z T n ls fp rs rf hi im) (h512 : c + 1 ≤ 512) : ∃ h2 h6 v, fX9_settle x h = some (.inl (some (.int v)), h2) ∧ Ls o B h2 L xs ∧ kH h2 m = 18 ∧ fX10_settle m h2 = some (.inl (some (.int v)), h6) ∧ LW x m o B h6 L xs c := by
  have hz := X.1.1.2.2.2.1
  have I := X.2.2.1.1
  have N := I.2
  have I16 : Inv S z (0 + 3840 * 16) := (I.le (show 0 + 3840 * 16 ≤ bud (c + 1) by unfold bud; omega)).1.1
  exact qstep0 P (rr := fun g => fX10_settle m g) hl X (cq_settle X.1.1 I16 N).g (fun g Rg => rq_settle Rg.1 I16 N) h512
theorem ok_spill (a1 : Int32) : okA (mp1 xIA) (aSpill S z a1) := by
  unfold aSpill
  repeat' split
  all_goals first
    | exact trivial
    | exact okA_IA (by decide) (by decide)
    | exact okA_IO (by decide) (by decide)
    | exact okA_NS (by decide) (by decide)
    | exact okA_NP (by decide) (by decide)
theorem a_spill (P : x = 8 ∧ m = 100 ∧ o = 252 ∧ B = 253) (hl : Ls o B h L xs) (X : LX x m B h (c + 1) bl S z T n ls fp rs rf hi im) (h512 : c + 1 ≤ 512) (a1 : Int32) : ∃ h2 h6 cd v, wrp o (mp1 xIA) (fX9_spill x a1 h) = some (.inl (some (.int cd)), h2) ∧ Ls o B h2 L xs ∧ kH h2 m = 18 ∧ fX10_spill m a1 h2 = some (.inl (some (.int v)), h6) ∧ kH h6 m = 18 ∧ h6.2 m 0 = cd ∧ (cd = 0 → h6.2 o 0 = v) ∧ LW x m o B h6 L xs c := by
  have hz := X.1.1.2.2.2.1
  have I := X.2.2.1.1
  have N := I.2
  have I16 : Inv S z (0 + 3840 * 16) := (I.le (show 0 + 3840 * 16 ≤ bud (c + 1) by unfold bud; omega)).1.1
  exact qstep P (rr := fun g => fX10_spill m a1 g) hl X (cq_spill X.1.1 I16 N a1).g (fun g Rg => rq_spill Rg.1 I16 N a1) (ok_spill a1) h512
theorem a_fewest (P : x = 8 ∧ m = 100 ∧ o = 252 ∧ B = 253) (hl : Ls o B h L xs) (X : LX x m B h (c + 1) bl S z T n ls fp rs rf hi im) (h512 : c + 1 ≤ 512) : ∃ h2 h6 v, fX9_fewest x h = some (.inl (some (.int v)), h2) ∧ Ls o B h2 L xs ∧ kH h2 m = 18 ∧ fX10_fewest m h2 = some (.inl (some (.int v)), h6) ∧ LW x m o B h6 L xs c := by
  have hz := X.1.1.2.2.2.1
  have I := X.2.2.1.1
  have I12 : Inv S z (0 + 1200) := (I.le (show 0 + 1200 ≤ bud (c + 1) by unfold bud; omega)).1.1
  exact qstep0 P (rr := fun g => fX10_fewest m g) hl X (cq_fewest X.1.1 I12).g (fun g Rg => rq_fewest Rg.1 I12) h512
theorem a_finds (P : x = 8 ∧ m = 100 ∧ o = 252 ∧ B = 253) (hl : Ls o B h L xs) (X : LX x m B h (c + 1) bl S z T n ls fp rs rf hi im) (h512 : c + 1 ≤ 512) : ∃ h2 h6 v, fX9_finds x h = some (.inl (some (.int v)), h2) ∧ Ls o B h2 L xs ∧ kH h2 m = 18 ∧ fX10_finds m h2 = some (.inl (some (.int v)), h6) ∧ LW x m o B h6 L xs c := by
  have hz := X.1.1.2.2.2.1
  have I := X.2.2.1.1
  have Iv := I.1.1
  exact qstep0 P (rr := fun g => fX10_finds m g) hl X (cq_finds X.1.1 Iv).g (fun g Rg => rq_finds Rg.1 Iv) h512
theorem a_sweeps (P : x = 8 ∧ m = 100 ∧ o = 252 ∧ B = 253) (hl : Ls o B h L xs) (X : LX x m B h (c + 1) bl S z T n ls fp rs rf hi im) (h512 : c + 1 ≤ 512) : ∃ h2 h6 v, fX9_sweeps x h = some (.inl (some (.int v)), h2) ∧ Ls o B h2 L xs ∧ kH h2 m = 18 ∧ fX10_sweeps m h2 = some (.inl (some (.int v)), h6) ∧ LW x m o B h6 L xs c := by
  have hz := X.1.1.2.2.2.1
  have I := X.2.2.1.1
  have Isw : Inx S z (0 + 65280 * 3557) := I.le (show 0 + 65280 * 3557 ≤ bud (c + 1) by unfold bud; omega)
  exact qstep0 P (rr := fun g => fX10_sweeps m g) hl X (cq_sweeps X.1.1 Isw).g (fun g Rg => rq_sweeps Rg.1 Isw) h512
theorem a_fits (P : x = 8 ∧ m = 100 ∧ o = 252 ∧ B = 253) (hl : Ls o B h L xs) (X : LX x m B h (c + 1) bl S z T n ls fp rs rf hi im) (h512 : c + 1 ≤ 512) : ∃ h2 h6 v, fX9_fits x h = some (.inl (some (.int v)), h2) ∧ Ls o B h2 L xs ∧ kH h2 m = 18 ∧ fX10_fits m h2 = some (.inl (some (.int v)), h6) ∧ LW x m o B h6 L xs c := by
  have hz := X.1.1.2.2.2.1
  have I := X.2.2.1.1
  have Iv := I.1.1
  exact qstep0 P (rr := fun g => fX10_fits m g) hl X (cq_fits X.1.1 Iv X.1.2.1.2.1.1).g (fun g Rg => rq_fits Rg.1 hz.2 Rg.2.1.2.1) h512
theorem ok_look (a1 : Int32) : okA (mp1 xIA) (aLook S ls z a1) := by
  unfold aLook
  repeat' split
  all_goals first
    | exact trivial
    | exact okA_IA (by decide) (by decide)
    | exact okA_IO (by decide) (by decide)
    | exact okA_NS (by decide) (by decide)
    | exact okA_NP (by decide) (by decide)
theorem a_look (P : x = 8 ∧ m = 100 ∧ o = 252 ∧ B = 253) (hl : Ls o B h L xs) (X : LX x m B h (c + 1) bl S z T n ls fp rs rf hi im) (h512 : c + 1 ≤ 512) (a1 : Int32) : ∃ h2 h6 cd v, wrp o (mp1 xIA) (fX9_look x a1 h) = some (.inl (some (.int cd)), h2) ∧ Ls o B h2 L xs ∧ kH h2 m = 18 ∧ fX10_look m a1 h2 = some (.inl (some (.int v)), h6) ∧ kH h6 m = 18 ∧ h6.2 m 0 = cd ∧ (cd = 0 → h6.2 o 0 = v) ∧ LW x m o B h6 L xs c := by
  have hz := X.1.1.2.2.2.1
  have I := X.2.2.1.1
  have Iv := I.1.1
  exact qstep P (rr := fun g => fX10_look m a1 g) hl X (cq_look X.1.1 Iv X.1.2.1.2.1.1 a1).g (fun g Rg => rq_look Rg.1 hz.2 Rg.2.1.2.1 a1) (ok_look a1) h512
theorem ok_room (a1 : Int32) : okA (mp1 xNS) (aRoom S a1) := by
  unfold aRoom
  repeat' split
  all_goals first
    | exact trivial
    | exact okA_IA (by decide) (by decide)
    | exact okA_IO (by decide) (by decide)
    | exact okA_NS (by decide) (by decide)
    | exact okA_NP (by decide) (by decide)
theorem a_room (P : x = 8 ∧ m = 100 ∧ o = 252 ∧ B = 253) (hl : Ls o B h L xs) (X : LX x m B h (c + 1) bl S z T n ls fp rs rf hi im) (h512 : c + 1 ≤ 512) (a1 : Int32) : ∃ h2 h6 cd v, wrp o (mp1 xNS) (fX9_room x a1 h) = some (.inl (some (.int cd)), h2) ∧ Ls o B h2 L xs ∧ kH h2 m = 18 ∧ fX10_room m a1 h2 = some (.inl (some (.int v)), h6) ∧ kH h6 m = 18 ∧ h6.2 m 0 = cd ∧ (cd = 0 → h6.2 o 0 = v) ∧ LW x m o B h6 L xs c := by
  have hz := X.1.1.2.2.2.1
  have I := X.2.2.1.1
  have Iv := I.1.1
  exact qstep P (rr := fun g => fX10_room m a1 g) hl X (cq_room X.1.1 Iv a1).g (fun g Rg => rq_room Rg.1 Iv a1) (ok_room a1) h512
theorem ok_owner (a1 a2 : Int32) : okA (mp2 xIA xIO) (aOwner S z a1 a2) := by
  unfold aOwner
  repeat' split
  all_goals first
    | exact trivial
    | exact okA_IA (by decide) (by decide)
    | exact okA_IO (by decide) (by decide)
    | exact okA_NS (by decide) (by decide)
    | exact okA_NP (by decide) (by decide)
theorem a_owner (P : x = 8 ∧ m = 100 ∧ o = 252 ∧ B = 253) (hl : Ls o B h L xs) (X : LX x m B h (c + 1) bl S z T n ls fp rs rf hi im) (h512 : c + 1 ≤ 512) (a1 a2 : Int32) : ∃ h2 h6 cd v, wrp o (mp2 xIA xIO) (fX9_owner x a1 a2 h) = some (.inl (some (.int cd)), h2) ∧ Ls o B h2 L xs ∧ kH h2 m = 18 ∧ fX10_owner m a1 a2 h2 = some (.inl (some (.int v)), h6) ∧ kH h6 m = 18 ∧ h6.2 m 0 = cd ∧ (cd = 0 → h6.2 o 0 = v) ∧ LW x m o B h6 L xs c := by
  have hz := X.1.1.2.2.2.1
  have I := X.2.2.1.1
  exact qstep P (rr := fun g => fX10_owner m a1 a2 g) hl X (cq_owner X.1.1 a1 a2).g (fun g Rg => rq_owner Rg.1 hz.1 hz.2 a1 a2) (ok_owner a1 a2) h512
theorem ok_unlike (a1 : Int32) : okA (mp1 xIO) (aUnlike S z a1) := by
  unfold aUnlike
  repeat' split
  all_goals first
    | exact trivial
    | exact okA_IA (by decide) (by decide)
    | exact okA_IO (by decide) (by decide)
    | exact okA_NS (by decide) (by decide)
    | exact okA_NP (by decide) (by decide)
theorem a_unlike (P : x = 8 ∧ m = 100 ∧ o = 252 ∧ B = 253) (hl : Ls o B h L xs) (X : LX x m B h (c + 1) bl S z T n ls fp rs rf hi im) (h512 : c + 1 ≤ 512) (a1 : Int32) : ∃ h2 h6 cd v, wrp o (mp1 xIO) (fX9_unlike x a1 h) = some (.inl (some (.int cd)), h2) ∧ Ls o B h2 L xs ∧ kH h2 m = 18 ∧ fX10_unlike m a1 h2 = some (.inl (some (.int v)), h6) ∧ kH h6 m = 18 ∧ h6.2 m 0 = cd ∧ (cd = 0 → h6.2 o 0 = v) ∧ LW x m o B h6 L xs c := by
  have hz := X.1.1.2.2.2.1
  have I := X.2.2.1.1
  exact qstep P (rr := fun g => fX10_unlike m a1 g) hl X (cq_unlike X.1.1 a1).g (fun g Rg => rq_unlike Rg.1 hz.1 hz.2 a1) (ok_unlike a1) h512
theorem ok_storm (a1 a2 a3 a4 : Int32) : okA (mp1 xIA) (aStorm S z a1 a2 a3 a4) := by
  unfold aStorm
  repeat' split
  all_goals first
    | exact trivial
    | exact okA_IA (by decide) (by decide)
    | exact okA_IO (by decide) (by decide)
    | exact okA_NS (by decide) (by decide)
    | exact okA_NP (by decide) (by decide)
theorem a_storm (P : x = 8 ∧ m = 100 ∧ o = 252 ∧ B = 253) (hl : Ls o B h L xs) (X : LX x m B h (c + 1) bl S z T n ls fp rs rf hi im) (h512 : c + 1 ≤ 512) (a1 a2 a3 a4 : Int32) : ∃ h2 h6 cd v, wrp o (mp1 xIA) (fX9_storm x a1 a2 a3 a4 h) = some (.inl (some (.int cd)), h2) ∧ Ls o B h2 L xs ∧ kH h2 m = 18 ∧ fX10_storm m a1 a2 a3 a4 h2 = some (.inl (some (.int v)), h6) ∧ kH h6 m = 18 ∧ h6.2 m 0 = cd ∧ (cd = 0 → h6.2 o 0 = v) ∧ LW x m o B h6 L xs c := by
  have hz := X.1.1.2.2.2.1
  have I := X.2.2.1.1
  have hN : x + 92 ≤ nH h := by have := hl.2.2.2.2; omega
  have I96 : Inx S z (0 + 3840 * 96) := I.le (show 0 + 3840 * 96 ≤ bud (c + 1) by unfold bud; omega)
  exact qstep P (rr := fun g => fX10_storm m a1 a2 a3 a4 g) hl X (cq_storm X.1.1 hN I96 a1 a2 a3 a4) (fun g Rg => rq_storm Rg.1 I96 a1 a2 a3 a4) (ok_storm a1 a2 a3 a4) h512
theorem ok_span (a1 a2 a3 a4 a5 a6 : Int32) : okA (mp2 xNS xIA) (aSpan S z a1 a2 a3 a4 a5 a6) := by
  unfold aSpan
  repeat' split
  all_goals first
    | exact trivial
    | exact okA_IA (by decide) (by decide)
    | exact okA_IO (by decide) (by decide)
    | exact okA_NS (by decide) (by decide)
    | exact okA_NP (by decide) (by decide)
theorem a_span (P : x = 8 ∧ m = 100 ∧ o = 252 ∧ B = 253) (hl : Ls o B h L xs) (X : LX x m B h (c + 1) bl S z T n ls fp rs rf hi im) (h512 : c + 1 ≤ 512) (a1 a2 a3 a4 a5 a6 : Int32) : ∃ h2 h6 cd v, wrp o (mp2 xNS xIA) (fX9_span x a1 a2 a3 a4 a5 a6 h) = some (.inl (some (.int cd)), h2) ∧ Ls o B h2 L xs ∧ kH h2 m = 18 ∧ fX10_span m a1 a2 a3 a4 a5 a6 h2 = some (.inl (some (.int v)), h6) ∧ kH h6 m = 18 ∧ h6.2 m 0 = cd ∧ (cd = 0 → h6.2 o 0 = v) ∧ LW x m o B h6 L xs c := by
  have hz := X.1.1.2.2.2.1
  have I := X.2.2.1.1
  have hN : x + 92 ≤ nH h := by have := hl.2.2.2.2; omega
  have I96 : Inx S z (0 + 3840 * 96) := I.le (show 0 + 3840 * 96 ≤ bud (c + 1) by unfold bud; omega)
  exact qstep P (rr := fun g => fX10_span m a1 a2 a3 a4 a5 a6 g) hl X (cq_span X.1.1 hN I96 a1 a2 a3 a4 a5 a6) (fun g Rg => rq_span Rg.1 I96 a1 a2 a3 a4 a5 a6) (ok_span a1 a2 a3 a4 a5 a6) h512
theorem st_eq {F G : Nat → Int32} (e : ∀ i, i < 4 → F i = G i) (a : Int32) : aStatus F a = aStatus G a := by
  unfold aStatus
  by_cases q : 0 ≤ a ∧ a ≤ 3
  · obtain ⟨k, h1, h2⟩ := rg_of (n := 3) (by decide) q
    rw [if_pos q, if_pos q, h2]
    have : tn (nI k) = k := nI_clamp (by omega)
    rw [this, e k (by omega)]
  · rw [if_neg q, if_neg q]
theorem a_status (P : x = 8 ∧ m = 100 ∧ o = 252 ∧ B = 253) (hl : Ls o B h L xs) (X : LX x m B h (c + 1) bl S z T n ls fp rs rf hi im) (h512 : c + 1 ≤ 512) (a1 : Int32) : ∃ h2 h6 v, fX9_status x a1 h = some (.inl (some (.int v)), h2) ∧ Ls o B h2 L xs ∧ kH h2 m = 18 ∧ fX10_status m a1 h2 = some (.inl (some (.int v)), h6) ∧ LW x m o B h6 L xs c := by
  have C0 := cq_status X.1.1.1 a1
  rw [st_eq X.1.2.1.2.2.2 a1] at C0
  exact qstep0 P (rr := fun g => fX10_status m a1 g) hl X C0.g (fun g Rg => by
    have R0 := rq_status Rg.1 a1
    rw [st_eq Rg.2.1.2.2.2 a1] at R0
    exact R0) h512
theorem a_count (P : x = 8 ∧ m = 100 ∧ o = 252 ∧ B = 253) (hl : Ls o B h L xs) (X : LX x m B h (c + 1) bl S z T n ls fp rs rf hi im) (h512 : c + 1 ≤ 512) (a1 : Int32) : ∃ h2 h6 v, fX9_count x a1 h = some (.inl (some (.int v)), h2) ∧ Ls o B h2 L xs ∧ kH h2 m = 18 ∧ fX10_count m a1 h2 = some (.inl (some (.int v)), h6) ∧ LW x m o B h6 L xs c := by
  have C0 := cq_count X.1.1.1 a1
  have H0 := X.1.2.2.2.1.1
  rw [hO_0] at H0
  rw [X.1.2.2.2.2.1, X.1.2.1.1.1, H0] at C0
  exact qstep0 P (rr := fun g => fX10_count m a1 g) hl X C0.g (fun g Rg => by
    have R0 := rq_count Rg.1 a1
    rw [Rg.2.2.2.1, Rg.2.1.1.1, Rg.2.2.1.1] at R0
    exact R0) h512
end WRQ
