/-! ===== the class copies a State ===== -/
theorem so_r1 {h : Hp} {s : Nat} (O : SO h s) : rH h s 1 = s + 1 := O.2.1.1
theorem so_k1 {h : Hp} {s : Nat} (O : SO h s) : kH h (s + 1) = 2 := O.2.1.2.1
theorem so_l1 {h : Hp} {s : Nat} (O : SO h s) : lH h (s + 1) = 512 := O.2.1.2.2
theorem so_r2 {h : Hp} {s : Nat} (O : SO h s) : rH h s 3 = s + 2 := O.2.2.1.1
theorem so_k2 {h : Hp} {s : Nat} (O : SO h s) : kH h (s + 2) = 1 := O.2.2.1.2.1
theorem so_l2 {h : Hp} {s : Nat} (O : SO h s) : lH h (s + 2) = 256 := O.2.2.1.2.2
theorem so_r3 {h : Hp} {s : Nat} (O : SO h s) : rH h s 4 = s + 3 := O.2.2.2.1.1
theorem so_k3 {h : Hp} {s : Nat} (O : SO h s) : kH h (s + 3) = 1 := O.2.2.2.1.2.1
theorem so_l3 {h : Hp} {s : Nat} (O : SO h s) : lH h (s + 3) = 256 := O.2.2.2.1.2.2
theorem so_r4 {h : Hp} {s : Nat} (O : SO h s) : rH h s 5 = s + 4 := O.2.2.2.2.1.1
theorem so_k4 {h : Hp} {s : Nat} (O : SO h s) : kH h (s + 4) = 1 := O.2.2.2.2.1.2.1
theorem so_l4 {h : Hp} {s : Nat} (O : SO h s) : lH h (s + 4) = 256 := O.2.2.2.2.1.2.2
theorem so_r5 {h : Hp} {s : Nat} (O : SO h s) : rH h s 6 = s + 5 := O.2.2.2.2.2.1.1
theorem so_k5 {h : Hp} {s : Nat} (O : SO h s) : kH h (s + 5) = 2 := O.2.2.2.2.2.1.2.1
theorem so_l5 {h : Hp} {s : Nat} (O : SO h s) : lH h (s + 5) = 4096 := O.2.2.2.2.2.1.2.2
theorem so_r6 {h : Hp} {s : Nat} (O : SO h s) : rH h s 7 = s + 6 := O.2.2.2.2.2.2.1.1
theorem so_k6 {h : Hp} {s : Nat} (O : SO h s) : kH h (s + 6) = 1 := O.2.2.2.2.2.2.1.2.1
theorem so_l6 {h : Hp} {s : Nat} (O : SO h s) : lH h (s + 6) = 1024 := O.2.2.2.2.2.2.1.2.2
theorem so_r7 {h : Hp} {s : Nat} (O : SO h s) : rH h s 8 = s + 7 := O.2.2.2.2.2.2.2.1.1
theorem so_k7 {h : Hp} {s : Nat} (O : SO h s) : kH h (s + 7) = 1 := O.2.2.2.2.2.2.2.1.2.1
theorem so_l7 {h : Hp} {s : Nat} (O : SO h s) : lH h (s + 7) = 256 := O.2.2.2.2.2.2.2.1.2.2
theorem so_r8 {h : Hp} {s : Nat} (O : SO h s) : rH h s 10 = s + 8 := O.2.2.2.2.2.2.2.2.1.1
theorem so_k8 {h : Hp} {s : Nat} (O : SO h s) : kH h (s + 8) = 1 := O.2.2.2.2.2.2.2.2.1.2.1
theorem so_l8 {h : Hp} {s : Nat} (O : SO h s) : lH h (s + 8) = 64 := O.2.2.2.2.2.2.2.2.1.2.2
theorem so_r9 {h : Hp} {s : Nat} (O : SO h s) : rH h s 11 = s + 9 := O.2.2.2.2.2.2.2.2.2.1
theorem so_k9 {h : Hp} {s : Nat} (O : SO h s) : kH h (s + 9) = 1 := O.2.2.2.2.2.2.2.2.2.2.1
theorem so_l9 {h : Hp} {s : Nat} (O : SO h s) : lH h (s + 9) = 64 := O.2.2.2.2.2.2.2.2.2.2.2
theorem t512 : ((512 : Nat).toInt32) = nI 512 := rfl
section D1
variable {h : Hp} {s d z : Nat} {S : St}
theorem c_copy (R : Sta h s S z) (O : SO h d) (hsd : s + 10 ≤ d ∨ d + 10 ≤ s) (h64 : (sL S).length ≤ 64) : RsC (fX5_copyFrom d s h) none h d S z := by
  have hB := R.bd
  have hB1 := hB.1
  have hun := R.un
  have hwa := R.wa
  obtain ⟨t1, t2, t3, t4, t5, t6, t7, t8, t9, t10, t11⟩ := R.2.1
  obtain ⟨n, hn⟩ : ∃ n, n = (sC S).length := ⟨_, rfl⟩
  obtain ⟨w, hw⟩ : ∃ w, w = (sL S).length := ⟨_, rfl⟩
  rw [← hn] at hun hB1
  rw [← hw] at hwa h64
  unfold fX5_copyFrom kX5_copyFrom_0
  rw [if_pos R.so.1, if_pos O.1, (so_r1 O), if_pos (so_k1 O), (so_r1 R.so), if_pos (so_k1 R.so), (so_l1 O), (so_l1 R.so), t512, if_pos (by rw [nI_lt0 (by decide)]; exact id), nI_clamp (by decide), if_pos (by omega), if_pos (by omega), letH_s]
  generalize hI8 : upI (cpI (upI h.2 d 0 (h.2 s 0)) (s + 1) (d + 1) 0 0 512) d 2 ((cpI (upI h.2 d 0 (h.2 s 0)) (s + 1) (d + 1) 0 0 512) s 2) = I8
  have a8 : ∀ a, a ≠ d → a ≠ d + 1 → I8 a = h.2 a := fun a x y => by rw [← hI8, upI_ne x, cpI_ne y, upI_ne x]
  have a8n : I8 d 2 = nI n := by rw [← hI8, upI_at, if_pos rfl, cpI_ne (by omega), upI_ne (by omega)]; exact hun
  have a8d : ∀ y, y ≠ 0 → y ≠ 2 → I8 d y = h.2 d y := fun y x1 x2 => by rw [← hI8, upI_at, if_neg x2, cpI_ne (by omega), upI_at, if_neg x1]
  have a80 : I8 d 0 = h.2 s 0 := by rw [← hI8, upI_at, if_neg (by decide), cpI_ne (by omega), upI_at, if_pos rfl]
  have a81 : ∀ y, y < 512 → I8 (d + 1) y = h.2 (s + 1) y := fun y hy => by rw [← hI8, upI_ne (by omega), cpI_at, if_pos (by omega), upI_ne (by omega), Nat.sub_zero, Nat.zero_add]
  clear hI8
  rw [(so_r2 R.so), if_pos (so_k2 R.so), (so_r2 O), if_pos (so_k2 O), a8n, if_pos (by rw [nI_lt0 (by omega)]; exact id), nI_clamp (by omega), (so_l2 R.so), if_pos (by omega), (so_l2 O), if_pos (by omega), (so_r3 R.so), if_pos (so_k3 R.so), (so_r3 O), if_pos (so_k3 O)]
  have b2 : cpI I8 (s + 2) (d + 2) 0 0 n d 2 = nI n := by rw [cpI_ne (by omega)]; exact a8n
  rw [b2, if_pos (by rw [nI_lt0 (by omega)]; exact id), nI_clamp (by omega), (so_l3 R.so), if_pos (by omega), (so_l3 O), if_pos (by omega), letH_s]
  generalize hI20 : cpI (cpI I8 (s + 2) (d + 2) 0 0 n) (s + 3) (d + 3) 0 0 n = I20
  have a20 : ∀ a, a ≠ d + 2 → a ≠ d + 3 → I20 a = I8 a := fun a x y => by rw [← hI20, cpI_ne y, cpI_ne x]
  have a202 : ∀ y, y < n → I20 (d + 2) y = h.2 (s + 2) y := fun y hy => by rw [← hI20, cpI_ne (by omega), cpI_at, if_pos (by omega), a8 _ (by omega) (by omega), Nat.sub_zero, Nat.zero_add]
  have a203 : ∀ y, y < n → I20 (d + 3) y = h.2 (s + 3) y := fun y hy => by rw [← hI20, cpI_at, if_pos (by omega), cpI_ne (by omega), a8 _ (by omega) (by omega), Nat.sub_zero, Nat.zero_add]
  clear hI20
  have a20n : I20 d 2 = nI n := by rw [a20 _ (by omega) (by omega)]; exact a8n
  rw [(so_r4 R.so), if_pos (so_k4 R.so), (so_r4 O), if_pos (so_k4 O), a20n, if_pos (by rw [nI_lt0 (by omega)]; exact id), nI_clamp (by omega), (so_l4 R.so), if_pos (by omega), (so_l4 O), if_pos (by omega), (so_r5 R.so), if_pos (so_k5 R.so), (so_r5 O), if_pos (so_k5 O)]
  have b3 : cpI I20 (s + 4) (d + 4) 0 0 n d 2 = nI n := by rw [cpI_ne (by omega)]; exact a20n
  rw [b3, k16, pk_mul, if_pos (by rw [nI_lt0 (by omega)]; exact id), nI_clamp (by omega), (so_l5 R.so), if_pos (by omega), (so_l5 O), if_pos (by omega), letH_s]
  generalize hI32 : cpI (cpI I20 (s + 4) (d + 4) 0 0 n) (s + 5) (d + 5) 0 0 (n * 16) = I32
  have a32 : ∀ a, a ≠ d + 4 → a ≠ d + 5 → I32 a = I20 a := fun a x y => by rw [← hI32, cpI_ne y, cpI_ne x]
  have a324 : ∀ y, y < n → I32 (d + 4) y = h.2 (s + 4) y := fun y hy => by rw [← hI32, cpI_ne (by omega), cpI_at, if_pos (by omega), a20 _ (by omega) (by omega), a8 _ (by omega) (by omega), Nat.sub_zero, Nat.zero_add]
  have a325 : ∀ y, y < n * 16 → I32 (d + 5) y = h.2 (s + 5) y := fun y hy => by rw [← hI32, cpI_at, if_pos (by omega), cpI_ne (by omega), a20 _ (by omega) (by omega), a8 _ (by omega) (by omega), Nat.sub_zero, Nat.zero_add]
  clear hI32
  have a32n : I32 d 2 = nI n := by rw [a32 _ (by omega) (by omega)]; exact a20n
  rw [(so_r6 R.so), if_pos (so_k6 R.so), (so_r6 O), if_pos (so_k6 O), a32n, k4, pk_mul, if_pos (by rw [nI_lt0 (by omega)]; exact id), nI_clamp (by omega), (so_l6 R.so), if_pos (by omega), (so_l6 O), if_pos (by omega), (so_r7 R.so), if_pos (so_k7 R.so), (so_r7 O), if_pos (so_k7 O)]
  have b4 : cpI I32 (s + 6) (d + 6) 0 0 (n * 4) d 2 = nI n := by rw [cpI_ne (by omega)]; exact a32n
  rw [b4, if_pos (by rw [nI_lt0 (by omega)]; exact id), nI_clamp (by omega), (so_l7 R.so), if_pos (by omega), (so_l7 O), if_pos (by omega), letH_s]
  generalize hI44 : cpI (cpI I32 (s + 6) (d + 6) 0 0 (n * 4)) (s + 7) (d + 7) 0 0 n = I44
  have a44 : ∀ a, a ≠ d + 6 → a ≠ d + 7 → I44 a = I32 a := fun a x y => by rw [← hI44, cpI_ne y, cpI_ne x]
  have a446 : ∀ y, y < n * 4 → I44 (d + 6) y = h.2 (s + 6) y := fun y hy => by rw [← hI44, cpI_ne (by omega), cpI_at, if_pos (by omega), a32 _ (by omega) (by omega), a20 _ (by omega) (by omega), a8 _ (by omega) (by omega), Nat.sub_zero, Nat.zero_add]
  have a447 : ∀ y, y < n → I44 (d + 7) y = h.2 (s + 7) y := fun y hy => by rw [← hI44, cpI_at, if_pos (by omega), cpI_ne (by omega), a32 _ (by omega) (by omega), a20 _ (by omega) (by omega), a8 _ (by omega) (by omega), Nat.sub_zero, Nat.zero_add]
  clear hI44
  have a44w : I44 s 9 = nI w := by rw [a44 _ (by omega) (by omega), a32 _ (by omega) (by omega), a20 _ (by omega) (by omega), a8 _ (by omega) (by omega)]; exact hwa
  rw [(so_r8 R.so), if_pos (so_k8 R.so), (so_r8 O), if_pos (so_k8 O), a44w, upI_at, if_pos rfl, if_pos (by rw [nI_lt0 (by omega)]; exact id), nI_clamp (by omega), (so_l8 R.so), if_pos (by omega), (so_l8 O), if_pos (by omega), (so_r9 R.so), if_pos (so_k9 R.so), (so_r9 O), if_pos (so_k9 O)]
  have b5 : cpI (upI I44 d 9 (nI w)) (s + 8) (d + 8) 0 0 w d 9 = nI w := by rw [cpI_ne (by omega), upI_at, if_pos rfl]
  rw [b5, if_pos (by rw [nI_lt0 (by omega)]; exact id), nI_clamp (by omega), (so_l9 R.so), if_pos (by omega), (so_l9 O), if_pos (by omega), letH_s]
  generalize hI56 : cpI (cpI (upI I44 d 9 (nI w)) (s + 8) (d + 8) 0 0 w) (s + 9) (d + 9) 0 0 w = I56
  have c4 : ∀ a, a < d ∨ d + 10 ≤ a → I44 a = h.2 a := fun a x => by rw [a44 _ (by omega) (by omega), a32 _ (by omega) (by omega), a20 _ (by omega) (by omega), a8 _ (by omega) (by omega)]
  have a56 : ∀ a, a ≠ d → a ≠ d + 8 → a ≠ d + 9 → I56 a = I44 a := fun a x y z => by rw [← hI56, cpI_ne z, cpI_ne y, upI_ne x]
  have a56d : ∀ y, I56 d y = if y = 9 then nI w else I44 d y := fun y => by rw [← hI56, cpI_ne (by omega), cpI_ne (by omega), upI_at]
  have a568 : ∀ y, y < w → I56 (d + 8) y = h.2 (s + 8) y := fun y hy => by rw [← hI56, cpI_ne (by omega), cpI_at, if_pos (by omega), upI_ne (by omega), c4 _ (by omega), Nat.sub_zero, Nat.zero_add]
  have a569 : ∀ y, y < w → I56 (d + 9) y = h.2 (s + 9) y := fun y hy => by rw [← hI56, cpI_at, if_pos (by omega), cpI_ne (by omega), upI_ne (by omega), c4 _ (by omega), Nat.sub_zero, Nat.zero_add]
  clear hI56
  have c5 : ∀ a, a < d ∨ d + 10 ≤ a → I56 a = h.2 a := fun a x => by rw [a56 _ (by omega) (by omega) (by omega), c4 _ x]
  have hs12 : I56 s 12 = sW S := by rw [c5 _ (by omega)]; exact t6
  have hs13 : upI I56 d 12 (sW S) s 13 = sH S := by rw [upI_ne (by omega), c5 _ (by omega)]; exact t7
  have hs14 : upI (upI I56 d 12 (sW S)) d 13 (sH S) s 14 = sK S := by rw [upI_ne (by omega), upI_ne (by omega), c5 _ (by omega)]; exact t8
  rw [hs12, hs13, hs14, letH_s]
  have hs15 : upI (upI (upI I56 d 12 (sW S)) d 13 (sH S)) d 14 (sK S) s 15 = nI (sM S) := by rw [upI_ne (by omega), upI_ne (by omega), upI_ne (by omega), c5 _ (by omega)]; exact t9
  rw [hs15]
  have hf : ∀ a, a ≠ d → upI (upI (upI (upI I56 d 12 (sW S)) d 13 (sH S)) d 14 (sK S)) d 15 (nI (sM S)) a = I56 a := fun a x => by rw [upI_ne x, upI_ne x, upI_ne x, upI_ne x]
  have hfd : ∀ y, y < 12 → upI (upI (upI (upI I56 d 12 (sW S)) d 13 (sH S)) d 14 (sK S)) d 15 (nI (sM S)) d y = I56 d y := fun y hy => by rw [upI_at, if_neg (by omega), upI_at, if_neg (by omega), upI_at, if_neg (by omega), upI_at, if_neg (by omega)]
  refine ⟨_, rfl, ⟨rfl, fun a ha => by dsimp only; rw [hf _ (by omega), c5 _ ha]⟩, SO.eq (h := h) rfl O, ?_, R.2.2.1, hB⟩
  dsimp only
  have g0 : ∀ y, y ≠ 9 → I56 d y = I8 d y := fun y hy => by rw [a56d, if_neg hy, a44 _ (by omega) (by omega), a32 _ (by omega) (by omega), a20 _ (by omega) (by omega)]
  have g1 : ∀ y, y < 512 → I56 (d + 1) y = h.2 (s + 1) y := fun y hy => by rw [a56 _ (by omega) (by omega) (by omega), a44 _ (by omega) (by omega), a32 _ (by omega) (by omega), a20 _ (by omega) (by omega)]; exact a81 y hy
  have g2 : ∀ y, y < n → I56 (d + 2) y = h.2 (s + 2) y := fun y hy => by rw [a56 _ (by omega) (by omega) (by omega), a44 _ (by omega) (by omega), a32 _ (by omega) (by omega)]; exact a202 y hy
  have g3 : ∀ y, y < n → I56 (d + 3) y = h.2 (s + 3) y := fun y hy => by rw [a56 _ (by omega) (by omega) (by omega), a44 _ (by omega) (by omega), a32 _ (by omega) (by omega)]; exact a203 y hy
  have g4 : ∀ y, y < n → I56 (d + 4) y = h.2 (s + 4) y := fun y hy => by rw [a56 _ (by omega) (by omega) (by omega), a44 _ (by omega) (by omega)]; exact a324 y hy
  have g5 : ∀ y, y < n * 16 → I56 (d + 5) y = h.2 (s + 5) y := fun y hy => by rw [a56 _ (by omega) (by omega) (by omega), a44 _ (by omega) (by omega)]; exact a325 y hy
  have g6 : ∀ y, y < n * 4 → I56 (d + 6) y = h.2 (s + 6) y := fun y hy => by rw [a56 _ (by omega) (by omega) (by omega)]; exact a446 y hy
  have g7 : ∀ y, y < n → I56 (d + 7) y = h.2 (s + 7) y := fun y hy => by rw [a56 _ (by omega) (by omega) (by omega)]; exact a447 y hy
  refine ⟨by rw [hfd _ (by decide), g0 _ (by decide), a80]; exact t1, fun x hx => by rw [hf _ (by omega), g1 _ (by omega)]; exact t2 x hx, fun x hx => by rw [hf _ (by omega), g1 _ (by omega)]; exact t3 x hx, by rw [hfd _ (by decide), g0 _ (by decide), a8n, hn], by rw [hfd _ (by decide), a56d, if_pos rfl, hw], ?_, ?_, ?_, ?_, fun pre c l q => ?_, fun pre c l q => ?_⟩
  · rw [upI_at, if_neg (by decide), upI_at, if_neg (by decide), upI_at, if_neg (by decide), upI_at, if_pos rfl]
  · rw [upI_at, if_neg (by decide), upI_at, if_neg (by decide), upI_at, if_pos rfl]
  · rw [upI_at, if_neg (by decide), upI_at, if_pos rfl]
  · rw [upI_at, if_pos rfl]
  · have hl : pre.length < n := by rw [hn, q]; simp
    obtain ⟨e1, e2, e3, e4, ⟨f, e5, e6, e7⟩, e8, e9⟩ := t10 pre c l q
    refine ⟨by rw [hf _ (by omega), g2 _ hl]; exact e1, by rw [hf _ (by omega), g3 _ hl]; exact e2, by rw [hf _ (by omega), g4 _ hl]; exact e3, fun i hi hp => by rw [hf _ (by omega), g5 _ (by omega)]; exact e4 i hi hp, ⟨f, fun i hi => by rw [hf _ (by omega), g6 _ (by omega)]; exact e5 i hi, e6, e7⟩, by rw [hf _ (by omega), g7 _ hl]; exact e8, e9⟩
  · have hl : pre.length < w := by rw [hw, q]; simp
    obtain ⟨e1, P, c', T, e2, e3, e4⟩ := t11 pre c l q
    exact ⟨by rw [hf _ (by omega), a569 _ hl]; exact e1, P, c', T, e2, e3, by rw [hf _ (by omega), a568 _ hl]; exact e4⟩
end D1
