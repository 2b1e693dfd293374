/-! ===== ROWS OF V: arrays, and what is made ===== -/
def nwH (h : Hp) (k len cnt : Nat) : Hp := ((h.1.1 + 1, h.1.2.1 + cnt, fun a => if a = h.1.1 then k else h.1.2.2.1 a, fun a => if a = h.1.1 then len else h.1.2.2.2.1 a, fun a => if a = h.1.1 then fun _ => 0 else h.1.2.2.2.2 a), fun a => if a = h.1.1 then fun _ => 0 else h.2 a)
theorem nwH_n (h : Hp) (k len cnt : Nat) : nH (nwH h k len cnt) = nH h + 1 := rfl
theorem nwH_k (h : Hp) (k len cnt : Nat) : kH (nwH h k len cnt) (nH h) = k := if_pos rfl
theorem nwH_l (h : Hp) (k len cnt : Nat) : lH (nwH h k len cnt) (nH h) = len := if_pos rfl
theorem nwH_r (h : Hp) (k len cnt : Nat) : rH (nwH h k len cnt) (nH h) = fun _ => 0 := if_pos rfl
theorem nwH_i (h : Hp) (k len cnt : Nat) : (nwH h k len cnt).2 (nH h) = fun _ => 0 := if_pos rfl
theorem ty_null {ty : FieldType} (h : ty.isReference = true) : defaultValue ty = .null := by
  cases ty <;> first | rfl | (cases h; done)
section VA
variable {G : GG} {M : MR} {d pc pc' : Nat} {loc loc' st st' : List Value} {h : Hp} {o : OU} {h' : Hp}
theorem WR.arr {s : State} {H : Heap} (wr : WR G h s H) {r k : Nat} (hk : kH h r = k) (h1 : 1 ≤ k) (h8 : k < 8) : 8 ≤ r ∧ r < nH h ∧ trV G (.ref r) = .ref (adG G r) ∧ H[adG G r]? = some (arrV (G.2.2.2.2 k) (lH h r) (aV G k (h.2 r) (rH h r))) ∧ ArrOfT s (G.2.2.2.2 k) (aty k) ∧ va_RA s (G.2.2.2.2 k) (aty k) := by
  obtain ⟨r4, rn⟩ := wr.in hk h1 (by omega)
  obtain ⟨w1, w2, w3, w4, w5, w6, w7, w8, w9⟩ := wr
  have c1 := (w6 r r4 rn).1 (by omega) (by omega)
  rw [hk] at c1
  exact ⟨r4, rn, trV_ref G (by omega), c1, (w7.2.1 k h1 h8).1, (w7.2.1 k h1 h8).2⟩
theorem arr_in {cA : ClassId} {n : Nat} {f : Nat → Value} {i : Int32} (h : vp_in i n) : ¬ (i < 0 ∨ (arrV cA n f).slots.size ≤ i.toNatClampNeg) := by
  rw [arrV_size]; exact h
theorem v_iald {r : Nat} {i : Int32} (hd : decode M.2.1 pc = .ok (.iaload, 1)) (hp : pc + 1 = pc') {j : Nat} (hj : i.toNatClampNeg = j) (hk : kH h r = 1) (hb : vp_in i (lH h r)) (kk : V G M d pc' loc (.int (h.2 r j) :: st) h o h') : V G M d pc loc (.int i :: .ref r :: st) h o h' := by
  subst hp; subst hj
  refine ⟨kk.1, fun p l e R s m args below meth c H locs ls cells slots mc ms cx wr lr ll hl h1 h2 h3 h4 => ?_⟩
  have kk := kk.2 p l e R s m args below meth c H locs ls cells slots mc ms cx wr lr ll hl h1 h2 h3 h4
  obtain ⟨r4, rn, ht, hc, hA, -⟩ := wr.arr hk (by omega) (by omega)
  rw [List.map_cons, List.map_cons, ht]
  exact W.iald cx.ex cx.by hc (hA _ _) (fun h => by cases h) (arr_in hb) (arrV_read _ _ (vp_lt hb)) rfl rfl hd kk
theorem v_bald {r : Nat} {i : Int32} (hd : decode M.2.1 pc = .ok (.baload, 1)) (hp : pc + 1 = pc') {j : Nat} (hj : i.toNatClampNeg = j) (hk : kH h r = 2) (hb : vp_in i (lH h r)) (kk : V G M d pc' loc (.int (h.2 r j) :: st) h o h') : V G M d pc loc (.int i :: .ref r :: st) h o h' := by
  subst hp; subst hj
  refine ⟨kk.1, fun p l e R s m args below meth c H locs ls cells slots mc ms cx wr lr ll hl h1 h2 h3 h4 => ?_⟩
  have kk := kk.2 p l e R s m args below meth c H locs ls cells slots mc ms cx wr lr ll hl h1 h2 h3 h4
  obtain ⟨r4, rn, ht, hc, hA, -⟩ := wr.arr hk (by omega) (by omega)
  rw [List.map_cons, List.map_cons, ht]
  exact W.bald cx.ex cx.by hc (hA _ _) (fun h => by cases h) (arr_in hb) (arrV_read _ _ (vp_lt hb)) rfl rfl hd kk
theorem v_zald {r : Nat} {i : Int32} (hd : decode M.2.1 pc = .ok (.baload, 1)) (hp : pc + 1 = pc') {j : Nat} (hj : i.toNatClampNeg = j) (hk : kH h r = 3) (hb : vp_in i (lH h r)) (kk : V G M d pc' loc (.int (h.2 r j) :: st) h o h') : V G M d pc loc (.int i :: .ref r :: st) h o h' := by
  subst hp; subst hj
  refine ⟨kk.1, fun p l e R s m args below meth c H locs ls cells slots mc ms cx wr lr ll hl h1 h2 h3 h4 => ?_⟩
  have kk := kk.2 p l e R s m args below meth c H locs ls cells slots mc ms cx wr lr ll hl h1 h2 h3 h4
  obtain ⟨r4, rn, ht, hc, hA, -⟩ := wr.arr hk (by omega) (by omega)
  rw [List.map_cons, List.map_cons, ht]
  exact W.zald cx.ex cx.by hc (hA _ _) (fun h => by cases h) (arr_in hb) (arrV_read _ _ (vp_lt hb)) rfl rfl hd kk
theorem v_lald {r : Nat} {i : Int32} (hd : decode M.2.1 pc = .ok (.laload, 1)) (hp : pc + 1 = pc') {j : Nat} (hj : i.toNatClampNeg = j) (hk : kH h r = 4) (hb : vp_in i (lH h r)) (kk : V G M d pc' loc (.long (h.2 r j).toInt64 :: st) h o h') : V G M d pc loc (.int i :: .ref r :: st) h o h' := by
  subst hp; subst hj
  refine ⟨kk.1, fun p l e R s m args below meth c H locs ls cells slots mc ms cx wr lr ll hl h1 h2 h3 h4 => ?_⟩
  have kk := kk.2 p l e R s m args below meth c H locs ls cells slots mc ms cx wr lr ll hl h1 h2 h3 h4
  obtain ⟨r4, rn, ht, hc, hA, -⟩ := wr.arr hk (by omega) (by omega)
  rw [List.map_cons, List.map_cons, ht]
  exact W.lald cx.ex cx.by hc (hA _ _) (fun h => by cases h) (arr_in hb) (arrV_read _ _ (vp_lt hb)) rfl rfl hd kk
theorem v_aald (kd : Nat) {r : Nat} {i : Int32} (hd : decode M.2.1 pc = .ok (.aaload, 1)) (hp : pc + 1 = pc') {j : Nat} (hj : i.toNatClampNeg = j) (h5 : 5 ≤ kd ∧ kd < 8) (hk : kH h r = kd) (hb : vp_in i (lH h r)) (kk : V G M d pc' loc (.ref (rH h r j) :: st) h o h') : V G M d pc loc (.int i :: .ref r :: st) h o h' := by
  subst hp; subst hj
  refine ⟨kk.1, fun p l e R s m args below meth c H locs ls cells slots mc ms cx wr lr ll hl h1 h2 h3 h4 => ?_⟩
  have kk := kk.2 p l e R s m args below meth c H locs ls cells slots mc ms cx wr lr ll hl h1 h2 h3 h4
  obtain ⟨r4, rn, ht, hc, hA, -⟩ := wr.arr hk (by omega) (by omega)
  rw [List.map_cons, List.map_cons, ht]
  have hty : (aty kd).isReference = true := by
    have : kd = 5 ∨ kd = 6 ∨ kd = 7 := by omega
    rcases this with rfl | rfl | rfl <;> rfl
  refine W.aald cx.ex cx.by hc (hA _ _) hty (fun h => by cases h) (arr_in hb) (arrV_read _ _ (vp_lt hb)) rfl rfl hd ?_
  unfold aV
  rw [if_neg (by omega), if_pos h5.1]
  exact kk
theorem v_alen {kd r : Nat} {n : Int32} (hd : decode M.2.1 pc = .ok (.arraylength, 1)) (hp : pc + 1 = pc') (hk : kH h r = kd) (hkd : 1 ≤ kd ∧ kd < 8) (hn : (lH h r).toInt32 = n) (kk : V G M d pc' loc (.int n :: st) h o h') : V G M d pc loc (.ref r :: st) h o h' := by
  subst hp
  refine ⟨kk.1, fun p l e R s m args below meth c H locs ls cells slots mc ms cx wr lr ll hl h1 h2 h3 h4 => ?_⟩
  have kk := kk.2 p l e R s m args below meth c H locs ls cells slots mc ms cx wr lr ll hl h1 h2 h3 h4
  obtain ⟨r4, rn, ht, hc, hA, -⟩ := wr.arr hk hkd.1 hkd.2
  rw [List.map_cons, ht]
  exact W.alen cx.ex cx.by hc (hA _ _) (by rw [arrV_size]; exact hn) rfl rfl hd kk
theorem CR.arr {h2 : Hp} {H' : Heap} {r k : Nat} (hk : kH h2 r = k) (h1 : 1 ≤ k) (h8 : k < 8) {f : Nat → Value} (e1 : H'[adG G r]? = some (arrV (G.2.2.2.2 k) (lH h2 r) f)) (hf : ∀ j, f j = aV G k (h2.2 r) (rH h2 r) j) (h3 : k = 2 → ∀ j, j < lH h2 r → fits .byte (.int (h2.2 r j)) = true) : CR G h2 H' r := by
  refine ⟨fun _ _ => ?_, fun a b => by omega, fun a => h3 (by omega)⟩
  rw [hk, e1, show f = aV G k (h2.2 r) (rH h2 r) from funext hf]
theorem loc_app {locs : List Loc} {a i : Nat} (hl : ∀ z ∈ locs, G.1 ≤ z.base) (ha : G.1 ≤ a) : ∀ z ∈ locs ++ [(⟨a, i⟩ : Loc)], G.1 ≤ z.base := by
  intro z hz
  rcases List.mem_append.mp hz with q | q
  · exact hl z q
  · cases List.mem_singleton.mp q; exact ha
theorem v_iast {r : Nat} {i x : Int32} (hd : decode M.2.1 pc = .ok (.iastore, 1)) (hp : pc + 1 = pc') {j : Nat} (hj : i.toNatClampNeg = j) (hk : kH h r = 1) (hb : vp_in i (lH h r)) (kk : V G M d pc' loc st (sI h r j x) o h') : V G M d pc loc (.int x :: .int i :: .ref r :: st) h o h' := by
  subst hp; subst hj
  refine ⟨kk.1, fun p l e R s m args below meth c H locs ls cells slots mc ms cx wr lr ll hl h1 h2 h3 h4 => ?_⟩
  obtain ⟨r4, rn, ht, hc, hA, -⟩ := wr.arr hk (by omega) (by omega)
  rw [List.map_cons, List.map_cons, List.map_cons, ht]
  refine W.iast cx.ex cx.by hc (hA _ _) (fun h => by cases h) (arr_in hb) rfl rfl hd fun H' e1 e2 e3 => ?_
  rw [arrV_store] at e1
  refine kk.2 p l e R s m args below meth c H' _ ls cells slots mc ms cx (wr.set r4 e2 e3 rfl rfl rfl (fun a ha => upI_ne ha) (fun a ha => rfl) ?_) lr ll (loc_app hl (adG_ge G r4)) h1 h2 h3 h4
  refine CR.arr hk (by omega) (by omega) e1 (fun j => ?_) (fun q => by omega)
  show (if j = i.toNatClampNeg then Value.int x else Value.int (h.2 r j)) = Value.int (upI h.2 r i.toNatClampNeg x r j)
  rw [upI_at]
  split <;> rfl
theorem v_bast {r : Nat} {i x : Int32} (hd : decode M.2.1 pc = .ok (.bastore, 1)) (hp : pc + 1 = pc') {j : Nat} (hj : i.toNatClampNeg = j) (hk : kH h r = 2) (hb : vp_in i (lH h r)) (kk : V G M d pc' loc st (sI h r j x.toInt8.toInt32) o h') : V G M d pc loc (.int x :: .int i :: .ref r :: st) h o h' := by
  subst hp; subst hj
  refine ⟨kk.1, fun p l e R s m args below meth c H locs ls cells slots mc ms cx wr lr ll hl h1 h2 h3 h4 => ?_⟩
  obtain ⟨r4, rn, ht, hc, hA, -⟩ := wr.arr hk (by omega) (by omega)
  have wr0 := wr
  rw [List.map_cons, List.map_cons, List.map_cons, ht]
  refine W.bast cx.ex cx.by hc (hA _ _) (fun h => by cases h) (arr_in hb) rfl rfl hd fun H' e1 e2 e3 => ?_
  rw [arrV_store] at e1
  refine kk.2 p l e R s m args below meth c H' _ ls cells slots mc ms cx (wr.set r4 e2 e3 rfl rfl rfl (fun a ha => upI_ne ha) (fun a ha => rfl) ?_) lr ll (loc_app hl (adG_ge G r4)) h1 h2 h3 h4
  refine CR.arr hk (by omega) (by omega) e1 (fun j => ?_) (fun _ j hj => ?_)
  · show (if j = i.toNatClampNeg then Value.int x.toInt8.toInt32 else Value.int (h.2 r j)) = Value.int (upI h.2 r i.toNatClampNeg x.toInt8.toInt32 r j)
    rw [upI_at]
    split <;> rfl
  · show fits .byte (.int (upI h.2 r i.toNatClampNeg x.toInt8.toInt32 r j)) = true
    rw [upI_at]
    split
    · exact pk_fb x
    · exact (wr0.2.2.2.2.2.1 r r4 rn).2.2 hk j hj
theorem v_zast {r : Nat} {i x : Int32} (hd : decode M.2.1 pc = .ok (.bastore, 1)) (hp : pc + 1 = pc') {j : Nat} (hj : i.toNatClampNeg = j) (hx : x = 0 ∨ x = 1) (hk : kH h r = 3) (hb : vp_in i (lH h r)) (kk : V G M d pc' loc st (sI h r j x) o h') : V G M d pc loc (.int x :: .int i :: .ref r :: st) h o h' := by
  subst hp; subst hj
  refine ⟨kk.1, fun p l e R s m args below meth c H locs ls cells slots mc ms cx wr lr ll hl h1 h2 h3 h4 => ?_⟩
  obtain ⟨r4, rn, ht, hc, hA, -⟩ := wr.arr hk (by omega) (by omega)
  rw [List.map_cons, List.map_cons, List.map_cons, ht]
  refine W.zast cx.ex cx.by hc (hA _ _) (fun h => by cases h) (arr_in hb) rfl rfl hd fun H' e1 e2 e3 => ?_
  rw [arrV_store, show narrow .boolean (.int x) = .int x by rcases hx with rfl | rfl <;> rfl] at e1
  refine kk.2 p l e R s m args below meth c H' _ ls cells slots mc ms cx (wr.set r4 e2 e3 rfl rfl rfl (fun a ha => upI_ne ha) (fun a ha => rfl) ?_) lr ll (loc_app hl (adG_ge G r4)) h1 h2 h3 h4
  refine CR.arr hk (by omega) (by omega) e1 (fun j => ?_) (fun q => by omega)
  show (if j = i.toNatClampNeg then Value.int x else Value.int (h.2 r j)) = Value.int (upI h.2 r i.toNatClampNeg x r j)
  rw [upI_at]
  split <;> rfl
theorem v_last {r : Nat} {i x : Int32} (hd : decode M.2.1 pc = .ok (.lastore, 1)) (hp : pc + 1 = pc') {j : Nat} (hj : i.toNatClampNeg = j) (hk : kH h r = 4) (hb : vp_in i (lH h r)) (kk : V G M d pc' loc st (sI h r j x) o h') : V G M d pc loc (.long x.toInt64 :: .int i :: .ref r :: st) h o h' := by
  subst hp; subst hj
  refine ⟨kk.1, fun p l e R s m args below meth c H locs ls cells slots mc ms cx wr lr ll hl h1 h2 h3 h4 => ?_⟩
  obtain ⟨r4, rn, ht, hc, hA, -⟩ := wr.arr hk (by omega) (by omega)
  rw [List.map_cons, List.map_cons, List.map_cons, ht]
  refine W.last cx.ex cx.by hc (hA _ _) (fun h => by cases h) (arr_in hb) rfl rfl hd fun H' e1 e2 e3 => ?_
  rw [arrV_store] at e1
  refine kk.2 p l e R s m args below meth c H' _ ls cells slots mc ms cx (wr.set r4 e2 e3 rfl rfl rfl (fun a ha => upI_ne ha) (fun a ha => rfl) ?_) lr ll (loc_app hl (adG_ge G r4)) h1 h2 h3 h4
  refine CR.arr hk (by omega) (by omega) e1 (fun j => ?_) (fun q => by omega)
  show (if j = i.toNatClampNeg then Value.long x.toInt64 else Value.long (h.2 r j).toInt64) = Value.long (upI h.2 r i.toNatClampNeg x r j).toInt64
  rw [upI_at]
  split <;> rfl
/-- an object of a class put into an array of its class -/
theorem v_aast (kd ci : Nat) {r q : Nat} {i : Int32} (hd : decode M.2.1 pc = .ok (.aastore, 1)) (hp : pc + 1 = pc') {j : Nat} (hj : i.toNatClampNeg = j) (h5 : 5 ≤ kd ∧ kd < 8) (hci : ci < 10) (hty : aty kd = .object (cT ci).1) (hk : kH h r = kd) (hq : kH h q = 10 + ci) (hb : vp_in i (lH h r)) (kk : V G M d pc' loc st (sR h r j q) o h') : V G M d pc loc (.ref q :: .int i :: .ref r :: st) h o h' := by
  subst hp; subst hj
  refine ⟨kk.1, fun p l e R s m args below meth c H locs ls cells slots mc ms cx wr lr ll hl h1 h2 h3 h4 => ?_⟩
  obtain ⟨r4, rn, ht, hc, hA, hRA⟩ := wr.arr hk (by omega) (by omega)
  obtain ⟨q4, qn⟩ := wr.in hq (by omega) (by omega)
  obtain ⟨cell, c1, c2, c3, c4⟩ := (wr.2.2.2.2.2.1 q q4 qn).2.1 (by omega) (by omega)
  rw [show kH h q - 10 = ci by omega] at c2
  have hcls := (wr.2.2.2.2.2.2.1.1 ci hci).2
  rw [hty] at hRA
  obtain ⟨kA, comp, k1, k2, k3, -⟩ := hRA
  have hcomp : comp = G.2.2.1 ci := Option.some.inj (k3.symm.trans hcls.1)
  subst hcomp
  obtain ⟨kC, hkC, -⟩ := hcls.2
  rw [List.map_cons, List.map_cons, List.map_cons, ht, trV_ref G (q := q) (by omega)]
  refine W.aast cx.ex cx.by hc (fun q h => by cases h) (fun h => by cases h) k1 k2 rfl hkC ⟨fun z => hb (Or.inl z), by rw [arrV_size]; exact vp_lt hb⟩ c1 (fun q h => by rw [c3] at h; cases h) (by rw [c2]; exact hkC) (by rw [c2]; exact va_assign hcls) rfl rfl hd fun H' e1 e2 e3 => ?_
  rw [arrV_store] at e1
  refine kk.2 p l e R s m args below meth c H' _ ls cells slots mc ms cx (wr.set r4 e2 e3 rfl rfl rfl (fun a ha => rfl) (fun a ha => upR_ne ha) ?_) lr ll (loc_app hl (adG_ge G r4)) h1 h2 h3 h4
  refine CR.arr hk (by omega) (by omega) e1 (fun j => ?_) (fun q => by omega)
  have e5 : ∀ (I : Nat → Int32) (R : Nat → Nat) (j : Nat), aV G kd I R j = trV G (.ref (R j)) := fun I R j => by unfold aV; rw [if_neg (by omega), if_pos h5.1]
  unfold updV
  rw [e5, e5]
  show _ = trV G (.ref (upR _ r i.toNatClampNeg q r j))
  rw [upR_at]
  split
  · exact (trV_ref G (by omega)).symm
  · rfl
/-- the script is only read -/
theorem v_sald {i : Int32} (hd : decode M.2.1 pc = .ok (.iaload, 1)) (hp : pc + 1 = pc') {j : Nat} (hj : i.toNatClampNeg = j) (hb : vp_in i (lH h 1)) (kk : V G M d pc' loc (.int (h.2 1 j) :: st) h o h') : V G M d pc loc (.int i :: .ref 1 :: st) h o h' := by
  subst hp; subst hj
  refine ⟨kk.1, fun p l e R s m args below meth c H locs ls cells slots mc ms cx wr lr ll hl h1 h2 h3 h4 => ?_⟩
  have kk := kk.2 p l e R s m args below meth c H locs ls cells slots mc ms cx wr lr ll hl h1 h2 h3 h4
  obtain ⟨scr, x1, x2, x3, x4, x5⟩ := wr.2.2.2.2.2.2.2.2.1
  exact W.iald (a := G.2.1) cx.ex cx.by x1 x2 x3 (by rw [x4]; exact hb) (x5 _ (vp_lt hb)) rfl rfl hd kk
theorem v_slen {n : Int32} (hd : decode M.2.1 pc = .ok (.arraylength, 1)) (hp : pc + 1 = pc') (hn : (lH h 1).toInt32 = n) (kk : V G M d pc' loc (.int n :: st) h o h') : V G M d pc loc (.ref 1 :: st) h o h' := by
  subst hp
  refine ⟨kk.1, fun p l e R s m args below meth c H locs ls cells slots mc ms cx wr lr ll hl h1 h2 h3 h4 => ?_⟩
  have kk := kk.2 p l e R s m args below meth c H locs ls cells slots mc ms cx wr lr ll hl h1 h2 h3 h4
  obtain ⟨scr, x1, x2, x3, x4, x5⟩ := wr.2.2.2.2.2.2.2.2.1
  exact W.alen (a := G.2.1) cx.ex cx.by x1 x2 (by rw [x4]; exact hn) rfl rfl hd kk
theorem WR.top {s : State} {H : Heap} (wr : WR G h s H) : H.size = adG G (nH h) ∧ trV G (.ref (nH h)) = .ref H.size := by
  obtain ⟨w1, w2, -⟩ := wr
  have e : adG G (nH h) = H.size := by rw [adG_own G w1]; omega
  exact ⟨e.symm, by rw [trV_ref G (by omega), e]⟩
/-- a new object, all 0 and null -/
theorem v_new (ci : Nat) {idx : Nat} (hd : decode M.2.1 pc = .ok (.new idx, 3)) (hp : pc + 3 = pc') (hci : ci < 10) (hw : Cond.classLink M.1.cls idx (cT ci).1 ∈ TB) (hin : Cond.instantiable (cT ci).1 (cT ci).2.2 ∈ TB) (hini : Cond.initialized (cT ci).1 ∈ TB) (kk : V G M d pc' loc (.ref (nH h) :: st) (nwH h (10 + ci) 0 (cT ci).2.2) o h') : V G M d pc loc st h o h' := by
  subst hp
  obtain ⟨⟨kn, kz⟩, kk⟩ := kk
  rw [nwH_n] at kn
  have kz : zH h + (cT ci).2.2 ≤ zH h' := kz
  refine ⟨⟨by omega, by omega⟩, fun p l e R s m args below meth c H locs ls cells slots mc ms cx wr lr ll hl h1 h2 h3 h4 => ?_⟩
  have hKn := wr.2.2.2.2.2.2.1.1 ci hci
  obtain ⟨t1, t2⟩ := wr.top
  refine W.newcK cx.ex cx.by cx.ow (cx.ts _ hw) (cx.ts _ hin) (cx.ts _ hini) rfl hd (by omega) (by omega) hKn.2.1 rfl fun H' kC hkC e1 z1 o1 => ?_
  have k2 := kk p l e R s m args below meth c H' locs ls (cells + 1) (slots + (cT ci).2.2) mc ms cx (wr.push z1 o1 rfl (fun a ha => if_neg ha) (fun a ha => if_neg ha) (fun a ha => if_neg ha) (fun a ha => if_neg ha) ?_) lr ll hl (by rw [nwH_n]; omega) (by show _ + (zH h' - (zH h + _)) ≤ _; omega) h3 h4
  · rw [List.map_cons, t2] at k2
    exact k2
  · refine ⟨fun a b => by rw [nwH_k] at b; omega, fun a b => ?_, fun a => by rw [nwH_k] at a; omega⟩
    rw [nwH_k, nwH_i, nwH_r, show 10 + ci - 10 = ci by omega, ← t1]
    refine (u_born (cty ci) cx.ts (cT_in ci hci) hKn hkC e1 (cT_ty ci hci)).to (fun j hj => ?_)
    unfold oV
    by_cases q : (cty ci j).isReference = true
    · rw [if_pos q, ty_null q]; rfl
    · rw [if_neg q, cT_nt (by simpa using q)]; rfl
/-- a new array of ints, bytes, booleans or longs -/
theorem v_newa (k : Nat) {atype : ArrayType} {n : Int32} {N : Nat} (hd : decode M.2.1 pc = .ok (.newarray atype, 2)) (hp : pc + 2 = pc') (hk : 1 ≤ k ∧ k < 5) (ha : newarray.typeOf atype = aty k) (hw : Cond.arrayClass (aty k) ∈ TB) (hn : ¬ n < 0) (hN : n.toNatClampNeg = N) (hb : N ≤ 60000) (kk : V G M d pc' loc (.ref (nH h) :: st) (nwH h k N N) o h') : V G M d pc loc (.int n :: st) h o h' := by
  subst hp; subst hN
  obtain ⟨⟨kn, kz⟩, kk⟩ := kk
  rw [nwH_n] at kn
  have kz : zH h + n.toNatClampNeg ≤ zH h' := kz
  refine ⟨⟨by omega, by omega⟩, fun p l e R s m args below meth c H locs ls cells slots mc ms cx wr lr ll hl h1 h2 h3 h4 => ?_⟩
  obtain ⟨t1, t2⟩ := wr.top
  have hRA := (wr.2.2.2.2.2.2.1.2.1 k hk.1 (by omega)).2
  have hkk : k = 1 ∨ k = 2 ∨ k = 3 ∨ k = 4 := by omega
  have hcb : componentBytes (newarray.typeOf atype) ≤ 8 := by rw [ha]; rcases hkk with rfl | rfl | rfl | rfl <;> decide
  have hbb : n.toNatClampNeg * componentBytes (newarray.typeOf atype) ≤ 536870912 := Nat.le_trans (Nat.mul_le_mul hb hcb) (Nat.le_of_ble_eq_true rfl)
  refine W.newa cx.ex cx.by (by rw [ha]; exact cx.ts _ hw) rfl hd rfl hn hbb (by omega) (by omega) fun cA kA comp f1 f2 f3 => ?_
  have hcA : cA = G.2.2.2.2 k := by
    rw [ha] at f1
    rcases hkk with rfl | rfl | rfl | rfl <;> exact Option.some.inj (f1.symm.trans hRA)
  subst hcA
  have k2 := kk p l e R s m args below meth c (H.push { cls := G.2.2.2.2 k, slots := Array.replicate n.toNatClampNeg (defaultValue (newarray.typeOf atype)), vm := .none }) locs ls (cells + 1) (slots + n.toNatClampNeg) mc ms cx (wr.push (by simp) (fun q hq => by rw [Array.getElem?_push, if_neg (Nat.ne_of_lt hq)]) rfl (fun a ha => if_neg ha) (fun a ha => if_neg ha) (fun a ha => if_neg ha) (fun a ha => if_neg ha) ?_) lr ll hl (by rw [nwH_n]; omega) (by show _ + (zH h' - (zH h + _)) ≤ _; omega) h3 h4
  · rw [List.map_cons, t2] at k2
    exact k2
  · refine CR.arr (nwH_k _ _ _ _) hk.1 (by omega) (f := fun _ => defaultValue (newarray.typeOf atype)) ?_ (fun j => ?_) (fun _ j _ => ?_)
    · rw [← t1, nwH_l, ← arrV_new]; simp
    · rw [nwH_i, nwH_r, ha]; rcases hkk with rfl | rfl | rfl | rfl <;> rfl
    · rw [nwH_i]; rfl
/-- a new array of references to objects -/
theorem v_anewa (k ci : Nat) {idx : Nat} {n : Int32} {N : Nat} (hd : decode M.2.1 pc = .ok (.anewarray idx, 3)) (hp : pc + 3 = pc') (hk : (k = 5 ∧ ci = 5) ∨ (k = 6 ∧ ci = 1)) (hw : Cond.classLink M.1.cls idx (cT ci).1 ∈ TB) (hn : ¬ n < 0) (hN : n.toNatClampNeg = N) (hb : N ≤ 60000) (kk : V G M d pc' loc (.ref (nH h) :: st) (nwH h k N N) o h') : V G M d pc loc (.int n :: st) h o h' := by
  subst hp; subst hN
  obtain ⟨⟨kn, kz⟩, kk⟩ := kk
  rw [nwH_n] at kn
  have kz : zH h + n.toNatClampNeg ≤ zH h' := kz
  refine ⟨⟨by omega, by omega⟩, fun p l e R s m args below meth c H locs ls cells slots mc ms cx wr lr ll hl h1 h2 h3 h4 => ?_⟩
  obtain ⟨t1, t2⟩ := wr.top
  have hRA := (wr.2.2.2.2.2.2.1.2.1 k (by omega) (by omega)).2
  have hAO : va_AO (cT ci).1 s := by
    rcases hk with ⟨rfl, rfl⟩ | ⟨rfl, rfl⟩
    · exact wr.2.2.2.2.2.2.1.2.2.2.1.1
    · exact wr.2.2.2.2.2.2.1.2.2.2.1.2
  refine W.anew cx.ex cx.by cx.ow (cx.ts _ hw) hAO.use rfl hd rfl hn (by omega) (by omega) (by omega) fun cA kA comp f1 f2 f3 f4 => ?_
  have hcA : cA = G.2.2.2.2 k := by
    rcases hk with ⟨rfl, rfl⟩ | ⟨rfl, rfl⟩
    · obtain ⟨_, _, _, _, _, q⟩ := hRA; exact Option.some.inj (f1.symm.trans q)
    · obtain ⟨_, _, _, _, _, q⟩ := hRA; exact Option.some.inj (f1.symm.trans q)
  subst hcA
  have k2 := kk p l e R s m args below meth c (H.push { cls := G.2.2.2.2 k, slots := Array.replicate n.toNatClampNeg .null, vm := .none }) locs ls (cells + 1) (slots + n.toNatClampNeg) mc ms cx (wr.push (by simp) (fun q hq => by rw [Array.getElem?_push, if_neg (Nat.ne_of_lt hq)]) rfl (fun a ha => if_neg ha) (fun a ha => if_neg ha) (fun a ha => if_neg ha) (fun a ha => if_neg ha) ?_) lr ll hl (by rw [nwH_n]; omega) (by show _ + (zH h' - (zH h + _)) ≤ _; omega) h3 h4
  · rw [List.map_cons, t2] at k2
    exact k2
  · refine CR.arr (nwH_k _ _ _ _) (by omega) (by omega) (f := fun _ => .null) ?_ (fun j => ?_) (fun q => by omega)
    · rw [← t1, nwH_l, ← arrV_new]; simp
    · rw [nwH_r]; unfold aV; rw [if_neg (by omega), if_pos (by omega)]; rfl
end VA
