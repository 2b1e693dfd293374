/-! ===== ROWS OF V: returns, fields, arrays ===== -/
def ws_ok (L : List Cond) : Bool := L.all (fun w => decide (w ∈ lw_tbl) && goodWord w)
theorem ws_tb {L : List Cond} (h : ws_ok L = true) : ∀ w ∈ L, w ∈ TB := fun w hw => by
  have h1 := List.all_eq_true.mp h w hw
  simp only [Bool.and_eq_true, decide_eq_true_eq] at h1
  exact List.mem_filter.mpr h1
theorem cT_in0 : ws_ok (u_ws RX0 TX0 2) = true := by decide +kernel
theorem cT_in1 : ws_ok (u_ws RX1 TX1 2) = true := by decide +kernel
theorem cT_in2 : ws_ok (u_ws RX2 TX2 6) = true := by decide +kernel
theorem cT_in3 : ws_ok (u_ws RX3 TX3 10) = true := by decide +kernel
theorem cT_in4 : ws_ok (u_ws RX4 TX4 8) = true := by decide +kernel
theorem cT_in5 : ws_ok (u_ws RX5 TX5 16) = true := by decide +kernel
theorem cT_in6 : ws_ok (u_ws RX6 TX6 1) = true := by decide +kernel
theorem cT_in7 : ws_ok (u_ws RX7 TX7 4) = true := by decide +kernel
theorem cT_in8 : ws_ok (u_ws RX10 TX10 38) = true := by decide +kernel
theorem cT_in9 : ws_ok (u_ws RX9 TX9 17) = true := by decide +kernel
theorem cT_in : ∀ ci, ci < 10 → ∀ w ∈ u_ws (cT ci).1 (cT ci).2.1 (cT ci).2.2, w ∈ TB
  | 0, _ => ws_tb cT_in0
  | 1, _ => ws_tb cT_in1
  | 2, _ => ws_tb cT_in2
  | 3, _ => ws_tb cT_in3
  | 4, _ => ws_tb cT_in4
  | 5, _ => ws_tb cT_in5
  | 6, _ => ws_tb cT_in6
  | 7, _ => ws_tb cT_in7
  | 8, _ => ws_tb cT_in8
  | 9, _ => ws_tb cT_in9
  | n + 10, h => absurd h (by omega)
theorem cT_nm : ∀ ci, ci < 10 → ∀ a, a < (cT ci).2.2 → ∀ b, b < (cT ci).2.2 → a ≠ b → ((cT ci).2.1 a).2.1 ≠ ((cT ci).2.1 b).2.1
  | 0, _ => nmX0
  | 1, _ => nmX1
  | 2, _ => nmX2
  | 3, _ => nmX3
  | 4, _ => nmX4
  | 5, _ => nmX5
  | 6, _ => nmX6
  | 7, _ => nmX7
  | 8, _ => nmX10
  | 9, _ => nmX9
  | n + 10, h => absurd h (by omega)
theorem cT_ty : ∀ ci, ci < 10 → ∀ k, k < (cT ci).2.2 → parseFieldDescriptor ((cT ci).2.1 k).2.2.1 = some (cty ci k)
  | 0, _ => tyX0_ok
  | 1, _ => tyX1_ok
  | 2, _ => tyX2_ok
  | 3, _ => tyX3_ok
  | 4, _ => tyX4_ok
  | 5, _ => tyX5_ok
  | 6, _ => tyX6_ok
  | 7, _ => tyX7_ok
  | 8, _ => tyX10_ok
  | 9, _ => tyX9_ok
  | n + 10, h => absurd h (by omega)
theorem cT_nt {ci k : Nat} (h : (cty ci k).isReference = false) : cty ci k = .int := by
  revert h
  unfold cty
  split
  · unfold tyX0; split <;> intro h <;> first | rfl | (cases h)
  · unfold tyX1; split <;> intro h <;> first | rfl | (cases h)
  · unfold tyX2; split <;> intro h <;> first | rfl | (cases h)
  · unfold tyX3; split <;> intro h <;> first | rfl | (cases h)
  · unfold tyX4; split <;> intro h <;> first | rfl | (cases h)
  · unfold tyX5; split <;> intro h <;> first | rfl | (cases h)
  · unfold tyX6; first | (split <;> intro h <;> first | rfl | (cases h)) | (intro h; cases h)
  · unfold tyX7; split <;> intro h <;> first | rfl | (cases h)
  · unfold tyX10; split <;> intro h <;> first | rfl | (cases h)
  · unfold tyX9; split <;> intro h <;> first | rfl | (cases h)
def upI (I : Nat → Nat → Int32) (r i : Nat) (v : Int32) : Nat → Nat → Int32 := fun a j => if a = r ∧ j = i then v else I a j
def upR (R : Nat → Nat → Nat) (r i q : Nat) : Nat → Nat → Nat := fun a j => if a = r ∧ j = i then q else R a j
theorem upI_ne {I : Nat → Nat → Int32} {r i : Nat} {v : Int32} {a : Nat} (h : a ≠ r) : upI I r i v a = I a := by funext j; simp [upI, h]
theorem upR_ne {I : Nat → Nat → Nat} {r i : Nat} {v : Nat} {a : Nat} (h : a ≠ r) : upR I r i v a = I a := by funext j; simp [upR, h]
theorem upI_at {I : Nat → Nat → Int32} {r i : Nat} {v : Int32} (j : Nat) : upI I r i v r j = if j = i then v else I r j := by simp [upI]
theorem upR_at {I : Nat → Nat → Nat} {r i : Nat} {v : Nat} (j : Nat) : upR I r i v r j = if j = i then v else I r j := by simp [upR]
abbrev sI (h : Hp) (r i : Nat) (v : Int32) : Hp := (h.1, upI h.2 r i v)
abbrev sR (h : Hp) (r i q : Nat) : Hp := ((h.1.1, h.1.2.1, h.1.2.2.1, h.1.2.2.2.1, upR h.1.2.2.2.2 r i q), h.2)
theorem vp_lt {i : Int32} {n : Nat} (h : vp_in i n) : i.toNatClampNeg < n := by
  unfold vp_in at h
  omega
section VH
variable {G : GG} {M : MR} {d pc pc' : Nat} {loc loc' st st' : List Value} {h : Hp} {o : OU} {h' : Hp}
theorem v_iret {x : Int32} (hd : decode M.2.1 pc = .ok (.ireturn, 1)) (hr : M.2.2.2.1 = some .int) (k : o = .inl (some (.int x)) ∧ h' = h) : V G M d pc loc [.int x] h o h' := by
  obtain ⟨rfl, rfl⟩ := k
  refine ⟨⟨Nat.le_refl _, Nat.le_refl _⟩, fun p l e R s m args below meth c H locs ls cells slots mc ms cx wr lr ll hl h1 h2 h3 h4 => ?_⟩
  have hlk := cx.lk
  refine vx_ret (W.widen (k := mc) (n := ms) (by omega) (by omega) ?_)
  exact W.iret cx.ex cx.by (cx.rt.trans hr) (fun t ht hW => ⟨⟨_, rfl, rfl⟩, by rw [ht]; exact WH.of wr hW.alike⟩) hl hd
theorem v_zret {x : Int32} (hd : decode M.2.1 pc = .ok (.ireturn, 1)) (hr : M.2.2.2.1 = some .boolean) (hz : x = 0 ∨ x = 1) (k : o = .inl (some (.int x)) ∧ h' = h) : V G M d pc loc [.int x] h o h' := by
  obtain ⟨rfl, rfl⟩ := k
  refine ⟨⟨Nat.le_refl _, Nat.le_refl _⟩, fun p l e R s m args below meth c H locs ls cells slots mc ms cx wr lr ll hl h1 h2 h3 h4 => ?_⟩
  have hlk := cx.lk
  refine vx_ret (W.widen (k := mc) (n := ms) (by omega) (by omega) ?_)
  exact W.zret cx.ex cx.by (cx.rt.trans hr) (by rcases hz with rfl | rfl <;> rfl) (fun t ht hW => ⟨⟨_, rfl, rfl⟩, by rw [ht]; exact WH.of wr hW.alike⟩) hl hd
theorem v_vret (hd : decode M.2.1 pc = .ok (.return_, 1)) (hr : M.2.2.2.1 = none) (k : o = .inl none ∧ h' = h) : V G M d pc loc [] h o h' := by
  obtain ⟨rfl, rfl⟩ := k
  refine ⟨⟨Nat.le_refl _, Nat.le_refl _⟩, fun p l e R s m args below meth c H locs ls cells slots mc ms cx wr lr ll hl h1 h2 h3 h4 => ?_⟩
  have hlk := cx.lk
  refine vx_ret (W.widen (k := mc) (n := ms) (by omega) (by omega) ?_)
  exact W.vret cx.ex cx.by (cx.rt.trans hr) (fun t ht hW => ⟨⟨none, rfl, rfl⟩, by rw [ht]; exact WH.of wr hW.alike⟩) hl hd
/-- a field of ints -/
theorem v_getI (ci k : Nat) {idx r : Nat} (hd : decode M.2.1 pc = .ok (.getfield idx, 3)) (hp : pc + 3 = pc') (hci : ci < 10) (hkN : k < (cT ci).2.2) (hty : (cty ci k).isReference = false) (hw : Cond.fieldLink M.1.cls idx ((cT ci).2.1 k).1 ((cT ci).2.1 k).2.1 ((cT ci).2.1 k).2.2.1 ∈ TB)
    (hk : kH h r = 10 + ci) (kk : V G M d pc' loc (.int (h.2 r k) :: st) h o h') : V G M d pc loc (.ref r :: st) h o h' := by
  subst hp
  refine ⟨kk.1, fun p l e R s m args below meth c H locs ls cells slots mc ms cx wr lr ll hl h1 h2 h3 h4 => ?_⟩
  obtain ⟨r4, rn⟩ := wr.in hk (by omega) (by omega)
  have kk := kk.2 p l e R s m args below meth c H locs ls cells slots mc ms cx wr lr ll hl h1 h2 h3 h4
  obtain ⟨w1, w2, w3, w4, w5, w6, w7, w8, w9⟩ := wr
  obtain ⟨cell, q1, q2, q3, q4⟩ := (w6 r r4 rn).2.1 (by omega) (by omega)
  rw [show kH h r - 10 = ci by omega] at q2 q4
  obtain ⟨hS, hfc, kC, hkC, hkind⟩ := w7.1 ci hci
  obtain ⟨cf, kf, fi, f, hi, hsl⟩ := hS k hkN
  rw [List.map_cons, trV_ref G (by omega)]
  refine W.getf cx.ex cx.by cx.ow (cx.ts _ hw) hi (u_facts hfc hkC (u_lays cx.ts (cT_in ci hci) hkN) hi).1 q1 (by rw [q3]; exact fun h => by cases h) (v := .int (h.2 r k)) ?_ rfl rfl hd kk
  rw [hsl, q4 k hkN]
  unfold oV
  rw [hty]
  rfl
/-- a field of references -/
theorem v_getR (ci k : Nat) {idx r : Nat} (hd : decode M.2.1 pc = .ok (.getfield idx, 3)) (hp : pc + 3 = pc') (hci : ci < 10) (hkN : k < (cT ci).2.2) (hty : (cty ci k).isReference = true) (hw : Cond.fieldLink M.1.cls idx ((cT ci).2.1 k).1 ((cT ci).2.1 k).2.1 ((cT ci).2.1 k).2.2.1 ∈ TB)
    (hk : kH h r = 10 + ci) (kk : V G M d pc' loc (.ref (rH h r k) :: st) h o h') : V G M d pc loc (.ref r :: st) h o h' := by
  subst hp
  refine ⟨kk.1, fun p l e R s m args below meth c H locs ls cells slots mc ms cx wr lr ll hl h1 h2 h3 h4 => ?_⟩
  obtain ⟨r4, rn⟩ := wr.in hk (by omega) (by omega)
  have kk := kk.2 p l e R s m args below meth c H locs ls cells slots mc ms cx wr lr ll hl h1 h2 h3 h4
  obtain ⟨w1, w2, w3, w4, w5, w6, w7, w8, w9⟩ := wr
  obtain ⟨cell, q1, q2, q3, q4⟩ := (w6 r r4 rn).2.1 (by omega) (by omega)
  rw [show kH h r - 10 = ci by omega] at q2 q4
  obtain ⟨hS, hfc, kC, hkC, hkind⟩ := w7.1 ci hci
  obtain ⟨cf, kf, fi, f, hi, hsl⟩ := hS k hkN
  rw [List.map_cons, trV_ref G (by omega)]
  refine W.getf cx.ex cx.by cx.ow (cx.ts _ hw) hi (u_facts hfc hkC (u_lays cx.ts (cT_in ci hci) hkN) hi).1 q1 (by rw [q3]; exact fun h => by cases h) (v := trV G (.ref (rH h r k))) ?_ rfl rfl hd kk
  rw [hsl, q4 k hkN]
  unfold oV
  rw [hty]
  rfl
theorem cT_apart {s : State} {args : Array Value} (ts : ∀ w ∈ TB, w.before args s = true) (kr : KR G s) {ci : Nat} (hci : ci < 10) : ∀ x y, x < (cT ci).2.2 → y < (cT ci).2.2 → x ≠ y → (G.2.2.2.1 ci) x ≠ (G.2.2.2.1 ci) y := by
  intro x y hx hy hne
  obtain ⟨hS, -⟩ := kr.1 ci hci
  obtain ⟨_, _, _, fa, hia, ea⟩ := hS x hx
  obtain ⟨_, _, _, fb, hib, eb⟩ := hS y hy
  rw [← ea, ← eb]
  refine u_apart (u_lays ts (cT_in ci hci) hx) (u_lays ts (cT_in ci hci) hy) hia hib ?_
  rw [(State.fieldFound?_type hia (cT_ty ci hci x hx)).1, (State.fieldFound?_type hib (cT_ty ci hci y hy)).1]
  exact cT_nm ci hci x hx y hy hne
theorem CR.obj {h2 : Hp} {H' : Heap} {r ci k : Nat} (hk : kH h2 r = 10 + ci) (hci : ci < 10) {cell : Cell} {I : Nat → Int32} {R : Nat → Nat} {v : Value} {j : Nat} (e1 : H'[adG G r]? = some (cell.setSlot (G.2.2.2.1 ci k) v)) (q2 : cell.cls = G.2.2.1 ci) (q3 : cell.vm = .none)
    (q4 : ∀ k, k < (cT ci).2.2 → cell.slots[G.2.2.2.1 ci k]? = some (oV G ci I R k)) (hap : ∀ x y, x < (cT ci).2.2 → y < (cT ci).2.2 → x ≠ y → (G.2.2.2.1 ci) x ≠ (G.2.2.2.1 ci) y) (hkN : k < (cT ci).2.2) (hv : ∀ j, j < (cT ci).2.2 → updV (oV G ci I R) k v j = oV G ci (h2.2 r) (rH h2 r) j) : CR G h2 H' r := by
  refine ⟨fun a b => by omega, fun a b => ?_, fun a => by omega⟩
  rw [show kH h2 r - 10 = ci by omega]
  exact t_OB.to (V := updV (oV G ci I R) k v) ⟨_, e1, q2, q3, t_set q4 hap hkN v⟩ hv
/-- an int is put into a field -/
theorem v_putI (ci k : Nat) {idx r : Nat} {x : Int32} (hd : decode M.2.1 pc = .ok (.putfield idx, 3)) (hp : pc + 3 = pc') (hci : ci < 10) (hkN : k < (cT ci).2.2) (hty : (cty ci k).isReference = false) (hfin : ((cT ci).2.1 k).2.2.2 = false) (hw : Cond.fieldLink M.1.cls idx ((cT ci).2.1 k).1 ((cT ci).2.1 k).2.1 ((cT ci).2.1 k).2.2.1 ∈ TB)
    (hk : kH h r = 10 + ci) (kk : V G M d pc' loc st (sI h r k x) o h') : V G M d pc loc (.int x :: .ref r :: st) h o h' := by
  subst hp
  refine ⟨kk.1, fun p l e R s m args below meth c H locs ls cells slots mc ms cx wr lr ll hl h1 h2 h3 h4 => ?_⟩
  obtain ⟨r4, rn⟩ := wr.in hk (by omega) (by omega)
  have wr0 := wr
  obtain ⟨w1, w2, w3, w4, w5, w6, w7, w8, w9⟩ := wr
  obtain ⟨cell, q1, q2, q3, q4⟩ := (w6 r r4 rn).2.1 (by omega) (by omega)
  rw [show kH h r - 10 = ci by omega] at q2 q4
  obtain ⟨hS, hfc, kC, hkC, hkind⟩ := w7.1 ci hci
  obtain ⟨cf, kf, fi, f, hi, hsl⟩ := hS k hkN
  have hlay := cx.ts _ (cT_in ci hci _ (u_in_lay hkN))
  unfold u_lay at hlay
  rw [if_neg (by rw [hfin]; decide)] at hlay
  have hst := (u_facts hfc hkC (u_lays cx.ts (cT_in ci hci) hkN) hi).1
  have hint := cT_nt hty
  have h6 := u_store hfc hkC hkind hlay hi (ty := .int) (v := .int x) (by rw [cT_ty ci hci k hkN, hint]) rfl rfl
  rw [List.map_cons, List.map_cons, trV_ref G (by omega)]
  refine W.putK cx.ex cx.by (f := f) ⟨cx.ow, cx.ts _ hw, ⟨_, _, _, hi⟩, hst⟩ (v := .int x) (by rw [q2]; exact h6) q1 q3 (by rw [hsl]; exact k2_hasslot (q4 k hkN)) rfl rfl hd fun H' e1 e2 e3 => ?_
  rw [hsl] at e1
  refine kk.2 p l e R s m args below meth c H' _ ls cells slots mc ms cx (wr0.set r4 e2 e3 rfl rfl rfl (fun a ha => upI_ne ha) (fun a ha => rfl) ?_) lr ll ?_ h1 h2 h3 h4
  · refine CR.obj (j := 0) hk hci e1 q2 q3 q4 (cT_apart cx.ts w7 hci) hkN (fun j hj => ?_)
    unfold updV oV
    by_cases ej : j = k
    · subst ej; rw [if_pos rfl, hty]; show _ = Value.int (upI h.2 r j x r j); rw [upI_at, if_pos rfl]
    · rw [if_neg ej]; show _ = if _ then _ else Value.int (upI h.2 r k x r j); rw [upI_at, if_neg ej]
  · intro z hz
    rcases List.mem_append.mp hz with q | q
    · exact hl z q
    · cases List.mem_singleton.mp q; exact adG_ge G r4
theorem fits_ref {ty : FieldType} (h : ty.isReference = true) (q : Nat) : narrow ty (trV G (.ref q)) = trV G (.ref q) ∧ fits ty (trV G (.ref q)) = true := by
  unfold trV
  cases ty <;> first | (cases h; done) | (dsimp only; split <;> exact ⟨rfl, rfl⟩)
/-- a reference is put into a final field, by a constructor -/
theorem v_putF (ci k : Nat) {idx r q : Nat} (hd : decode M.2.1 pc = .ok (.putfield idx, 3)) (hp : pc + 3 = pc') (hci : ci < 10) (hkN : k < (cT ci).2.2) (hty : (cty ci k).isReference = true) (hfin : ((cT ci).2.1 k).2.2.2 = true) (hin : M.1.name = "<init>") (hdecl : ((cT ci).2.1 k).1 = M.1.cls) (hw : Cond.fieldLink M.1.cls idx ((cT ci).2.1 k).1 ((cT ci).2.1 k).2.1 ((cT ci).2.1 k).2.2.1 ∈ TB)
    (hk : kH h r = 10 + ci) (kk : V G M d pc' loc st (sR h r k q) o h') : V G M d pc loc (.ref q :: .ref r :: st) h o h' := by
  subst hp
  refine ⟨kk.1, fun p l e R s m args below meth c H locs ls cells slots mc ms cx wr lr ll hl h1 h2 h3 h4 => ?_⟩
  obtain ⟨r4, rn⟩ := wr.in hk (by omega) (by omega)
  have wr0 := wr
  obtain ⟨w1, w2, w3, w4, w5, w6, w7, w8, w9⟩ := wr
  obtain ⟨cell, q1, q2, q3, q4⟩ := (w6 r r4 rn).2.1 (by omega) (by omega)
  rw [show kH h r - 10 = ci by omega] at q2 q4
  obtain ⟨hS, hfc, kC, hkC, hkind⟩ := w7.1 ci hci
  obtain ⟨cf, kf, fi, f, hi, hsl⟩ := hS k hkN
  have hlay := cx.ts _ (cT_in ci hci _ (u_in_lay hkN))
  unfold u_lay at hlay
  rw [if_pos hfin] at hlay
  have hst := (u_facts hfc hkC (u_lays cx.ts (cT_in ci hci) hkN) hi).1
  have hcf : m.cls = cf := by
    obtain ⟨_, _, c', _, _, _, -, -, hf', -, -, -, hown2, -⟩ := Cond.laysFinal_spec hlay
    have e1 : c' = cf := by have := hi.symm.trans hf'; simp at this; exact this.1.symm
    rw [hdecl] at hown2
    rw [← e1]; exact Option.some.inj (cx.ow.symm.trans hown2)
  obtain ⟨f1, f2⟩ := fits_ref (G := G) hty q
  have h6 := u_fits hfc hkC hkind (Or.inr hlay) hi (cT_ty ci hci k hkN) f1 f2
  rw [List.map_cons, List.map_cons, trV_ref G (q := r) (by omega)]
  refine W.putFinK cx.ex cx.by cx.ow (cx.ts _ hw) hi hst hcf (cx.nm.trans hin) (v := trV G (.ref q)) (by rw [q2]; exact h6) q1 q3 (by rw [hsl]; exact k2_hasslot (q4 k hkN)) rfl rfl hd fun H' e1 e2 e3 => ?_
  rw [hsl] at e1
  refine kk.2 p l e R s m args below meth c H' _ ls cells slots mc ms cx (wr0.set r4 e2 e3 rfl rfl rfl (fun a ha => rfl) (fun a ha => upR_ne ha) ?_) lr ll ?_ h1 h2 h3 h4
  · refine CR.obj (j := 0) hk hci e1 q2 q3 q4 (cT_apart cx.ts w7 hci) hkN (fun j hj => ?_)
    unfold updV oV
    by_cases ej : j = k
    · subst ej; rw [if_pos rfl, hty]; show _ = trV G (.ref (upR _ r j q r j)); rw [upR_at, if_pos rfl]
    · rw [if_neg ej]; show _ = if _ then trV G (.ref (upR _ r k q r j)) else _; rw [upR_at, if_neg ej]
  · intro z hz
    rcases List.mem_append.mp hz with q | q
    · exact hl z q
    · cases List.mem_singleton.mp q; exact adG_ge G r4
end VH
