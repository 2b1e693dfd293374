/-! ===== ROWS OF V: constructors, copies of arrays, Math ===== -/
def cpI (I : Nat → Nat → Int32) (src dst sp dp n : Nat) : Nat → Nat → Int32 := fun a j => if a = dst ∧ dp ≤ j ∧ j < dp + n then I src (sp + (j - dp)) else I a j
theorem cpI_ne {I : Nat → Nat → Int32} {src dst sp dp n a : Nat} (h : a ≠ dst) : cpI I src dst sp dp n a = I a := by funext j; simp [cpI, h]
theorem nfw_ok : nativeFrameWords "java/lang/System" "arraycopy" 5 ≤ 40 := by decide +kernel
section VC
variable {G : GG} {M M1 : MR} {d d1 pc pc' : Nat} {loc loc' st st' : List Value} {h h1 : Hp} {o : OU} {h' : Hp}
theorem VM.met {l : Launch} {as : List Value} {v : Option Value} (hc : VM G M1 d1 as h (.inl v) h1) (hl : l.stackTraces = false) : Met l M1.1 (wsM M1) (rmM d1 h h1) (VPc G as h) (VQc G (.inl v) h1) (nH h1 - nH h) (zH h1 - zH h) (fun q => G.1 ≤ q) := by
  intro p e ha hcs hk s m args below hf happ hP hK
  obtain ⟨n, oc, a, b, c, hQ⟩ := hc.2 l hl p e ha hcs hk s m args below hf happ hP hK
  refine ⟨n, oc, a, b, c, ?_⟩
  rcases hQ with hQ | ⟨q, ho, E, ce, L, hx, -⟩
  · exact hQ
  · exact absurd hx.1 (fun q => by cases q)
/-- a constructor of a class -/
theorem v_callI {index n r : Nat} {as rest : List Value} (hd : decode M.2.1 pc = .ok (.invokespecial index, 3)) (hp : pc + 3 = pc') (hin : M1.1.name = "<init>") (hrt : M1.2.2.2.1 = none) (ok : okC M.1.cls index M1.1 n) (hcode : Cond.code M1.1 M1.2.1 M1.2.2.1 M1.2.2.2.1 ∈ TB) (hins : Cond.instanceMethod M1.1 ∈ TB) (hm : M1.2.2.1 ≤ 45) (hd1 : d1 + 1 ≤ d) (hn : as.length = n) (hst : as.reverse ++ .ref r :: rest = st) (hcat : (rest.map fun v => v.category).sum ≤ 8)
    (hr0 : r ≠ 0) (hc : VM G M1 d1 (.ref r :: as) h (.inl none) h1) (k : V G M d pc' loc rest h1 o h') : V G M d pc loc st h o h' := by
  subst hp; subst hst
  refine ⟨⟨Nat.le_trans hc.1.1 k.1.1, Nat.le_trans hc.1.2 k.1.2⟩, fun p l e R s m args below meth c H locs ls cells slots mc ms cx wr lr ll hl c1 c2 c3 c4 => ?_⟩
  have hfr := cx.fr
  have hlo := cx.lo
  have k1 := k.1
  have ht := trV_ref G hr0
  have hcb := callB_mk (M1 := M1) (R := R) (s := s) (args := args) (own := M.1.cls) (index := index) (n := n) (d1 := d1) (h := h) (h1 := h1) cx.ts hcode ok ⟨by omega, by omega⟩ hm
  rw [hrt] at hcb
  have hr := va_runI (p := p) (l := l) (e := e) (R := R) (s := s) (m := m) (args := args) (below := below) (meth := meth) (c := c) (H := H) (locs := locs) (cells := cells) (slots := slots) (Ts := TB) (own := M.1.cls) (nL := M.2.2.1) (cc := M.2.1) (g := F0 m pc ls ((as.reverse ++ .ref r :: rest).map (trV G))) (b := adG G r) (As := as.map (trV G)) (rest := rest.map (trV G))
    ⟨cx.ex, cx.by, cx.ml, cx.ow, cx.ts⟩ (hc.met cx.st) ⟨hcb, hin, cx.ts _ hins⟩ ⟨VPc.blind G _ h, fun U hU hW => ⟨by rw [List.map_cons, ht], by rw [hU]; exact wr.moved hW⟩⟩
    rfl (by rw [List.length_map]; exact hn) (by rw [← ll]; exact lr.1) (by simp [ht]) (by show 2 * 0 + _ ≤ 8; rw [cat_sum]; omega) hd ⟨by have := hc.1.1; omega, by have := hc.1.2; omega⟩
  exact run_ret (v := none) (fun T hT X => Or.inl (hr T hT X)) cx wr lr ll hl rfl rfl hc.1.1 hc.1.2 k c1 c2 c3 c4
/-- a private constructor of a nest mate -/
theorem v_callN (host : String) {index n r : Nat} {as rest : List Value} (hd : decode M.2.1 pc = .ok (.invokespecial index, 3)) (hp : pc + 3 = pc') (hin : M1.1.name = "<init>") (hrt : M1.2.2.2.1 = none) (hnw : (M.1.cls, index, M1.1, host) ∈ nestW) (hini : Cond.initialized M1.1.cls ∈ TB) (hdd : M1.1.cls ≠ "java/lang/invoke/MethodHandle" ∧ M1.1.cls ≠ "java/lang/invoke/VarHandle" ∧ (parseMethodDescriptor M1.1.desc).map (fun d => d.parameters.length) = some n) (hcode : Cond.code M1.1 M1.2.1 M1.2.2.1 M1.2.2.2.1 ∈ TB) (hins : Cond.instanceMethod M1.1 ∈ TB) (hm : M1.2.2.1 ≤ 45) (hd1 : d1 + 1 ≤ d) (hn : as.length = n) (hst : as.reverse ++ .ref r :: rest = st) (hcat : (rest.map fun v => v.category).sum ≤ 8)
    (hr0 : r ≠ 0) (hc : VM G M1 d1 (.ref r :: as) h (.inl none) h1) (k : V G M d pc' loc rest h1 o h') : V G M d pc loc st h o h' := by
  subst hp; subst hst
  refine ⟨⟨Nat.le_trans hc.1.1 k.1.1, Nat.le_trans hc.1.2 k.1.2⟩, fun p l e R s m args below meth c H locs ls cells slots mc ms cx wr lr ll hl c1 c2 c3 c4 => ?_⟩
  have hfr := cx.fr
  have hlo := cx.lo
  have k1 := k.1
  have ht := trV_ref G hr0
  have hcb : va_CN R s args M.1.cls index M1.1 host M1.2.1 M1.2.2.1 M1.2.2.2.1 (wsM M1) (rmM d1 h h1) (nH h1 - nH h) (zH h1 - zH h) n :=
    va_cnB n cx.ts (gd_in hcode) rfl rfl rfl (wr.2.2.2.2.2.2.1.2.2.1 _ hnw) (cx.ts _ hini) hdd ⟨by show d1 + 1 ≤ _; omega, by show 8 + (M1.2.2.1 + 11) + 64 * d1 ≤ _; omega⟩
  rw [hrt] at hcb
  have hr := va_runIN (p := p) (l := l) (e := e) (R := R) (s := s) (m := m) (args := args) (below := below) (meth := meth) (c := c) (H := H) (locs := locs) (cells := cells) (slots := slots) (Ts := TB) (own := M.1.cls) (nL := M.2.2.1) (cc := M.2.1) (g := F0 m pc ls ((as.reverse ++ .ref r :: rest).map (trV G))) (b := adG G r) (As := as.map (trV G)) (rest := rest.map (trV G))
    ⟨cx.ex, cx.by, cx.ml, cx.ow, cx.ts⟩ (hc.met cx.st) ⟨hcb, hin, cx.ts _ hins⟩ ⟨VPc.blind G _ h, fun U hU hW => ⟨by rw [List.map_cons, ht], by rw [hU]; exact wr.moved hW⟩⟩
    rfl (by rw [List.length_map]; exact hn) (by rw [← ll]; exact lr.1) (by simp [ht]) (by show 2 * 0 + _ ≤ 8; rw [cat_sum]; omega) hd ⟨by have := hc.1.1; omega, by have := hc.1.2; omega⟩
  exact run_ret (v := none) (fun T hT X => Or.inl (hr T hT X)) cx wr lr ll hl rfl rfl hc.1.1 hc.1.2 k c1 c2 c3 c4
theorem v_objInit {index r : Nat} (hd : decode M.2.1 pc = .ok (.invokespecial index, 3)) (hp : pc + 3 = pc') (hw : Cond.methodLink M.1.cls index objectInit ∈ TB) (hi : Cond.instanceMethod objectInit ∈ TB) (hco : Cond.code objectInit ⟨#[0xb1]⟩ 1 none ∈ TB) (hd1 : 1 ≤ d) (hcat : (st.map fun v => v.category).sum ≤ 8) (hr0 : r ≠ 0) (k : V G M d pc' loc st h o h') : V G M d pc loc (.ref r :: st) h o h' := by
  subst hp
  refine ⟨k.1, fun p l e R s m args below meth c H locs ls cells slots mc ms cx wr lr ll hl c1 c2 c3 c4 => ?_⟩
  have hfr := cx.fr
  have hlo := cx.lo
  have k2 := k.2 p l e R s m args below meth c H locs ls cells slots mc ms cx wr lr ll hl c1 c2 c3 c4
  rw [List.map_cons, trV_ref G hr0]
  exact W.objInit cx.ex cx.by cx.ow (cx.ts _ hw) (cx.ts _ hi) (cx.ts _ hco) rfl (by rw [cx.ml, ← ll]; exact lr.1) rfl hd (by omega) (by show 2 * 0 + ((st.map (trV G)).map fun v => v.category).sum + 12 ≤ _; rw [cat_sum]; omega) k2
/-- System.arraycopy between arrays of ints, or of bytes -/
theorem v_copy (kd : Nat) {index src dst : Nat} {sp dp n : Int32} (hd : decode M.2.1 pc = .ok (.invokestatic index, 3)) (hp : pc + 3 = pc') (hw : Cond.methodLink M.1.cls index arraycopyName ∈ TB) (hna : Cond.native arraycopyName ∈ TB) (hsta : Cond.static arraycopyName ∈ TB) (hini : Cond.initialized "java/lang/System" ∈ TB) (hd1 : 1 ≤ d) (hcat : (st.map fun v => v.category).sum ≤ 8) (hkd : kd = 1 ∨ kd = 2)
    (hks : kH h src = kd) (hkt : kH h dst = kd) {sj dj nj : Nat} (hsj : sp.toNatClampNeg = sj) (hdj : dp.toNatClampNeg = dj) (hnj : n.toNatClampNeg = nj) (h1 : ¬ sp < 0) (h2 : ¬ dp < 0) (h3 : ¬ n < 0) (h4 : sj + nj ≤ lH h src) (h5 : dj + nj ≤ lH h dst)
    (k : V G M d pc' loc st (h.1, cpI h.2 src dst sj dj nj) o h') : V G M d pc loc (.int n :: .int dp :: .ref dst :: .int sp :: .ref src :: st) h o h' := by
  subst hp; subst hsj; subst hdj; subst hnj
  refine ⟨k.1, fun p l e R s m args below meth c H locs ls cells slots mc ms cx wr lr ll hl c1 c2 c3 c4 => ?_⟩
  have hfr := cx.fr
  have hlo := cx.lo
  have nn : ∀ z : Int32, ¬ z < 0 → z.toInt = (z.toNatClampNeg : Int) := by
    intro z hz
    have hz0 : (0 : Int) ≤ z.toInt := by
      have := Int32.not_lt.mp hz
      simpa using Int32.le_iff_toInt_le.mp this
    show z.toInt = ((z.toInt.toNat : Nat) : Int)
    omega
  have wr0 := wr
  obtain ⟨s4, sn, ts, hcs, hAs, -⟩ := wr.arr hks (by omega) (by omega)
  obtain ⟨t4, tn, tt, hct, hAt, -⟩ := wr.arr hkt (by omega) (by omega)
  have eA : ∀ (I : Nat → Int32) (R : Nat → Nat), aV G kd I R = fun j => .int (I j) := fun I R => by rcases hkd with rfl | rfl <;> rfl
  rw [eA] at hcs hct
  have hfit : ∀ i, i < n.toNatClampNeg → fits (aty kd) (.int (h.2 src (sp.toNatClampNeg + i))) = true := fun i hi => by
    rcases hkd with rfl | rfl
    · rfl
    · exact (wr0.2.2.2.2.2.1 src s4 sn).2.2 hks _ (by omega)
  have hprim : refKind (aty kd) = false := by rcases hkd with rfl | rfl <;> rfl
  intro T hT X
  obtain ⟨-, k0, hk0, cm0, hkk0⟩ := hAs (lH h src) (fun j => .int (h.2 src j))
  obtain ⟨-, k1, hk1, cm1, hkk1⟩ := hAt (lH h dst) (fun j => .int (h.2 dst j))
  have hnf := nfw_ok
  obtain ⟨vm', X', step⟩ := X.arraycopy cx.ex cx.ow (cx.ts _ hw) (cx.ts _ hna) (cx.ts _ hsta) (cx.ts _ hini) (src := adG G src) (dst := adG G dst) (cs := arrV (G.2.2.2.2 kd) (lH h src) (fun j => .int (h.2 src j))) (cd := arrV (G.2.2.2.2 kd) (lH h dst) (fun j => .int (h.2 dst j))) (srcPos := sp) (destPos := dp) (n := n) (by rw [hT]; exact hcs) (by rw [hT]; exact hct)
    (fun _ h => by cases h) (fun _ h => by cases h) (fun h => by cases h) (fun h => by cases h) hk0 hk1 hkk0 hkk1 (by simp [hprim]) h1 h2 h3
    (by rw [nn sp h1, nn n h3, arrV_size]; omega)
    (by rw [nn dp h2, nn n h3, arrV_size]; omega)
    (fun vm₁ _ i hi => by
      have e : (arrV (G.2.2.2.2 kd) (lH h src) (fun j => .int (h.2 src j))).slots.getD (sp.toNatClampNeg + i) .null = .int (h.2 src (sp.toNatClampNeg + i)) := by
        rw [Array.getD_eq_getD_getElem?, arrV_read _ _ (by omega)]
        rfl
      refine ⟨?_, ?_⟩
      · rw [e]
        exact hfit i hi
      · rw [e]
        exact trivial)
    (g := F0 m pc ls ((Value.int n :: .int dp :: .ref dst :: .int sp :: .ref src :: st).map (trV G))) rfl (by rw [cx.ml, ← ll]; exact lr.1) (rest := st.map (trV G)) (by show trV G _ :: trV G _ :: trV G (.ref dst) :: trV G _ :: trV G (.ref src) :: _ = _; rw [ts, tt]; rfl) (by rw [cx.by]; exact hd) (by omega) (by show 2 * 0 + ((st.map (trV G)).map fun v => v.category).sum + _ ≤ _; rw [cat_sum]; omega)
  have e1 : copied (arrV (G.2.2.2.2 kd) (lH h src) (fun j => .int (h.2 src j))) (arrV (G.2.2.2.2 kd) (lH h dst) (fun j => .int (h.2 dst j))) sp dp n = arrV (G.2.2.2.2 kd) (lH h dst) (fun j => .int (va_cpy (h.2 src) (h.2 dst) sp.toNatClampNeg dp.toNatClampNeg n.toNatClampNeg j)) := va_copied (fun z => .int z) _ _ (h.2 src) (h.2 dst) h4
  rw [e1] at X' step
  have hheap : ((T.setVm vm').setCell (adG G dst) (arrV (G.2.2.2.2 kd) (lH h dst) (fun j => .int (va_cpy (h.2 src) (h.2 dst) sp.toNatClampNeg dp.toNatClampNeg n.toNatClampNeg j)))).heap = H.setIfInBounds (adG G dst) (arrV (G.2.2.2.2 kd) (lH h dst) (fun j => .int (va_cpy (h.2 src) (h.2 dst) sp.toNatClampNeg dp.toNatClampNeg n.toNatClampNeg j))) := by rw [← hT]; rfl
  have hlt : adG G dst < H.size := (Array.getElem?_eq_some_iff.mp hct).1
  obtain ⟨t, a1, b1⟩ := k.2 p l e R s m args below meth c (H.setIfInBounds (adG G dst) (arrV (G.2.2.2.2 kd) (lH h dst) (fun j => .int (va_cpy (h.2 src) (h.2 dst) sp.toNatClampNeg dp.toNatClampNeg n.toNatClampNeg j)))) _ ls cells slots mc ms cx
    (wr0.set t4 (by simp) (fun q hq => by simp [Array.getElem?_setIfInBounds, Ne.symm hq]) rfl rfl rfl (fun a ha => cpI_ne ha) (fun a ha => rfl) (by
      refine CR.arr hkt (by omega) (by omega) (f := fun j => .int (va_cpy (h.2 src) (h.2 dst) sp.toNatClampNeg dp.toNatClampNeg n.toNatClampNeg j)) (by simp [Array.getElem?_setIfInBounds, hlt]) (fun j => ?_) (fun q j hj => ?_)
      · rw [eA]
        show Value.int _ = Value.int (cpI h.2 src dst sp.toNatClampNeg dp.toNatClampNeg n.toNatClampNeg dst j)
        congr 1
        unfold cpI
        by_cases e0 : dp.toNatClampNeg ≤ j ∧ j < dp.toNatClampNeg + n.toNatClampNeg
        · rw [pk_cpy_in e0.1 e0.2, if_pos ⟨rfl, e0⟩]
        · rw [pk_cpy_out (by omega), if_neg (fun x => e0 x.2)]
      · subst q
        show fits .byte (.int (cpI h.2 src dst sp.toNatClampNeg dp.toNatClampNeg n.toNatClampNeg dst j)) = true
        unfold cpI
        split
        · exact (wr0.2.2.2.2.2.1 src s4 sn).2.2 hks _ (by omega)
        · exact (wr0.2.2.2.2.2.1 dst t4 tn).2.2 hkt j hj)) lr ll (fun z hz => by
      rcases List.mem_append.mp hz with q | q
      · exact hl z q
      · obtain ⟨w, -, hw⟩ := List.mem_map.mp q
        rw [← hw]
        exact adG_ge G t4) c1 c2 c3 c4 _ hheap X'
  exact ⟨t, step t a1, b1⟩
theorem v_mmax {index : Nat} {x y : Int32} (hd : decode M.2.1 pc = .ok (.invokestatic index, 3)) (hp : pc + 3 = pc') (hw : Cond.methodLink M.1.cls index Lib.Math.max.name ∈ TB) (hsta : Cond.static Lib.Math.max.name ∈ TB) (hini : Cond.initialized "java/lang/Math" ∈ TB) (hco : Cond.code Lib.Math.max.name Lib.Math.max.code 2 (some .int) ∈ TB) (hd1 : 1 ≤ d) (hcat : (st.map fun v => v.category).sum ≤ 8) (k : V G M d pc' loc (.int (if x < y then y else x) :: st) h o h') : V G M d pc loc (.int y :: .int x :: st) h o h' := by
  subst hp
  refine ⟨k.1, fun p l e R s m args below meth c H locs ls cells slots mc ms cx wr lr ll hl c1 c2 c3 c4 => ?_⟩
  have hfr := cx.fr
  have hlo := cx.lo
  have k2 := k.2 p l e R s m args below meth c H locs ls cells slots mc ms cx wr lr ll hl c1 c2 c3 c4
  exact va_mmax cx.ex cx.by (by rw [cx.ml, ← ll]; exact lr.1.symm) cx.ow (cx.ts _ hw) (cx.ts _ hsta) (cx.ts _ hini) (cx.ts _ hco) (by omega) (by rw [cat_sum]; omega) (by omega) (by omega) hd k2
theorem v_mmin {index : Nat} {x y : Int32} (hd : decode M.2.1 pc = .ok (.invokestatic index, 3)) (hp : pc + 3 = pc') (hw : Cond.methodLink M.1.cls index Lib.Math.min.name ∈ TB) (hsta : Cond.static Lib.Math.min.name ∈ TB) (hini : Cond.initialized "java/lang/Math" ∈ TB) (hco : Cond.code Lib.Math.min.name Lib.Math.min.code 2 (some .int) ∈ TB) (hd1 : 1 ≤ d) (hcat : (st.map fun v => v.category).sum ≤ 8) (k : V G M d pc' loc (.int (if y < x then y else x) :: st) h o h') : V G M d pc loc (.int y :: .int x :: st) h o h' := by
  subst hp
  refine ⟨k.1, fun p l e R s m args below meth c H locs ls cells slots mc ms cx wr lr ll hl c1 c2 c3 c4 => ?_⟩
  have hfr := cx.fr
  have hlo := cx.lo
  have k2 := k.2 p l e R s m args below meth c H locs ls cells slots mc ms cx wr lr ll hl c1 c2 c3 c4
  exact va_mmin cx.ex cx.by (by rw [cx.ml, ← ll]; exact lr.1.symm) cx.ow (cx.ts _ hw) (cx.ts _ hsta) (cx.ts _ hini) (cx.ts _ hco) (by omega) (by rw [cat_sum]; omega) (by omega) (by omega) hd k2
end VC
