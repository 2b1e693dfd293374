/-! ===== ROWS OF V: calls ===== -/
def wsM (M : MR) : List Cond := Cond.code M.1 M.2.1 M.2.2.1 M.2.2.2.1 :: TB
def rmM (d : Nat) (h h' : Hp) : Room := { frames := d, cells := nH h' - nH h, slots := zH h' - zH h, locals := 64 * d }
def VPc (G : GG) (as : List Value) (h : Hp) : Array Value → State → Prop := fun a U => a = (as.map (trV G)).toArray ∧ WR G h U U.heap
/-- the method, called with these values over this heap, ends with o, and the heap is h' then -/
def VM (G : GG) (M : MR) (d : Nat) (as : List Value) (h : Hp) (o : OU) (h' : Hp) : Prop :=
  (nH h ≤ nH h' ∧ zH h ≤ zH h') ∧ ∀ l : Launch, l.stackTraces = false → vx_Met l M.1 (wsM M) (rmM d h h') (VPc G as h) (VQc G o h') (VXc G o h') (nH h' - nH h) (zH h' - zH h) (fun q => G.1 ≤ q)
theorem VPc.blind (G : GG) (as : List Value) (h : Hp) : FrameBlind (VPc G as h) := fun a U g mk q => ⟨q.1, WR.moved (s := U) (U := U.calling g mk a) (State.WarmedH.refl U) q.2⟩
theorem lg_sl_one : ∀ (vs : List Value), (∀ v ∈ vs, v.category = 1) → (lg_sl vs).length = vs.length
  | [], _ => rfl
  | v :: vs, h => by
    have h1 := h v List.mem_cons_self
    have h2 := lg_sl_one vs (fun w hw => h w (List.mem_cons_of_mem _ hw))
    unfold lg_sl at h2 ⊢
    rw [List.flatMap_cons, List.length_append, h2, if_neg (by omega)]
    simp [Nat.add_comm]
theorem lv_args_mem : ∀ (vs : List Value) (k i : Nat) (v : Value), (∀ v ∈ vs, v.category = 1) → vs[i]? = some v → (k + i, v) ∈ lv_args k vs
  | [], k, i, v, _, h => by simp at h
  | w :: vs, k, 0, v, hc, h => by
    simp at h
    subst h
    exact List.mem_cons_self
  | w :: vs, k, i + 1, v, hc, h => by
    have h1 := hc w List.mem_cons_self
    have := lv_args_mem vs (k + 1) i v (fun x hx => hc x (List.mem_cons_of_mem _ hx)) (by simpa using h)
    unfold lv_args
    rw [if_neg (by omega), show k + (i + 1) = k + 1 + i by omega]
    exact List.mem_cons_of_mem _ this
section VC
variable {G : GG} {M M1 : MR} {d d1 pc pc' : Nat} {loc loc' st st' : List Value} {h h1 : Hp} {o : OU} {h' : Hp}
theorem V.toM {as : List Value} (hpl : plainName M.1.cls = true) (htab : M.2.2.2.2 = []) (hl : as.length ≤ M.2.2.1) (hc : ∀ v ∈ as, v.category = 1) (k : V G M d 0 (as ++ List.replicate (M.2.2.1 - as.length) uV) [] h o h') : VM G M d as h o h' := by
  refine ⟨k.1, fun l hst => vx_ofW (ws' := TB) hpl rfl ?_⟩
  intro p e s m args below meth c s₁ B hml ht hv
  obtain ⟨rfl, wr⟩ := hv
  have ts := atoms_spec (ws := wsM M) B.pre
  have hcm : ∀ v ∈ as.map (trV G), v.category = 1 := fun v hv => by
    obtain ⟨w, hw, rfl⟩ := List.mem_map.mp hv
    rw [trV_cat]; exact hc w hw
  have htb : c.exceptionTable.toList = tableOf M.2.2.2.2 := by
    rw [htab]
    exact List.eq_nil_iff_forall_not_mem.mpr (fun x hx => ht x hx)
  have cx : Cx M d p l (headSpec (wsM M) (rmM d h h')).room s m (as.map (trV G)).toArray meth c := ⟨B.exec, B.bytes, hml, B.returns, findClass_of_methodNamed B.named, fun w hw => ts w (List.mem_cons_of_mem _ hw), B.notSynchronized, (name_of_methodNamed B.named B.method).1, htb, hst, Nat.le_refl _, Nat.le_refl _⟩
  have hlen : (lg_sl (as.map (trV G))).length ≤ M.2.2.1 := by rw [lg_sl_one _ hcm, List.length_map]; exact hl
  have hent := lv_entry (as.map (trV G)) (n := M.2.2.1) hlen
  rw [lg_entry_eq]
  refine k.2 p l e _ s m _ below meth c s.heap [] _ 0 0 _ _ cx wr ⟨?_, hent.2.1, fun i v hi hv => ?_⟩ ?_ (fun z hz => nomatch hz) (by omega) (by omega) (Nat.le_refl _) (Nat.le_refl _)
  · rw [hent.1]; simp; omega
  · have hi' : as[i]? = some v := by
      rcases Nat.lt_or_ge i as.length with q | q
      · rwa [List.getElem?_append_left q] at hi
      · rw [List.getElem?_append_right q, List.getElem?_replicate] at hi
        split at hi
        · cases hi; cases hv
        · cases hi
    have := lv_args_mem (as.map (trV G)) 0 i (trV G v) hcm (by rw [List.getElem?_map, hi']; rfl)
    rw [Nat.zero_add] at this
    exact hent.2.2 _ this
  · simp; omega
/-- what a call that returns hands on -/
theorem run_ret {p : Program} {l : Launch} {e : Env} {R : Room} {s : State} {m : MethodId} {args : Array Value} {below : List Frame} {meth : Method} {c : Code} {H : Heap} {locs : List Loc} {ls : Array Slot} {cells slots mc ms n1 z1 : Nat} {st0 rest : List Value} {v : Option Value} {a : Array Value}
    (hr : vx_Run p l e R s m args below meth c H locs cells slots n1 z1 (F0 m pc ls st0) (rest.map (trV G)) (VQc G (.inl v) h1 a) (VXc G (.inl v) h1) (fun q => G.1 ≤ q))
    (cx : Cx M d p l R s m args meth c) (wr : WR G h s H) (lr : LR G loc ls) (ll : loc.length = M.2.2.1) (hl : ∀ z ∈ locs, G.1 ≤ z.base) (hn : n1 = nH h1 - nH h) (hz : z1 = zH h1 - zH h) (e1 : nH h ≤ nH h1) (e2 : zH h ≤ zH h1)
    (k : V G M d (pc + 3) loc (v.toList ++ rest) h1 o h') (c1 : cells + (nH h' - nH h) ≤ mc) (c2 : slots + (zH h' - zH h) ≤ ms) (c3 : mc ≤ R.cells) (c4 : ms ≤ R.slots) :
    W p l e R s m args below meth c H locs cells slots (VQ G o h' below args s mc ms) (F0 m pc ls st0) := by
  intro T hT X
  rcases hr T hT X with ⟨v', st₀, t, T', L, f0, X', hL, f1, f2, hq, go⟩ | ⟨q, st₀, t, T', L, E, ce, f0, X', hL, f1, f2, hx, -⟩
  · obtain ⟨⟨v2, ho, hv⟩, w1⟩ := hq
    have ho : v = v2 := by injection ho
    subst ho
    injection hv with hv
    subst hv
    have wr' : WR G h1 s T'.heap := by rw [f1]; exact w1 s wr.2.2.2.2.2.2.1 (by rw [← f2]; exact X'.warmed.alike)
    have k2 := k.2 p l e R s m args below meth c T'.heap (locs ++ L) ls (cells + n1) (slots + z1) mc ms cx wr' lr ll (fun z hz => (List.mem_append.mp hz).elim (hl z) (hL z)) (by have := k.1.1; omega) (by have := k.1.2; omega) c3 c4
    obtain ⟨t2, s2, q2⟩ := k2 T' rfl X'
    refine ⟨t2, go t2 ?_, q2⟩
    have es : (v.toList ++ rest).map (trV G) = (v.map (trV G)).toList ++ rest.map (trV G) := by cases v <;> rfl
    rw [es] at s2
    exact s2
  · exact absurd hx.1 (fun q => by cases q)
/-- what a call that throws hands on where nothing catches -/
theorem run_thr {p : Program} {l : Launch} {e : Env} {R : Room} {s : State} {m : MethodId} {args : Array Value} {below : List Frame} {meth : Method} {c : Code} {H : Heap} {locs : List Loc} {ls : Array Slot} {cells slots mc ms n1 z1 : Nat} {st0 rest : List Value} {E : String} {a : Array Value}
    (hr : vx_Run p l e R s m args below meth c H locs cells slots n1 z1 (F0 m pc ls st0) (rest.map (trV G)) (VQc G (.inr E) h' a) (VXc G (.inr E) h') (fun q => G.1 ≤ q))
    (htab : M.2.2.2.2 = []) (cx : Cx M d p l R s m args meth c) (wr : WR G h s H) (hl : ∀ z ∈ locs, G.1 ≤ z.base) (hn : n1 = nH h' - nH h) (hz : z1 = zH h' - zH h)
    (c1 : cells + (nH h' - nH h) ≤ mc) (c2 : slots + (zH h' - zH h) ≤ ms) :
    W p l e R s m args below meth c H locs cells slots (VQ G (.inr E) h' below args s mc ms) (F0 m pc ls st0) := by
  intro T hT X
  rcases hr T hT X with ⟨v', st₀, t, T', L, f0, X', hL, f1, f2, hq, go⟩ | ⟨q, st₀, t, T', L, E', ce, f0, X', hL, f1, f2, hx, g1, g2, g3, go⟩
  · obtain ⟨⟨v2, ho, -⟩, -⟩ := hq
    cases ho
  · obtain ⟨ho, w1⟩ := hx
    have ho : E = E' := by injection ho
    subst ho
    have wr' : WR G h' s T'.heap := by rw [f1]; exact w1 s wr.2.2.2.2.2.2.1 (by rw [← f2]; exact X'.warmed.alike)
    have hout : ∀ x ∈ c.exceptionTable.toList, covers x pc = false := by
      rw [cx.tb, htab]; intro x hx; cases hx
    have hw := vx_out (p := p) (l := l) (e := e) (R := R) (m := m) (args := args) (below := below) (ls := ls) (rest := rest.map (trV G)) (Qc := VQc G (.inr E) h') (XC := VXc G (.inr E) h') (free := fun q => G.1 ≤ q) (mc := mc) (ms := ms) (cells := cells + n1) (slots := slots + z1) (locs := locs ++ L) (H := T'.heap) (pc := pc) (s := s) (E := E) (ce := ce) (q := q)
      hout cx.lk (by rw [f1]; exact g1) g2 g3 (fun t ht hA => ⟨rfl, by rw [ht]; exact WH.of wr' hA⟩) (fun z hz => (List.mem_append.mp hz).elim (hl z) (hL z)) (by omega) (by omega)
    obtain ⟨t2, s2, q2⟩ := hw T' rfl X'
    exact ⟨t2, go.trans s2, q2⟩
theorem gd_in {M1 : MR} (hcode : Cond.code M1.1 M1.2.1 M1.2.2.1 M1.2.2.2.1 ∈ TB) : GoodIn TB (wsM M1) := fun w hw => by
  rcases List.mem_cons.mp hw with rfl | hw
  · exact ⟨hcode, tb_good _ hcode⟩
  · exact ⟨hw, tb_good _ hw⟩
theorem cat_sum (G : GG) : ∀ (rest : List Value), ((rest.map (trV G)).map fun v => v.category).sum = (rest.map fun v => v.category).sum
  | [] => rfl
  | v :: r => by simp only [List.map_cons, List.sum_cons, trV_cat, cat_sum G r]
/-- the words of a call -/
def okC (own : String) (index : Nat) (y : MethodName) (n : Nat) : Prop := Cond.methodLink own index y ∈ TB ∧ Cond.initialized y.cls ∈ TB ∧ (y.cls ≠ "java/lang/invoke/MethodHandle" ∧ y.cls ≠ "java/lang/invoke/VarHandle" ∧ (parseMethodDescriptor y.desc).map (fun d => d.parameters.length) = some n)
theorem callB_mk {R : Room} {s : State} {args : Array Value} {own : String} {index n : Nat} (ts : ∀ w ∈ TB, w.before args s = true) (hcode : Cond.code M1.1 M1.2.1 M1.2.2.1 M1.2.2.2.1 ∈ TB) (ok : okC own index M1.1 n) (hR : d1 + 1 ≤ R.frames ∧ 64 * (d1 + 1) ≤ R.locals) (hm : M1.2.2.1 ≤ 45) :
    CallB R s args own index M1.1 M1.2.1 M1.2.2.1 M1.2.2.2.1 (wsM M1) (rmM d1 h h1) (nH h1 - nH h) (zH h1 - zH h) n :=
  callB_of n ts (gd_in hcode) rfl rfl rfl (ts _ ok.2.1) (ts _ ok.1) ok.2.2 ⟨hR.1, by show 8 + (M1.2.2.1 + 11) + 64 * d1 ≤ _; omega⟩
theorem v_callS {index n : Nat} {as rest : List Value} {v : Option Value} (hd : decode M.2.1 pc = .ok (.invokestatic index, 3)) (hp : pc + 3 = pc') (ok : okC M.1.cls index M1.1 n) (hcode : Cond.code M1.1 M1.2.1 M1.2.2.1 M1.2.2.2.1 ∈ TB) (hsta : Cond.static M1.1 ∈ TB) (hm : M1.2.2.1 ≤ 45) (hd1 : d1 + 1 ≤ d) (hn : as.length = n) (hst : as.reverse ++ rest = st) (hcat : (rest.map fun v => v.category).sum ≤ 8)
    (hc : VM G M1 d1 as h (.inl v) h1) (k : V G M d pc' loc (v.toList ++ rest) h1 o h') : V G M d pc loc st h o h' := by
  subst hp; subst hst
  refine ⟨⟨Nat.le_trans hc.1.1 k.1.1, Nat.le_trans hc.1.2 k.1.2⟩, fun p l e R s m args below meth c H locs ls cells slots mc ms cx wr lr ll hl c1 c2 c3 c4 => ?_⟩
  have hfr := cx.fr
  have hlo := cx.lo
  have k1 := k.1
  have hr := vx_runS (p := p) (l := l) (e := e) (R := R) (s := s) (m := m) (args := args) (below := below) (meth := meth) (c := c) (H := H) (locs := locs) (cells := cells) (slots := slots) (Ts := TB) (own := M.1.cls) (nL := M.2.2.1) (cc := M.2.1) (g := F0 m pc ls ((as.reverse ++ rest).map (trV G))) (As := as.map (trV G)) (rest := rest.map (trV G))
    ⟨cx.ex, cx.by, cx.ml, cx.ow, cx.ts⟩ (hc.2 l cx.st) ⟨callB_mk (n := n) (d1 := d1) (h := h) (h1 := h1) cx.ts hcode ok ⟨by omega, by omega⟩ hm, cx.ts _ hsta⟩ ⟨VPc.blind G as h, fun U hU hW => ⟨rfl, by rw [hU]; exact wr.moved hW⟩⟩
    rfl (by rw [List.length_map]; exact hn) (by rw [← ll]; exact lr.1) (by simp) (by show 2 * 0 + _ ≤ 8; rw [cat_sum]; omega) hd ⟨by have := hc.1.1; omega, by have := hc.1.2; omega⟩
  exact run_ret hr cx wr lr ll hl rfl rfl hc.1.1 hc.1.2 k c1 c2 c3 c4
theorem v_callSx {index n : Nat} {as rest : List Value} {E : String} (hd : decode M.2.1 pc = .ok (.invokestatic index, 3)) (htab : M.2.2.2.2 = []) (ok : okC M.1.cls index M1.1 n) (hcode : Cond.code M1.1 M1.2.1 M1.2.2.1 M1.2.2.2.1 ∈ TB) (hsta : Cond.static M1.1 ∈ TB) (hm : M1.2.2.1 ≤ 45) (hd1 : d1 + 1 ≤ d) (hn : as.length = n) (hst : as.reverse ++ rest = st) (hcat : (rest.map fun v => v.category).sum ≤ 8)
    (hc : VM G M1 d1 as h (.inr E) h') : V G M d pc loc st h (.inr E) h' := by
  subst hst
  refine ⟨hc.1, fun p l e R s m args below meth c H locs ls cells slots mc ms cx wr lr ll hl c1 c2 c3 c4 => ?_⟩
  have hfr := cx.fr
  have hlo := cx.lo
  have hr := vx_runS (p := p) (l := l) (e := e) (R := R) (s := s) (m := m) (args := args) (below := below) (meth := meth) (c := c) (H := H) (locs := locs) (cells := cells) (slots := slots) (Ts := TB) (own := M.1.cls) (nL := M.2.2.1) (cc := M.2.1) (g := F0 m pc ls ((as.reverse ++ rest).map (trV G))) (As := as.map (trV G)) (rest := rest.map (trV G))
    ⟨cx.ex, cx.by, cx.ml, cx.ow, cx.ts⟩ (hc.2 l cx.st) ⟨callB_mk (n := n) (d1 := d1) (h := h) (h1 := h') cx.ts hcode ok ⟨by omega, by omega⟩ hm, cx.ts _ hsta⟩ ⟨VPc.blind G as h, fun U hU hW => ⟨rfl, by rw [hU]; exact wr.moved hW⟩⟩
    rfl (by rw [List.length_map]; exact hn) (by rw [← ll]; exact lr.1) (by simp) (by show 2 * 0 + _ ≤ 8; rw [cat_sum]; omega) hd ⟨by have := hc.1.1; omega, by have := hc.1.2; omega⟩
  exact run_thr hr htab cx wr hl rfl rfl c1 c2
theorem WR.recv {s : State} {H : Heap} (wr : WR G h s H) {r ci : Nat} (hk : kH h r = 10 + ci) (hci : ci < 10) : trV G (.ref r) = .ref (adG G r) ∧ ∃ cellB : Cell, H[adG G r]? = some cellB ∧ cellB.vm.isStatics = false ∧ s.vm.findClass (cT ci).1 = some cellB.cls := by
  obtain ⟨r4, rn⟩ := wr.in hk (by omega) (by omega)
  obtain ⟨cell, q1, q2, q3, q4⟩ := (wr.2.2.2.2.2.1 r r4 rn).2.1 (by omega) (by omega)
  rw [show kH h r - 10 = ci by omega] at q2
  exact ⟨trV_ref G (by omega), cell, q1, by rw [q3]; rfl, by rw [q2]; exact (wr.2.2.2.2.2.2.1.1 ci hci).2.1⟩
theorem v_callV (ci : Nat) {index n r : Nat} {as rest : List Value} {v : Option Value} (hd : decode M.2.1 pc = .ok (.invokevirtual index, 3)) (hp : pc + 3 = pc') (ok : okC M.1.cls index M1.1 n) (hcode : Cond.code M1.1 M1.2.1 M1.2.2.1 M1.2.2.2.1 ∈ TB) (hins : Cond.instanceMethod M1.1 ∈ TB) (hsel : Cond.selects (cT ci).1 M1.1 M1.1 ∈ TB) (hci : ci < 10) (hm : M1.2.2.1 ≤ 45) (hd1 : d1 + 1 ≤ d) (hn : as.length = n) (hst : as.reverse ++ .ref r :: rest = st) (hcat : (rest.map fun v => v.category).sum ≤ 8)
    (hk : kH h r = 10 + ci) (hc : VM G M1 d1 (.ref r :: as) h (.inl v) h1) (k : V G M d pc' loc (v.toList ++ rest) h1 o h') : V G M d pc loc st h o h' := by
  subst hp; subst hst
  refine ⟨⟨Nat.le_trans hc.1.1 k.1.1, Nat.le_trans hc.1.2 k.1.2⟩, fun p l e R s m args below meth c H locs ls cells slots mc ms cx wr lr ll hl c1 c2 c3 c4 => ?_⟩
  have hfr := cx.fr
  have hlo := cx.lo
  have k1 := k.1
  obtain ⟨ht, hre⟩ := wr.recv hk hci
  have hr := vx_runV (p := p) (l := l) (e := e) (R := R) (s := s) (m := m) (args := args) (below := below) (meth := meth) (c := c) (H := H) (locs := locs) (cells := cells) (slots := slots) (Ts := TB) (own := M.1.cls) (nL := M.2.2.1) (cc := M.2.1) (g := F0 m pc ls ((as.reverse ++ .ref r :: rest).map (trV G))) (b := adG G r) (As := as.map (trV G)) (rest := rest.map (trV G))
    ⟨cx.ex, cx.by, cx.ml, cx.ow, cx.ts⟩ (hc.2 l cx.st) ⟨callB_mk (n := n) (d1 := d1) (h := h) (h1 := h1) cx.ts hcode ok ⟨by omega, by omega⟩ hm, cx.ts _ hins, cx.ts _ hsel⟩ ⟨VPc.blind G _ h, hre, fun U hU hW => ⟨by rw [List.map_cons, ht], by rw [hU]; exact wr.moved hW⟩⟩
    rfl (by rw [List.length_map]; exact hn) (by rw [← ll]; exact lr.1) (by simp [ht]) (by show 2 * 0 + _ ≤ 8; rw [cat_sum]; omega) hd ⟨by have := hc.1.1; omega, by have := hc.1.2; omega⟩
  exact run_ret hr cx wr lr ll hl rfl rfl hc.1.1 hc.1.2 k c1 c2 c3 c4
theorem v_callVx (ci : Nat) {index n r : Nat} {as rest : List Value} {E : String} (hd : decode M.2.1 pc = .ok (.invokevirtual index, 3)) (htab : M.2.2.2.2 = []) (ok : okC M.1.cls index M1.1 n) (hcode : Cond.code M1.1 M1.2.1 M1.2.2.1 M1.2.2.2.1 ∈ TB) (hins : Cond.instanceMethod M1.1 ∈ TB) (hsel : Cond.selects (cT ci).1 M1.1 M1.1 ∈ TB) (hci : ci < 10) (hm : M1.2.2.1 ≤ 45) (hd1 : d1 + 1 ≤ d) (hn : as.length = n) (hst : as.reverse ++ .ref r :: rest = st) (hcat : (rest.map fun v => v.category).sum ≤ 8)
    (hk : kH h r = 10 + ci) (hc : VM G M1 d1 (.ref r :: as) h (.inr E) h') : V G M d pc loc st h (.inr E) h' := by
  subst hst
  refine ⟨hc.1, fun p l e R s m args below meth c H locs ls cells slots mc ms cx wr lr ll hl c1 c2 c3 c4 => ?_⟩
  have hfr := cx.fr
  have hlo := cx.lo
  obtain ⟨ht, hre⟩ := wr.recv hk hci
  have hr := vx_runV (p := p) (l := l) (e := e) (R := R) (s := s) (m := m) (args := args) (below := below) (meth := meth) (c := c) (H := H) (locs := locs) (cells := cells) (slots := slots) (Ts := TB) (own := M.1.cls) (nL := M.2.2.1) (cc := M.2.1) (g := F0 m pc ls ((as.reverse ++ .ref r :: rest).map (trV G))) (b := adG G r) (As := as.map (trV G)) (rest := rest.map (trV G))
    ⟨cx.ex, cx.by, cx.ml, cx.ow, cx.ts⟩ (hc.2 l cx.st) ⟨callB_mk (n := n) (d1 := d1) (h := h) (h1 := h') cx.ts hcode ok ⟨by omega, by omega⟩ hm, cx.ts _ hins, cx.ts _ hsel⟩ ⟨VPc.blind G _ h, hre, fun U hU hW => ⟨by rw [List.map_cons, ht], by rw [hU]; exact wr.moved hW⟩⟩
    rfl (by rw [List.length_map]; exact hn) (by rw [← ll]; exact lr.1) (by simp [ht]) (by show 2 * 0 + _ ≤ 8; rw [cat_sum]; omega) hd ⟨by have := hc.1.1; omega, by have := hc.1.2; omega⟩
  exact run_thr hr htab cx wr hl rfl rfl c1 c2
end VC
