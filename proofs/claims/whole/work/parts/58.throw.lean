/-! ===== throw new E(text), with the heap's exact size (follows the kit's vx_throwS, vx_throwSW) ===== -/
section VZ
variable {p : Program} {l : Launch} {e : Env} {R : Room} {s : State} {m : MethodId} {args : Array Value} {below : List Frame} {meth : Method} {c : Code} {H : Heap} {locs : List Loc} {cells slots : Nat} {Q : State → Prop}
variable {mc ms : Nat} {free : Addr → Prop} {A0 A1 : Nat → Prop} {H0 : Heap} {a : Array Value} {ls : Array Slot} {st0 rest : List Value}
variable {Qc : Array Value → State → Outcome → State → Prop} {XC : String → State → State → Prop}
theorem vz_throwS {cc : ByteArray} {pc : Nat} (hexec : p.tables.exec = Jvm.exec) (hb : c.code = cc) (hl : l.stackTraces = false) {own cls text : String} {names : List String} {ik is ic mc ms sa : Nat} {A : Nat → Prop}
    (hown : s.vm.findClass own = some m.cls) (hcls : Bundle.fit cls = true) (hnames : ∀ n ∈ names, Bundle.fit n = true)
    (hk : (Cond.classLink own ik cls).before args s = true) (hini : (Cond.initialized cls).before args s = true) (hstr : vk_R own is text sa s) (hat : ∀ w ∈ vx_atS own ic cls names, w.before args s = true)
    (hgood : ∀ w ∈ Cond.classLink own ik cls :: Cond.initialized cls :: vx_atS own ic cls names, vx_ot w = true)
    (hU : vx_Zq Bundle.tN "UNASSIGNED_STACK" Bundle.steD A s H) (hN : vx_Zq Bundle.tN "SUPPRESSED_SENTINEL" Bundle.listD A s H) (hsize : ls.size = c.maxLocals)
    (d0 : decode cc pc = .ok (.new ik, 3)) (d3 : decode cc (pc + 3) = .ok (.dup, 1)) (d4 : decode cc (pc + 4) = .ok (.ldc is, 2)) (d6 : decode cc (pc + 6) = .ok (.invokespecial ic, 3)) (d9 : decode cc (pc + 9) = .ok (.athrow, 1))
    (hout : ∀ x ∈ c.exceptionTable.toList, covers x (pc + 9) = false)
    (hRframes : names.length + 3 < R.frames) (hRlocals : (rest.map fun v => v.category).sum + (13 * (names.length + 1) + 43) ≤ R.locals) (hRcells : cells + 1 ≤ R.cells) (hRslots : slots + 6 ≤ R.slots) (hlocks : meth.locks = false)
    (hx : ∀ t : State, s.vm.Alike t.vm → t.heap.size = H.size + 1 → (∀ q : Nat, q < H.size → t.heap[q]? = H[q]?) → XC cls s t)
    (hf : ∀ z ∈ locs, free z.base) (hc : cells + 1 ≤ mc) (hs : slots + 6 ≤ ms) :
    W p l e R s m args below meth c H locs cells slots (vx_MQ below Qc XC args s mc ms free) (F0 m pc ls rest) := by
  intro T hT X
  have htr : e.platform.stackTraces = false := (show e.platform.stackTraces = l.stackTraces by rw [X.admits.platform]).trans hl
  have Y := vx_rebase X (R' := { frames := R.frames, locals := R.locals, cells := 1, slots := 6 }) (Nat.le_refl _) (Nat.le_refl _) hRcells hRslots
  obtain ⟨s', hA⟩ : ∃ z, z = (T.setVm s.vm).setFrames (.invoking m args :: below) := ⟨_, rfl⟩
  rw [← hA] at Y
  have hvm : s'.vm = s.vm := by rw [hA]; rfl
  have hhp : s'.heap = H := by rw [hA]; exact hT
  have hW0 : s.WarmedH s'.vm := by rw [hvm]; exact State.WarmedH.refl s
  have hat' : ∀ w ∈ vx_atS own ic cls names, w.before args s' = true := fun w hw => vx_ot_at hW0 hvm.symm (hgood w (List.mem_cons_of_mem _ (List.mem_cons_of_mem _ hw))) (hat w hw)
  have hk' : (Cond.classLink own ik cls).before args s' = true := vx_ot_at hW0 hvm.symm (hgood _ List.mem_cons_self) hk
  have hini' : (Cond.initialized cls).before args s' = true := vx_ot_at hW0 hvm.symm (hgood _ (List.mem_cons_of_mem _ List.mem_cons_self)) hini
  have hU' : vx_Zq Bundle.tN "UNASSIGNED_STACK" Bundle.steD A s' s'.heap := by rw [hhp]; exact vx_Zq.moved hW0.alike hU
  have hN' : vx_Zq Bundle.tN "SUPPRESSED_SENTINEL" Bundle.listD A s' s'.heap := by rw [hhp]; exact vx_Zq.moved hW0.alike hN
  have h : ∀ w ∈ Bundle.ownAtoms own ic cls names, w.before args s' = true := vx_own hat' (vx_isRefq hU'.1) (vx_isRefq hN'.1) hU'.2.word hN'.2.word
  have hown' : s'.vm.findClass own = some m.cls := by rw [hvm]; exact hown
  have hins : (Cond.instantiable cls 6).before args s' = true := h _ (by simp [Bundle.ownAtoms])
  obtain ⟨vm₁, cX, kX, hfX, hkX, -, -, X₁, st1⟩ := Y.newCold hexec (own := own) (C := cls) (index := ik) (n := 6) hown' hk' hins hini'
    (g := F0 m pc ls rest) rfl (by rw [hb]; exact d0) (Nat.le_refl _) (Nat.le_refl _)
  generalize hT1 : (T.setVm vm₁).pushCell { cls := cX, slots := kX.instanceTypes.map defaultValue, vm := .none } = T1 at X₁ st1
  have hcat : (Value.ref T.heap.size).category = 1 := rfl
  have hcellA : T1.heap[T.heap.size]? = some (freshCell cX kX) := by rw [← hT1]; exact State.heap_pushCell_size _ _
  have d3' : decode c.code (pc + 3) = .ok (.dup, 1) := by rw [hb]; exact d3
  have d4' : decode c.code (pc + 4) = .ok (.ldc is, 2) := by rw [hb]; exact d4
  have hstr' : vk_R own is text sa s' := vk_R.warm hW0 hstr
  obtain ⟨U, hsteps, hrun, hend, hW, hsame, ce, hce, hO⟩ := X₁.ctorThrowS hexec htr (own := own) (cls := cls) (names := names) (ic := ic) hown' hcls hnames h (fun x hx => nomatch hx) hfX hkX hcellA (by rw [hhp, hT]; exact Nat.le_refl _) (msg := .ref sa) rfl
    (g := { method := m, pc := pc + 6, locals := ls, stack := .ref sa :: .ref T.heap.size :: .ref T.heap.size :: rest, locked := none }) rfl hsize rfl rfl (rest := rest) rfl
    (by rw [hb]; exact d6) (by rw [hb]; exact d9) hout hRframes (by simp only [List.map_cons, List.sum_cons, hcat]; omega) hlocks
  obtain ⟨f1, f2⟩ := vx_frame hsame
  rw [hhp] at f1 f2
  have hz1 : U.heap.size = H.size + 1 := by
    have g1 : U.heap.size ≤ s'.heap.size + (0 + 1) := hsame.2.2.1
    have g2 := (Array.getElem?_eq_some_iff.mp hce).1
    rw [hhp] at g1
    rw [hT] at g2
    omega
  have hWs : s.WarmedH U.vm := State.WarmedH.trans hW0 hW
  have hcl : s.vm.findClass cls = some ce.cls := by
    have h9 := hO.cls
    rw [hvm] at h9
    exact h9
  have hall : s.sameButNew ({ U with vm := s.vm } : State) locs mc ms := by
    subst hA
    obtain ⟨e1, e2⟩ := hsame
    rw [State.setFrames_setFrames] at e1
    have h2 : (T.setVm s.vm).sameButNew ({ U with vm := s.vm } : State) [] (0 + 1) (0 + 6) := ⟨e1, e2⟩
    have h3 := X.same.trans h2
    rw [List.append_nil] at h3
    exact h3.mono hc hs
  refine ⟨U, ?_, .threw T.heap.size, hrun, hend, Or.inr ⟨T.heap.size, rfl, cls, ce, locs, hx U hWs.alike hz1 (fun q hq => f2 q hq (fun z hz => nomatch hz)), hce, hO.vm, hcl, hWs, hall, hf⟩⟩
  refine st1 _ ?_
  show Steps p.tables e below (T1.setTop { method := m, pc := pc + 3, locals := ls, stack := .ref T.heap.size :: rest, locked := none }) _
  jvm_step X₁.here [X₁.here.top, hexec, d3', Value.category]
  exact X₁.ldcString hexec (own := own) (text := text) (index := is) (a := sa) hown' hstr'.1 hstr'.2
    (g := { method := m, pc := pc + 4, locals := ls, stack := .ref T.heap.size :: .ref T.heap.size :: rest, locked := none }) rfl d4' _ hsteps
theorem vz_throwW {cc : ByteArray} {pc : Nat} (hexec : p.tables.exec = Jvm.exec) (hb : c.code = cc) (hl : l.stackTraces = false) {own cls text : String} {names : List String} {ik is ic mc ms sa : Nat} {A : Nat → Prop}
    (hown : s.vm.findClass own = some m.cls) (hcls : Bundle.fit cls = true) (hnames : ∀ n ∈ names, Bundle.fit n = true)
    (hk : (Cond.classLink own ik cls).before args s = true) (hini : (Cond.initialized cls).before args s = true) (hstr : vk_R own is text sa s) (hat : ∀ w ∈ vx_atS own ic cls names, w.before args s = true)
    (hgood : ∀ w ∈ Cond.classLink own ik cls :: Cond.initialized cls :: vx_atS own ic cls names, vx_ot w = true)
    (hU : vx_Zq Bundle.tN "UNASSIGNED_STACK" Bundle.steD A s H) (hN : vx_Zq Bundle.tN "SUPPRESSED_SENTINEL" Bundle.listD A s H) (hsize : ls.size = c.maxLocals)
    (d0 : decode cc pc = .ok (.new ik, 3)) (d3 : decode cc (pc + 3) = .ok (.dup, 1)) (d4 : decode cc (pc + 4) = .ok (.ldc_w is, 3)) (d7 : decode cc (pc + 7) = .ok (.invokespecial ic, 3)) (d10 : decode cc (pc + 10) = .ok (.athrow, 1))
    (hout : ∀ x ∈ c.exceptionTable.toList, covers x (pc + 10) = false)
    (hRframes : names.length + 3 < R.frames) (hRlocals : (rest.map fun v => v.category).sum + (13 * (names.length + 1) + 43) ≤ R.locals) (hRcells : cells + 1 ≤ R.cells) (hRslots : slots + 6 ≤ R.slots) (hlocks : meth.locks = false)
    (hx : ∀ t : State, s.vm.Alike t.vm → t.heap.size = H.size + 1 → (∀ q : Nat, q < H.size → t.heap[q]? = H[q]?) → XC cls s t)
    (hf : ∀ z ∈ locs, free z.base) (hc : cells + 1 ≤ mc) (hs : slots + 6 ≤ ms) :
    W p l e R s m args below meth c H locs cells slots (vx_MQ below Qc XC args s mc ms free) (F0 m pc ls rest) := by
  intro T hT X
  have htr : e.platform.stackTraces = false := (show e.platform.stackTraces = l.stackTraces by rw [X.admits.platform]).trans hl
  have Y := vx_rebase X (R' := { frames := R.frames, locals := R.locals, cells := 1, slots := 6 }) (Nat.le_refl _) (Nat.le_refl _) hRcells hRslots
  obtain ⟨s', hA⟩ : ∃ z, z = (T.setVm s.vm).setFrames (.invoking m args :: below) := ⟨_, rfl⟩
  rw [← hA] at Y
  have hvm : s'.vm = s.vm := by rw [hA]; rfl
  have hhp : s'.heap = H := by rw [hA]; exact hT
  have hW0 : s.WarmedH s'.vm := by rw [hvm]; exact State.WarmedH.refl s
  have hat' : ∀ w ∈ vx_atS own ic cls names, w.before args s' = true := fun w hw => vx_ot_at hW0 hvm.symm (hgood w (List.mem_cons_of_mem _ (List.mem_cons_of_mem _ hw))) (hat w hw)
  have hk' : (Cond.classLink own ik cls).before args s' = true := vx_ot_at hW0 hvm.symm (hgood _ List.mem_cons_self) hk
  have hini' : (Cond.initialized cls).before args s' = true := vx_ot_at hW0 hvm.symm (hgood _ (List.mem_cons_of_mem _ List.mem_cons_self)) hini
  have hU' : vx_Zq Bundle.tN "UNASSIGNED_STACK" Bundle.steD A s' s'.heap := by rw [hhp]; exact vx_Zq.moved hW0.alike hU
  have hN' : vx_Zq Bundle.tN "SUPPRESSED_SENTINEL" Bundle.listD A s' s'.heap := by rw [hhp]; exact vx_Zq.moved hW0.alike hN
  have h : ∀ w ∈ Bundle.ownAtoms own ic cls names, w.before args s' = true := vx_own hat' (vx_isRefq hU'.1) (vx_isRefq hN'.1) hU'.2.word hN'.2.word
  have hown' : s'.vm.findClass own = some m.cls := by rw [hvm]; exact hown
  have hins : (Cond.instantiable cls 6).before args s' = true := h _ (by simp [Bundle.ownAtoms])
  obtain ⟨vm₁, cX, kX, hfX, hkX, -, -, X₁, st1⟩ := Y.newCold hexec (own := own) (C := cls) (index := ik) (n := 6) hown' hk' hins hini'
    (g := F0 m pc ls rest) rfl (by rw [hb]; exact d0) (Nat.le_refl _) (Nat.le_refl _)
  generalize hT1 : (T.setVm vm₁).pushCell { cls := cX, slots := kX.instanceTypes.map defaultValue, vm := .none } = T1 at X₁ st1
  have hcat : (Value.ref T.heap.size).category = 1 := rfl
  have hcellA : T1.heap[T.heap.size]? = some (freshCell cX kX) := by rw [← hT1]; exact State.heap_pushCell_size _ _
  have d3' : decode c.code (pc + 3) = .ok (.dup, 1) := by rw [hb]; exact d3
  have d4' : decode c.code (pc + 4) = .ok (.ldc_w is, 3) := by rw [hb]; exact d4
  have hstr' : vk_R own is text sa s' := vk_R.warm hW0 hstr
  obtain ⟨U, hsteps, hrun, hend, hW, hsame, ce, hce, hO⟩ := X₁.ctorThrowS hexec htr (own := own) (cls := cls) (names := names) (ic := ic) hown' hcls hnames h (fun x hx => nomatch hx) hfX hkX hcellA (by rw [hhp, hT]; exact Nat.le_refl _) (msg := .ref sa) rfl
    (g := { method := m, pc := pc + 7, locals := ls, stack := .ref sa :: .ref T.heap.size :: .ref T.heap.size :: rest, locked := none }) rfl hsize rfl rfl (rest := rest) rfl
    (by rw [hb]; exact d7) (by rw [hb]; exact d10) hout hRframes (by simp only [List.map_cons, List.sum_cons, hcat]; omega) hlocks
  obtain ⟨f1, f2⟩ := vx_frame hsame
  rw [hhp] at f1 f2
  have hz1 : U.heap.size = H.size + 1 := by
    have g1 : U.heap.size ≤ s'.heap.size + (0 + 1) := hsame.2.2.1
    have g2 := (Array.getElem?_eq_some_iff.mp hce).1
    rw [hhp] at g1
    rw [hT] at g2
    omega
  have hWs : s.WarmedH U.vm := State.WarmedH.trans hW0 hW
  have hcl : s.vm.findClass cls = some ce.cls := by
    have h9 := hO.cls
    rw [hvm] at h9
    exact h9
  have hall : s.sameButNew ({ U with vm := s.vm } : State) locs mc ms := by
    subst hA
    obtain ⟨e1, e2⟩ := hsame
    rw [State.setFrames_setFrames] at e1
    have h2 : (T.setVm s.vm).sameButNew ({ U with vm := s.vm } : State) [] (0 + 1) (0 + 6) := ⟨e1, e2⟩
    have h3 := X.same.trans h2
    rw [List.append_nil] at h3
    exact h3.mono hc hs
  refine ⟨U, ?_, .threw T.heap.size, hrun, hend, Or.inr ⟨T.heap.size, rfl, cls, ce, locs, hx U hWs.alike hz1 (fun q hq => f2 q hq (fun z hz => nomatch hz)), hce, hO.vm, hcl, hWs, hall, hf⟩⟩
  refine st1 _ ?_
  show Steps p.tables e below (T1.setTop { method := m, pc := pc + 3, locals := ls, stack := .ref T.heap.size :: rest, locked := none }) _
  jvm_step X₁.here [X₁.here.top, hexec, d3', Value.category]
  exact X₁.ldcStringW hexec (own := own) (text := text) (index := is) (a := sa) hown' hstr'.1 hstr'.2
    (g := { method := m, pc := pc + 4, locals := ls, stack := .ref T.heap.size :: .ref T.heap.size :: rest, locked := none }) rfl d4' _ hsteps
end VZ

/-! the words of a thrown exception's making -/
def xNm : List String := ["java/lang/RuntimeException", "java/lang/Exception"]
def isC (x : MethodName) (w : Cond) : Bool := match w with
  | .code y _ _ _ => decide (y = x)
  | _ => false
def okD (w : Cond) : Bool := match w with
  | .declares x => decide (Cond.instanceMethod x ∈ lw_tbl) && lw_tbl.any (isC x)
  | _ => false
theorem dcl_of {x : MethodName} {s : State} {args : Array Value} {b : ByteArray} {n : Nat} {r : Option FieldType} (h1 : (Cond.instanceMethod x).before args s = true) (h2 : (Cond.code x b n r).before args s = true) : (Cond.declares x).before args s = true := by
  obtain ⟨mk, methM, hn, hm, hst, hab⟩ := Cond.instanceMethod_spec h1
  obtain ⟨meth', c', hm', -, -, -, -, -, -, hsig⟩ := Cond.code_spec hn h2
  cases hm.symm.trans hm'
  simp [Cond.before, Cond.holds, Cond.value, hn, hm, hst, hsig]
def okT (ic : Nat) (cls : String) : Bool := ((vx_atS RX9 ic cls xNm).all (fun w => (decide (w ∈ lw_tbl) && goodWord w) || (decide (w = .castable cls cls) || okD w))) && ((vx_atS RX9 ic cls xNm).all vx_ot)
theorem okT_IA : okT 186 xIA = true := by decide +kernel
theorem okT_IO : okT 415 xIO = true := by decide +kernel
section VT
variable {G : GG} {M M1 : MR} {d d1 pc pc' : Nat} {loc loc' st st' : List Value} {h h1 : Hp} {o : OU} {h' : Hp}
theorem WR.exc {s : State} {H H' : Heap} (wr : WR G h s H) (hz : H'.size = H.size + 1) (ho : ∀ q : Nat, q < H.size → H'[q]? = H[q]?) : WR G (nwH h 30 0 6) s H' :=
  wr.push hz ho rfl (fun a ha => if_neg ha) (fun a ha => if_neg ha) (fun a ha => if_neg ha) (fun a ha => if_neg ha) ⟨fun a b => by rw [nwH_k] at b; omega, fun a b => by rw [nwH_k] at b; omega, fun a => by rw [nwH_k] at a; omega⟩
theorem okT_at {ic : Nat} {cls : String} {s : State} {args : Array Value} (ok : okT ic cls = true) (ts : ∀ w ∈ TB, w.before args s = true) (hc : va_Nw (.castable cls cls) s) : (∀ w ∈ vx_atS RX9 ic cls xNm, w.before args s = true) ∧ ∀ w ∈ vx_atS RX9 ic cls xNm, vx_ot w = true := by
  unfold okT at ok
  rw [Bool.and_eq_true] at ok
  refine ⟨fun w hw => ?_, fun w hw => List.all_eq_true.mp ok.2 w hw⟩
  have h1 := List.all_eq_true.mp ok.1 w hw
  rw [Bool.or_eq_true, Bool.and_eq_true, Bool.or_eq_true] at h1
  rcases h1 with q | q | q
  · exact ts w (List.mem_filter.mpr ⟨of_decide_eq_true q.1, q.2⟩)
  · rw [of_decide_eq_true q]
    exact va_Nw.use rfl hc
  · cases w with
    | declares x =>
      rw [okD, Bool.and_eq_true] at q
      obtain ⟨q1, q2⟩ := q
      obtain ⟨w2, hw2, hc2⟩ := List.any_eq_true.mp q2
      cases w2 with
      | code y b n r =>
        have hy : y = x := of_decide_eq_true hc2
        subst hy
        exact dcl_of (ts _ (List.mem_filter.mpr ⟨of_decide_eq_true q1, rfl⟩)) (ts _ (List.mem_filter.mpr ⟨hw2, rfl⟩))
      | _ => cases hc2
    | _ => cases q
/-- throw new E(text) -/
theorem v_throw (cls text : String) {ik is ic : Nat} (hown : M.1.cls = RX9) (htab : M.2.2.2.2 = []) (d0 : decode M.2.1 pc = .ok (.new ik, 3)) (d3 : decode M.2.1 (pc + 3) = .ok (.dup, 1)) (d4 : (decode M.2.1 (pc + 4) = .ok (.ldc is, 2) ∧ decode M.2.1 (pc + 6) = .ok (.invokespecial ic, 3) ∧ decode M.2.1 (pc + 9) = .ok (.athrow, 1)) ∨ (decode M.2.1 (pc + 4) = .ok (.ldc_w is, 3) ∧ decode M.2.1 (pc + 7) = .ok (.invokespecial ic, 3) ∧ decode M.2.1 (pc + 10) = .ok (.athrow, 1)))
    (hk : Cond.classLink RX9 ik cls ∈ TB) (hini : Cond.initialized cls ∈ TB) (hstr : (RX9, is, text) ∈ strW) (hcast : (cls, cls) ∈ castW) (hfit : Bundle.fit cls = true) (ok : okT ic cls = true) (hd1 : 8 ≤ d) (hcat : (st.map fun v => v.category).sum ≤ 8) (k : o = .inr cls ∧ h' = nwH h 30 0 6) : V G M d pc loc st h o h' := by
  obtain ⟨rfl, rfl⟩ := k
  refine ⟨⟨by rw [nwH_n]; omega, by show zH h ≤ zH h + 6; omega⟩, fun p l e R s m args below meth c H locs ls cells slots mc ms cx wr lr ll hl c1 c2 c3 c4 => ?_⟩
  have hfr := cx.fr
  have hlo := cx.lo
  rw [nwH_n] at c1
  have c2 : slots + (zH h + 6 - zH h) ≤ ms := c2
  have kr := wr.2.2.2.2.2.2.1
  have hat := okT_at (args := args) ok cx.ts (kr.2.2.2.2.2.1 _ hcast)
  obtain ⟨sa, hsa⟩ := kr.2.2.2.2.1 _ hstr
  have how : s.vm.findClass RX9 = some m.cls := by rw [← hown]; exact cx.ow
  have hgood : ∀ w ∈ Cond.classLink RX9 ik cls :: Cond.initialized cls :: vx_atS RX9 ic cls xNm, vx_ot w = true := fun w hw => by
    rcases List.mem_cons.mp hw with rfl | hw
    · rfl
    · rcases List.mem_cons.mp hw with rfl | hw
      · rfl
      · exact hat.2 w hw
  have hout : ∀ (z : Nat), ∀ x ∈ c.exceptionTable.toList, covers x z = false := fun z => by rw [cx.tb, htab]; intro x hx; cases hx
  have hzr := wr.2.2.2.2.2.2.2.1
  have hX : ∀ t : State, s.vm.Alike t.vm → t.heap.size = H.size + 1 → (∀ q : Nat, q < H.size → t.heap[q]? = H[q]?) → VXc G (.inr cls) (nwH h 30 0 6) cls s t := fun t hA hz ho => ⟨rfl, WH.of (wr.exc hz ho) hA⟩
  rcases d4 with ⟨d4, d6, d9⟩ | ⟨d4, d6, d9⟩
  · exact vz_throwS (A := fun q => G.1 ≤ q) (names := xNm) (sa := sa) cx.ex cx.by cx.st how hfit (by decide) (cx.ts _ hk) (cx.ts _ hini) hsa hat.1 hgood hzr.1 hzr.2 (by rw [cx.ml, ← ll]; exact lr.1) d0 d3 d4 d6 d9 (hout _) (by show 2 + 3 < _; omega) (by rw [cat_sum]; show _ + (13 * (2 + 1) + 43) ≤ _; omega) (by omega) (by omega) cx.lk hX hl (by omega) (by omega)
  · exact vz_throwW (A := fun q => G.1 ≤ q) (names := xNm) (sa := sa) cx.ex cx.by cx.st how hfit (by decide) (cx.ts _ hk) (cx.ts _ hini) hsa hat.1 hgood hzr.1 hzr.2 (by rw [cx.ml, ← ll]; exact lr.1) d0 d3 d4 d6 d9 (hout _) (by show 2 + 3 < _; omega) (by rw [cat_sum]; show _ + (13 * (2 + 1) + 43) ≤ _; omega) (by omega) (by omega) cx.lk hX hl (by omega) (by omega)
/-! methods with handlers, and what they catch -/
def wsW (M : MR) : List Cond := Cond.codeWith M.1 M.2.1 M.2.2.1 M.2.2.2.1 M.2.2.2.2 :: TB
def VMW (G : GG) (M : MR) (d : Nat) (as : List Value) (h : Hp) (o : OU) (h' : Hp) : Prop :=
  (nH h ≤ nH h' ∧ zH h ≤ zH h') ∧ ∀ l : Launch, l.stackTraces = false → vx_Met l M.1 (wsW M) (rmM d h h') (VPc G as h) (VQc G o h') (VXc G o h') (nH h' - nH h) (zH h' - zH h) (fun q => G.1 ≤ q)
theorem V.toMW {as : List Value} (hpl : plainName M.1.cls = true) (hl : as.length ≤ M.2.2.1) (hc : ∀ v ∈ as, v.category = 1) (k : V G M d 0 (as ++ List.replicate (M.2.2.1 - as.length) uV) [] h o h') : VMW G M d as h o h' := by
  refine ⟨k.1, fun l hst => vx_ofWH (ws' := TB) hpl rfl ?_⟩
  intro p e s m args below meth c s₁ B hml hv
  obtain ⟨rfl, wr⟩ := hv
  have ts := atoms_spec (ws := wsW M) B.pre
  have hcm : ∀ v ∈ as.map (trV G), v.category = 1 := fun v hv => by
    obtain ⟨w, hw, rfl⟩ := List.mem_map.mp hv
    rw [trV_cat]; exact hc w hw
  have htb : c.exceptionTable.toList = tableOf M.2.2.2.2 := vx_table (x := M.1) B (ts _ List.mem_cons_self)
  have cx : Cx M d p l (headSpec (wsW M) (rmM d h h')).room s m (as.map (trV G)).toArray meth c := ⟨B.exec, B.bytes, hml, B.returns, findClass_of_methodNamed B.named, fun w hw => ts w (List.mem_cons_of_mem _ hw), B.notSynchronized, (name_of_methodNamed B.named B.method).1, htb, hst, Nat.le_refl _, Nat.le_refl _⟩
  have hlen : (lg_sl (as.map (trV G))).length ≤ M.2.2.1 := by rw [lg_sl_one _ hcm, List.length_map]; exact hl
  have hent := lv_entry (as.map (trV G)) (n := M.2.2.1) hlen
  rw [lg_entry_eq]
  refine k.2 p l e _ s m _ below meth c s.heap [] _ 0 0 _ _ cx wr ⟨?_, hent.2.1, fun i v hi hv => ?_⟩ ?_ (fun z hz => nomatch hz) (by omega) (by omega) (Nat.le_refl _) (Nat.le_refl _)
  · rw [hent.1]; simp; omega
  · have hi' : as[i]? = some v := by
      rcases Nat.lt_or_ge i as.length with q | q
      · rwa [List.getElem?_append_left q] at hi
      · rw [List.getElem?_append_right q, List.getElem?_replicate] at hi
        split at hi
        · cases hi; cases hv
        · cases hi
    have := lv_args_mem (as.map (trV G)) 0 i (trV G v) hcm (by rw [List.getElem?_map, hi']; rfl)
    rw [Nat.zero_add] at this
    exact hent.2.2 _ this
  · simp; omega
theorem LR.backU {ls' : Array Slot} {i : Nat} {w : Value} (h : lv_has ls' loc.length ((i, w) :: (lvl G loc).filter (fun q => !(q.1 == i) && !(q.1 + 1 == i && q.2.category == 2)))) : LR G (loc.set i uV) ls' := by
  obtain ⟨h1, h2, h3⟩ := h
  refine ⟨by rw [List.length_set]; exact h1, h2, fun j x hj hx => ?_⟩
  rw [List.getElem?_set] at hj
  by_cases e : i = j
  · subst e
    rw [if_pos rfl] at hj
    split at hj
    · cases hj; cases hx
    · cases hj
  · rw [if_neg e] at hj
    refine h3 (j, trV G x) (List.mem_cons_of_mem _ (List.mem_filter.mpr ⟨lvl_mem hj hx, ?_⟩))
    have hc : (trV G x).category ≠ 2 := by
      rw [trV_cat]
      cases x <;> first | (cases hx; done) | simp [Value.category]
    simp [Ne.symm e, hc]
/-- a call that throws, caught here; the exception is put away into a local -/
theorem v_callVc (ci : Nat) {index n r : Nat} {as rest : List Value} {E : String} (pre : List (Nat × Nat × Nat × Nat)) (x : Nat × Nat × Nat × Nat) (suf : List (Nat × Nat × Nat × Nat)) (i : Nat) (hsp : M.2.2.2.2 = pre ++ x :: suf)
    (hpre : ∀ z ∈ tableOf pre, covers z pc = false ∨ (z.catchType ≠ 0 ∧ ∃ nm : String, Cond.classLink M.1.cls z.catchType nm ∈ TB ∧ (E, nm) ∈ ncW)) (hx : covers (⟨x.1, x.2.1, x.2.2.1, x.2.2.2⟩ : ExceptionTableEntry) pc = true) (h0 : x.2.2.2 ≠ 0) (hlk : Cond.classLink M.1.cls x.2.2.2 E ∈ TB) (hcw : (E, E) ∈ castW)
    (hst9 : (∃ q : Fin 4, decode M.2.1 x.2.2.1 = .ok (.astore_n q, 1) ∧ (q : Nat) = i ∧ pc' = x.2.2.1 + 1) ∨ (decode M.2.1 x.2.2.1 = .ok (.astore i, 2) ∧ pc' = x.2.2.1 + 2)) (hi : i < loc.length)
    (hd : decode M.2.1 pc = .ok (.invokevirtual index, 3)) (ok : okC M.1.cls index M1.1 n) (hcode : Cond.code M1.1 M1.2.1 M1.2.2.1 M1.2.2.2.1 ∈ TB) (hins : Cond.instanceMethod M1.1 ∈ TB) (hsel : Cond.selects (cT ci).1 M1.1 M1.1 ∈ TB) (hci : ci < 10) (hm : M1.2.2.1 ≤ 45) (hd1 : d1 + 1 ≤ d) (hn : as.length = n) (hst : as.reverse ++ .ref r :: rest = st) (hcat : (rest.map fun v => v.category).sum ≤ 8)
    (hk : kH h r = 10 + ci) (hc : VM G M1 d1 (.ref r :: as) h (.inr E) h1) (k : V G M d pc' (loc.set i uV) [] h1 o h') : V G M d pc loc st h o h' := by
  subst hst
  refine ⟨⟨Nat.le_trans hc.1.1 k.1.1, Nat.le_trans hc.1.2 k.1.2⟩, fun p l e R s m args below meth c H locs ls cells slots mc ms cx wr lr ll hl c1 c2 c3 c4 => ?_⟩
  have hfr := cx.fr
  have hlo := cx.lo
  have k1 := k.1
  obtain ⟨ht, hre⟩ := wr.recv hk hci
  have hr := vx_runV (p := p) (l := l) (e := e) (R := R) (s := s) (m := m) (args := args) (below := below) (meth := meth) (c := c) (H := H) (locs := locs) (cells := cells) (slots := slots) (Ts := TB) (own := M.1.cls) (nL := M.2.2.1) (cc := M.2.1) (g := F0 m pc ls ((as.reverse ++ .ref r :: rest).map (trV G))) (b := adG G r) (As := as.map (trV G)) (rest := rest.map (trV G))
    ⟨cx.ex, cx.by, cx.ml, cx.ow, cx.ts⟩ (hc.2 l cx.st) ⟨callB_mk (n := n) (d1 := d1) (h := h) (h1 := h1) cx.ts hcode ok ⟨by omega, by omega⟩ hm, cx.ts _ hins, cx.ts _ hsel⟩ ⟨VPc.blind G _ h, hre, fun U hU hW => ⟨by rw [List.map_cons, ht], by rw [hU]; exact wr.moved hW⟩⟩
    rfl (by rw [List.length_map]; exact hn) (by rw [← ll]; exact lr.1) (by simp [ht]) (by show 2 * 0 + _ ≤ 8; rw [cat_sum]; omega) hd ⟨by have := hc.1.1; omega, by have := hc.1.2; omega⟩
  intro T hT X
  rcases hr T hT X with ⟨v', st₀, t, T', L, f0, X', hL, f1, f2, hq, go⟩ | ⟨q, st₀, t, T', L, E', ce, f0, X', hL, f1, f2, hx1, g1, g2, g3, go⟩
  · obtain ⟨⟨v2, ho, -⟩, -⟩ := hq
    cases ho
  · obtain ⟨ho, w1⟩ := hx1
    have ho : E = E' := by injection ho
    subst ho
    have kr := wr.2.2.2.2.2.2.1
    have wr' : WR G h1 s T'.heap := by rw [f1]; exact w1 s kr (by rw [← f2]; exact X'.warmed.alike)
    have hk2 := hc.1.1
    have hk3 := hc.1.2
    have kk : W p l e R s m args below meth c T'.heap (locs ++ L) (cells + (nH h1 - nH h)) (slots + (zH h1 - zH h)) (VQ G o h' below args s mc ms) (F0 m x.2.2.1 ls [.ref q]) := by
      have kz : ∀ ls', LR G (loc.set i uV) ls' → W p l e R s m args below meth c T'.heap (locs ++ L) (cells + (nH h1 - nH h)) (slots + (zH h1 - zH h)) (VQ G o h' below args s mc ms) (F0 m pc' ls' []) := fun ls' lr' => k.2 p l e R s m args below meth c T'.heap (locs ++ L) ls' _ _ mc ms cx wr' lr' (by rw [List.length_set]; exact ll) (fun z hz => (List.mem_append.mp hz).elim (hl z) (hL z)) (by omega) (by omega) c3 c4
      rcases hst9 with ⟨q4, ha, hb, hc9⟩ | ⟨ha, hc9⟩
      · subst hb; subst hc9
        exact lv_astore_n cx.ex cx.by ha rfl lr.has hi rfl (fun ls' hl' => kz ls' (LR.backU hl'))
      · subst hc9
        exact lv_astore cx.ex cx.by ha lr.has hi rfl (fun ls' hl' => kz ls' (LR.backU hl'))
    have hw := vx_catch (p := p) (l := l) (e := e) (R := R) (s := s) (m := m) (args := args) (below := below) (meth := meth) (c := c) (H := T'.heap) (locs := locs ++ L) (cells := cells + (nH h1 - nH h)) (slots := slots + (zH h1 - zH h)) (Q := VQ G o h' below args s mc ms) (pc := pc) (ls := ls) (rest := rest.map (trV G)) (own := M.1.cls) (name := E) (E := E) (ce := ce) (q := q)
      cx.ow (tableOf pre) ⟨x.1, x.2.1, x.2.2.1, x.2.2.2⟩ (tableOf suf) (by rw [cx.tb, hsp]; simp [tableOf]) (fun z hz => by
        rcases hpre z hz with q | ⟨z0, nm, hl1, hn1⟩
        · exact Or.inl q
        · exact Or.inr ⟨z0, nm, cx.ts _ hl1, kr.2.2.2.2.2.2.1 _ hn1⟩) hx h0 (cx.ts _ hlk) (va_Nw.use rfl (kr.2.2.2.2.2.1 _ hcw)) (by rw [f1]; exact g1) g2 g3 kk
    obtain ⟨t2, s2, q2⟩ := hw T' rfl X'
    exact ⟨t2, go.trans s2, q2⟩
/-- a static call of a method with handlers -/
theorem v_callSW {index n : Nat} {as rest : List Value} {v : Option Value} (hd : decode M.2.1 pc = .ok (.invokestatic index, 3)) (hp : pc + 3 = pc') (ok : okC M.1.cls index M1.1 n) (hcode : Cond.codeWith M1.1 M1.2.1 M1.2.2.1 M1.2.2.2.1 M1.2.2.2.2 ∈ TB) (hsta : Cond.static M1.1 ∈ TB) (hm : M1.2.2.1 ≤ 45) (hd1 : d1 + 1 ≤ d) (hn : as.length = n) (hst : as.reverse ++ rest = st) (hcat : (rest.map fun v => v.category).sum ≤ 8)
    (hc : VMW G M1 d1 as h (.inl v) h1) (k : V G M d pc' loc (v.toList ++ rest) h1 o h') : V G M d pc loc st h o h' := by
  subst hp; subst hst
  refine ⟨⟨Nat.le_trans hc.1.1 k.1.1, Nat.le_trans hc.1.2 k.1.2⟩, fun p l e R s m args below meth c H locs ls cells slots mc ms cx wr lr ll hl c1 c2 c3 c4 => ?_⟩
  have hfr := cx.fr
  have hlo := cx.lo
  have k1 := k.1
  have hG : GoodIn TB (wsW M1) := fun w hw => by
    rcases List.mem_cons.mp hw with rfl | hw
    · exact ⟨hcode, tb_good _ hcode⟩
    · exact ⟨hw, tb_good _ hw⟩
  have cw : vx_CSW R s args M.1.cls index M1.1 M1.2.1 M1.2.2.1 M1.2.2.2.1 M1.2.2.2.2 (wsW M1) (rmM d1 h h1) (nH h1 - nH h) (zH h1 - zH h) n :=
    ⟨⟨rfl, rfl, by show d1 + 1 ≤ _; omega, by show 8 + (M1.2.2.1 + 11) + 64 * d1 ≤ _; omega, pay_in cx.ts hG, List.mem_cons_self⟩, cx.ts _ hcode, cx.ts _ ok.2.1, ⟨ok.2.2.1, ok.2.2.2.1⟩, fun sig hs => by have h2 := ok.2.2.2.2; rw [hs] at h2; exact (Option.some.inj h2).symm, cx.ts _ ok.1, cx.ts _ hsta⟩
  have hr := vx_runSX (p := p) (l := l) (e := e) (R := R) (s := s) (m := m) (args := args) (below := below) (meth := meth) (c := c) (H := H) (locs := locs) (cells := cells) (slots := slots) (Ts := TB) (own := M.1.cls) (nL := M.2.2.1) (cc := M.2.1) (g := F0 m pc ls ((as.reverse ++ rest).map (trV G))) (As := as.map (trV G)) (rest := rest.map (trV G))
    ⟨cx.ex, cx.by, cx.ml, cx.ow, cx.ts⟩ (hc.2 l cx.st) cw ⟨VPc.blind G as h, fun U hU hW => ⟨rfl, by rw [hU]; exact wr.moved hW⟩⟩
    rfl (by rw [List.length_map]; exact hn) (by rw [← ll]; exact lr.1) (by simp) (by show 2 * 0 + _ ≤ 8; rw [cat_sum]; omega) hd ⟨by have := hc.1.1; omega, by have := hc.1.2; omega⟩
  exact run_ret hr cx wr lr ll hl rfl rfl hc.1.1 hc.1.2 k c1 c2 c3 c4
end VT
