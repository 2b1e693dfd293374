/-! ===== throw new NullPointerException(text): its own fillInStackTrace, synchronized, under a constructor with a message (follows the library's npeInit0 and plainInitS) ===== -/
section VN1
variable {p : Program} {e : Env} {below : List Frame} {s₀ : State} {self : Addr}
/-- NullPointerException.fillInStackTrace(), no traces kept, called from any frame -/
theorem vq_npeFill {X : State} {G : JFrame} {c : Code} (h : At X G.method c below) (hexec : p.tables.exec = Jvm.exec) (htr : e.platform.stackTraces = false)
    (T : ThrowableC) (L : T.Links e.platform s₀) (N : NpeC) (LN : N.Links T e.platform s₀) (hW : s₀.WarmedH X.vm) {t : ThreadId} (ht : X.cur = t)
    {cell cellS : Cell} {kcell : Class} {u0 : RefV} {ig : Instr} {len : Nat}
    (hcell : X.heap[self]? = some cell) (hobj : ∀ k, cell.vm ≠ .statics k) (hknown : cell.vm ≠ .unknown) (hfree : cell.monitor.owner = none)
    (hkcell : s₀.vm.classes[cell.cls]? = some kcell) (hv0 : cell.slots[N.fState.slot]? = some (.int 0)) (ht1 : Takes s₀ cell N.fState (.int 1)) (htS : Takes s₀ cell T.fStack u0.v)
    (hvS : cell.slots[T.fStack.slot]? = some u0.v) (hneSt : T.fStack.slot ≠ N.fState.slot) (hsel0 : selectMethod e.platform s₀.vm cell.cls T.fill0 = .method T.fill0)
    (hcellS : X.heap[T.aS]? = some cellS) (hneS : T.aS ≠ self) (hknownS : cellS.vm ≠ .unknown) (hvU : cellS.slots[T.fUnassigned.slot]? = some u0.v)
    (hskip : SkipFacts T e.platform s₀ (fun u => u) u0 ((npeCell N.toNpeT cell t).withEntry t)) (hdg : decode c.code G.pc = .ok (ig, len))
    (hroom1 : e.platform.stackFull (((X.setTop G).threads[(X.setTop G).cur]?).getD { frames := [] }) (X.setTop G).frames (1 + 2) = false)
    (hroom2 : ∀ vm, e.platform.stackFull ((((npeInside (X.setVm vm) G N.toNpeT self cell).setTop (fillJ N.fill self 37 [])).threads[((npeInside (X.setVm vm) G N.toNpeT self cell).setTop (fillJ N.fill self 37 [])).cur]?).getD { frames := [] }) ((npeInside (X.setVm vm) G N.toNpeT self cell).setTop (fillJ N.fill self 37 [])).frames (1 + 2) = false)
    (hroomN : ∀ vm, e.platform.stackFull ((((fillInside (npeInside (X.setVm vm) G N.toNpeT self cell) (fillJ N.fill self 37 []) T.fill self (npeCell N.toNpeT cell t)).setTop (fillJ T.fill self 16 [])).threads[((fillInside (npeInside (X.setVm vm) G N.toNpeT self cell) (fillJ N.fill self 37 []) T.fill self (npeCell N.toNpeT cell t)).setTop (fillJ T.fill self 16 [])).cur]?).getD { frames := [] }) ((fillInside (npeInside (X.setVm vm) G N.toNpeT self cell) (fillJ N.fill self 37 []) T.fill self (npeCell N.toNpeT cell t)).setTop (fillJ T.fill self 16 [])).frames (nativeFrameWords "java/lang/Throwable" "fillInStackTrace" 2) = false) :
    ∃ vm', s₀.WarmedH vm' ∧ ∀ target, Steps p.tables e below (((X.setVm vm').setCell self ((((npeCell N.toNpeT cell t).withEntry t).setSlot T.fStack.slot u0.v).left).left).setTop { G with pc := G.pc + len, stack := .ref self :: G.stack }) target →
      Steps p.tables e below (doInvoke e (X.setTop G) [] N.fill #[.ref self]).1 target := by
  have hlt : self < X.heap.size := (Array.getElem?_eq_some_iff.mp hcell).1
  have tk2 : Takes s₀ (npeCell N.toNpeT cell t) T.fStack u0.v := ⟨by simpa [npeCell, Cell.setSlot, Cell.withEntry] using htS.1, htS.2⟩
  have hvSN : (npeCell N.toNpeT cell t).slots[T.fStack.slot]? = some u0.v := by
    simp only [npeCell, Cell.setSlot, Cell.withEntry]
    rw [Array.getElem?_setIfInBounds_ne (Ne.symm hneSt)]
    exact hvS
  have hheld : ((npeCell N.toNpeT cell t).withEntry t).left = npeCell N.toNpeT cell t := Cell.left_withEntry_held _ rfl (by show 0 < cell.monitor.count + 1; omega)
  have hFmon : ((((npeCell N.toNpeT cell t).withEntry t).setSlot T.fStack.slot u0.v).left).monitor = (npeCell N.toNpeT cell t).monitor := by
    rw [Cell.left_monitor_congr (x := ((npeCell N.toNpeT cell t).withEntry t).setSlot T.fStack.slot u0.v) (y := (npeCell N.toNpeT cell t).withEntry t) rfl, hheld]
  have hinner : ∀ vm1, s₀.WarmedH vm1 → At (npeInside (X.setVm vm1) G N.toNpeT self cell) N.fill N.codeFill below → ∃ vm2, s₀.WarmedH vm2 ∧ ∀ t' : State,
      Steps p.tables e below (((npeInside (X.setVm vm2) G N.toNpeT self cell).setCell self ((((npeCell N.toNpeT cell t).withEntry t).setSlot T.fStack.slot u0.v).left)).setTop (fillJ N.fill self 40 [.ref self])) t' →
      Steps p.tables e below (doInvoke e ((npeInside (X.setVm vm1) G N.toNpeT self cell).setTop (fillJ N.fill self 37 [])) [] T.fill #[.ref self]).1 t' := fun vm1 hW1 hB => by
    have hc1 : (npeInside (X.setVm vm1) G N.toNpeT self cell).heap[self]? = some (npeCell N.toNpeT cell t) := by
      rw [← ht]
      exact heapAt_setCell_self _ (by show self < (X.heap.setIfInBounds self _).size; simpa using hlt)
    have hc2 : (npeInside (X.setVm vm1) G N.toNpeT self cell).heap[T.aS]? = some cellS := by
      show ((X.heap.setIfInBounds self _).setIfInBounds self _)[T.aS]? = _
      simp [Ne.symm hneS, hcellS]
    have hXvm : ∀ vm, (npeInside (X.setVm vm1) G N.toNpeT self cell).setVm vm = npeInside (X.setVm vm) G N.toNpeT self cell := fun vm => by rw [npeInside_setVm, State.setVm_twice]
    have hXcur : (npeInside (X.setVm vm1) G N.toNpeT self cell).cur = t := ht
    have hXW : s₀.WarmedH (npeInside (X.setVm vm1) G N.toNpeT self cell).vm := hW1
    have hr := hroom2 vm1
    have hrN : ∀ vm, e.platform.stackFull ((((fillInside ((npeInside (X.setVm vm1) G N.toNpeT self cell).setVm vm) (fillJ N.fill self 37 []) T.fill self (npeCell N.toNpeT cell t)).setTop (fillJ T.fill self 16 [])).threads[((fillInside ((npeInside (X.setVm vm1) G N.toNpeT self cell).setVm vm) (fillJ N.fill self 37 []) T.fill self (npeCell N.toNpeT cell t)).setTop (fillJ T.fill self 16 [])).cur]?).getD { frames := [] }) ((fillInside ((npeInside (X.setVm vm1) G N.toNpeT self cell).setVm vm) (fillJ N.fill self 37 []) T.fill self (npeCell N.toNpeT cell t)).setTop (fillJ T.fill self 16 [])).frames (nativeFrameWords "java/lang/Throwable" "fillInStackTrace" 2) = false := fun vm => by
      rw [hXvm]
      exact hroomN vm
    generalize npeInside (X.setVm vm1) G N.toNpeT self cell = Y at hB hc1 hc2 hXvm hXcur hXW hr hrN ⊢
    have hltY : self < Y.heap.size := (Array.getElem?_eq_some_iff.mp hc1).1
    obtain ⟨vm2, hW2, st⟩ := Steps.fillColdAnyV p (V := Y) (g := fillJ N.fill self 37 []) (c := N.codeFill) (self := self) hB hexec T L hXW (Nn := fun u => u) heapOnly_id (fun _ _ => rfl) (fun _ => rfl) (fun u x y => setCell_twice _ _ _ _)
      (cell := npeCell N.toNpeT cell t) (cellS := cellS) (cN := (npeCell N.toNpeT cell t).withEntry t) (u0 := u0) (ig := .invokespecial 24) (len := 3) [] hc1 hobj hknown (Or.inr (by rw [hXcur]; rfl)) hvSN hsel0 hc2 hneS hknownS hvU
      (by rw [hXcur]; exact fun _ hu => hu) (fun _ hu => hu) rfl rfl (by rw [hXcur]) (by simp [Cell.withEntry]) tk2 (by rw [LN.fillBytes]; exact LibCode.NullPointerException.Fill.at_37)
      (fun hne vm3 hW3 hAt t' hs => L.nativeOff p htr hAt hW3 (hrN vm3) hs) hr (by rw [hXcur]; exact hskip)
    refine ⟨vm2, hW2, fun t' hs => st t' ?_⟩
    rw [hXvm]
    exact hs
  obtain ⟨vm', hW', st⟩ := Steps.npeFillColdBy p (V := X) (g := G) (c := c) (self := self) h hexec T L N LN hW (Fi := fun u => u.setCell self ((((npeCell N.toNpeT cell t).withEntry t).setSlot T.fStack.slot u0.v).left)) (heapOnly_id.thenSetCell self _)
    (fun _ => rfl) (fun u x y => by show ((u.setCell self x).setCell self _).setCell self y = (u.setCell self _).setCell self y; rw [setCell_twice, setCell_twice, setCell_twice]) (cell := cell) (cFi := (((npeCell N.toNpeT cell t).withEntry t).setSlot T.fStack.slot u0.v).left) (kcell := kcell) (ig := ig) (len := len) []
    hcell hobj hknown hfree hkcell hv0 ht1 (fun u hu => heapAt_setCell_self _ (Array.getElem?_eq_some_iff.mp hu).1) (by rw [ht]; exact hFmon) hdg hinner hroom1
  refine ⟨vm', hW', fun target hrest => st target ?_⟩
  show Steps p.tables e below ((((X.setVm vm').setCell self _).setCell self _).setTop _) target
  rw [setCell_twice]
  exact hrest
end VN1
section VN2
variable {p : Program} {e : Env} {below : List Frame} {s₀ : State} {self : Addr}
/-- the rooms of the frames above a frame g: Throwable.<init>(String), both fillInStackTrace, the native one -/
theorem vq_npeRooms {V : State} {g : JFrame} (htop : V.topJava?.isSome) (T : ThrowableC) (hobjLocals : T.codeObj.maxLocals = 1) (Z : Init0T) (N : NpeC) (x : Cell) (msg : Value)
    {lim : Nat × Nat} (hlim : e.platform.stackLimits V.me = lim) {t : ThreadId} (hframes : V.frames.length + 3 < lim.1) (hwords : (stackUse (.java g :: V.frames.tail)).2 + 56 ≤ lim.2) :
    e.platform.stackFull (((V.setTop g).threads[(V.setTop g).cur]?).getD { frames := [] }) (V.setTop g).frames 2 = false ∧
    e.platform.stackFull ((((initSInside V g T.toThrowableT Z self msg).setTop (initSJ T.toThrowableT Z self msg 1 [])).threads[((initSInside V g T.toThrowableT Z self msg).setTop (initSJ T.toThrowableT Z self msg 1 [])).cur]?).getD { frames := [] }) ((initSInside V g T.toThrowableT Z self msg).setTop (initSJ T.toThrowableT Z self msg 1 [])).frames T.codeObj.maxLocals = false ∧
    e.platform.stackFull (((((initSInside V g T.toThrowableT Z self msg).setCell self x).setTop (initSJ T.toThrowableT Z self msg 24 [])).threads[(((initSInside V g T.toThrowableT Z self msg).setCell self x).setTop (initSJ T.toThrowableT Z self msg 24 [])).cur]?).getD { frames := [] }) (((initSInside V g T.toThrowableT Z self msg).setCell self x).setTop (initSJ T.toThrowableT Z self msg 24 [])).frames (1 + 2) = false ∧
    e.platform.stackFull ((((npeInside ((initSInside V g T.toThrowableT Z self msg).setCell self x) (initSJ T.toThrowableT Z self msg 24 []) N.toNpeT self x).setTop (fillJ N.fill self 37 [])).threads[((npeInside ((initSInside V g T.toThrowableT Z self msg).setCell self x) (initSJ T.toThrowableT Z self msg 24 []) N.toNpeT self x).setTop (fillJ N.fill self 37 [])).cur]?).getD { frames := [] }) ((npeInside ((initSInside V g T.toThrowableT Z self msg).setCell self x) (initSJ T.toThrowableT Z self msg 24 []) N.toNpeT self x).setTop (fillJ N.fill self 37 [])).frames (1 + 2) = false ∧
    e.platform.stackFull ((((fillInside (npeInside ((initSInside V g T.toThrowableT Z self msg).setCell self x) (initSJ T.toThrowableT Z self msg 24 []) N.toNpeT self x) (fillJ N.fill self 37 []) T.fill self (npeCell N.toNpeT x t)).setTop (fillJ T.fill self 16 [])).threads[((fillInside (npeInside ((initSInside V g T.toThrowableT Z self msg).setCell self x) (initSJ T.toThrowableT Z self msg 24 []) N.toNpeT self x) (fillJ N.fill self 37 []) T.fill self (npeCell N.toNpeT x t)).setTop (fillJ T.fill self 16 [])).cur]?).getD { frames := [] }) ((fillInside (npeInside ((initSInside V g T.toThrowableT Z self msg).setCell self x) (initSJ T.toThrowableT Z self msg 24 []) N.toNpeT self x) (fillJ N.fill self 37 []) T.fill self (npeCell N.toNpeT x t)).setTop (fillJ T.fill self 16 [])).frames (nativeFrameWords "java/lang/Throwable" "fillInStackTrace" 2) = false := by
  obtain ⟨g₀, hg⟩ := Option.isSome_iff_exists.mp htop
  obtain ⟨tl, htl⟩ := State.topJava?_eq_some.mp hg
  have hlen : V.frames.length = (Frame.java g :: V.frames.tail).length := by rw [htl]; rfl
  have hfg : (V.setTop g).frames = .java g :: V.frames.tail := by rw [State.frames_setTop _ htl, htl]; rfl
  have hlimg : e.platform.stackLimits (V.setTop g).me = lim := by rw [State.stackLimits_setTop _ htop]; exact hlim
  have hfU : (initSInside V g T.toThrowableT Z self msg).frames = .java (initSJ T.toThrowableT Z self msg 0 []) :: .java g :: V.frames.tail := frames_entered htop _
  have htopU : (initSInside V g T.toThrowableT Z self msg).topJava?.isSome := by rw [State.topJava?_of_frames hfU]; rfl
  have hlimU : e.platform.stackLimits (initSInside V g T.toThrowableT Z self msg).me = lim := by rw [State.stackLimits_pushFrame]; exact hlimg
  have hw13 : ∀ pc, (stackUse [Frame.java (initSJ T.toThrowableT Z self msg pc [])]).2 = 13 := by
    intro pc
    rw [stackUse_java, stackUse_nil]
    simp [operandWords]
  have hw27 : ∀ (m : MethodId) (pc : Nat), (stackUse [Frame.java (fillJ m self pc []), Frame.java (initSJ T.toThrowableT Z self msg 24 [])]).2 = 27 := by
    intro m pc
    rw [stackUse_java, hw13]
    simp [operandWords]
  have hw41 : (stackUse [Frame.java (fillJ T.fill self 16 []), Frame.java (fillJ N.fill self 37 []), Frame.java (initSJ T.toThrowableT Z self msg 24 [])]).2 = 41 := by
    rw [stackUse_java, hw27]
    simp [operandWords]
  generalize hX : (initSInside V g T.toThrowableT Z self msg).setCell self x = X
  have hfX : X.frames = .java (initSJ T.toThrowableT Z self msg 0 []) :: .java g :: V.frames.tail := by rw [← hX]; exact hfU
  have htopX : X.topJava?.isSome := by rw [← hX]; exact htopU
  have hlimX : e.platform.stackLimits X.me = lim := by rw [← hX]; exact hlimU
  have htopE : (X.setCell self (x.withEntry X.cur)).topJava?.isSome := htopX
  have hfF : (npeInside X (initSJ T.toThrowableT Z self msg 24 []) N.toNpeT self x).frames = .java (entryFrameSync N.fill #[.ref self] 1 self) :: .java (initSJ T.toThrowableT Z self msg 24 []) :: .java g :: V.frames.tail := by
    rw [show (npeInside X (initSJ T.toThrowableT Z self msg 24 []) N.toNpeT self x).frames = _ from frames_entered (g := (initSJ T.toThrowableT Z self msg 24 [])) htopE _]
    show _ :: _ :: (X.frames).tail = _
    rw [hfX]; rfl
  have htopF : (npeInside X (initSJ T.toThrowableT Z self msg 24 []) N.toNpeT self x).topJava?.isSome := by rw [State.topJava?_of_frames hfF]; rfl
  have hlimF : e.platform.stackLimits (npeInside X (initSJ T.toThrowableT Z self msg 24 []) N.toNpeT self x).me = lim := by
    show e.platform.stackLimits (fillInside X (initSJ T.toThrowableT Z self msg 24 []) N.fill self x).me = lim
    rw [State.stackLimits_pushFrame, State.stackLimits_setTop _ htopE]; exact hlimX
  generalize hY : npeInside X (initSJ T.toThrowableT Z self msg 24 []) N.toNpeT self x = Y at hfF htopF hlimF ⊢
  have htopG : (Y.setCell self ((npeCell N.toNpeT x t).withEntry Y.cur)).topJava?.isSome := htopF
  have hfG : (fillInside Y (fillJ N.fill self 37 []) T.fill self (npeCell N.toNpeT x t)).frames = .java (entryFrameSync T.fill #[.ref self] 1 self) :: .java (fillJ N.fill self 37 []) :: .java (initSJ T.toThrowableT Z self msg 24 []) :: .java g :: V.frames.tail := by
    rw [show (fillInside Y (fillJ N.fill self 37 []) T.fill self (npeCell N.toNpeT x t)).frames = _ from frames_entered (g := (fillJ N.fill self 37 [])) htopG _]
    show _ :: _ :: (Y.frames).tail = _
    rw [hfF]; rfl
  have htopG2 : (fillInside Y (fillJ N.fill self 37 []) T.fill self (npeCell N.toNpeT x t)).topJava?.isSome := by rw [State.topJava?_of_frames hfG]; rfl
  have hlimG : e.platform.stackLimits (fillInside Y (fillJ N.fill self 37 []) T.fill self (npeCell N.toNpeT x t)).me = lim := by
    rw [State.stackLimits_pushFrame, State.stackLimits_setTop _ htopG]; exact hlimF
  refine ⟨?_, ?_, ?_, ?_, ?_⟩
  · exact _root_.Jvm.roomAbove (pushed := []) (base := .java g :: V.frames.tail) (free := 56) (lim := lim) hfg hlimg (by rw [← hlen]; simp only [List.length_nil]; omega) hwords (by simp only [stackUse_nil]; omega)
  · exact _root_.Jvm.roomAbove (pushed := [.java (initSJ T.toThrowableT Z self msg 1 [])]) (base := .java g :: V.frames.tail) (free := 56) (lim := lim) (State.frames_setTop _ hfU) (by rw [State.stackLimits_setTop _ htopU]; exact hlimU)
      (by rw [← hlen]; simp only [List.length_cons, List.length_nil]; omega) hwords (by rw [hw13, hobjLocals]; omega)
  · exact _root_.Jvm.roomAbove (pushed := [.java (initSJ T.toThrowableT Z self msg 24 [])]) (base := .java g :: V.frames.tail) (free := 56) (lim := lim) (State.frames_setTop _ hfX) (by rw [State.stackLimits_setTop _ htopX]; exact hlimX)
      (by rw [← hlen]; simp only [List.length_cons, List.length_nil]; omega) hwords (by rw [hw13]; omega)
  · exact _root_.Jvm.roomAbove (pushed := [.java (fillJ N.fill self 37 []), .java (initSJ T.toThrowableT Z self msg 24 [])]) (base := .java g :: V.frames.tail) (free := 56) (lim := lim) (State.frames_setTop _ hfF) (by rw [State.stackLimits_setTop _ htopF]; exact hlimF)
      (by rw [← hlen]; simp only [List.length_cons, List.length_nil]; omega) hwords (by rw [hw27]; omega)
  · exact _root_.Jvm.roomAbove (pushed := [.java (fillJ T.fill self 16 []), .java (fillJ N.fill self 37 []), .java (initSJ T.toThrowableT Z self msg 24 [])]) (base := .java g :: V.frames.tail) (free := 56) (lim := lim) (State.frames_setTop _ hfG) (by rw [State.stackLimits_setTop _ htopG2]; exact hlimG)
      (by rw [← hlen]; simp only [List.length_cons, List.length_nil]; omega) hwords (by rw [hw41]; decide)
/-- the cell of a NullPointerException, made -/
abbrev npeBareS (T : ThrowableT) (N : NpeT) (cell : Cell) (self : Addr) (u0 sen : RefV) (msg : Value) : Cell := (npeBareV T N cell self u0 sen).setSlot T.fMsg.slot msg
theorem vq_npeInitS {V : State} {g : JFrame} {c : Code} (h : At V g.method c below) (hexec : p.tables.exec = Jvm.exec) (htr : e.platform.stackTraces = false)
    (T : ThrowableC) (L : T.Links e.platform s₀) (Z : Init0T) (LZ : Z.LaidS T.toThrowableT) (M : MsgC) (LM : M.Links T e.platform s₀) (N : NpeC) (LN : N.Links T e.platform s₀) (hW : s₀.WarmedH V.vm)
    {u0 sen : RefV} {msg : Value} (hmsg : msg.isRef = true) {cell cellS : Cell} {kcell : Class}
    (hcell : V.heap[self]? = some cell) (hobj : ∀ k, cell.vm ≠ .statics k) (hknown : cell.vm ≠ .unknown) (hfree : cell.monitor.owner = none) (hcount : cell.monitor.count = 0)
    (hkcell : s₀.vm.classes[cell.cls]? = some kcell) (hsel0 : selectMethod e.platform s₀.vm cell.cls T.fill0 = .method T.fill0) (hselF : selectMethod e.platform s₀.vm cell.cls T.fill = .method N.fill)
    (hcellS : V.heap[T.aS]? = some cellS) (hneS : T.aS ≠ self) (hknownS : cellS.vm ≠ .unknown) (hvU : cellS.slots[T.fUnassigned.slot]? = some u0.v) (hvSen : cellS.slots[T.fSentinel.slot]? = some sen.v)
    (hv0 : cell.slots[N.fState.slot]? = some (.int 0)) (hneC : T.fCause.slot ≠ N.fState.slot) (hneSt : T.fStack.slot ≠ N.fState.slot) (hneP : T.fSupp.slot ≠ N.fState.slot)
    (htC : Takes s₀ cell T.fCause (.ref self)) (htS : Takes s₀ cell T.fStack u0.v) (htP : Takes s₀ cell T.fSupp sen.v) (htM : Takes s₀ cell T.fMsg msg) (ht1 : Takes s₀ cell N.fState (.int 1)) (hobjLocals : T.codeObj.maxLocals = 1)
    (hskip : SkipFacts T e.platform s₀ (fun u => u) u0 ((npeCell N.toNpeT (preparedCellV T.toThrowableT cell self u0 sen) V.cur).withEntry V.cur))
    {ig : Instr} {len : Nat} (acts : List Action) {lim : Nat × Nat} (hlim : e.platform.stackLimits V.me = lim) (hframes : V.frames.length + 3 < lim.1) (hwords : (stackUse (.java g :: V.frames.tail)).2 + 56 ≤ lim.2) (hdg : decode c.code g.pc = .ok (ig, len)) :
    ∃ vm', s₀.WarmedH vm' ∧ ∀ target, Steps p.tables e below (((V.setVm vm').setCell self (npeBareS T.toThrowableT N.toNpeT cell self u0 sen msg)).setTop { g with pc := g.pc + len }) target →
      Steps p.tables e below (doInvoke e (V.setTop g) acts (Z.m T.toThrowableT) #[.ref self, msg]).1 target := by
  have hlt : self < V.heap.size := (Array.getElem?_eq_some_iff.mp hcell).1
  obtain ⟨r1, r2, -, -, -⟩ := vq_npeRooms (e := e) (g := g) (self := self) (t := V.cur) h.top T hobjLocals Z N (preparedCellV T.toThrowableT cell self u0 sen) msg hlim hframes hwords
  have tk : ∀ {f : Field} {v : Value}, Takes s₀ cell f v → Takes s₀ (preparedCellV T.toThrowableT cell self u0 sen) f v := fun h' => ⟨by simpa [preparedCellV, Cell.setSlot] using h'.1, h'.2⟩
  have hvS : (preparedCellV T.toThrowableT cell self u0 sen).slots[T.fStack.slot]? = some u0.v := by
    have h1 : T.fStack.slot < cell.slots.size := htS.1
    simp [preparedCellV, Cell.setSlot, Ne.symm L.stackApartSupp, h1]
  have hv0P : (preparedCellV T.toThrowableT cell self u0 sen).slots[N.fState.slot]? = some (.int 0) := by
    simp [preparedCellV, Cell.setSlot, hneC, hneSt, hneP, hv0]
  have hfill : ∀ vm1, s₀.WarmedH vm1 → At ((initSInside (V.setVm vm1) g T.toThrowableT Z self msg).setCell self (preparedCellV T.toThrowableT cell self u0 sen)) (Z.m T.toThrowableT) Z.code below → ∃ vm2, s₀.WarmedH vm2 ∧ ∀ t' : State,
      Steps p.tables e below ((((initSInside (V.setVm vm2) g T.toThrowableT Z self msg).setCell self (preparedCellV T.toThrowableT cell self u0 sen)).setCell self (npeBareV T.toThrowableT N.toNpeT cell self u0 sen)).setTop (initSJ T.toThrowableT Z self msg 27 [.ref self])) t' →
      Steps p.tables e below (doInvoke e (((initSInside (V.setVm vm1) g T.toThrowableT Z self msg).setCell self (preparedCellV T.toThrowableT cell self u0 sen)).setTop (initSJ T.toThrowableT Z self msg 24 [])) [] N.fill #[.ref self]).1 t' := fun vm1 hW1 hA => by
    have hXvm : ∀ vm, ((initSInside (V.setVm vm1) g T.toThrowableT Z self msg).setCell self (preparedCellV T.toThrowableT cell self u0 sen)).setVm vm = (initSInside (V.setVm vm) g T.toThrowableT Z self msg).setCell self (preparedCellV T.toThrowableT cell self u0 sen) := fun vm => by rw [State.setCell_setVm, initSInside_setVm, State.setVm_twice]
    have rr := fun vm => vq_npeRooms (e := e) (V := V.setVm vm) (g := g) (self := self) (t := V.cur) h.top T hobjLocals Z N (preparedCellV T.toThrowableT cell self u0 sen) msg hlim hframes hwords
    have hc1 : ((initSInside (V.setVm vm1) g T.toThrowableT Z self msg).setCell self (preparedCellV T.toThrowableT cell self u0 sen)).heap[self]? = some (preparedCellV T.toThrowableT cell self u0 sen) := heapAt_setCell_self (s := initSInside (V.setVm vm1) g T.toThrowableT Z self msg) _ hlt
    have hc2 : ((initSInside (V.setVm vm1) g T.toThrowableT Z self msg).setCell self (preparedCellV T.toThrowableT cell self u0 sen)).heap[T.aS]? = some cellS := by rw [heapAt_setCell_ne _ (Ne.symm hneS)]; exact hcellS
    obtain ⟨vm2, hW2, st⟩ := vq_npeFill (p := p) (e := e) (X := (initSInside (V.setVm vm1) g T.toThrowableT Z self msg).setCell self (preparedCellV T.toThrowableT cell self u0 sen)) (G := initSJ T.toThrowableT Z self msg 24 []) (c := Z.code) (self := self) (t := V.cur) hA hexec htr T L N LN hW1 rfl
      (u0 := u0) (ig := .invokevirtual 27) (len := 3) hc1 hobj hknown hfree hkcell hv0P (tk ht1) (tk htS) hvS hneSt hsel0 hc2 hneS hknownS hvU hskip (by rw [LZ.bytes]; exact LibCode.Throwable.InitS.at_24) (rr vm1).2.2.1 (fun vm => by rw [hXvm]; exact (rr vm).2.2.2.1) (fun vm => by rw [hXvm]; exact (rr vm).2.2.2.2)
    refine ⟨vm2, hW2, fun t' hs => st t' ?_⟩
    rw [hXvm, npeBareV_eq T.toThrowableT N.toNpeT self u0 sen V.cur hfree hcount]
    exact hs
  obtain ⟨vm', hW', st⟩ := Steps.throwableInitSColdByV p h hexec T L Z LZ M LM hW (F := fun u => u.setCell self (npeBareV T.toThrowableT N.toNpeT cell self u0 sen)) (heapOnly_id.thenSetCell self _) (fun u vm => rfl)
    hmsg (cF := npeBareV T.toThrowableT N.toNpeT cell self u0 sen) hcell hknown (fun u hu => heapAt_setCell_self _ (Array.getElem?_eq_some_iff.mp hu).1) rfl rfl (by simp [npeBareV, preparedCellV, Cell.setSlot]) htM hdg (mSel := N.fill) (methSel := N.methFill) (kSel := N.kN) hobj hselF LN.method LN.fillAbstract LN.cls LN.notInterface hfill acts
    hcellS hneS hknownS hvU hvSen htC htS htP r1 r2
  refine ⟨vm', hW', fun target hrest => st target ?_⟩
  show Steps p.tables e below (((((V.setVm vm').setCell self (preparedCellV T.toThrowableT cell self u0 sen)).setCell self (npeBareV T.toThrowableT N.toNpeT cell self u0 sen)).setCell self ((npeBareV T.toThrowableT N.toNpeT cell self u0 sen).setSlot T.fMsg.slot msg)).setTop { g with pc := g.pc + len }) target
  rw [setCell_twice, setCell_twice]
  exact hrest
end VN2
def vn_ats (own : String) (ic : Nat) : List Cond :=
  Bundle.throwableAtoms ++ Bundle.throwableSAtoms ++ Bundle.npeAtoms ++ Bundle.chainSAtoms Bundle.nN [Bundle.rN, Bundle.eN] ++
  [.methodLink own ic (Bundle.initS Bundle.nN), .instantiable Bundle.nN 8, .castable Bundle.nN Bundle.nN, .selects Bundle.nN Bundle.tFill0 Bundle.tFill0, .selects Bundle.nN Bundle.tFill Bundle.nFill,
   .lays Bundle.nN Bundle.tN "cause" "Ljava/lang/Throwable;", .lays Bundle.nN Bundle.tN "stackTrace" Bundle.steD, .lays Bundle.nN Bundle.tN "suppressedExceptions" Bundle.listD, .lays Bundle.nN Bundle.tN "detailMessage" "Ljava/lang/String;",
   .isRef (.static Bundle.tN "UNASSIGNED_STACK" Bundle.steD), .isRef (.static Bundle.tN "SUPPRESSED_SENTINEL" Bundle.listD),
   .fieldLink Bundle.tN 198 Bundle.tN "backtrace" Bundle.objD, .lays Bundle.tN Bundle.tN "backtrace" Bundle.objD, .lays Bundle.nN Bundle.tN "backtrace" Bundle.objD]
def vn_atX (own : String) (ic : Nat) : List Cond := (vn_ats own ic).filter vx_no
section VN3
variable {p : Program} {l : Launch} {e : Env} {R : Room} {s : State} {m₀ : MethodId} {args : Array Value} {below : List Frame} {meth : Method} {c : Code} {W : State} {locs : List Loc} {cells slots : Nat}
theorem vn_chain {T' : State} (X : Stand p l e R s m₀ args below meth c T' locs cells slots) (hexec : p.tables.exec = Jvm.exec) (htr : e.platform.stackTraces = false) {g : JFrame} (hg : g.method = m₀) (hsize : g.locals.size = c.maxLocals)
    (T : ThrowableC) (L : T.Links e.platform s) (Z : Init0T) (LZ : Z.LaidS T.toThrowableT) (M : MsgC) (LM : M.Links T e.platform s) (N : NpeC) (LN : N.Links T e.platform s)
    (Ps : List PassC) (hL : ∀ P, P ∈ Ps → P.LinksS e.platform s) (hlink : PassesOn (Z.m T.toThrowableT) (Ps.map (·.toPassT)))
    {u0 sen : RefV} {self : Addr} {msg : Value} (hmsg : msg.isRef = true) {cell cellS : Cell} {kcell : Class}
    (hcell : T'.heap[self]? = some cell) (hobj : ∀ k, cell.vm ≠ .statics k) (hknown : cell.vm ≠ .unknown) (hfree : cell.monitor.owner = none) (hcount : cell.monitor.count = 0)
    (hkcell : s.vm.classes[cell.cls]? = some kcell) (hsel0 : selectMethod e.platform s.vm cell.cls T.fill0 = .method T.fill0) (hselF : selectMethod e.platform s.vm cell.cls T.fill = .method N.fill)
    (hcellS : T'.heap[T.aS]? = some cellS) (hneS : T.aS ≠ self) (hknownS : cellS.vm ≠ .unknown) (hvU : cellS.slots[T.fUnassigned.slot]? = some u0.v) (hvSen : cellS.slots[T.fSentinel.slot]? = some sen.v)
    (hv0 : cell.slots[N.fState.slot]? = some (.int 0)) (hneC : T.fCause.slot ≠ N.fState.slot) (hneSt : T.fStack.slot ≠ N.fState.slot) (hneP : T.fSupp.slot ≠ N.fState.slot)
    (htC : Takes s cell T.fCause (.ref self)) (htS : Takes s cell T.fStack u0.v) (htP : Takes s cell T.fSupp sen.v) (htM : Takes s cell T.fMsg msg) (ht1 : Takes s cell N.fState (.int 1)) (hobjLocals : T.codeObj.maxLocals = 1)
    (hskip : SkipFacts T e.platform s (fun u => u) u0 ((npeCell N.toNpeT (preparedCellV T.toThrowableT cell self u0 sen) T'.cur).withEntry T'.cur))
    {ig : Instr} {len : Nat} (acts : List Action) (hdg : decode c.code g.pc = .ok (ig, len))
    (hRframes : Ps.length + 3 < R.frames) (hRlocals : 2 * g.monitorRoom + (g.stack.map fun v => v.category).sum + (13 * Ps.length + 56) ≤ R.locals) :
    ∃ vm', Stand p l e R s m₀ args below meth c ((T'.setVm vm').setCell self (npeBareS T.toThrowableT N.toNpeT cell self u0 sen msg)) (locs ++ [⟨self, T.fCause.slot⟩, ⟨self, T.fStack.slot⟩, ⟨self, T.fSupp.slot⟩, ⟨self, N.fState.slot⟩, ⟨self, T.fStack.slot⟩, ⟨self, T.fMsg.slot⟩]) cells slots ∧
      ∀ target, Steps p.tables e below (((T'.setVm vm').setCell self (npeBareS T.toThrowableT N.toNpeT cell self u0 sen msg)).setTop { g with pc := g.pc + len }) target →
        Steps p.tables e below (doInvoke e (T'.setTop g) acts (firstOf (Z.m T.toThrowableT) (Ps.map (·.toPassT))) #[.ref self, msg]).1 target := by
  have h : At T' g.method c below := by rw [hg]; exact X.here
  have hfr' : T'.frames.length + Ps.length + 3 < (e.platform.stackLimits T'.me).1 := by have := X.framesAbove hRframes; omega
  have hwd' : (stackUse (.java g :: T'.frames.tail)).2 + 13 * Ps.length + 56 ≤ (e.platform.stackLimits T'.me).2 := by have := X.stackAbove hsize (K := 13 * Ps.length + 56) hRlocals; omega
  have hch : ∃ vm', s.WarmedH vm' ∧ ∀ target, Steps p.tables e below (((T'.setVm vm').setCell self (npeBareS T.toThrowableT N.toNpeT cell self u0 sen msg)).setTop { g with pc := g.pc + len }) target →
        Steps p.tables e below (doInvoke e (T'.setTop g) acts (firstOf (Z.m T.toThrowableT) (Ps.map (·.toPassT))) #[.ref self, msg]).1 target := by
    obtain ⟨f1, -, -, f4, f5, f6⟩ := chainEnd_facts e.platform self msg (Ps.map (·.toPassT)) T' g h.top
    have fc := chainEnd_cur self msg (Ps.map (·.toPassT)) T' g
    rw [List.length_map] at f5 f6
    refine Steps.initChainSCold hexec (H := fun u => u.setCell self (npeBareS T.toThrowableT N.toNpeT cell self u0 sen msg)) (heapOnly_id.thenSetCell self _) (Z.m T.toThrowableT) hmsg (e.platform.stackLimits T'.me) Ps T' g c ig len acts h X.warmed hL hlink hdg rfl (by omega) (by omega) (fun vm1 hW1 c' ig' len' hA' hdg' => ?_)
    simp only [chainEnd_setVm] at hA' hdg' ⊢
    generalize chainEnd self msg T' g (Ps.map (·.toPassT)) = E at f1 f4 f5 f6 fc hA' hdg' ⊢
    obtain ⟨vm2, hW2, st⟩ := vq_npeInitS (p := p) (e := e) (V := E.1.setVm vm1) (g := E.2) (self := self) hA' hexec htr T L Z LZ M LM N LN hW1 hmsg
      (by show E.1.heap[self]? = _; rw [f1]; exact hcell) hobj hknown hfree hcount hkcell hsel0 hselF (by show E.1.heap[T.aS]? = _; rw [f1]; exact hcellS) hneS hknownS hvU hvSen hv0 hneC hneSt hneP htC htS htP htM ht1 hobjLocals
      (by rw [show (E.1.setVm vm1).cur = T'.cur from fc]; exact hskip) [] (lim := e.platform.stackLimits T'.me) (by show e.platform.stackLimits E.1.me = _; rw [f4]) (by show E.1.frames.length + 3 < _; rw [f5]; omega)
      (by show (stackUse (.java E.2 :: E.1.frames.tail)).2 + 56 ≤ _; rw [f6]; omega) hdg'
    exact ⟨vm2, hW2, fun t' hs => st t' (by rw [State.setVm_twice]; exact hs)⟩
  obtain ⟨vm', hW', st⟩ := hch
  have X2 := X.noted hW'
  have ha : self < (T'.setVm vm').heap.size := (Array.getElem?_eq_some_iff.mp hcell).1
  have X3 := (((((X2.stored (a := self) hcell T.fCause.slot (.ref self)).storedAgain ha T.fStack.slot u0.v).storedAgain ha T.fSupp.slot sen.v).storedAgain ha N.fState.slot (.int 1)).storedAgain ha T.fStack.slot u0.v).storedAgain ha T.fMsg.slot msg
  refine ⟨vm', ?_, st⟩
  simpa only [List.append_assoc, List.cons_append, List.nil_append] using X3
set_option maxHeartbeats 1000000 in
theorem vn_ctor (X : Stand p l e R s m₀ args below meth c W locs cells slots) (hexec : p.tables.exec = Jvm.exec) (htr : e.platform.stackTraces = false) {own : String} {ic : Nat}
    (hown : s.vm.findClass own = some m₀.cls) (h : ∀ a ∈ vn_ats own ic, a.before args s = true)
    (hlocs : ∀ x ∈ locs, ∀ cell, s.heap[x.base]? = some cell → cell.vm.isStatics = false)
    {a : Addr} {cX : ClassId} {kX : Class} (hfoundX : s.vm.findClass Bundle.nN = some cX) (hkX : s.vm.classes[cX]? = some kX) (hcell : W.heap[a]? = some (freshCell cX kX)) (hnew : s.heap.size ≤ a)
    {msg : Value} (hmsg : msg.isRef = true)
    {g : JFrame} (hg : g.method = m₀) (hsize : g.locals.size = c.maxLocals) (hlocked : g.locked = none) (hentered : g.entered = []) {rest : List Value} (hstack : g.stack = msg :: .ref a :: .ref a :: rest)
    (hd6 : decode c.code g.pc = .ok (.invokespecial ic, 3)) (hd9 : decode c.code (g.pc + 3) = .ok (.athrow, 1)) (hout : ∀ x ∈ c.exceptionTable.toList, covers x (g.pc + 3) = false)
    (hRframes : 6 < R.frames) (hRlocals : 2 * g.monitorRoom + ((Value.ref a :: rest).map fun v => v.category).sum + 95 ≤ R.locals) (hlocks : meth.locks = false) :
    ∃ U : State, Steps p.tables e below (W.setTop g) U ∧ U.status = .running ∧ Ended U below (.threw a) ∧ s.WarmedH U.vm ∧ s.sameButNew ({ U with vm := s.vm } : State) locs cells slots ∧
      ∃ ce, U.heap[a]? = some ce ∧ s.vm.findClass Bundle.nN = some ce.cls ∧ ce.vm = .none := by
  have howns : e.platform.frameOwnsMonitors = true := by rw [X.admits.platform]
  have hfin : e.platform.finalization = false := by rw [X.admits.platform]
  have hpl : e.platform.magicAccessors = ({} : Platform).magicAccessors := by rw [X.admits.platform]
  have hpl2 : e.platform.arrayCloneIsPublic = true := by rw [X.admits.platform]
  have a' : ∀ x, x ∈ vn_ats own ic → x.holds args s none s [] = true := fun x hx => h x hx
  obtain ⟨T, Z0, L, -, Y'⟩ := ThrowableC.of_atoms (args := args) howns hfin hpl (fun x hx => h x (by simp [vn_ats, hx]))
  obtain ⟨Z, M, LZ, LM, hnZ⟩ := Init0T.ofS_atoms (args := args) hpl L Y' (fun x hx => h x (by simp [vn_ats, hx]))
  obtain ⟨N, LN, hcN, hnNF, hordN, hffS⟩ := NpeC.of_atoms (args := args) hpl hpl2 L Y' (fun x hx => h x (by simp [vn_ats, hx]))
  obtain ⟨P1, Ps, hlen, L1, hL, hP1m, hlink1, hlink⟩ := Bundle.chainS (args := args) hpl hnZ [Bundle.rN, Bundle.eN] Bundle.nN (by decide) (by decide) (fun x hx => h x (by simp [vn_ats, hx]))
  have hfound : s.vm.findClass Bundle.nN = some P1.m.cls := findClass_of_methodNamed hP1m
  cases Option.some.inj (hfoundX.symm.trans hfound)
  have ecls : N.cN = P1.m.cls := Option.some.inj (hcN.symm.trans hfound)
  have hkN : s.vm.classes[P1.m.cls]? = some N.kN := by rw [← ecls]; exact LN.cls
  cases Option.some.inj (hkX.symm.trans hkN)
  have hk := hkN
  have hsel0 : selectMethod e.platform s.vm P1.m.cls T.fill0 = .method T.fill0 := by
    obtain ⟨c2, r2, m2, q1, q2, q3, q4, -⟩ := Cond.selects_spec (a' (.selects Bundle.nN Bundle.tFill0 Bundle.tFill0) (by simp [vn_ats]))
    cases Option.some.inj (q1.symm.trans hfound)
    cases Option.some.inj (q2.symm.trans (State.methodFound?_of_named Y'.fill0 (by decide)))
    cases Option.some.inj (q3.symm.trans Y'.fill0)
    rw [Launch.admits_selectMethod X.admits]; exact q4
  have hselF : selectMethod e.platform s.vm P1.m.cls T.fill = .method N.fill := by
    obtain ⟨c2, r2, m2, q1, q2, q3, q4, -⟩ := Cond.selects_spec (a' (.selects Bundle.nN Bundle.tFill Bundle.nFill) (by simp [vn_ats]))
    cases Option.some.inj (q1.symm.trans hfound)
    cases Option.some.inj (q2.symm.trans (State.methodFound?_of_named Y'.fill (by decide)))
    cases Option.some.inj (q3.symm.trans hnNF)
    rw [Launch.admits_selectMethod X.admits]; exact q4
  obtain ⟨cellS0, hcS0, hiss⟩ := Y'.statics
  obtain ⟨u0, hu0⟩ := Cond.staticRefV Y'.unassigned L.unassignedStatic L.statics hcS0 hiss (a' (.isRef (.static Bundle.tN "UNASSIGNED_STACK" Bundle.steD)) (by simp [vn_ats]))
  obtain ⟨sen, hsen⟩ := Cond.staticRefV Y'.sentinel L.sentinelStatic L.statics hcS0 hiss (a' (.isRef (.static Bundle.tN "SUPPRESSED_SENTINEL" Bundle.listD)) (by simp [vn_ats]))
  obtain ⟨ci198, i198, fB, hk198, hg198, ha198, hsB, -, hnB, htB, hffB⟩ := Cond.ownField (t := .object "java/lang/Object") Y'.found L.cls (by decide +kernel) (a' (.fieldLink Bundle.tN 198 Bundle.tN "backtrace" Bundle.objD) (by simp [vn_ats])) (a' (.lays Bundle.tN Bundle.tN "backtrace" Bundle.objD) (by simp [vn_ats])) e.platform hpl
  obtain ⟨cellS, hcS', heS, -, hkeep⟩ := X.same.2.2.2.2.2 T.aS cellS0 hcS0
  have hcellS : W.heap[T.aS]? = some cellS := hcS'
  have hout' : ∀ i, (⟨T.aS, i⟩ : Loc) ∉ locs := fun i hmem => by
    have := hlocs _ hmem cellS0 hcS0
    rw [hiss] at this; cases this
  have hknownS : cellS.vm ≠ .unknown := by
    rw [heS]; intro hu
    rw [show cellS0.vm = .unknown from hu] at hiss
    cases hiss
  have hneS : T.aS ≠ a := Nat.ne_of_lt (Nat.lt_of_lt_of_le (Array.getElem?_eq_some_iff.mp hcS0).1 hnew)
  obtain ⟨iM, hffM⟩ := Y'.msg
  obtain ⟨tyC, dC, hdC, hdnC⟩ := Cond.laysAt hfound hk Y'.cause (a' (.lays Bundle.nN Bundle.tN "cause" "Ljava/lang/Throwable;") (by simp [vn_ats]))
  obtain ⟨tyS, dS, hdS, hdnS⟩ := Cond.laysAt hfound hk Y'.stack (a' (.lays Bundle.nN Bundle.tN "stackTrace" Bundle.steD) (by simp [vn_ats]))
  obtain ⟨tyP, dP, hdP, hdnP⟩ := Cond.laysAt hfound hk Y'.supp (a' (.lays Bundle.nN Bundle.tN "suppressedExceptions" Bundle.listD) (by simp [vn_ats]))
  obtain ⟨tyM, dM, hdM, hdnM⟩ := Cond.laysAt hfound hk hffM (a' (.lays Bundle.nN Bundle.tN "detailMessage" "Ljava/lang/String;") (by simp [vn_ats]))
  obtain ⟨tyX, dX, hdX, hdnX⟩ := Cond.laysAt hfound hk hffS (a' (.lays Bundle.nN Bundle.nN "extendedMessageState" "I") (by simp [vn_ats, Bundle.npeAtoms]))
  have hnX : N.fState.name = "extendedMessageState" := (State.fieldFound?_type hffS (t := .int) (by decide +kernel)).1
  obtain ⟨tyB, dB, hdB, hdnB⟩ := Cond.laysAt hfound hk hffB (a' (.lays Bundle.nN Bundle.tN "backtrace" Bundle.objD) (by simp [vn_ats]))
  have bC := Cond.laysApart hdB hdC hdnB hdnC (by rw [hnB, Y'.causeName]; decide)
  have bS := Cond.laysApart hdB hdS hdnB hdnS (by rw [hnB, Y'.stackName]; decide)
  have bP := Cond.laysApart hdB hdP hdnB hdnP (by rw [hnB, Y'.suppName]; decide)
  have bX := Cond.laysApart hdB hdX hdnB hdnX (by rw [hnB, hnX]; decide)
  have hskip : SkipFacts T e.platform s (fun u => u) u0 ((npeCell N.toNpeT (preparedCellV T.toThrowableT (freshCell P1.m.cls N.kN) a u0 sen) W.cur).withEntry W.cur) :=
    ⟨{ ci198 := ci198, i198 := i198, fBack := fB }, ⟨hk198, hg198, ha198, hsB⟩, by
      have := fresh_default (c := P1.m.cls) tyB
      rw [htB] at this
      simpa [npeCell, preparedCellV, Cell.setSlot, Cell.withEntry, Array.getElem?_setIfInBounds, bC, bS, bP, bX, bC.symm, bS.symm, bP.symm, bX.symm, defaultValue] using this, fun _ _ => rfl⟩
  obtain ⟨tm, methC, cdC, kC, vm₁, hnC, -, -, -, -, -, -, -, hW₁, st1⟩ := Steps.initColdS (tb := p.tables) (e := e) (below := below) (s := s) (U := W) X.here hexec X.warmed hpl hown (t := Bundle.initS Bundle.nN) rfl rfl (by decide)
    (a' (.methodLink own ic (Bundle.initS Bundle.nN)) (by simp [vn_ats])) (h (.instanceMethod (Bundle.initS Bundle.nN)) (by simp [vn_ats, Bundle.chainSAtoms, Bundle.passSAtoms])) (bytes := Bundle.six) (maxL := 2) (h (.code (Bundle.initS Bundle.nN) Bundle.six 2 none) (by simp [vn_ats, Bundle.chainSAtoms, Bundle.passSAtoms]))
    (f := g) hg (a := a) (msg := msg) (rest := .ref a :: rest) hstack hd6
  cases Option.some.inj (hnC.symm.trans hP1m)
  have X₁ := X.noted hW₁
  obtain ⟨vm₂, X₂, st2⟩ := vn_chain X₁ hexec htr (g := { g with stack := .ref a :: rest }) hg hsize T L Z LZ M LM N LN (P1 :: Ps)
    (fun P hP => by rcases List.mem_cons.mp hP with rfl | hP; exact L1; exact hL P hP) ⟨hlink1, hlink⟩ (u0 := u0) (sen := sen) (self := a) hmsg (cell := freshCell P1.m.cls N.kN) (cellS := cellS)
    hcell (fun _ => by simp) (by simp) rfl rfl hk hsel0 hselF hcellS hneS hknownS (by rw [hkeep _ (hout' _)]; exact hu0) (by rw [hkeep _ (hout' _)]; exact hsen)
    (by rw [fresh_default tyX, LN.stateInt]; rfl)
    (Cond.laysApart hdC hdX hdnC hdnX (by rw [Y'.causeName, hnX]; decide)) (Cond.laysApart hdS hdX hdnS hdnX (by rw [Y'.stackName, hnX]; decide)) (Cond.laysApart hdP hdX hdnP hdnX (by rw [Y'.suppName, hnX]; decide))
    (Takes.of_laid hk hordN tyC (by rw [Y'.causeType]; rfl)) (Takes.of_laid hk hordN tyS (by rw [Y'.stackType]; exact fits_refV_array _ u0)) (Takes.of_laid hk hordN tyP (by rw [Y'.suppType]; exact fits_refV_object _ sen))
    (Takes.of_laid hk hordN tyM (by rw [Y'.msgType]; exact fits_refV_object _ ⟨msg, hmsg⟩)) (Takes.of_laid hk hordN tyX (by rw [LN.stateInt]; rfl)) Y'.objLocals hskip [] hd6
    (by simp only [List.length_cons, hlen, List.length_nil]; omega) (by simp only [List.length_cons, hlen, List.length_nil]; exact hRlocals)
  obtain ⟨hwalk, hrun, hended, hWU, hsame⟩ := X₂.athrowLeaves hexec (g := { g with stack := .ref a :: rest, pc := g.pc + 3 }) hg hlocked hentered hout (a := a) (rest := rest) rfl hd9
  have hlt : a < ((W.setVm vm₁).setVm vm₂).heap.size := (Array.getElem?_eq_some_iff.mp hcell).1
  have hU := heapAt_setCell_self (s := (W.setVm vm₁).setVm vm₂) (npeBareS T.toThrowableT N.toNpeT (freshCell P1.m.cls N.kN) a u0 sen msg) hlt
  refine ⟨_, st1 _ (fun acts => ?_), hrun, hended, hWU, hsame.weaken (fun y hy hlt' => ?_) (Nat.le_refl _) (Nat.le_refl _), _, hU, hfound, rfl⟩
  · rw [doInvoke_state]
    exact st2 _ hwalk
  · rcases List.mem_append.mp hy with h1 | h1
    · exact h1
    · exfalso
      have hb : y.base = a := by
        simp only [List.mem_cons, List.not_mem_nil, or_false] at h1
        rcases h1 with rfl | rfl | rfl | rfl | rfl | rfl <;> rfl
      rw [hb] at hlt'
      exact Nat.not_lt.mpr hnew hlt'
end VN3
section VN4
variable {p : Program} {l : Launch} {e : Env} {R : Room} {s : State} {m : MethodId} {args : Array Value} {below : List Frame} {meth : Method} {c : Code} {H : Heap} {locs : List Loc} {cells slots : Nat}
variable {mc ms : Nat} {free : Addr → Prop} {ls : Array Slot} {rest : List Value}
variable {Qc : Array Value → State → Outcome → State → Prop} {XC : String → State → State → Prop}
theorem vn_throwW {cc : ByteArray} {pc : Nat} (hexec : p.tables.exec = Jvm.exec) (hb : c.code = cc) (hl : l.stackTraces = false) {own text : String} {ik is ic mc ms sa : Nat} {A : Nat → Prop}
    (hown : s.vm.findClass own = some m.cls)
    (hk : (Cond.classLink own ik Bundle.nN).before args s = true) (hini : (Cond.initialized Bundle.nN).before args s = true) (hstr : vk_R own is text sa s) (hat : ∀ w ∈ vn_atX own ic, w.before args s = true)
    (hgood : ∀ w ∈ Cond.classLink own ik Bundle.nN :: Cond.initialized Bundle.nN :: vn_atX own ic, vx_ot w = true)
    (hU : vx_Zq Bundle.tN "UNASSIGNED_STACK" Bundle.steD A s H) (hN : vx_Zq Bundle.tN "SUPPRESSED_SENTINEL" Bundle.listD A s H) (hsize : ls.size = c.maxLocals)
    (d0 : decode cc pc = .ok (.new ik, 3)) (d3 : decode cc (pc + 3) = .ok (.dup, 1)) (d4 : decode cc (pc + 4) = .ok (.ldc_w is, 3)) (d7 : decode cc (pc + 7) = .ok (.invokespecial ic, 3)) (d10 : decode cc (pc + 10) = .ok (.athrow, 1))
    (hout : ∀ x ∈ c.exceptionTable.toList, covers x (pc + 10) = false)
    (hRframes : 6 < R.frames) (hRlocals : (rest.map fun v => v.category).sum + 96 ≤ R.locals) (hRcells : cells + 1 ≤ R.cells) (hRslots : slots + 8 ≤ R.slots) (hlocks : meth.locks = false)
    (hx : ∀ t : State, s.vm.Alike t.vm → t.heap.size = H.size + 1 → (∀ q : Nat, q < H.size → t.heap[q]? = H[q]?) → XC Bundle.nN s t)
    (hf : ∀ z ∈ locs, free z.base) (hc : cells + 1 ≤ mc) (hs : slots + 8 ≤ ms) :
    W p l e R s m args below meth c H locs cells slots (vx_MQ below Qc XC args s mc ms free) (F0 m pc ls rest) := by
  intro T hT X
  have htr : e.platform.stackTraces = false := (show e.platform.stackTraces = l.stackTraces by rw [X.admits.platform]).trans hl
  have Y0 := vx_rebase X (R' := { frames := R.frames, locals := R.locals, cells := 1, slots := 8 }) (Nat.le_refl _) (Nat.le_refl _) hRcells hRslots
  obtain ⟨s', hA⟩ : ∃ z, z = (T.setVm s.vm).setFrames (.invoking m args :: below) := ⟨_, rfl⟩
  rw [← hA] at Y0
  have hvm : s'.vm = s.vm := by rw [hA]; rfl
  have hhp : s'.heap = H := by rw [hA]; exact hT
  have hW0 : s.WarmedH s'.vm := by rw [hvm]; exact State.WarmedH.refl s
  have hat' : ∀ w ∈ vn_atX own ic, w.before args s' = true := fun w hw => vx_ot_at hW0 hvm.symm (hgood w (List.mem_cons_of_mem _ (List.mem_cons_of_mem _ hw))) (hat w hw)
  have hk' : (Cond.classLink own ik Bundle.nN).before args s' = true := vx_ot_at hW0 hvm.symm (hgood _ List.mem_cons_self) hk
  have hini' : (Cond.initialized Bundle.nN).before args s' = true := vx_ot_at hW0 hvm.symm (hgood _ (List.mem_cons_of_mem _ List.mem_cons_self)) hini
  have hU' : vx_Zq Bundle.tN "UNASSIGNED_STACK" Bundle.steD A s' s'.heap := by rw [hhp]; exact vx_Zq.moved hW0.alike hU
  have hN' : vx_Zq Bundle.tN "SUPPRESSED_SENTINEL" Bundle.listD A s' s'.heap := by rw [hhp]; exact vx_Zq.moved hW0.alike hN
  have h : ∀ w ∈ vn_ats own ic, w.before args s' = true := vx_own hat' (vx_isRefq hU'.1) (vx_isRefq hN'.1) hU'.2.word hN'.2.word
  have hown' : s'.vm.findClass own = some m.cls := by rw [hvm]; exact hown
  have hins : (Cond.instantiable Bundle.nN 8).before args s' = true := h _ (by simp [vn_ats])
  obtain ⟨vm₁, cX, kX, hfX, hkX, -, -, X₁, st1⟩ := Y0.newCold hexec (own := own) (C := Bundle.nN) (index := ik) (n := 8) hown' hk' hins hini'
    (g := F0 m pc ls rest) rfl (by rw [hb]; exact d0) (Nat.le_refl _) (Nat.le_refl _)
  generalize hT1 : (T.setVm vm₁).pushCell { cls := cX, slots := kX.instanceTypes.map defaultValue, vm := .none } = T1 at X₁ st1
  have hcat : (Value.ref T.heap.size).category = 1 := rfl
  have hcellA : T1.heap[T.heap.size]? = some (freshCell cX kX) := by rw [← hT1]; exact State.heap_pushCell_size _ _
  have d3' : decode c.code (pc + 3) = .ok (.dup, 1) := by rw [hb]; exact d3
  have d4' : decode c.code (pc + 4) = .ok (.ldc_w is, 3) := by rw [hb]; exact d4
  have hstr' : vk_R own is text sa s' := vk_R.warm hW0 hstr
  obtain ⟨U, hsteps, hrun, hend, hW, hsame, ce, hce, hO1, hO2⟩ := vn_ctor X₁ hexec htr (own := own) (ic := ic) hown' h (fun x hx => nomatch hx) hfX hkX hcellA (by rw [hhp, hT]; exact Nat.le_refl _) (msg := .ref sa) rfl
    (g := { method := m, pc := pc + 7, locals := ls, stack := .ref sa :: .ref T.heap.size :: .ref T.heap.size :: rest, locked := none }) rfl hsize rfl rfl (rest := rest) rfl
    (by rw [hb]; exact d7) (by rw [hb]; exact d10) hout hRframes (by simp only [List.map_cons, List.sum_cons, hcat]; omega) hlocks
  obtain ⟨f1, f2⟩ := vx_frame hsame
  rw [hhp] at f1 f2
  have hz1 : U.heap.size = H.size + 1 := by
    have g1 : U.heap.size ≤ s'.heap.size + (0 + 1) := hsame.2.2.1
    have g2 := (Array.getElem?_eq_some_iff.mp hce).1
    rw [hhp] at g1
    rw [hT] at g2
    omega
  have hWs : s.WarmedH U.vm := State.WarmedH.trans hW0 hW
  have hcl : s.vm.findClass Bundle.nN = some ce.cls := by
    rw [hvm] at hO1
    exact hO1
  have hall : s.sameButNew ({ U with vm := s.vm } : State) locs mc ms := by
    subst hA
    obtain ⟨e1, e2⟩ := hsame
    rw [State.setFrames_setFrames] at e1
    have h2 : (T.setVm s.vm).sameButNew ({ U with vm := s.vm } : State) [] (0 + 1) (0 + 8) := ⟨e1, e2⟩
    have h3 := X.same.trans h2
    rw [List.append_nil] at h3
    exact h3.mono hc hs
  refine ⟨U, ?_, .threw T.heap.size, hrun, hend, Or.inr ⟨T.heap.size, rfl, Bundle.nN, ce, locs, hx U hWs.alike hz1 (fun q hq => f2 q hq (fun z hz => nomatch hz)), hce, hO2, hcl, hWs, hall, hf⟩⟩
  refine st1 _ ?_
  show Steps p.tables e below (T1.setTop { method := m, pc := pc + 3, locals := ls, stack := .ref T.heap.size :: rest, locked := none }) _
  jvm_step X₁.here [X₁.here.top, hexec, d3', Value.category]
  exact X₁.ldcStringW hexec (own := own) (text := text) (index := is) (a := sa) hown' hstr'.1 hstr'.2
    (g := { method := m, pc := pc + 4, locals := ls, stack := .ref T.heap.size :: .ref T.heap.size :: rest, locked := none }) rfl d4' _ hsteps
end VN4
def npL : List Cond := vn_atX RX9 424
def npK : List Cond := npL.filter (fun w => !decide (w = .castable Bundle.rN Bundle.tN))
theorem okL_NK : okL npK xNP = true := by decide +kernel
theorem vn_ot : npL.all vx_ot = true := by decide +kernel
def spR : List Cond := [.superclass Bundle.rN Bundle.eN, .superclass Bundle.eN Bundle.tN, .superclass Bundle.tN "java/lang/Object"]
theorem spR_ok : ws_ok spR = true := by decide +kernel
theorem castRT {s : State} {args : Array Value} (ts : ∀ w ∈ TB, w.before args s = true) (hm : (Cond.instanceMethod (Bundle.initS Bundle.rN)).before args s = true) : (Cond.castable Bundle.rN Bundle.tN).before args s = true := by
  have w1 := ts _ (ws_tb spR_ok (.superclass Bundle.rN Bundle.eN) (by simp [spR]))
  have w2 := ts _ (ws_tb spR_ok (.superclass Bundle.eN Bundle.tN) (by simp [spR]))
  have w3 := ts _ (ws_tb spR_ok (.superclass Bundle.tN "java/lang/Object") (by simp [spR]))
  obtain ⟨mk, -, hn, -, -, -⟩ := Cond.instanceMethod_spec hm
  have hR : s.vm.findClass Bundle.rN = some mk.cls := findClass_of_methodNamed hn
  obtain ⟨cE, kR, kE, hE, hkR, hkE, hsR, hoR, hoE, -⟩ := Cond.superclass_spec hR w1
  obtain ⟨cT, kE', kT, hT, hkE', hkT, hsE, -, hoT, -⟩ := Cond.superclass_spec hE w2
  cases hkE.symm.trans hkE'
  obtain ⟨cO, kT', kO, hO, hkT', hkO, -, -, -, hiT⟩ := Cond.superclass_spec hT w3
  cases hkT.symm.trans hkT'
  have has : s.vm.assignable mk.cls cT = true := by
    by_cases q : mk.cls = cT
    · rw [q]
      unfold Vm.assignable Vm.assignableAux
      simp
    · have h1 : mk.cls < s.vm.classes.size := (Array.getElem?_eq_some_iff.mp hkR).1
      have h2 : cT < s.vm.classes.size := (Array.getElem?_eq_some_iff.mp hkT).1
      have h3 : 2 ≤ s.vm.classes.size := by
        rcases Nat.lt_or_ge s.vm.classes.size 2 with w | w
        · exact absurd ((Nat.le_zero.mp (Nat.le_of_lt_succ (Nat.lt_of_lt_of_le h1 (Nat.le_of_lt_succ w)))).trans (Nat.le_zero.mp (Nat.le_of_lt_succ (Nat.lt_of_lt_of_le h2 (Nat.le_of_lt_succ w)))).symm) q
        · exact w
      obtain ⟨z, hz⟩ : ∃ z, s.vm.classes.size = z + 2 := ⟨s.vm.classes.size - 2, (Nat.sub_add_cancel h3).symm⟩
      unfold Vm.assignable Vm.assignableAux
      simp [hkR, hkT, hoR, hoT, hiT, Vm.isSubclass, hz, Vm.isSubclassAux, hsR, hsE, hkE]
  simp [Cond.before, Cond.holds, Cond.value, hR, hT, has]
theorem npL_at {s : State} {args : Array Value} (ts : ∀ w ∈ TB, w.before args s = true) (hc : va_Nw (.castable xNP xNP) s) : (∀ w ∈ npL, w.before args s = true) ∧ ∀ w ∈ npL, vx_ot w = true := by
  have hk := okL_at (args := args) okL_NK ts hc
  refine ⟨fun w hw => ?_, fun w hw => List.all_eq_true.mp vn_ot w hw⟩
  by_cases q : w = .castable Bundle.rN Bundle.tN
  · rw [q]
    exact castRT ts (hk.1 _ (List.mem_filter.mpr ⟨List.mem_filter.mpr ⟨by simp [vn_ats, Bundle.chainSAtoms, Bundle.passSAtoms], by decide⟩, by decide⟩))
  · exact hk.1 w (List.mem_filter.mpr ⟨hw, by simp [q]⟩)
theorem WR.excN {G : GG} {h : Hp} {n : Nat} {s : State} {H H' : Heap} (wr : WR G h s H) (hz : H'.size = H.size + 1) (ho : ∀ q : Nat, q < H.size → H'[q]? = H[q]?) : WR G (nwH h 30 0 n) s H' :=
  wr.push hz ho rfl (fun a ha => if_neg ha) (fun a ha => if_neg ha) (fun a ha => if_neg ha) (fun a ha => if_neg ha) ⟨fun a b => by rw [nwH_k] at b; omega, fun a b => by rw [nwH_k] at b; omega, fun a => by rw [nwH_k] at a; omega⟩
section VN5
variable {G : GG} {M M1 : MR} {d d1 pc pc' : Nat} {loc loc' st st' : List Value} {h h1 : Hp} {o : OU} {h' : Hp}
/-- throw new NullPointerException(text) -/
theorem v_throwN (text : String) {ik is : Nat} (hown : M.1.cls = RX9) (htab : M.2.2.2.2 = []) (d0 : decode M.2.1 pc = .ok (.new ik, 3)) (d3 : decode M.2.1 (pc + 3) = .ok (.dup, 1)) (d4 : decode M.2.1 (pc + 4) = .ok (.ldc_w is, 3)) (d6 : decode M.2.1 (pc + 7) = .ok (.invokespecial 424, 3)) (d9 : decode M.2.1 (pc + 10) = .ok (.athrow, 1))
    (hk : Cond.classLink RX9 ik xNP ∈ TB) (hini : Cond.initialized xNP ∈ TB) (hstr : (RX9, is, text) ∈ strW) (hd1 : 8 ≤ d) (hcat : (st.map fun v => v.category).sum ≤ 8) (k : o = .inr xNP ∧ h' = nwH h 30 0 8) : V G M d pc loc st h o h' := by
  obtain ⟨rfl, rfl⟩ := k
  refine ⟨⟨by rw [nwH_n]; omega, by show zH h ≤ zH h + 8; omega⟩, fun p l e R s m args below meth c H locs ls cells slots mc ms cx wr lr ll hl c1 c2 c3 c4 => ?_⟩
  have hfr := cx.fr
  have hlo := cx.lo
  rw [nwH_n] at c1
  have c2 : slots + (zH h + 8 - zH h) ≤ ms := c2
  have kr := wr.2.2.2.2.2.2.1
  have hat := npL_at (args := args) cx.ts (kr.2.2.2.2.2.1 (xNP, xNP) (by decide))
  obtain ⟨sa, hsa⟩ := kr.2.2.2.2.1 _ hstr
  have how : s.vm.findClass RX9 = some m.cls := by rw [← hown]; exact cx.ow
  have hgood : ∀ w ∈ Cond.classLink RX9 ik xNP :: Cond.initialized xNP :: npL, vx_ot w = true := fun w hw => by
    rcases List.mem_cons.mp hw with rfl | hw
    · rfl
    · rcases List.mem_cons.mp hw with rfl | hw
      · rfl
      · exact hat.2 w hw
  have hout : ∀ (z : Nat), ∀ x ∈ c.exceptionTable.toList, covers x z = false := fun z => by rw [cx.tb, htab]; intro x hx; cases hx
  have hzr := wr.2.2.2.2.2.2.2.1
  have hX : ∀ t : State, s.vm.Alike t.vm → t.heap.size = H.size + 1 → (∀ q : Nat, q < H.size → t.heap[q]? = H[q]?) → VXc G (.inr xNP) (nwH h 30 0 8) xNP s t := fun t hA hz ho => ⟨rfl, WH.of (wr.excN hz ho) hA⟩
  exact vn_throwW (A := fun q => G.1 ≤ q) (sa := sa) cx.ex cx.by cx.st how (cx.ts _ hk) (cx.ts _ hini) hsa hat.1 hgood hzr.1 hzr.2 (by rw [cx.ml, ← ll]; exact lr.1) d0 d3 d4 d6 d9 (hout _) (by omega) (by rw [cat_sum]; omega) (by omega) (by omega) cx.lk hX hl (by omega) (by omega)
end VN5
