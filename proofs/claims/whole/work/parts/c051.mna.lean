/-! ===== new int[n][k]: multianewarray (follows the library's shelf, which rounds do not load) ===== -/
def mq_in (comp : ClassId) (M : Nat) : Cell := { cls := comp, slots := Array.replicate M (.int 0), vm := .none }
def mq_out (c : ClassId) (N h0 : Nat) : Nat → Cell
  | 0 => { cls := c, slots := Array.replicate N .null, vm := .none }
  | i + 1 => (mq_out c N h0 i).setSlot i (.ref (h0 + 1 + i))
def mq_fill (s : State) (c comp : ClassId) (N M : Nat) : Nat → State
  | 0 => s.pushCell (mq_out c N s.heap.size 0)
  | i + 1 => ((mq_fill s c comp N M i).pushCell (mq_in comp M)).setCell s.heap.size (mq_out c N s.heap.size (i + 1))
theorem mq_out_f (c : ClassId) (N h0 : Nat) : ∀ i, (mq_out c N h0 i).cls = c ∧ (mq_out c N h0 i).vm = .none ∧ (mq_out c N h0 i).slots.size = N
  | 0 => ⟨rfl, rfl, by simp [mq_out]⟩
  | i + 1 => by
    obtain ⟨a, b, d⟩ := mq_out_f c N h0 i
    exact ⟨by simp [mq_out, Cell.setSlot, a], by simp [mq_out, Cell.setSlot, b], by simp [mq_out, Cell.setSlot, d]⟩
theorem mq_fill_f (s : State) (c comp : ClassId) (N M : Nat) : ∀ i, (mq_fill s c comp N M i).heap.size = s.heap.size + 1 + i ∧ (mq_fill s c comp N M i).heap[s.heap.size]? = some (mq_out c N s.heap.size i) ∧
    (mq_fill s c comp N M i).vm = s.vm ∧ (mq_fill s c comp N M i).slotsUsed = s.slotsUsed + N + i * M
  | 0 => ⟨by simp [mq_fill], by simp [mq_fill], rfl, by simp [mq_fill, mq_out]⟩
  | i + 1 => by
    obtain ⟨a, b, d, u⟩ := mq_fill_f s c comp N M i
    have hlt : s.heap.size < (mq_fill s c comp N M i).heap.size := by omega
    have hb' : ((mq_fill s c comp N M i).pushCell (mq_in comp M)).heap[s.heap.size]? = some (mq_out c N s.heap.size i) := by rw [State.heap_pushCell_of_lt (h := hlt)]; exact b
    refine ⟨?_, State.heap_setCell_self hb', by simp [mq_fill, d], ?_⟩
    · simp [mq_fill, State.setCell, a]; omega
    · simp [mq_fill, u, mq_in, Nat.succ_mul]; omega
theorem mq_fill_t (s : State) (f : JFrame) (c comp : ClassId) (N M : Nat) : ∀ i, mq_fill (s.setTop f) c comp N M i = (mq_fill s c comp N M i).setTop f
  | 0 => rfl
  | i + 1 => by simp only [mq_fill, mq_fill_t s f c comp N M i, State.heap_setTop, State.pushCell_setTop, State.setCell_setTop]
theorem mq_old (s : State) (c comp : ClassId) (N M : Nat) {a : Addr} (ha : a < s.heap.size) : ∀ i, (mq_fill s c comp N M i).heap[a]? = s.heap[a]?
  | 0 => State.heap_pushCell_of_lt _ _ ha
  | i + 1 => by
    have f1 := (mq_fill_f s c comp N M i).1
    have hlt : a < (mq_fill s c comp N M i).heap.size := Nat.lt_of_lt_of_le ha (by rw [f1]; omega)
    show (((mq_fill s c comp N M i).pushCell (mq_in comp M)).setCell s.heap.size _).heap[a]? = _
    rw [State.heap_setCell_other (Nat.ne_of_gt ha), State.heap_pushCell_of_lt (h := hlt)]
    exact mq_old s c comp N M ha i
theorem mq_inner (s : State) (c comp : ClassId) (N M : Nat) : ∀ i j, j < i → (mq_fill s c comp N M i).heap[s.heap.size + 1 + j]? = some (mq_in comp M)
  | 0, _, h => absurd h (Nat.not_lt_zero _)
  | i + 1, j, h => by
    have f1 := (mq_fill_f s c comp N M i).1
    show (((mq_fill s c comp N M i).pushCell (mq_in comp M)).setCell s.heap.size _).heap[s.heap.size + 1 + j]? = _
    rw [State.heap_setCell_other (show s.heap.size ≠ s.heap.size + 1 + j by omega)]
    rcases Nat.lt_or_ge j i with hj | hj
    · have hlt : s.heap.size + 1 + j < (mq_fill s c comp N M i).heap.size := by rw [f1]; omega
      rw [State.heap_pushCell_of_lt (h := hlt)]
      exact mq_inner s c comp N M i j hj
    · have e : j = i := by omega
      subst e
      rw [← f1]
      exact State.heap_pushCell_size _ _
theorem mq_slot (c : ClassId) (N h0 : Nat) : ∀ i j, j < N → (mq_out c N h0 i).slots[j]? = some (if j < i then .ref (h0 + 1 + j) else .null)
  | 0, j, h => by simp [mq_out, h]
  | i + 1, j, h => by
    have ih := mq_slot c N h0 i j h
    have hs := (mq_out_f c N h0 i).2.2
    show ((mq_out c N h0 i).setSlot i (.ref (h0 + 1 + i))).slots[j]? = _
    simp only [Cell.setSlot, Array.getElem?_setIfInBounds]
    by_cases e : i = j
    · subst e; simp [hs, h]
    · rw [if_neg e, ih]
      by_cases hj : j < i
      · rw [if_pos hj, if_pos (by omega)]
      · rw [if_neg hj, if_neg (by omega)]
section MQ1
variable {E : CtlPost} {e : Env} {d : Bool} {acts : List Action} {s : State}
theorem mq_wp {c comp : ClassId} {k : Class} {type : FieldType} {len : Nat} {init : Value} (hk : s.vm.classes[c]? = some k) (hkind : k.kind = .array comp type)
    (hlimit : ¬ len > e.platform.arrayLengthLimit) (hheap : ¬ len * componentBytes type > e.platform.maxHeapBytes) (hfit : fits type init = true) (hdef : init.isDefault = true) {Q : Addr → Pre}
    (h1 : s.heap.size < e.platform.maxCells) (h2 : s.slotsUsed + len ≤ e.platform.maxSlots)
    (hq : Q s.heap.size d acts (s.pushCell { cls := c, slots := Array.replicate len init, vm := .none })) :
    wp (Jvm.newArray c len init) Q E e d acts s := by
  have hfits : ∀ i v, (Array.replicate len init)[i]? = some v → s.fitsSlot c .none i v = true := by
    intro i v hv
    simp only [Array.getElem?_replicate] at hv
    split at hv
    · cases hv; simp [State.fitsSlot, State.slotType?, hk, hkind, hfit]
    · cases hv
  have hda : allocActs (Array.replicate len init) s.heap.size acts = acts := by
    have hall : ((Array.replicate len init).all (·.isDefault)) = true := by
      rw [Array.all_replicate]; split <;> simp [hdef]
    unfold allocActs; rw [if_pos hall]
  simp only [Jvm.newArray, Jvm.arrayFits, wp_bind', W.ask, W.ite, hlimit, if_false, wp_pure', W.theClass, hk, hkind, hheap, W.alloc, W.stop, Option.some.injEq, exists_eq_left', Array.size_replicate, hda]
  rw [if_neg (by omega)]
  exact ⟨h1, h2, hfits, hq⟩
theorem mq_make1 {comp cc : ClassId} {kc : Class} {m : Int32} (hkc : s.vm.classes[comp]? = some kc) (hkindc : kc.kind = .array cc .int) (hm : ¬ m < 0)
    (hl2 : ¬ m.toNatClampNeg > e.platform.arrayLengthLimit) (hh2 : ¬ m.toNatClampNeg * componentBytes .int > e.platform.maxHeapBytes)
    (h1 : s.heap.size < e.platform.maxCells) (h2 : s.slotsUsed + m.toNatClampNeg ≤ e.platform.maxSlots)
    {Q : Addr → Pre} (hq : Q s.heap.size d acts (s.pushCell (mq_in comp m.toNatClampNeg))) :
    wp (multianewarray.make comp [m]) Q E e d acts s := by
  rw [multianewarray.make]
  simp only [wp_bind', W.ite, hm, if_false, wp_pure', W.theClass, hkc, hkindc, Option.some.injEq, exists_eq_left']
  exact mq_wp hkc hkindc hl2 hh2 rfl rfl h1 h2 hq
theorem mq_make2 {c comp cc : ClassId} {k kc : Class} {n m : Int32} (hk : s.vm.classes[c]? = some k) (hkind : k.kind = .array comp (.array .int))
    (hkc : s.vm.classes[comp]? = some kc) (hkindc : kc.kind = .array cc .int) (hn : ¬ n < 0) (hm : ¬ m < 0)
    (hl1 : ¬ n.toNatClampNeg > e.platform.arrayLengthLimit) (hh1 : ¬ n.toNatClampNeg * componentBytes (.array .int) > e.platform.maxHeapBytes)
    (hl2 : ¬ m.toNatClampNeg > e.platform.arrayLengthLimit) (hh2 : ¬ m.toNatClampNeg * componentBytes .int > e.platform.maxHeapBytes)
    (hc : s.heap.size + 1 + n.toNatClampNeg ≤ e.platform.maxCells) (hs : s.slotsUsed + n.toNatClampNeg + n.toNatClampNeg * m.toNatClampNeg ≤ e.platform.maxSlots)
    {Q : Addr → Pre} (hq : ∀ d' acts', Q s.heap.size d' acts' (mq_fill s c comp n.toNatClampNeg m.toNatClampNeg n.toNatClampNeg)) :
    wp (multianewarray.make c [n, m]) Q E e d acts s := by
  have hfind : ([m].find? (· < 0)) = none := by simp [hm]
  rw [multianewarray.make]
  simp only [wp_bind', W.ite, hn, if_false, wp_pure', W.theClass, hk, hkind, Option.some.injEq, exists_eq_left']
  refine mq_wp hk hkind hl1 hh1 rfl rfl (by omega) (by have := Nat.zero_le (n.toNatClampNeg * m.toNatClampNeg); omega) ?_
  simp only [hfind]
  rw [ite_self, wp_bind', Std.Legacy.Range.forIn_eq_forIn_range']
  have hsz : ([:n.toNatClampNeg] : Std.Legacy.Range).size = n.toNatClampNeg := by simp [Std.Legacy.Range.size]
  rw [hsz]
  show wp (forIn (List.range' 0 n.toNatClampNeg 1) PUnit.unit _) _ E e d acts _
  refine wp_forIn_inv (fun rest s' => ∃ i, i ≤ n.toNatClampNeg ∧ rest = List.range' i (n.toNatClampNeg - i) ∧ s' = mq_fill s c comp n.toNatClampNeg m.toNatClampNeg i) _ _ ⟨0, Nat.zero_le _, rfl, rfl⟩ ?_ ?_
  · rintro x rest s' d' acts' Q' ⟨i, hi, hl, rfl⟩ hnext
    have hlt : i < n.toNatClampNeg := by
      rcases Nat.lt_or_ge i n.toNatClampNeg with h | h
      · exact h
      · rw [show n.toNatClampNeg - i = 0 from by omega] at hl; simp at hl
    obtain ⟨rfl, hrest⟩ : x = i ∧ rest = List.range' (i + 1) (n.toNatClampNeg - (i + 1)) := by
      rw [show n.toNatClampNeg - i = (n.toNatClampNeg - (i + 1)) + 1 from by omega, List.range'_succ] at hl
      exact ⟨(List.cons.inj hl).1, (List.cons.inj hl).2⟩
    obtain ⟨f1, f2, f3, f4⟩ := mq_fill_f s c comp n.toNatClampNeg m.toNatClampNeg x
    obtain ⟨o1, o2, o3⟩ := mq_out_f c n.toNatClampNeg s.heap.size x
    have hmul : x * m.toNatClampNeg + m.toNatClampNeg ≤ n.toNatClampNeg * m.toNatClampNeg := by
      have := Nat.mul_le_mul_right m.toNatClampNeg (show x + 1 ≤ n.toNatClampNeg from hlt)
      rw [Nat.succ_mul] at this; exact this
    simp only [wp_bind']
    refine mq_make1 (by rw [f3]; exact hkc) hkindc hm hl2 hh2 (by rw [f1]; omega) (by rw [f4]; omega) ?_
    have hlt0 : s.heap.size < (mq_fill s c comp n.toNatClampNeg m.toNatClampNeg x).heap.size := by rw [f1]; omega
    simp only [wp_bind', W.writeLoc, wp_pure']
    refine ⟨mq_out c n.toNatClampNeg s.heap.size x, by rw [State.heap_pushCell_of_lt (h := hlt0)]; exact f2, by rw [o2]; simp, by rw [o3]; exact hlt, ?_, hnext _ _ _ ⟨x + 1, hlt, hrest, ?_⟩⟩
    · rw [o1, o2]
      simp [State.fitsSlot, State.slotType?, f3, hk, hkind]
      rfl
    · rw [f1]; rfl
  · rintro s' d' acts' ⟨i, hi, hl, rfl⟩
    have hiN : i = n.toNatClampNeg := by
      rcases Nat.lt_or_ge i n.toNatClampNeg with h | h
      · rw [show n.toNatClampNeg - i = (n.toNatClampNeg - (i + 1)) + 1 from by omega, List.range'_succ] at hl; cases hl
      · omega
    subst hiN
    simp only [wp_pure']
    exact hq _ _
end MQ1
section MQ2
variable {p : Program} {l : Launch} {e : Env} {R : Room} {s : State} {m : MethodId} {args : Array Value} {below : List Frame} {meth : Method} {c : Code} {T : State} {locs : List Loc} {cells slots : Nat}
theorem mq_stand (X : Stand p l e R s m args below meth c T locs cells slots) (cA comp : ClassId) (N M : Nat) :
    ∀ i, Stand p l e R s m args below meth c (mq_fill T cA comp N M i) (locs ++ (List.range i).map fun j => ⟨T.heap.size, j⟩) (cells + 1 + i) (slots + N + i * M)
  | 0 => by
    have h := X.pushed (mq_out cA N T.heap.size 0)
    rw [(mq_out_f cA N T.heap.size 0).2.2] at h
    simpa [mq_fill] using h
  | i + 1 => by
    have Xi := mq_stand X cA comp N M i
    obtain ⟨f1, f2, f3, f4⟩ := mq_fill_f T cA comp N M i
    have hlt0 : T.heap.size < (mq_fill T cA comp N M i).heap.size := by rw [f1]; omega
    have hcell : ((mq_fill T cA comp N M i).pushCell (mq_in comp M)).heap[T.heap.size]? = some (mq_out cA N T.heap.size i) := by rw [State.heap_pushCell_of_lt (h := hlt0)]; exact f2
    have h := (Xi.pushed (mq_in comp M)).stored hcell i (.ref (T.heap.size + 1 + i))
    have e1 : (mq_in comp M).slots.size = M := by simp [mq_in]
    rw [e1] at h
    have e2 : (locs ++ (List.range (i + 1)).map fun j => (⟨T.heap.size, j⟩ : Loc)) = (locs ++ (List.range i).map fun j => (⟨T.heap.size, j⟩ : Loc)) ++ [⟨T.heap.size, i⟩] := by simp [List.range_succ, List.append_assoc]
    have e3 : slots + N + (i + 1) * M = slots + N + i * M + M := by rw [Nat.succ_mul]; omega
    rw [e2, e3]
    exact h
theorem mq_mna (X : Stand p l e R s m args below meth c T locs cells slots) (hexec : p.tables.exec = Jvm.exec) {own : String} {index : Nat}
    (hown : s.vm.findClass own = some m.cls) (hclink : (Cond.classLink own index ("[" ++ (FieldType.array .int).toString)).before args s = true)
    (hover : (Cond.arrayOver (.array .int)).before args s = true) (harr : (Cond.arrayClass .int).before args s = true)
    {g : JFrame} (hg : g.method = m) (hdg : decode c.code g.pc = .ok (.multianewarray index 2, 4)) {n k : Int32} {rest : List Value} (hstack : g.stack = .int k :: .int n :: rest)
    (hn : ¬ n < 0) (hk : ¬ k < 0) (hb1 : n.toNatClampNeg * 4 ≤ 536870912) (hb2 : k.toNatClampNeg * 4 ≤ 536870912) 
    (hcells : cells + (1 + n.toNatClampNeg) ≤ R.cells) (hslots : slots + (n.toNatClampNeg + n.toNatClampNeg * k.toNatClampNeg) ≤ R.slots) :
    ∃ (vm₁ : Vm) (cA comp : ClassId), s.WarmedH vm₁ ∧ s.vm.findClass ("[" ++ (FieldType.array .int).toString) = some cA ∧ s.vm.findClass (FieldType.array .int).toString = some comp ∧
      Stand p l e R s m args below meth c (mq_fill (T.setVm vm₁) cA comp n.toNatClampNeg k.toNatClampNeg n.toNatClampNeg) (locs ++ (List.range n.toNatClampNeg).map fun j => ⟨T.heap.size, j⟩) (cells + 1 + n.toNatClampNeg) (slots + n.toNatClampNeg + n.toNatClampNeg * k.toNatClampNeg) ∧
      ∀ target, Steps p.tables e below ((mq_fill (T.setVm vm₁) cA comp n.toNatClampNeg k.toNatClampNeg n.toNatClampNeg).setTop { g with pc := g.pc + 4, stack := .ref T.heap.size :: rest }) target →
        Steps p.tables e below (T.setTop g) target := by
  subst hg
  have hpl : e.platform.magicAccessors = ({} : Platform).magicAccessors := by rw [X.admits.platform]
  obtain ⟨comp, cA, kA, hcomp, -, hkA, hkindA, hnameA⟩ := arrayOverA_spec hover
  obtain ⟨comp', kC, cc, hcomp', hkC, hkindC⟩ := Cond.arrayClass_spec harr
  have ecomp : comp' = comp := Option.some.inj (hcomp'.symm.trans hcomp)
  subst ecomp
  obtain ⟨c0, hfc0, hcl⟩ := Cond.classLink_spec hown hclink e.platform hpl
  cases hnameA.symm.trans hfc0
  obtain ⟨hg₁, hwarm₁, hready₁⟩ := State.classEntry (e := e) X.warmed hcl
  generalize T.vm.noted g.method.cls index (.cls cA) = vm₁ at hg₁ hwarm₁ hready₁
  have hal : s.vm.Alike vm₁ := hwarm₁.alike
  obtain ⟨kA₁, hkA₁, heA⟩ := hal.2.2 _ _ hkA
  obtain ⟨kC₁, hkC₁, heC⟩ := hal.2.2 _ _ hkC
  have hkindA₁ : kA₁.kind = .array comp' (.array .int) := by rw [heA]; exact hkindA
  have hkindC₁ : kC₁.kind = .array cc .int := by rw [heC]; exact hkindC
  have X₁ := X.noted hwarm₁
  obtain ⟨hr1, hr2⟩ := X.roomAbove hcells hslots
  refine ⟨vm₁, cA, comp', hwarm₁, hnameA, hcomp, mq_stand X₁ cA comp' _ _ _, fun target hrest => ?_⟩
  have hl1 : ¬ n.toNatClampNeg > e.platform.arrayLengthLimit := by rw [Launch.admits_arrayLengthLimit X.admits]; omega
  have hh1 : ¬ n.toNatClampNeg * componentBytes (.array .int) > e.platform.maxHeapBytes := by
    rw [Launch.admits_maxHeapBytes X.admits]; show ¬ n.toNatClampNeg * 4 > 536870912; omega
  have hl2 : ¬ k.toNatClampNeg > e.platform.arrayLengthLimit := by rw [Launch.admits_arrayLengthLimit X.admits]; omega
  have hh2 : ¬ k.toNatClampNeg * componentBytes .int > e.platform.maxHeapBytes := by rw [Launch.admits_maxHeapBytes X.admits]; show ¬ k.toNatClampNeg * 4 > 536870912; omega
  jvm_step X.here [hexec, hdg]
  simp only [multianewarray.sem, wp_bind', W.resolveClassAt_links (State.method?_setTop g X.here.top) hg₁]
  rw [W.popN, if_neg (by decide)]
  refine ⟨g, State.topJava?_setTop' (s := T.setVm vm₁) g X.here.top, [.int n, .int k], rest, rfl, hstack, ?_⟩
  simp only [List.mapM_cons, List.mapM_nil, wp_bind', wp_pure']
  refine mq_make2 (k := kA₁) (kc := kC₁) (comp := comp') (cc := cc) hkA₁ hkindA₁ hkC₁ hkindC₁ hn hk hl1 hh1 hl2 hh2 (by show T.heap.size + 1 + _ ≤ _; omega) (by show T.slotsUsed + _ + _ ≤ _; omega) (fun d' acts' => ?_)
  have XF := mq_stand X₁ cA comp' n.toNatClampNeg k.toNatClampNeg n.toNatClampNeg
  have eS : ((T.setTop g).setVm vm₁).setTop { g with stack := rest } = (T.setVm vm₁).setTop { g with stack := rest } := by
    show ((T.setVm vm₁).setTop g).setTop _ = _
    rw [State.setTop_setTop]
  rw [eS, mq_fill_t]
  simp only [wp_bind', W.mark, W.pushRef, State.topJava?_setTop' _ XF.here.top, Option.some.injEq, exists_eq_left', State.setTop_setTop, State.heap_setTop]
  intro acts
  simp [jvm, XF.here.top]
  exact hrest
end MQ2
/-- the heap with a row of N rows of K ints -/
def nwM (h : Hp) (N K : Nat) : Hp := ((h.1.1 + 1 + N, h.1.2.1 + (N + N * K), fun a => if a = h.1.1 then 7 else if h.1.1 < a ∧ a ≤ h.1.1 + N then 1 else h.1.2.2.1 a, fun a => if a = h.1.1 then N else if h.1.1 < a ∧ a ≤ h.1.1 + N then K else h.1.2.2.2.1 a,
  fun a => if a = h.1.1 then (fun i => if i < N then h.1.1 + 1 + i else 0) else if h.1.1 < a ∧ a ≤ h.1.1 + N then fun _ => 0 else h.1.2.2.2.2 a), fun a => if h.1.1 ≤ a ∧ a ≤ h.1.1 + N then fun _ => 0 else h.2 a)
section MQ3
variable {G : GG} {M : MR} {d pc pc' : Nat} {loc st : List Value} {h : Hp} {o : OU} {h' : Hp}
theorem nwM_n (h : Hp) (N K : Nat) : nH (nwM h N K) = nH h + 1 + N := rfl
theorem nwM_z (h : Hp) (N K : Nat) : zH (nwM h N K) = zH h + (N + N * K) := rfl
/-- many cells are made -/
theorem WR.pushes {h2 : Hp} {s : State} {H H' : Heap} (w : WR G h s H) {j : Nat} (hsz : H'.size = H.size + j) (ho : ∀ q, q < H.size → H'[q]? = H[q]?)
    (hn : nH h2 = nH h + j) (hk : ∀ a, (a < nH h ∨ nH h + j ≤ a) → kH h2 a = kH h a) (hl : ∀ a, a < nH h → lH h2 a = lH h a) (hI : ∀ a, a < nH h → h2.2 a = h.2 a) (hR : ∀ a, a < nH h → rH h2 a = rH h a) (hc : ∀ a, nH h ≤ a → a < nH h + j → CR G h2 H' a) : WR G h2 s H' := by
  obtain ⟨w1, w2, w3, w4, w5, w6, w7, w8, w9⟩ := w
  have had : ∀ a, 8 ≤ a → a < nH h → adG G a < H.size := fun a h4 ha => by rw [adG_own G h4]; omega
  have keep : ∀ a : Nat, a < H.size → ¬ G.1 ≤ a → H'[a]? = H[a]? := fun a h2 _ => ho a h2
  refine ⟨by omega, by omega, w3, ⟨?_, ?_, ?_⟩, fun a ha => by rw [hk a (by omega)]; exact w5 a (by omega), fun a h4 ha => ?_, w7, ⟨w8.1.kept keep, w8.2.kept keep⟩, ?_⟩
  · rw [hk 0 (by omega)]; exact w4.1
  · rw [hk 1 (by omega)]; exact w4.2.1
  · intro q h2 h8; rw [hk q (by omega)]; exact w4.2.2 q h2 h8
  · by_cases e : a < nH h
    · obtain ⟨c1, c2, c3⟩ := w6 a h4 e
      have hq := ho _ (had a h4 e)
      refine ⟨?_, ?_, ?_⟩
      · rw [hk a (Or.inl e), hl a e, hI a e, hR a e, hq]; exact c1
      · rw [hk a (Or.inl e), hI a e, hR a e]; exact fun x y => (c2 x y).kept hq
      · rw [hk a (Or.inl e), hl a e, hI a e]; exact c3
    · exact hc a (by omega) (by omega)
  · unfold XR
    rw [hl 1 (by omega), hI 1 (by omega)]
    exact ⟨va_X.keep w9.1 (ho _ (by omega)), w9.2.kept keep⟩
theorem v_mna {idx : Nat} {n k : Int32} {N K : Nat} (hd : decode M.2.1 pc = .ok (.multianewarray idx 2, 4)) (hp : pc + 4 = pc') (hw : Cond.classLink M.1.cls idx "[[I" ∈ TB) (hwa : Cond.arrayClass .int ∈ TB) (hn : ¬ n < 0) (hk : ¬ k < 0) (hN : n.toNatClampNeg = N) (hK : k.toNatClampNeg = K) (hb : N ≤ 60000) (hb2 : K ≤ 60000)
    (kk : V G M d pc' loc (.ref (nH h) :: st) (nwM h N K) o h') : V G M d pc loc (.int k :: .int n :: st) h o h' := by
  subst hp; subst hN; subst hK
  obtain ⟨⟨kn, kz⟩, kk⟩ := kk
  rw [nwM_n] at kn
  rw [nwM_z] at kz
  refine ⟨⟨by omega, by omega⟩, fun p l e R s m args below meth c H locs ls cells slots mc ms cx wr lr ll hl h1 h2 h3 h4 => ?_⟩
  obtain ⟨t1, t2⟩ := wr.top
  have kr := wr.2.2.2.2.2.2.1
  have hRA7 := (kr.2.1 7 (by decide) (by decide)).2
  have hRA1 := (kr.2.1 1 (by decide) (by decide)).2
  intro T hT X
  obtain ⟨vm₁, cA, comp, hW, fA, fC, X', step⟩ := mq_mna X cx.ex (own := M.1.cls) (index := idx) cx.ow (cx.ts _ hw) kr.2.2.2.2.2.2.2.1 (cx.ts _ hwa) (g := F0 m pc ls (.int k :: .int n :: st.map (trV G))) rfl (by rw [cx.by]; exact hd) rfl hn hk (by omega) (by omega) (by omega) (by omega)
  have eA : cA = G.2.2.2.2 7 := Option.some.inj (fA.symm.trans hRA7)
  have eC : comp = G.2.2.2.2 1 := Option.some.inj (fC.symm.trans hRA1)
  subst eA; subst eC
  generalize hF : mq_fill (T.setVm vm₁) (G.2.2.2.2 7) (G.2.2.2.2 1) n.toNatClampNeg k.toNatClampNeg n.toNatClampNeg = F at X' step
  have hTh : (T.setVm vm₁).heap = H := hT
  obtain ⟨f1, f2, -, -⟩ := mq_fill_f (T.setVm vm₁) (G.2.2.2.2 7) (G.2.2.2.2 1) n.toNatClampNeg k.toNatClampNeg n.toNatClampNeg
  rw [hF, hTh] at f1 f2
  have hold : ∀ x : Nat, x < H.size → F.heap[x]? = H[x]? := fun x hx => by
    have := mq_old (T.setVm vm₁) (G.2.2.2.2 7) (G.2.2.2.2 1) n.toNatClampNeg k.toNatClampNeg (a := x) (by rw [hTh]; exact hx) n.toNatClampNeg
    rw [hF, hTh] at this
    exact this
  have hrow : ∀ j : Nat, j < n.toNatClampNeg → F.heap[H.size + 1 + j]? = some (mq_in (G.2.2.2.2 1) k.toNatClampNeg) := fun j hj => by
    have := mq_inner (T.setVm vm₁) (G.2.2.2.2 7) (G.2.2.2.2 1) n.toNatClampNeg k.toNatClampNeg n.toNatClampNeg j hj
    rw [hF, hTh] at this
    exact this
  have w1 := wr.1
  have w2 := wr.2.1
  have had : ∀ i, adG G (nH h + i) = H.size + i := fun i => by rw [adG_own G (by omega)]; omega
  have wr' : WR G (nwM h n.toNatClampNeg k.toNatClampNeg) s F.heap := by
    refine wr.pushes (j := 1 + n.toNatClampNeg) (by rw [f1]; omega) hold (by rw [nwM_n]; omega) (fun a ha => ?_) (fun a ha => ?_) (fun a ha => ?_) (fun a ha => ?_) (fun a ha1 ha2 => ?_)
    · show (if a = nH h then 7 else if nH h < a ∧ a ≤ nH h + n.toNatClampNeg then 1 else kH h a) = _
      rw [if_neg (by omega), if_neg (by omega)]
    · show (if a = nH h then n.toNatClampNeg else if nH h < a ∧ a ≤ nH h + n.toNatClampNeg then _ else lH h a) = _
      rw [if_neg (by omega), if_neg (by omega)]
    · show (if nH h ≤ a ∧ a ≤ nH h + n.toNatClampNeg then _ else h.2 a) = _
      rw [if_neg (by omega)]
    · show (if a = nH h then _ else if nH h < a ∧ a ≤ nH h + n.toNatClampNeg then _ else rH h a) = _
      rw [if_neg (by omega), if_neg (by omega)]
    · have hI : (nwM h n.toNatClampNeg k.toNatClampNeg).2 a = fun _ => 0 := by
        show (if nH h ≤ a ∧ a ≤ nH h + n.toNatClampNeg then _ else h.2 a) = _
        rw [if_pos (by omega)]
      by_cases e0 : a = nH h
      · subst e0
        have ek : kH (nwM h n.toNatClampNeg k.toNatClampNeg) (nH h) = 7 := if_pos rfl
        have el : lH (nwM h n.toNatClampNeg k.toNatClampNeg) (nH h) = n.toNatClampNeg := if_pos rfl
        have er : rH (nwM h n.toNatClampNeg k.toNatClampNeg) (nH h) = fun i => if i < n.toNatClampNeg then nH h + 1 + i else 0 := if_pos rfl
        refine ⟨fun _ _ => ?_, fun q => by omega, fun q => by omega⟩
        rw [ek, el, er, show adG G (nH h) = H.size by have := had 0; simpa using this, f2]
        refine congrArg some ?_
        obtain ⟨o1, o2, o3⟩ := mq_out_f (G.2.2.2.2 7) n.toNatClampNeg H.size n.toNatClampNeg
        have hm : (mq_out (G.2.2.2.2 7) n.toNatClampNeg H.size n.toNatClampNeg).slots = (arrV (G.2.2.2.2 7) n.toNatClampNeg (aV G 7 ((nwM h n.toNatClampNeg k.toNatClampNeg).2 (nH h)) fun i => if i < n.toNatClampNeg then nH h + 1 + i else 0)).slots := by
          refine Array.ext_getElem? (fun j => ?_)
          by_cases hj : j < n.toNatClampNeg
          · rw [mq_slot _ _ _ _ j hj, arrV_read _ _ hj, if_pos hj]
            unfold aV
            rw [if_neg (by decide), if_pos (by decide)]
            show some (Value.ref (H.size + 1 + j)) = some (trV G (Value.ref (if j < n.toNatClampNeg then nH h + 1 + j else 0)))
            rw [if_pos hj, trV_ref G (by omega), Nat.add_assoc (nH h), had, Nat.add_assoc]
          · rw [Array.getElem?_eq_none (by rw [o3]; omega), Array.getElem?_eq_none (by rw [arrV_size]; omega)]
        have hmon : ∀ i, (mq_out (G.2.2.2.2 7) n.toNatClampNeg H.size i).monitor = {} ∧ (mq_out (G.2.2.2.2 7) n.toNatClampNeg H.size i).hash = none := fun i => by
          induction i with
          | zero => exact ⟨rfl, rfl⟩
          | succ i ih => exact ih
        obtain ⟨m1, m2⟩ := hmon n.toNatClampNeg
        generalize mq_out (G.2.2.2.2 7) n.toNatClampNeg H.size n.toNatClampNeg = cell at o1 o2 hm m1 m2
        cases cell
        simp only [arrV] at o1 o2 hm m1 m2 ⊢
        subst o1; subst o2; subst hm; subst m1; subst m2
        rfl
      · have ek : kH (nwM h n.toNatClampNeg k.toNatClampNeg) a = 1 := by
          show (if a = nH h then 7 else if nH h < a ∧ a ≤ nH h + n.toNatClampNeg then 1 else kH h a) = _
          rw [if_neg e0, if_pos (by omega)]
        have el : lH (nwM h n.toNatClampNeg k.toNatClampNeg) a = k.toNatClampNeg := by
          show (if a = nH h then n.toNatClampNeg else if nH h < a ∧ a ≤ nH h + n.toNatClampNeg then _ else lH h a) = _
          rw [if_neg e0, if_pos (by omega)]
        have er : rH (nwM h n.toNatClampNeg k.toNatClampNeg) a = fun _ => 0 := by
          show (if a = nH h then _ else if nH h < a ∧ a ≤ nH h + n.toNatClampNeg then _ else rH h a) = _
          rw [if_neg e0, if_pos (by omega)]
        obtain ⟨i, rfl⟩ : ∃ i, a = nH h + (1 + i) := ⟨a - nH h - 1, by omega⟩
        refine CR.arr ek (by decide) (by decide) (f := fun _ => .int 0) ?_ (fun j => ?_) (fun q => by cases q)
        · rw [had, ← Nat.add_assoc, hrow i (by omega), el, ← arrV_new]
          rfl
        · rw [hI, er]; rfl
  have hl' : ∀ z ∈ locs ++ (List.range n.toNatClampNeg).map (fun j => (⟨T.heap.size, j⟩ : Loc)), G.1 ≤ z.base := fun z hz => by
    rcases List.mem_append.mp hz with q | q
    · exact hl z q
    · obtain ⟨j, -, rfl⟩ := List.mem_map.mp q
      show G.1 ≤ T.heap.size
      rw [hT]
      omega
  have k2 := kk p l e R s m args below meth c F.heap _ ls (cells + 1 + n.toNatClampNeg) (slots + n.toNatClampNeg + n.toNatClampNeg * k.toNatClampNeg) mc ms cx wr' lr ll hl' (by rw [nwM_n]; omega) (by rw [nwM_z]; omega) h3 h4
  obtain ⟨t, s2, q2⟩ := k2 F rfl X'
  refine ⟨t, step _ ?_, q2⟩
  rw [List.map_cons, t2] at s2
  rw [hT]
  exact s2
end MQ3
