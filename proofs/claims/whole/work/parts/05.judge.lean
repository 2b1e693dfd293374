/-! ===== THE JUDGEMENT ===== -/
/-- the heap's picture alone, for whoever knows the tables -/
def WH (G : GG) (h : Hp) (U : State) (H : Heap) : Prop := ∀ s : State, KR G s → s.vm.Alike U.vm → WR G h s H
theorem WH.of {G : GG} {h : Hp} {s U : State} {H : Heap} (w : WR G h s H) (hA : s.vm.Alike U.vm) : WH G h U H := fun s' k' a' => by
  obtain ⟨w1, w2, w3, w4, w5, w6, w7, w8, w9⟩ := w
  have e := hA.trans a'.symm
  exact ⟨w1, w2, w3, w4, w5, w6, k', ⟨vx_Zq.moved e w8.1, vx_Zq.moved e w8.2⟩, va_X.move e w9.1, w9.2.moved e⟩
def VQc (G : GG) (o : OU) (h' : Hp) : Array Value → State → Outcome → State → Prop := fun _ _ oc t => (∃ v : Option Value, o = .inl v ∧ oc = .returned (v.map (trV G))) ∧ WH G h' t t.heap
def VXc (G : GG) (o : OU) (h' : Hp) : String → State → State → Prop := fun E _ t => o = .inr E ∧ WH G h' t t.heap
abbrev VQ (G : GG) (o : OU) (h' : Hp) (below : List Frame) (args : Array Value) (s : State) (mc ms : Nat) : State → Prop := vx_MQ below (VQc G o h') (VXc G o h') args s mc ms (fun q => G.1 ≤ q)
def Cx (M : MR) (d : Nat) (p : Program) (l : Launch) (R : Room) (s : State) (m : MethodId) (args : Array Value) (meth : Method) (c : Code) : Prop :=
  p.tables.exec = Jvm.exec ∧ c.code = M.2.1 ∧ c.maxLocals = M.2.2.1 ∧ meth.sig.returnType = M.2.2.2.1 ∧ s.vm.findClass M.1.cls = some m.cls ∧ (∀ w ∈ TB, w.before args s = true) ∧ meth.locks = false ∧ meth.name = M.1.name ∧ c.exceptionTable.toList = tableOf M.2.2.2.2 ∧ l.stackTraces = false ∧ d ≤ R.frames ∧ 64 * d ≤ R.locals
theorem Cx.ex {M : MR} {d : Nat} {p : Program} {l : Launch} {R : Room} {s : State} {m : MethodId} {args : Array Value} {meth : Method} {c : Code} (x : Cx M d p l R s m args meth c) : p.tables.exec = Jvm.exec := x.1
theorem Cx.by {M : MR} {d : Nat} {p : Program} {l : Launch} {R : Room} {s : State} {m : MethodId} {args : Array Value} {meth : Method} {c : Code} (x : Cx M d p l R s m args meth c) : c.code = M.2.1 := x.2.1
theorem Cx.ml {M : MR} {d : Nat} {p : Program} {l : Launch} {R : Room} {s : State} {m : MethodId} {args : Array Value} {meth : Method} {c : Code} (x : Cx M d p l R s m args meth c) : c.maxLocals = M.2.2.1 := x.2.2.1
theorem Cx.rt {M : MR} {d : Nat} {p : Program} {l : Launch} {R : Room} {s : State} {m : MethodId} {args : Array Value} {meth : Method} {c : Code} (x : Cx M d p l R s m args meth c) : meth.sig.returnType = M.2.2.2.1 := x.2.2.2.1
theorem Cx.ow {M : MR} {d : Nat} {p : Program} {l : Launch} {R : Room} {s : State} {m : MethodId} {args : Array Value} {meth : Method} {c : Code} (x : Cx M d p l R s m args meth c) : s.vm.findClass M.1.cls = some m.cls := x.2.2.2.2.1
theorem Cx.ts {M : MR} {d : Nat} {p : Program} {l : Launch} {R : Room} {s : State} {m : MethodId} {args : Array Value} {meth : Method} {c : Code} (x : Cx M d p l R s m args meth c) : ∀ w ∈ TB, w.before args s = true := x.2.2.2.2.2.1
theorem Cx.lk {M : MR} {d : Nat} {p : Program} {l : Launch} {R : Room} {s : State} {m : MethodId} {args : Array Value} {meth : Method} {c : Code} (x : Cx M d p l R s m args meth c) : meth.locks = false := x.2.2.2.2.2.2.1
theorem Cx.nm {M : MR} {d : Nat} {p : Program} {l : Launch} {R : Room} {s : State} {m : MethodId} {args : Array Value} {meth : Method} {c : Code} (x : Cx M d p l R s m args meth c) : meth.name = M.1.name := x.2.2.2.2.2.2.2.1
theorem Cx.tb {M : MR} {d : Nat} {p : Program} {l : Launch} {R : Room} {s : State} {m : MethodId} {args : Array Value} {meth : Method} {c : Code} (x : Cx M d p l R s m args meth c) : c.exceptionTable.toList = tableOf M.2.2.2.2 := x.2.2.2.2.2.2.2.2.1
theorem Cx.st {M : MR} {d : Nat} {p : Program} {l : Launch} {R : Room} {s : State} {m : MethodId} {args : Array Value} {meth : Method} {c : Code} (x : Cx M d p l R s m args meth c) : l.stackTraces = false := x.2.2.2.2.2.2.2.2.2.1
theorem Cx.fr {M : MR} {d : Nat} {p : Program} {l : Launch} {R : Room} {s : State} {m : MethodId} {args : Array Value} {meth : Method} {c : Code} (x : Cx M d p l R s m args meth c) : d ≤ R.frames := x.2.2.2.2.2.2.2.2.2.2.1
theorem Cx.lo {M : MR} {d : Nat} {p : Program} {l : Launch} {R : Room} {s : State} {m : MethodId} {args : Array Value} {meth : Method} {c : Code} (x : Cx M d p l R s m args meth c) : 64 * d ≤ R.locals := x.2.2.2.2.2.2.2.2.2.2.2
/-- from pc, with these locals and this stack, over this heap, the method ends with o, and the heap is h' then -/
def V (G : GG) (M : MR) (d pc : Nat) (loc st : List Value) (h : Hp) (o : OU) (h' : Hp) : Prop :=
  (nH h ≤ nH h' ∧ zH h ≤ zH h') ∧ ∀ (p : Program) (l : Launch) (e : Env) (R : Room) (s : State) (m : MethodId) (args : Array Value) (below : List Frame) (meth : Method) (c : Code) (H : Heap) (locs : List Loc) (ls : Array Slot) (cells slots mc ms : Nat),
    Cx M d p l R s m args meth c → WR G h s H → LR G loc ls → loc.length = M.2.2.1 → (∀ z ∈ locs, G.1 ≤ z.base) → cells + (nH h' - nH h) ≤ mc → slots + (zH h' - zH h) ≤ ms → mc ≤ R.cells → ms ≤ R.slots →
    W p l e R s m args below meth c H locs cells slots (VQ G o h' below args s mc ms) (F0 m pc ls (st.map (trV G)))
section VR
variable {G : GG} {M : MR} {d pc pc' : Nat} {loc loc' st st' : List Value} {h : Hp} {o : OU} {h' : Hp}
/-- a row of the machine that touches neither heap nor locals -/
theorem V.row (row : ∀ (p : Program) (l : Launch) (e : Env) (R : Room) (s : State) (m : MethodId) (args : Array Value) (below : List Frame) (meth : Method) (c : Code) (H : Heap) (locs : List Loc) (ls : Array Slot) (cells slots : Nat) (Q : State → Prop), Cx M d p l R s m args meth c → LR G loc ls →
      W p l e R s m args below meth c H locs cells slots Q (F0 m pc' ls (st'.map (trV G))) → W p l e R s m args below meth c H locs cells slots Q (F0 m pc ls (st.map (trV G))))
    (k : V G M d pc' loc st' h o h') : V G M d pc loc st h o h' :=
  ⟨k.1, fun p l e R s m args below meth c H locs ls cells slots mc ms cx wr lr ll hl h1 h2 h3 h4 => row p l e R s m args below meth c H locs ls cells slots _ cx lr (k.2 p l e R s m args below meth c H locs ls cells slots mc ms cx wr lr ll hl h1 h2 h3 h4)⟩
/-- the same with new locals -/
theorem V.rowL (ll' : loc'.length = loc.length) (row : ∀ (p : Program) (l : Launch) (e : Env) (R : Room) (s : State) (m : MethodId) (args : Array Value) (below : List Frame) (meth : Method) (c : Code) (H : Heap) (locs : List Loc) (ls : Array Slot) (cells slots : Nat) (Q : State → Prop), Cx M d p l R s m args meth c → LR G loc ls →
      (∀ ls', LR G loc' ls' → W p l e R s m args below meth c H locs cells slots Q (F0 m pc' ls' (st'.map (trV G)))) → W p l e R s m args below meth c H locs cells slots Q (F0 m pc ls (st.map (trV G))))
    (k : V G M d pc' loc' st' h o h') : V G M d pc loc st h o h' :=
  ⟨k.1, fun p l e R s m args below meth c H locs ls cells slots mc ms cx wr lr ll hl h1 h2 h3 h4 => row p l e R s m args below meth c H locs ls cells slots _ cx lr (fun ls' lr' => k.2 p l e R s m args below meth c H locs ls' cells slots mc ms cx wr lr' (ll'.trans ll) hl h1 h2 h3 h4)⟩
/-- a branch -/
theorem V.rowB {c1 c2 : Prop} {pc1 pc2 : Nat} (row : ∀ (p : Program) (l : Launch) (e : Env) (R : Room) (s : State) (m : MethodId) (args : Array Value) (below : List Frame) (meth : Method) (c : Code) (H : Heap) (locs : List Loc) (ls : Array Slot) (cells slots : Nat) (Q : State → Prop), Cx M d p l R s m args meth c →
      (c1 → W p l e R s m args below meth c H locs cells slots Q (F0 m pc1 ls (st'.map (trV G)))) → (c2 → W p l e R s m args below meth c H locs cells slots Q (F0 m pc2 ls (st'.map (trV G)))) → W p l e R s m args below meth c H locs cells slots Q (F0 m pc ls (st.map (trV G))))
    (hc : c1 ∨ c2) (k : (c1 → V G M d pc1 loc st' h o h') ∧ (c2 → V G M d pc2 loc st' h o h')) : V G M d pc loc st h o h' := by
  refine ⟨hc.elim (fun x => (k.1 x).1) (fun x => (k.2 x).1), fun p l e R s m args below meth c H locs ls cells slots mc ms cx wr lr ll hl h1 h2 h3 h4 => row p l e R s m args below meth c H locs ls cells slots _ cx (fun x => ?_) (fun x => ?_)⟩
  · exact (k.1 x).2 p l e R s m args below meth c H locs ls cells slots mc ms cx wr lr ll hl h1 h2 h3 h4
  · exact (k.2 x).2 p l e R s m args below meth c H locs ls cells slots mc ms cx wr lr ll hl h1 h2 h3 h4
/-- deeper is no harm; fewer known locals are enough -/
theorem V.up {d' : Nat} (hd : d' ≤ d) (k : V G M d' pc loc st h o h') : V G M d pc loc st h o h' :=
  ⟨k.1, fun p l e R s m args below meth c H locs ls cells slots mc ms cx wr lr ll hl h1 h2 h3 h4 => k.2 p l e R s m args below meth c H locs ls cells slots mc ms ⟨cx.1, cx.2.1, cx.2.2.1, cx.2.2.2.1, cx.2.2.2.2.1, cx.2.2.2.2.2.1, cx.2.2.2.2.2.2.1, cx.2.2.2.2.2.2.2.1, cx.2.2.2.2.2.2.2.2.1, cx.2.2.2.2.2.2.2.2.2.1, Nat.le_trans hd cx.fr, Nat.le_trans (Nat.mul_le_mul_left 64 hd) cx.lo⟩ wr lr ll hl h1 h2 h3 h4⟩
theorem V.less {l : List Value} (hl : l.length = loc.length) (hk : ∀ (i : Nat) (v : Value), l[i]? = some v → v = uV ∨ loc[i]? = some v) (k : V G M d pc l st h o h') : V G M d pc loc st h o h' :=
  ⟨k.1, fun p l' e R s m args below meth c H locs ls cells slots mc ms cx wr lr ll hl1 h1 h2 h3 h4 => k.2 p l' e R s m args below meth c H locs ls cells slots mc ms cx wr (lr.less hl hk) (hl.trans ll) hl1 h1 h2 h3 h4⟩
theorem V.forget {l : List Value} (hl : lle l loc = true) (k : V G M d pc l st h o h') : V G M d pc loc st h o h' := V.less (lle_at hl).1 (lle_at hl).2 k
end VR
